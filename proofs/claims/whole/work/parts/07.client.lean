/-! K: what each call makes of the clients -/
theorem cl_idle {st q qo qk qa rc we : Nat → Int32} {c : Nat} (h : cl_R st q qo qk qa rc we) (hc : c < 4) (h2 : st c ≠ 2) : q c = 0 := by
  obtain ⟨_, _, _, n, _, e, z, _⟩ := h c hc
  rw [e, z h2]
  rfl
theorem cl_free {st q qo qk qa rc we : Nat → Int32} {c : Nat} (h : cl_R st q qo qk qa rc we) (h2 : c < 4 → st c ≠ 2) : cl_R (upd st c 0) q qo qk qa rc we := by
  refine cl_up h c (fun s e => ⟨pk_un e, rfl, rfl, rfl⟩) (fun j _ => ⟨rfl, rfl, rfl⟩) (fun hc => ?_)
  obtain ⟨h1, h3, h4, n, h5, h6, h7, h8⟩ := h c hc
  exact ⟨Or.inl pk_us, h3, h4, n, h5, h6, fun _ => h7 (h2 hc), h8⟩
theorem cl_rel {st q qo qk qa rc we : Nat → Int32} {c : Nat} (h : cl_R st q qo qk qa rc we) : cl_R (upd st c 0) (upd q c 0) qo qk qa rc we := by
  refine cl_up h c (fun s e => ⟨pk_un e, pk_un e, rfl, rfl⟩) (fun j _ => ⟨rfl, rfl, rfl⟩) (fun hc => ?_)
  obtain ⟨h1, h3, h4, n, h5, h6, h7, h8⟩ := h c hc
  exact ⟨Or.inl pk_us, h3, h4, 0, by omega, pk_us, fun _ => rfl, fun i hi => absurd hi (by omega)⟩
theorem cl_begin {st q qo qk qa rc we : Nat → Int32} {c : Nat} (h : cl_R st q qo qk qa rc we) : cl_R (upd st c 2) q qo qk qa rc we := by
  refine cl_up h c (fun s e => ⟨pk_un e, rfl, rfl, rfl⟩) (fun j _ => ⟨rfl, rfl, rfl⟩) (fun hc => ?_)
  obtain ⟨h1, h3, h4, n, h5, h6, h7, h8⟩ := h c hc
  exact ⟨Or.inr (Or.inr pk_us), h3, h4, n, h5, h6, fun z => absurd pk_us z, h8⟩
theorem cl_wait {st q qo qk qa rc we : Nat → Int32} {c : Nat} {x : Int32} (h : cl_R st q qo qk qa rc we) (hx : 0 ≤ x) (h2 : st c ≠ 2) : cl_R (upd st c 1) q qo qk qa rc (upd we c x) := by
  refine cl_up h c (fun s e => ⟨pk_un e, rfl, rfl, pk_un e⟩) (fun j _ => ⟨rfl, rfl, rfl⟩) (fun hc => ?_)
  obtain ⟨h1, h3, h4, n, h5, h6, h7, h8⟩ := h c hc
  exact ⟨Or.inr (Or.inl pk_us), by rw [pk_us]; exact hx, h4, n, h5, h6, fun _ => h7 h2, h8⟩
theorem cl_rc {st q qo qk qa rc we : Nat → Int32} {c n : Nat} (h : cl_R st q qo qk qa rc we) (hn : n ≤ 8) : cl_R st q qo qk qa (upd rc c (nI n)) we := by
  refine cl_up h c (fun s e => ⟨rfl, rfl, pk_un e, rfl⟩) (fun j _ => ⟨rfl, rfl, rfl⟩) (fun hc => ?_)
  obtain ⟨h1, h3, h4, h5⟩ := h c hc
  exact ⟨h1, h3, ⟨n, hn, pk_us⟩, h5⟩
theorem cl_enq {st q qo qk qa rc we : Nat → Int32} {c n : Nat} {o k a : Int32} (h : cl_R st q qo qk qa rc we) (hq : q c = nI n) (hn : n < 8) (h2 : st c = 2) (hm : cm_R o k a) :
    cl_R st (upd q c (nI (n + 1))) (upd qo (8 * c + n) o) (upd qk (8 * c + n) k) (upd qa (8 * c + n) a) rc we := by
  refine cl_up h c (fun s e => ⟨rfl, pk_un e, rfl, rfl⟩) (fun j _ => ⟨pk_un (by omega), pk_un (by omega), pk_un (by omega)⟩) (fun hc => ?_)
  obtain ⟨h1, h3, h4, n', h5, h6, h7, h8⟩ := h c hc
  have nn : n' = n := (nI_eq (by omega) (by omega)).mp (h6.symm.trans hq)
  subst nn
  refine ⟨h1, h3, h4, n' + 1, by omega, pk_us, fun z => absurd h2 z, fun i hi => ?_⟩
  by_cases e : i = n'
  · subst e
    rw [pk_us, pk_us, pk_us]
    exact hm
  · rw [pk_un (by omega), pk_un (by omega), pk_un (by omega)]
    exact h8 i (by omega)
/-! L: who is served -/
def sv_g (st wk wo : Nat → Int32) (wt : Nat → Int64) (key : Int32) : Nat → Int32
  | 0 => -1
  | c + 1 => if st c = 1 ∧ (wk c = key ∨ wo c = key) ∧ (sv_g st wk wo wt key c < 0 ∨ wt c < wt (sv_g st wk wo wt key c).toNatClampNeg) then nI c else sv_g st wk wo wt key c
theorem sv_g_cases (st wk wo : Nat → Int32) (wt : Nat → Int64) (key : Int32) : ∀ n, sv_g st wk wo wt key n = -1 ∨ ∃ c, c < n ∧ sv_g st wk wo wt key n = nI c ∧ st c = 1
  | 0 => Or.inl rfl
  | n + 1 => by
    unfold sv_g
    by_cases e : st n = 1 ∧ (wk n = key ∨ wo n = key) ∧ (sv_g st wk wo wt key n < 0 ∨ wt n < wt (sv_g st wk wo wt key n).toNatClampNeg)
    · rw [if_pos e]
      exact Or.inr ⟨n, by omega, rfl, e.1⟩
    · rw [if_neg e]
      rcases sv_g_cases st wk wo wt key n with h | ⟨c, h1, h2, h3⟩
      · exact Or.inl h
      · exact Or.inr ⟨c, by omega, h2, h3⟩
def sv_ok (kd st wk wo : Nat → Int32) (wt : Nat → Int64) (k : Nat) : Prop := kd k = 2 ∧ ¬ sv_g st wk wo wt (nI k) 4 < 0
theorem sv_c {kd st wk wo : Nat → Int32} {wt : Nat → Int64} {k : Nat} (h : sv_ok kd st wk wo wt k) : ∃ c, c < 4 ∧ sv_g st wk wo wt (nI k) 4 = nI c ∧ st c = 1 := by
  rcases sv_g_cases st wk wo wt (nI k) 4 with e | e
  · exact absurd (show sv_g st wk wo wt (nI k) 4 < 0 by rw [e]; decide) h.2
  · exact e
/-- the first key that is served -/
def sv_F (kd st wk wo : Nat → Int32) (wt : Nat → Int64) (r : Int32) : Prop := (r = -1 ∧ ∀ k, k < 8 → ¬ sv_ok kd st wk wo wt k) ∨ (∃ p, p < 8 ∧ sv_ok kd st wk wo wt p ∧ (∀ i, i < p → ¬ sv_ok kd st wk wo wt i) ∧ r = nI p)
theorem sv_Fex (kd st wk wo : Nat → Int32) (wt : Nat → Int64) : ∃ r, sv_F kd st wk wo wt r := by
  by_cases h : ∃ p, p < 8 ∧ sv_ok kd st wk wo wt p
  · obtain ⟨p, ⟨hp, e⟩, hl⟩ := pk_least _ h
    exact ⟨nI p, Or.inr ⟨p, hp, e, fun i hi z => hl i hi ⟨by omega, z⟩, rfl⟩⟩
  · exact ⟨-1, Or.inl ⟨rfl, fun i hi z => h ⟨i, hi, z⟩⟩⟩
def sv_n (st : Nat → Int32) : Nat := ws_c (fun c => decide (st c = 1)) 4
theorem sv_n_le (st : Nat → Int32) : sv_n st ≤ 4 := ws_c_le _ 4
theorem sv_n_dn {st : Nat → Int32} {c : Nat} (hc : c < 4) (h : st c = 1) : sv_n st = sv_n (upd st c 0) + 1 :=
  ws_c_dn hc (show decide (st c = 1) = true by rw [h]; decide) (show decide (upd st c 0 c = 1) = false by rw [pk_us]; decide) (fun j hj hn => show decide (upd st c 0 j = 1) = decide (st j = 1) by rw [pk_un hn])
theorem sv_n0 {kd st wk wo : Nat → Int32} {wt : Nat → Int64} {k : Nat} (h : sv_n st = 0) : ¬ sv_ok kd st wk wo wt k := by
  intro z
  obtain ⟨c, hc, _, e⟩ := sv_c z
  have : decide (st c = 1) = false := ws_c_0 h c hc
  rw [e] at this
  exact absurd this (by decide)
/-! M: all clients anew; waits that end -/
def ws_z (f : Nat → Int32) (i : Nat) : Nat → Int32 := fun j => if j < i then 0 else f j
def ws_zL (f : Nat → Int64) (x : Int64) (i : Nat) : Nat → Int64 := fun j => if j < i then x else f j
theorem ws_z0 (f : Nat → Int32) : ws_z f 0 = f := by
  funext j
  unfold ws_z
  rw [if_neg (by omega)]
theorem ws_zL0 (f : Nat → Int64) (x : Int64) : ws_zL f x 0 = f := by
  funext j
  unfold ws_zL
  rw [if_neg (by omega)]
theorem ws_zs (f : Nat → Int32) (i : Nat) : upd (ws_z f i) i 0 = ws_z f (i + 1) := by
  funext j
  unfold upd ws_z
  by_cases e : j = i
  · rw [if_pos e, if_pos (by omega)]
  · rw [if_neg e]
    by_cases e2 : j < i
    · rw [if_pos e2, if_pos (by omega)]
    · rw [if_neg e2, if_neg (by omega)]
theorem ws_zLs (f : Nat → Int64) (x : Int64) (i : Nat) : vp_updL (ws_zL f x i) i x = ws_zL f x (i + 1) := by
  funext j
  unfold vp_updL ws_zL
  by_cases e : j = i
  · rw [if_pos e, if_pos (by omega)]
  · rw [if_neg e]
    by_cases e2 : j < i
    · rw [if_pos e2, if_pos (by omega)]
    · rw [if_neg e2, if_neg (by omega)]
theorem ws_zz (w : Nat → Int32) (i : Nat) : ws_zr (ws_z w (8 * i)) i 8 = ws_z w (8 * (i + 1)) := by
  funext j
  unfold ws_zr ws_z
  by_cases e : 8 * i ≤ j ∧ j < 8 * i + 8
  · rw [if_pos e, if_pos (by omega)]
  · rw [if_neg e]
    by_cases e2 : j < 8 * i
    · rw [if_pos e2, if_pos (by omega)]
    · rw [if_neg e2, if_neg (by omega)]
theorem ws_z_in {f : Nat → Int32} {i j : Nat} (h : j < i) : ws_z f i j = 0 := if_pos h
theorem wa_zero (w wd d : Nat → Int32) : wa_R (ws_z w (8 * 4)) (ws_z wd 4) (ws_z d 4) := by
  intro c hc
  rw [ws_z_in hc, ws_z_in hc]
  have z : ∀ k, k < 8 → ws_z w (8 * 4) (8 * c + k) = 0 := fun k hk => ws_z_in (by omega)
  refine ⟨fun k hk => Or.inl (z k hk), fun k hk => ?_, Or.inl rfl, ?_⟩
  · rw [z k hk, b_0]
    exact ⟨fun y => absurd y (by decide), fun y => absurd rfl y⟩
  · refine ⟨fun y => absurd y (by decide), fun ⟨j, hj, y⟩ => ?_⟩
    rw [z j hj] at y
    exact absurd y (by decide)
theorem cl_zero {st q qo qk qa rc we : Nat → Int32} (h : ∀ c, c < 4 → (0 : Int32) ≤ we c) : cl_R (ws_z st 4) (ws_z q 4) qo qk qa (ws_z rc 4) we :=
  fun c hc => ⟨Or.inl (ws_z_in hc), h c hc, ⟨0, by omega, ws_z_in hc⟩, 0, by omega, ws_z_in hc, fun _ => rfl, fun i hi => absurd hi (by omega)⟩
def ws_ew (st we : Nat → Int32) (tm : Int32) (i : Nat) : Nat → Int32 := fun c => if c < i ∧ st c = 1 ∧ we c ≠ 0 ∧ we c ≤ tm then 0 else st c
theorem ws_ew0 (st we : Nat → Int32) (tm : Int32) : ws_ew st we tm 0 = st := by
  funext j
  unfold ws_ew
  rw [if_neg (by omega)]
theorem ws_ew_at (st we : Nat → Int32) (tm : Int32) (i : Nat) : ws_ew st we tm i i = st i := by
  unfold ws_ew
  rw [if_neg (fun z => absurd z.1 (by omega))]
theorem ws_ews {st we : Nat → Int32} {tm : Int32} {i : Nat} (h : st i = 1 ∧ we i ≠ 0 ∧ we i ≤ tm) : upd (ws_ew st we tm i) i 0 = ws_ew st we tm (i + 1) := by
  funext j
  unfold upd ws_ew
  by_cases e : j = i
  · subst e
    rw [if_pos rfl, if_pos ⟨by omega, h⟩]
  · rw [if_neg e]
    by_cases e2 : j < i ∧ st j = 1 ∧ we j ≠ 0 ∧ we j ≤ tm
    · rw [if_pos e2, if_pos ⟨by omega, e2.2⟩]
    · rw [if_neg e2, if_neg (fun z => e2 ⟨by omega, z.2⟩)]
theorem ws_ewn {st we : Nat → Int32} {tm : Int32} {i : Nat} (h : ¬ (st i = 1 ∧ we i ≠ 0 ∧ we i ≤ tm)) : ws_ew st we tm i = ws_ew st we tm (i + 1) := by
  funext j
  unfold ws_ew
  by_cases e2 : j < i ∧ st j = 1 ∧ we j ≠ 0 ∧ we j ≤ tm
  · rw [if_pos e2, if_pos ⟨by omega, e2.2⟩]
  · rw [if_neg e2, if_neg ?_]
    intro z
    by_cases e : j = i
    · subst e
      exact h z.2
    · exact e2 ⟨by omega, z.2⟩
theorem cl_ew {st q qo qk qa rc we : Nat → Int32} (h : cl_R st q qo qk qa rc we) (tm : Int32) : cl_R (ws_ew st we tm 4) q qo qk qa rc we := by
  intro c hc
  obtain ⟨h1, h3, h4, n, h5, h6, h7, h8⟩ := h c hc
  by_cases e : c < 4 ∧ st c = 1 ∧ we c ≠ 0 ∧ we c ≤ tm
  · have e1 : ws_ew st we tm 4 c = 0 := if_pos e
    exact ⟨Or.inl e1, h3, h4, n, h5, h6, fun _ => h7 (by rw [e.2.1]; decide), h8⟩
  · have e1 : ws_ew st we tm 4 c = st c := if_neg e
    exact ⟨by rw [e1]; exact h1, h3, h4, n, h5, h6, by rw [e1]; exact h7, h8⟩
