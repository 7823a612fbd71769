/-! K: what each call makes of the clients -/
theorem cl_idle {st q qo qk qa rc we : Nat → Int32} {c : Nat} (h : cl_R st q qo qk qa rc we) (hc : c < 4) (h2 : st c ≠ 2) : q c = 0 := by
  obtain ⟨_, _, _, n, _, e, z, _⟩ := h c hc
  rw [e, z h2]
  rfl
theorem cl_free {st q qo qk qa rc we : Nat → Int32} {c : Nat} (h : cl_R st q qo qk qa rc we) (h2 : c < 4 → st c ≠ 2) : cl_R (upd st c 0) q qo qk qa rc we := by
  refine cl_up h c (fun s e => ⟨pk_un e, rfl, rfl, rfl⟩) (fun j _ => ⟨rfl, rfl, rfl⟩) (fun hc => ?_)
  obtain ⟨h1, h3, h4, n, h5, h6, h7, h8⟩ := h c hc
  exact ⟨Or.inl pk_us, h3, h4, n, h5, h6, fun _ => h7 (h2 hc), h8⟩
theorem cl_rel {st q qo qk qa rc we : Nat → Int32} {c : Nat} (h : cl_R st q qo qk qa rc we) : cl_R (upd st c 0) (upd q c 0) qo qk qa rc we := by
  refine cl_up h c (fun s e => ⟨pk_un e, pk_un e, rfl, rfl⟩) (fun j _ => ⟨rfl, rfl, rfl⟩) (fun hc => ?_)
  obtain ⟨h1, h3, h4, n, h5, h6, h7, h8⟩ := h c hc
  exact ⟨Or.inl pk_us, h3, h4, 0, by omega, pk_us, fun _ => rfl, fun i hi => absurd hi (by omega)⟩
theorem cl_begin {st q qo qk qa rc we : Nat → Int32} {c : Nat} (h : cl_R st q qo qk qa rc we) : cl_R (upd st c 2) q qo qk qa rc we := by
  refine cl_up h c (fun s e => ⟨pk_un e, rfl, rfl, rfl⟩) (fun j _ => ⟨rfl, rfl, rfl⟩) (fun hc => ?_)
  obtain ⟨h1, h3, h4, n, h5, h6, h7, h8⟩ := h c hc
  exact ⟨Or.inr (Or.inr pk_us), h3, h4, n, h5, h6, fun z => absurd pk_us z, h8⟩
theorem cl_wait {st q qo qk qa rc we : Nat → Int32} {c : Nat} {x : Int32} (h : cl_R st q qo qk qa rc we) (hx : 0 ≤ x) (h2 : st c ≠ 2) : cl_R (upd st c 1) q qo qk qa rc (upd we c x) := by
  refine cl_up h c (fun s e => ⟨pk_un e, rfl, rfl, pk_un e⟩) (fun j _ => ⟨rfl, rfl, rfl⟩) (fun hc => ?_)
  obtain ⟨h1, h3, h4, n, h5, h6, h7, h8⟩ := h c hc
  exact ⟨Or.inr (Or.inl pk_us), by rw [pk_us]; exact hx, h4, n, h5, h6, fun _ => h7 h2, h8⟩
theorem cl_rc {st q qo qk qa rc we : Nat → Int32} {c n : Nat} (h : cl_R st q qo qk qa rc we) (hn : n ≤ 8) : cl_R st q qo qk qa (upd rc c (nI n)) we := by
  refine cl_up h c (fun s e => ⟨rfl, rfl, pk_un e, rfl⟩) (fun j _ => ⟨rfl, rfl, rfl⟩) (fun hc => ?_)
  obtain ⟨h1, h3, h4, h5⟩ := h c hc
  exact ⟨h1, h3, ⟨n, hn, pk_us⟩, h5⟩
theorem cl_enq {st q qo qk qa rc we : Nat → Int32} {c n : Nat} {o k a : Int32} (h : cl_R st q qo qk qa rc we) (hq : q c = nI n) (hn : n < 8) (h2 : st c = 2) (hm : cm_R o k a) :
    cl_R st (upd q c (nI (n + 1))) (upd qo (8 * c + n) o) (upd qk (8 * c + n) k) (upd qa (8 * c + n) a) rc we := by
  refine cl_up h c (fun s e => ⟨rfl, pk_un e, rfl, rfl⟩) (fun j _ => ⟨pk_un (by omega), pk_un (by omega), pk_un (by omega)⟩) (fun hc => ?_)
  obtain ⟨h1, h3, h4, n', h5, h6, h7, h8⟩ := h c hc
  have nn : n' = n := (nI_eq (by omega) (by omega)).mp (h6.symm.trans hq)
  subst nn
  refine ⟨h1, h3, h4, n' + 1, by omega, pk_us, fun z => absurd h2 z, fun i hi => ?_⟩
  by_cases e : i = n'
  · subst e
    rw [pk_us, pk_us, pk_us]
    exact hm
  · rw [pk_un (by omega), pk_un (by omega), pk_un (by omega)]
    exact h8 i (by omega)
/-! L: who is served -/
def sv_g (st wk wo : Nat → Int32) (wt : Nat → Int64) (key : Int32) : Nat → Int32
  | 0 => -1
  | c + 1 => if st c = 1 ∧ (wk c = key ∨ wo c = key) ∧ (sv_g st wk wo wt key c < 0 ∨ wt c < wt (sv_g st wk wo wt key c).toNatClampNeg) then nI c else sv_g st wk wo wt key c
theorem sv_g_cases (st wk wo : Nat → Int32) (wt : Nat → Int64) (key : Int32) : ∀ n, sv_g st wk wo wt key n = -1 ∨ ∃ c, c < n ∧ sv_g st wk wo wt key n = nI c ∧ st c = 1
  | 0 => Or.inl rfl
  | n + 1 => by
    unfold sv_g
    by_cases e : st n = 1 ∧ (wk n = key ∨ wo n = key) ∧ (sv_g st wk wo wt key n < 0 ∨ wt n < wt (sv_g st wk wo wt key n).toNatClampNeg)
    · rw [if_pos e]
      exact Or.inr ⟨n, by omega, rfl, e.1⟩
    · rw [if_neg e]
      rcases sv_g_cases st wk wo wt key n with h | ⟨c, h1, h2, h3⟩
      · exact Or.inl h
      · exact Or.inr ⟨c, by omega, h2, h3⟩
def sv_ok (kd st wk wo : Nat → Int32) (wt : Nat → Int64) (k : Nat) : Prop := kd k = 2 ∧ ¬ sv_g st wk wo wt (nI k) 4 < 0
theorem sv_c {kd st wk wo : Nat → Int32} {wt : Nat → Int64} {k : Nat} (h : sv_ok kd st wk wo wt k) : ∃ c, c < 4 ∧ sv_g st wk wo wt (nI k) 4 = nI c ∧ st c = 1 := by
  rcases sv_g_cases st wk wo wt (nI k) 4 with e | e
  · exact absurd (by rw [e]; decide) h.2
  · exact e
/-- the first key that is served -/
def sv_F (kd st wk wo : Nat → Int32) (wt : Nat → Int64) (r : Int32) : Prop := (r = -1 ∧ ∀ k, k < 8 → ¬ sv_ok kd st wk wo wt k) ∨ (∃ p, p < 8 ∧ sv_ok kd st wk wo wt p ∧ (∀ i, i < p → ¬ sv_ok kd st wk wo wt i) ∧ r = nI p)
theorem sv_Fex (kd st wk wo : Nat → Int32) (wt : Nat → Int64) : ∃ r, sv_F kd st wk wo wt r := by
  by_cases h : ∃ p, p < 8 ∧ sv_ok kd st wk wo wt p
  · obtain ⟨p, ⟨hp, e⟩, hl⟩ := pk_least _ h
    exact ⟨nI p, Or.inr ⟨p, hp, e, fun i hi z => hl i hi ⟨by omega, z⟩, rfl⟩⟩
  · exact ⟨-1, Or.inl ⟨rfl, fun i hi z => h ⟨i, hi, z⟩⟩⟩
def sv_n (st : Nat → Int32) : Nat := ws_c (fun c => decide (st c = 1)) 4
theorem sv_n_le (st : Nat → Int32) : sv_n st ≤ 4 := ws_c_le _ 4
theorem sv_n_dn {st : Nat → Int32} {c : Nat} (hc : c < 4) (h : st c = 1) : sv_n st = sv_n (upd st c 0) + 1 :=
  ws_c_dn hc (by simp [h]) (by rw [pk_us]; decide) (fun j hj hn => by rw [pk_un hn])
theorem sv_n0 {kd st wk wo : Nat → Int32} {wt : Nat → Int64} {k : Nat} (h : sv_n st = 0) : ¬ sv_ok kd st wk wo wt k := by
  intro z
  obtain ⟨c, hc, _, e⟩ := sv_c z
  have := ws_c_0 h c hc
  rw [e] at this
  exact absurd this (by decide)
