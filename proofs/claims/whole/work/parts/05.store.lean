/-! I: what each command makes of the slots -/
theorem st_n {kd sz dl ix sx iy sy : Nat → Int32} {k : Nat} (h : st_R kd sz dl ix sx iy sy) (hk : k < 16) : ∃ n : Nat, n ≤ 12 ∧ sz k = nI n ∧ ((kd k = 0 ∧ n = 0) ∨ (kd k = 1 ∧ n = 0) ∨ (kd k = 2 ∧ 0 < n ∧ ∀ i, i < n → ix (12 * k + i) = iy (12 * k + i)) ∨ (kd k = 3 ∧ 0 < n ∧ ws_R ix sx iy sy (12 * k) n)) := (h k hk).2
theorem st_clear {kd sz dl ix sx iy sy : Nat → Int32} (h : st_R kd sz dl ix sx iy sy) (k : Nat) : st_R (upd kd k 0) (upd sz k 0) (upd dl k 0) ix sx iy sy :=
  st_up h k (fun s e => ⟨pk_un e, pk_un e, pk_un e⟩) (fun j _ => ⟨rfl, rfl, rfl, rfl⟩) (by rw [pk_us]; decide)
    ⟨0, by omega, by rw [pk_us]; rfl, Or.inl ⟨pk_us, rfl⟩⟩
theorem st_num {kd sz dl ix sx iy sy : Nat → Int32} (h : st_R kd sz dl ix sx iy sy) (k : Nat) : st_R (upd (upd kd k 0) k 1) (upd sz k 0) (upd dl k 0) ix sx iy sy :=
  st_up h k (fun s e => ⟨by rw [pk_un e, pk_un e], pk_un e, pk_un e⟩) (fun j _ => ⟨rfl, rfl, rfl, rfl⟩) (by rw [pk_us]; decide)
    ⟨0, by omega, by rw [pk_us]; rfl, Or.inr (Or.inl ⟨pk_us, rfl⟩)⟩
theorem st_add {kd sz dl ix sx iy sy : Nat → Int32} {k : Nat} (h : st_R kd sz dl ix sx iy sy) (hk : k < 16) (e : kd k = 0 ∨ kd k = 1) : st_R (upd kd k 1) sz dl ix sx iy sy := by
  refine st_up h k (fun s e => ⟨pk_un e, rfl, rfl⟩) (fun j _ => ⟨rfl, rfl, rfl, rfl⟩) (h k hk).1 ?_
  obtain ⟨n, hn, hz, c⟩ := st_n h hk
  have n0 : n = 0 := by
    rcases c with c | c | c | c
    · exact c.2
    · exact c.2
    · rcases e with e | e <;> rw [e] at c <;> exact absurd c.1 (by decide)
    · rcases e with e | e <;> rw [e] at c <;> exact absurd c.1 (by decide)
  exact ⟨n, hn, hz, Or.inr (Or.inl ⟨pk_us, n0⟩)⟩
theorem st_dl {kd sz dl ix sx iy sy : Nat → Int32} {k : Nat} {x : Int32} (h : st_R kd sz dl ix sx iy sy) (hk : k < 16) (hx : 0 ≤ x) : st_R kd sz (upd dl k x) ix sx iy sy :=
  st_up h k (fun s e => ⟨rfl, rfl, pk_un e⟩) (fun j _ => ⟨rfl, rfl, rfl, rfl⟩) (by rw [pk_us]; exact hx) (h k hk).2
theorem st_push {kd sz dl ix sx iy sy : Nat → Int32} {k n p : Nat} {a : Int32} (h : st_R kd sz dl ix sx iy sy) (hk : k < 16) (hz : sz k = nI n) (hn : n < 12) (hp : p ≤ n) (e : kd k = 0 ∨ kd k = 2) :
    st_R (upd kd k 2) (upd sz k (nI (n + 1))) dl (upd (ws_op ix (12 * k + p) (12 * k + n)) (12 * k + p) a) (ws_op sx (12 * k + p) (12 * k + n)) (upd (ws_op iy (12 * k + p) (12 * k + n)) (12 * k + p) a) sy := by
  refine st_up h k (fun s e => ⟨pk_un e, pk_un e, rfl⟩) (fun j hj => ⟨?_, ws_op_out (by omega), ?_, rfl⟩) (h k hk).1 ?_
  · rw [pk_un (by omega), ws_op_out (by omega)]
  · rw [pk_un (by omega), ws_op_out (by omega)]
  obtain ⟨n', hn', hz', c⟩ := st_n h hk
  have nn : n' = n := (nI_eq (by omega) (by omega)).mp (hz'.symm.trans hz)
  subst nn
  refine ⟨n' + 1, by omega, pk_us, Or.inr (Or.inr (Or.inl ⟨pk_us, by omega, fun i hi => ?_⟩))⟩
  have e0 : ∀ i, i < n' → ix (12 * k + i) = iy (12 * k + i) := by
    rcases c with c | c | c | c
    · intro i hi; omega
    · intro i hi; omega
    · exact c.2.2
    · rcases e with e | e <;> rw [e] at c <;> exact absurd c.1 (by decide)
  rw [ws_in_at (by omega), ws_in_at (by omega)]
  by_cases a1 : i < p
  · rw [if_pos a1, if_pos a1]; exact e0 i (by omega)
  · rw [if_neg a1, if_neg a1]
    by_cases a2 : i = p
    · rw [if_pos a2, if_pos a2]
    · rw [if_neg a2, if_neg a2]; exact e0 (i - 1) (by omega)
/-- one is taken out of slot k: at p of X, at q of Y; n are left -/
def st_mt (kd ix sx iy sy : Nat → Int32) (k p q : Nat) : Prop := (kd k = 2 ∧ p = q) ∨ (kd k = 3 ∧ sx (12 * k + p) = sy (12 * k + q) ∧ ix (12 * k + p) = iy (12 * k + q))
theorem st_er {kd sz dl ix sx iy sy : Nat → Int32} {k n p q : Nat} (h : st_R kd sz dl ix sx iy sy) (hk : k < 16) (hz : sz k = nI (n + 1)) (hn : n < 12) (hp : p ≤ n) (hq : q ≤ n) (e : st_mt kd ix sx iy sy k p q) :
    (n ≠ 0 → st_R kd (upd sz k (nI n)) dl (ws_cl ix (12 * k + p) (12 * k + n)) (ws_cl sx (12 * k + p) (12 * k + n)) (ws_cl iy (12 * k + q) (12 * k + n)) (ws_cl sy (12 * k + q) (12 * k + n))) ∧
    (n = 0 → st_R (upd kd k 0) (upd (upd sz k (nI n)) k 0) (upd dl k 0) (ws_cl ix (12 * k + p) (12 * k + n)) (ws_cl sx (12 * k + p) (12 * k + n)) (ws_cl iy (12 * k + q) (12 * k + n)) (ws_cl sy (12 * k + q) (12 * k + n))) ∧
    ix (12 * k + p) = iy (12 * k + q) := by
  obtain ⟨n', hn', hz', c⟩ := st_n h hk
  have nn : n' = n + 1 := (nI_eq (by omega) (by omega)).mp (hz'.symm.trans hz)
  subst nn
  refine ⟨fun h0 => ?_, fun h0 => ?_, ?_⟩
  · refine st_up h k (fun s e => ⟨rfl, pk_un e, rfl⟩) (fun j hj => ⟨ws_cl_out (by omega), ws_cl_out (by omega), ws_cl_out (by omega), ws_cl_out (by omega)⟩) (h k hk).1 ?_
    rcases e with ⟨e1, e2⟩ | ⟨e1, e2, e3⟩
    · subst e2
      refine ⟨n, by omega, pk_us, Or.inr (Or.inr (Or.inl ⟨e1, by omega, fun i hi => ?_⟩))⟩
      have e0 : ∀ i, i < n + 1 → ix (12 * k + i) = iy (12 * k + i) := by
        rcases c with c | c | c | c
        · omega
        · omega
        · exact c.2.2
        · rw [e1] at c; exact absurd c.1 (by decide)
      rw [ws_cl_at hi, ws_cl_at hi]
      exact e0 _ (by split <;> omega)
    · refine ⟨n, by omega, pk_us, Or.inr (Or.inr (Or.inr ⟨e1, by omega, ?_⟩))⟩
      have e0 : ws_R ix sx iy sy (12 * k) (n + 1) := by
        rcases c with c | c | c | c
        · omega
        · omega
        · rw [e1] at c; exact absurd c.1 (by decide)
        · exact c.2.2
      exact ws_R_er e0 hp hq e2 e3
  · exact st_up h k (fun s e => ⟨pk_un e, by rw [pk_un e, pk_un e], pk_un e⟩) (fun j hj => ⟨ws_cl_out (by omega), ws_cl_out (by omega), ws_cl_out (by omega), ws_cl_out (by omega)⟩) (by rw [pk_us]; decide)
      ⟨0, by omega, by rw [pk_us]; rfl, Or.inl ⟨pk_us, rfl⟩⟩
  · rcases e with ⟨e1, e2⟩ | ⟨e1, e2, e3⟩
    · subst e2
      rcases c with c | c | c | c
      · omega
      · omega
      · exact c.2.2 p (by omega)
      · rw [e1] at c; exact absurd c.1 (by decide)
    · exact e3
theorem st_new {kd sz dl ix sx iy sy : Nat → Int32} {k n p : Nat} {v m : Int32} (h : st_R kd sz dl ix sx iy sy) (hk : k < 16) (hz : sz k = nI n) (hn : n < 12) (hp : p ≤ n) (e : kd k = 0 ∨ kd k = 3) (hm : ∀ i, i < n → ix (12 * k + i) ≠ m)
    (hlo : ∀ i, i < p → ¬ ws_lt v m (sx (12 * k + i)) (ix (12 * k + i))) (hhi : p < n → ws_lt v m (sx (12 * k + p)) (ix (12 * k + p))) :
    st_R (upd kd k 3) (upd sz k (nI (n + 1))) dl (upd (ws_op ix (12 * k + p) (12 * k + n)) (12 * k + p) m) (upd (ws_op sx (12 * k + p) (12 * k + n)) (12 * k + p) v) (upd iy (12 * k + n) m) (upd sy (12 * k + n) v) := by
  obtain ⟨n', hn', hz', c⟩ := st_n h hk
  have nn : n' = n := (nI_eq (by omega) (by omega)).mp (hz'.symm.trans hz)
  subst nn
  have e0 : n' = 0 ∨ ws_R ix sx iy sy (12 * k) n' := by
    rcases c with c | c | c | c
    · exact Or.inl c.2
    · exact Or.inl c.2
    · rcases e with e | e <;> rw [e] at c <;> exact absurd c.1 (by decide)
    · exact Or.inr c.2.2
  refine st_up h k (fun s e => ⟨pk_un e, pk_un e, rfl⟩) (fun j hj => ⟨?_, ?_, pk_un (by omega), pk_un (by omega)⟩) (h k hk).1 ⟨n' + 1, by omega, pk_us, Or.inr (Or.inr (Or.inr ⟨pk_us, by omega, ws_R_new e0 hp hm hlo hhi⟩))⟩
  · rw [pk_un (by omega), ws_op_out (by omega)]
  · rw [pk_un (by omega), ws_op_out (by omega)]
theorem st_old {kd sz dl ix sx iy sy : Nat → Int32} {k n p0 q p : Nat} {v m : Int32} (h : st_R kd sz dl ix sx iy sy) (hk : k < 16) (hz : sz k = nI (n + 1)) (hn : n < 12) (hp0 : p0 ≤ n) (hq : q ≤ n) (e1 : sx (12 * k + p0) = sy (12 * k + q)) (e2 : ix (12 * k + p0) = iy (12 * k + q)) (em : iy (12 * k + q) = m) (hp : p ≤ n) (e : kd k = 3)
    (hlo : ∀ i, i < p → ¬ ws_lt v m (ws_cl sx (12 * k + p0) (12 * k + n) (12 * k + i)) (ws_cl ix (12 * k + p0) (12 * k + n) (12 * k + i))) (hhi : p < n → ws_lt v m (ws_cl sx (12 * k + p0) (12 * k + n) (12 * k + p)) (ws_cl ix (12 * k + p0) (12 * k + n) (12 * k + p))) :
    st_R kd sz dl (upd (ws_op (ws_cl ix (12 * k + p0) (12 * k + n)) (12 * k + p) (12 * k + n)) (12 * k + p) m) (upd (ws_op (ws_cl sx (12 * k + p0) (12 * k + n)) (12 * k + p) (12 * k + n)) (12 * k + p) v) iy (upd sy (12 * k + q) v) := by
  obtain ⟨n', hn', hz', c⟩ := st_n h hk
  have nn : n' = n + 1 := (nI_eq (by omega) (by omega)).mp (hz'.symm.trans hz)
  subst nn
  have e0 : ws_R ix sx iy sy (12 * k) (n + 1) := by
    rcases c with c | c | c | c
    · omega
    · omega
    · rw [e] at c; exact absurd c.1 (by decide)
    · exact c.2.2
  refine st_up h k (fun s e => ⟨rfl, rfl, rfl⟩) (fun j hj => ⟨?_, ?_, rfl, pk_un (by omega)⟩) (h k hk).1 ⟨n + 1, by omega, hz, Or.inr (Or.inr (Or.inr ⟨e, by omega, ws_R_old e0 hp0 hq e1 e2 em hp hlo hhi⟩))⟩
  · rw [pk_un (by omega), ws_op_out (by omega), ws_cl_out (by omega)]
  · rw [pk_un (by omega), ws_op_out (by omega), ws_cl_out (by omega)]
theorem st_copy {kd sz dl ix sx iy sy : Nat → Int32} {s t : Nat} (h : st_R kd sz dl ix sx iy sy) (hs : s < 16) : st_R (upd kd t (kd s)) (upd sz t (sz s)) (upd dl t (dl s)) (ws_cp ix (12 * s) (12 * t) 12) (ws_cp sx (12 * s) (12 * t) 12) (ws_cp iy (12 * s) (12 * t) 12) (ws_cp sy (12 * s) (12 * t) 12) := by
  refine st_up h t (fun s e => ⟨pk_un e, pk_un e, pk_un e⟩) (fun j hj => ⟨ws_cp_out (by omega), ws_cp_out (by omega), ws_cp_out (by omega), ws_cp_out (by omega)⟩) (by rw [pk_us]; exact (h s hs).1) ?_
  rw [pk_us, pk_us]
  exact ws_K_cg (h s hs).2 (fun i hi => ⟨ws_cp_in hi, ws_cp_in hi, ws_cp_in hi, ws_cp_in hi⟩)
/-- the place of a member's score in a ranking -/
def ws_G (sc it : Nat → Int32) (b n : Nat) (m v : Int32) (p : Nat) : Prop := p ≤ n ∧ (∀ i, i < p → ¬ ws_lt v m (sc (b + i)) (it (b + i))) ∧ (p < n → ws_lt v m (sc (b + p)) (it (b + p)))
theorem ws_Gex (sc it : Nat → Int32) (b n : Nat) (m v : Int32) : ∃ p, ws_G sc it b n m v p := by
  by_cases h : ∃ p, p < n ∧ ws_lt v m (sc (b + p)) (it (b + p))
  · obtain ⟨p, ⟨hp, e⟩, hl⟩ := pk_least _ h
    exact ⟨p, by omega, fun i hi z => hl i hi ⟨by omega, z⟩, fun _ => e⟩
  · exact ⟨n, Nat.le_refl n, fun i hi z => h ⟨i, hi, z⟩, fun z => absurd z (Nat.lt_irrefl n)⟩
