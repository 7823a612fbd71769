/-! F: a slot of X against a slot of Y -/
def ws_S (sc it : Nat → Int32) (b n : Nat) : Prop := ∀ i j, i < j → j < n → ws_lt (sc (b + i)) (it (b + i)) (sc (b + j)) (it (b + j))
def ws_D (it : Nat → Int32) (b n : Nat) : Prop := ∀ i j, i < j → j < n → it (b + i) ≠ it (b + j)
def ws_R (ix sx iy sy : Nat → Int32) (b n : Nat) : Prop := ws_S sx ix b n ∧ ws_D ix b n ∧ (ws_L sx ix b n).Perm (ws_L sy iy b n)
def ws_K (k z : Int32) (ix sx iy sy : Nat → Int32) (b : Nat) : Prop :=
  ∃ n : Nat, n ≤ 12 ∧ z = nI n ∧ ((k = 0 ∧ n = 0) ∨ (k = 1 ∧ n = 0) ∨ (k = 2 ∧ 0 < n ∧ ∀ i, i < n → ix (b + i) = iy (b + i)) ∨ (k = 3 ∧ 0 < n ∧ ws_R ix sx iy sy b n))
def st_R (kd sz dl ix sx iy sy : Nat → Int32) : Prop := ∀ s, s < 16 → (0 : Int32) ≤ dl s ∧ ws_K (kd s) (sz s) ix sx iy sy (12 * s)
theorem ws_K_cg {k z : Int32} {ix sx iy sy ix' sx' iy' sy' : Nat → Int32} {b b' : Nat} (h : ws_K k z ix sx iy sy b)
    (e : ∀ i, i < 12 → ix' (b' + i) = ix (b + i) ∧ sx' (b' + i) = sx (b + i) ∧ iy' (b' + i) = iy (b + i) ∧ sy' (b' + i) = sy (b + i)) : ws_K k z ix' sx' iy' sy' b' := by
  obtain ⟨n, hn, hz, h⟩ := h
  refine ⟨n, hn, hz, ?_⟩
  rcases h with h | h | ⟨h1, h2, h3⟩ | ⟨h1, h2, h3, h4, h5⟩
  · exact Or.inl h
  · exact Or.inr (Or.inl h)
  · refine Or.inr (Or.inr (Or.inl ⟨h1, h2, fun i hi => ?_⟩))
    rw [(e i (by omega)).1, (e i (by omega)).2.2.1, h3 i hi]
  · refine Or.inr (Or.inr (Or.inr ⟨h1, h2, fun i j hij hj => ?_, fun i j hij hj => ?_, ?_⟩))
    · rw [(e i (by omega)).1, (e i (by omega)).2.1, (e j (by omega)).1, (e j (by omega)).2.1]
      exact h3 i j hij hj
    · rw [(e i (by omega)).1, (e j (by omega)).1]
      exact h4 i j hij hj
    · rw [ws_L_cg (sc := sx) (it := ix) (b := b) (fun i hi => ⟨(e i (by omega)).2.1, (e i (by omega)).1⟩), ws_L_cg (sc := sy) (it := iy) (b := b) (fun i hi => ⟨(e i (by omega)).2.2.2, (e i (by omega)).2.2.1⟩)]
      exact h5
theorem st_up {kd sz dl ix sx iy sy kd' sz' dl' ix' sx' iy' sy' : Nat → Int32} (h : st_R kd sz dl ix sx iy sy) (k : Nat)
    (hk : ∀ s, s ≠ k → kd' s = kd s ∧ sz' s = sz s ∧ dl' s = dl s)
    (ha : ∀ j, (j < 12 * k ∨ 12 * k + 12 ≤ j) → ix' j = ix j ∧ sx' j = sx j ∧ iy' j = iy j ∧ sy' j = sy j)
    (hd : (0 : Int32) ≤ dl' k) (hn : ws_K (kd' k) (sz' k) ix' sx' iy' sy' (12 * k)) : st_R kd' sz' dl' ix' sx' iy' sy' := by
  intro s hs
  by_cases e : s = k
  · subst e
    exact ⟨hd, hn⟩
  · obtain ⟨e1, e2, e3⟩ := hk s e
    rw [e1, e2, e3]
    obtain ⟨h1, h2⟩ := h s hs
    exact ⟨h1, ws_K_cg h2 (fun i hi => ha _ (by omega))⟩
theorem ws_rk {sc it : Nat → Int32} {b n i : Nat} (h : ws_S sc it b n) (hi : i < n) : ws_c (fun j => decide (ws_lt (sc (b + j)) (it (b + j)) (sc (b + i)) (it (b + i)))) n = i := by
  have e : ws_c (fun j => decide (ws_lt (sc (b + j)) (it (b + j)) (sc (b + i)) (it (b + i)))) n = ws_c (fun j => decide (j < i)) n := by
    apply ws_c_cg
    intro j hj
    apply decide_eq_decide.mpr
    constructor
    · intro hl
      rcases Nat.lt_trichotomy j i with c | c | c
      · exact c
      · subst c
        exact absurd hl ws_lt_ir
      · exact absurd hl (ws_lt_as (h i j c hj))
    · intro c
      exact h j i c hi
  rw [e, ws_c_lt]
  by_cases c : n ≤ i
  · omega
  · rw [if_neg c]
theorem ws_toX {ix sx iy sy : Nat → Int32} {b n q : Nat} (h : ws_R ix sx iy sy b n) (hq : q < n) : ∃ i, i < n ∧ sx (b + i) = sy (b + q) ∧ ix (b + i) = iy (b + q) := by
  have h1 : (sy (b + q), iy (b + q)) ∈ ws_L sy iy b n := ws_L_mem.mpr ⟨q, hq, rfl⟩
  obtain ⟨i, hi, e⟩ := ws_L_mem.mp (h.2.2.mem_iff.mpr h1)
  exact ⟨i, hi, congrArg Prod.fst e, congrArg Prod.snd e⟩
theorem ws_toY {ix sx iy sy : Nat → Int32} {b n q : Nat} (h : ws_R ix sx iy sy b n) (hq : q < n) : ∃ i, i < n ∧ sy (b + i) = sx (b + q) ∧ iy (b + i) = ix (b + q) := by
  have h1 : (sx (b + q), ix (b + q)) ∈ ws_L sx ix b n := ws_L_mem.mpr ⟨q, hq, rfl⟩
  obtain ⟨i, hi, e⟩ := ws_L_mem.mp (h.2.2.mem_iff.mp h1)
  exact ⟨i, hi, congrArg Prod.fst e, congrArg Prod.snd e⟩
theorem ws_rkY {ix sx iy sy : Nat → Int32} {b n q i : Nat} (h : ws_R ix sx iy sy b n) (hi : i < n) (e1 : sx (b + i) = sy (b + q)) (e2 : ix (b + i) = iy (b + q)) :
    ws_c (fun j => decide (ws_lt (sy (b + j)) (iy (b + j)) (sy (b + q)) (iy (b + q)))) n = i := by
  have c := h.2.2.countP_eq (fun r => decide (ws_lt r.1 r.2 (sy (b + q)) (iy (b + q))))
  rw [ws_L_ct, ws_L_ct] at c
  rw [← ws_rk h.1 hi, e1, e2]
  exact c.symm
/-- what a search for member m answers -/
def ws_F (it : Nat → Int32) (b n : Nat) (m r : Int32) : Prop := (r = -1 ∧ ∀ i, i < n → it (b + i) ≠ m) ∨ (∃ p, p < n ∧ it (b + p) = m ∧ (∀ i, i < p → it (b + i) ≠ m) ∧ r = nI p)
theorem ws_Fex (it : Nat → Int32) (b n : Nat) (m : Int32) : ∃ r, ws_F it b n m r := by
  by_cases h : ∃ p, p < n ∧ it (b + p) = m
  · obtain ⟨p, ⟨hp, e⟩, hl⟩ := pk_least _ h
    exact ⟨nI p, Or.inr ⟨p, hp, e, fun i hi z => hl i hi ⟨by omega, z⟩, rfl⟩⟩
  · exact ⟨-1, Or.inl ⟨rfl, fun i hi z => h ⟨i, hi, z⟩⟩⟩
theorem ws_cl_at {f : Nat → Int32} {b p n i : Nat} (h : i < n) : ws_cl f (b + p) (b + n) (b + i) = f (b + (if i < p then i else i + 1)) := by
  by_cases e : i < p
  · rw [if_pos e, ws_cl_out (by omega)]
  · rw [if_neg e, ws_cl_in (by omega) (by omega)]
    all_goals rfl
theorem ws_in_at {f : Nat → Int32} {b p n i : Nat} {v : Int32} (h : i ≤ n) : upd (ws_op f (b + p) (b + n)) (b + p) v (b + i) = if i < p then f (b + i) else if i = p then v else f (b + (i - 1)) := by
  by_cases e : i < p
  · rw [if_pos e, pk_un (by omega), ws_op_out (by omega)]
  · rw [if_neg e]
    by_cases e2 : i = p
    · subst e2
      rw [if_pos rfl, pk_us]
    · rw [if_neg e2, pk_un (by omega), ws_op_in (by omega) (by omega), show b + i - 1 = b + (i - 1) by omega]
theorem ws_S_er {sc it : Nat → Int32} {b n p : Nat} (h : ws_S sc it b (n + 1)) : ws_S (ws_cl sc (b + p) (b + n)) (ws_cl it (b + p) (b + n)) b n := by
  intro i j hij hj
  rw [ws_cl_at (by omega), ws_cl_at (by omega), ws_cl_at hj, ws_cl_at hj]
  exact h _ _ (by split <;> split <;> omega) (by split <;> omega)
theorem ws_D_er {it : Nat → Int32} {b n p : Nat} (h : ws_D it b (n + 1)) : ws_D (ws_cl it (b + p) (b + n)) b n := by
  intro i j hij hj
  rw [ws_cl_at (by omega), ws_cl_at hj]
  exact h _ _ (by split <;> split <;> omega) (by split <;> omega)
theorem ws_P_er {ix sx iy sy : Nat → Int32} {b n p q : Nat} (h : (ws_L sx ix b (n + 1)).Perm (ws_L sy iy b (n + 1))) (hp : p ≤ n) (hq : q ≤ n) (e1 : sx (b + p) = sy (b + q)) (e2 : ix (b + p) = iy (b + q)) :
    ((ws_L sx ix b (n + 1)).eraseIdx p).Perm ((ws_L sy iy b (n + 1)).eraseIdx q) := by
  have h1 := ws_er (ws_L sx ix b (n + 1)) p (by rw [ws_L_len]; omega)
  have h2 := ws_er (ws_L sy iy b (n + 1)) q (by rw [ws_L_len]; omega)
  rw [ws_L_get, e1, e2] at h1
  rw [ws_L_get] at h2
  exact ((h1.trans h).trans h2.symm).cons_inv
theorem ws_R_er {ix sx iy sy : Nat → Int32} {b n p q : Nat} (h : ws_R ix sx iy sy b (n + 1)) (hp : p ≤ n) (hq : q ≤ n) (e1 : sx (b + p) = sy (b + q)) (e2 : ix (b + p) = iy (b + q)) :
    ws_R (ws_cl ix (b + p) (b + n)) (ws_cl sx (b + p) (b + n)) (ws_cl iy (b + q) (b + n)) (ws_cl sy (b + q) (b + n)) b n := by
  refine ⟨ws_S_er h.1, ws_D_er h.2.1, ?_⟩
  rw [ws_L_er hp, ws_L_er hq]
  exact ws_P_er h.2.2 hp hq e1 e2
theorem ws_S_in {sc it : Nat → Int32} {b n p : Nat} {v m : Int32} (h : ws_S sc it b n) (hp : p ≤ n) (hm : ∀ i, i < n → it (b + i) ≠ m) (hlo : ∀ i, i < p → ¬ ws_lt v m (sc (b + i)) (it (b + i))) (hhi : p < n → ws_lt v m (sc (b + p)) (it (b + p))) :
    ws_S (upd (ws_op sc (b + p) (b + n)) (b + p) v) (upd (ws_op it (b + p) (b + n)) (b + p) m) b (n + 1) := by
  intro i j hij hj
  rw [ws_in_at (by omega), ws_in_at (by omega), ws_in_at (by omega), ws_in_at (by omega)]
  by_cases a : i < p
  · rw [if_pos a, if_pos a]
    by_cases c : j < p
    · rw [if_pos c, if_pos c]
      exact h i j hij (by omega)
    · rw [if_neg c, if_neg c]
      have hi := ws_lt_to (hlo i a) (fun z => hm i (by omega) z.symm)
      by_cases d : j = p
      · rw [if_pos d, if_pos d]
        exact hi
      · rw [if_neg d, if_neg d]
        exact h i (j - 1) (by omega) (by omega)
  · rw [if_neg a, if_neg a, if_neg (show ¬ j < p by omega), if_neg (show ¬ j < p by omega), if_neg (show ¬ j = p by omega), if_neg (show ¬ j = p by omega)]
    by_cases d : i = p
    · rw [if_pos d, if_pos d]
      by_cases e : j - 1 = p
      · rw [e]
        exact hhi (by omega)
      · exact ws_lt_tr (hhi (by omega)) (h p (j - 1) (by omega) (by omega))
    · rw [if_neg d, if_neg d]
      exact h (i - 1) (j - 1) (by omega) (by omega)
theorem ws_D_in {it : Nat → Int32} {b n p : Nat} {m : Int32} (h : ws_D it b n) (hp : p ≤ n) (hm : ∀ i, i < n → it (b + i) ≠ m) : ws_D (upd (ws_op it (b + p) (b + n)) (b + p) m) b (n + 1) := by
  intro i j hij hj
  rw [ws_in_at (by omega), ws_in_at (by omega)]
  by_cases a : i < p
  · rw [if_pos a]
    by_cases c : j < p
    · rw [if_pos c]
      exact h i j hij (by omega)
    · rw [if_neg c]
      by_cases d : j = p
      · rw [if_pos d]
        exact hm i (by omega)
      · rw [if_neg d]
        exact h i (j - 1) (by omega) (by omega)
  · rw [if_neg a, if_neg (show ¬ j < p by omega), if_neg (show ¬ j = p by omega)]
    by_cases d : i = p
    · rw [if_pos d]
      exact fun z => hm (j - 1) (by omega) z.symm
    · rw [if_neg d]
      exact h (i - 1) (j - 1) (by omega) (by omega)
theorem ws_P_in {sc it : Nat → Int32} {b n p : Nat} {v m : Int32} (hp : p ≤ n) : (ws_L (upd (ws_op sc (b + p) (b + n)) (b + p) v) (upd (ws_op it (b + p) (b + n)) (b + p) m) b (n + 1)).Perm ((v, m) :: ws_L sc it b n) := by
  rw [ws_L_in hp]
  exact List.perm_insertIdx _ _ (by rw [ws_L_len]; exact hp)
/-- a new member: X seats it at p, Y appends it -/
theorem ws_R_new {ix sx iy sy : Nat → Int32} {b n p : Nat} {v m : Int32} (h : n = 0 ∨ ws_R ix sx iy sy b n) (hp : p ≤ n) (hm : ∀ i, i < n → ix (b + i) ≠ m) (hlo : ∀ i, i < p → ¬ ws_lt v m (sx (b + i)) (ix (b + i))) (hhi : p < n → ws_lt v m (sx (b + p)) (ix (b + p))) :
    ws_R (upd (ws_op ix (b + p) (b + n)) (b + p) m) (upd (ws_op sx (b + p) (b + n)) (b + p) v) (upd iy (b + n) m) (upd sy (b + n) v) b (n + 1) := by
  have h' : ws_R ix sx iy sy b n := by
    rcases h with e | h
    · subst e
      exact ⟨fun i j _ hj => absurd hj (by omega), fun i j _ hj => absurd hj (by omega), List.Perm.refl _⟩
    · exact h
  refine ⟨ws_S_in h'.1 hp hm hlo hhi, ws_D_in h'.2.1 hp hm, ?_⟩
  rw [ws_L_ap]
  exact ((ws_P_in hp).trans (h'.2.2.cons _)).trans (List.perm_append_singleton _ _).symm
/-- a member that stands at p0 of X and q of Y gets the score v: X takes it out and seats it at p, Y writes the score -/
theorem ws_R_old {ix sx iy sy : Nat → Int32} {b n p0 q p : Nat} {v m : Int32} (h : ws_R ix sx iy sy b (n + 1)) (hp0 : p0 ≤ n) (hq : q ≤ n) (e1 : sx (b + p0) = sy (b + q)) (e2 : ix (b + p0) = iy (b + q)) (em : iy (b + q) = m) (hp : p ≤ n)
    (hlo : ∀ i, i < p → ¬ ws_lt v m (ws_cl sx (b + p0) (b + n) (b + i)) (ws_cl ix (b + p0) (b + n) (b + i))) (hhi : p < n → ws_lt v m (ws_cl sx (b + p0) (b + n) (b + p)) (ws_cl ix (b + p0) (b + n) (b + p))) :
    ws_R (upd (ws_op (ws_cl ix (b + p0) (b + n)) (b + p) (b + n)) (b + p) m) (upd (ws_op (ws_cl sx (b + p0) (b + n)) (b + p) (b + n)) (b + p) v) iy (upd sy (b + q) v) b (n + 1) := by
  have hm : ∀ i, i < n → ws_cl ix (b + p0) (b + n) (b + i) ≠ m := by
    intro i hi
    rw [ws_cl_at hi, ← em, ← e2]
    by_cases c : i < p0
    · rw [if_pos c]
      exact h.2.1 i p0 c (by omega)
    · rw [if_neg c]
      exact fun z => h.2.1 p0 (i + 1) (by omega) (by omega) z.symm
  refine ⟨ws_S_in (ws_S_er h.1) hp hm hlo hhi, ws_D_in (ws_D_er h.2.1) hp hm, ?_⟩
  refine (ws_P_in hp).trans ?_
  rw [ws_L_er hp0, ws_L_st, em]
  exact ((ws_P_er h.2.2 hp0 hq e1 e2).cons _).trans (ws_set _ _ (by rw [ws_L_len]; omega) _).symm
