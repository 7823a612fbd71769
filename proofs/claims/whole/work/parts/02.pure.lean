/-! B: arrays: closing and making a gap, copying a block -/
def ws_cl (f : Nat → Int32) (a e : Nat) : Nat → Int32 := fun j => if a ≤ j ∧ j < e then f (j + 1) else f j
def ws_op (f : Nat → Int32) (a e : Nat) : Nat → Int32 := fun j => if a < j ∧ j ≤ e then f (j - 1) else f j
def ws_cp (f : Nat → Int32) (a b i : Nat) : Nat → Int32 := fun j => if b ≤ j ∧ j < b + i then f (a + (j - b)) else f j
theorem ws_cl0 (f : Nat → Int32) (a : Nat) : ws_cl f a a = f := by
  funext j
  unfold ws_cl
  rw [if_neg (by omega)]
theorem ws_cls (f : Nat → Int32) {a i : Nat} (h : a ≤ i) : upd (ws_cl f a i) i (ws_cl f a i (i + 1)) = ws_cl f a (i + 1) := by
  funext j
  unfold upd ws_cl
  by_cases e : j = i
  · subst e
    rw [if_pos rfl, if_neg (by omega), if_pos (by omega)]
  · rw [if_neg e]
    by_cases e2 : a ≤ j ∧ j < i
    · rw [if_pos e2, if_pos (by omega)]
    · rw [if_neg e2, if_neg (by omega)]
theorem ws_op0 (f : Nat → Int32) (a : Nat) : ws_op f a a = f := by
  funext j
  unfold ws_op
  rw [if_neg (by omega)]
theorem ws_ops (f : Nat → Int32) {i e : Nat} (h : i + 1 ≤ e) : upd (ws_op f (i + 1) e) (i + 1) (ws_op f (i + 1) e i) = ws_op f i e := by
  funext j
  unfold upd ws_op
  by_cases e1 : j = i + 1
  · subst e1
    rw [if_pos rfl, if_neg (by omega), if_pos (by omega), Nat.add_sub_cancel]
  · rw [if_neg e1]
    by_cases e2 : i + 1 < j ∧ j ≤ e
    · rw [if_pos e2, if_pos (by omega)]
    · rw [if_neg e2, if_neg (by omega)]
theorem ws_cp0 (f : Nat → Int32) (a b : Nat) : ws_cp f a b 0 = f := by
  funext j
  unfold ws_cp
  rw [if_neg (by omega)]
theorem ws_cps (f : Nat → Int32) {a b i : Nat} (h : a + i < b ∨ b + i ≤ a) : upd (ws_cp f a b i) (b + i) (ws_cp f a b i (a + i)) = ws_cp f a b (i + 1) := by
  funext j
  unfold upd ws_cp
  by_cases e1 : j = b + i
  · subst e1
    rw [if_pos rfl, if_neg (by omega), if_pos (by omega), Nat.add_sub_cancel_left]
  · rw [if_neg e1]
    by_cases e2 : b ≤ j ∧ j < b + i
    · rw [if_pos e2, if_pos (by omega)]
    · rw [if_neg e2, if_neg (by omega)]
theorem ws_cl_out {f : Nat → Int32} {a e j : Nat} (h : j < a ∨ e ≤ j) : ws_cl f a e j = f j := if_neg (by omega)
theorem ws_cl_in {f : Nat → Int32} {a e j : Nat} (h : a ≤ j) (h2 : j < e) : ws_cl f a e j = f (j + 1) := if_pos ⟨h, h2⟩
theorem ws_op_out {f : Nat → Int32} {a e j : Nat} (h : j ≤ a ∨ e < j) : ws_op f a e j = f j := if_neg (by omega)
theorem ws_op_in {f : Nat → Int32} {a e j : Nat} (h : a < j) (h2 : j ≤ e) : ws_op f a e j = f (j - 1) := if_pos ⟨h, h2⟩
theorem ws_cp_out {f : Nat → Int32} {a b i j : Nat} (h : j < b ∨ b + i ≤ j) : ws_cp f a b i j = f j := if_neg (by omega)
theorem ws_cp_in {f : Nat → Int32} {a b i j : Nat} (h : j < i) : ws_cp f a b i (b + j) = f (a + j) := by
  unfold ws_cp
  rw [if_pos (by omega), Nat.add_sub_cancel_left]
theorem ws_same (f : Nat → Int32) {k : Nat} {x : Int32} (h : f k = x) : upd f k x = f := by
  funext j
  unfold upd
  by_cases e : j = k
  · subst e
    rw [if_pos rfl, h]
  · rw [if_neg e]
theorem ws_uu (f : Nat → Int32) (k : Nat) (x y : Int32) : upd (upd f k x) k y = upd f k y := by
  funext j
  unfold upd
  by_cases e : j = k
  · rw [if_pos e, if_pos e]
  · rw [if_neg e, if_neg e, if_neg e]
theorem ws_uuL (f : Nat → Int64) (k : Nat) (x y : Int64) : vp_updL (vp_updL f k x) k y = vp_updL f k y := by
  funext j
  unfold vp_updL
  by_cases e : j = k
  · rw [if_pos e, if_pos e]
  · rw [if_neg e, if_neg e, if_neg e]
/-! C: the ranking's order -/
abbrev ws_lt (v m v' m' : Int32) : Prop := v < v' ∨ (v = v' ∧ m < m')
theorem ws_lt_i {v m v' m' : Int32} : ws_lt v m v' m' ↔ v.toInt < v'.toInt ∨ (v.toInt = v'.toInt ∧ m.toInt < m'.toInt) := by
  unfold ws_lt
  rw [Int32.lt_iff_toInt_lt, Int32.lt_iff_toInt_lt, Int32.toInt_inj]
theorem ws_lt_tr {a b c d e f : Int32} (h : ws_lt a b c d) (h2 : ws_lt c d e f) : ws_lt a b e f := by
  rw [ws_lt_i] at *
  omega
theorem ws_lt_ir {a b : Int32} : ¬ ws_lt a b a b := by
  rw [ws_lt_i]
  omega
theorem ws_lt_as {a b c d : Int32} (h : ws_lt a b c d) : ¬ ws_lt c d a b := by
  rw [ws_lt_i] at *
  omega
theorem ws_lt_to {a b c d : Int32} (h : ¬ ws_lt a b c d) (hn : b ≠ d) : ws_lt c d a b := by
  rw [ws_lt_i] at *
  rw [Ne, ← Int32.toInt_inj] at hn
  omega
/-! D: counting -/
def ws_c (P : Nat → Bool) : Nat → Nat
  | 0 => 0
  | n + 1 => ws_c P n + (if P n = true then 1 else 0)
theorem ws_c_cg {P Q : Nat → Bool} : ∀ {n : Nat}, (∀ j, j < n → P j = Q j) → ws_c P n = ws_c Q n
  | 0, _ => rfl
  | n + 1, h => by
    unfold ws_c
    rw [ws_c_cg (n := n) (fun j hj => h j (by omega)), h n (by omega)]
theorem ws_c_le (P : Nat → Bool) : ∀ n, ws_c P n ≤ n
  | 0 => Nat.le_refl 0
  | n + 1 => by
    have := ws_c_le P n
    unfold ws_c
    by_cases e : P n = true
    · rw [if_pos e]; omega
    · rw [if_neg e]; omega
theorem ws_c_lt (i : Nat) : ∀ n, ws_c (fun j => decide (j < i)) n = if n ≤ i then n else i
  | 0 => by rw [if_pos (Nat.zero_le i)]; rfl
  | n + 1 => by
    unfold ws_c
    rw [ws_c_lt i n]
    by_cases e : n < i
    · rw [if_pos (by omega), if_pos (by simpa using e), if_pos (by omega)]
    · rw [if_neg (show ¬ (decide (n < i) = true) by simpa using e), if_neg (show ¬ n + 1 ≤ i by omega)]
      by_cases e2 : n ≤ i
      · rw [if_pos e2]; omega
      · rw [if_neg e2, Nat.add_zero]
theorem ws_c_0 {P : Nat → Bool} : ∀ {n : Nat}, (ws_c P n = 0) → ∀ j, j < n → P j = false
  | 0, _, j, hj => by omega
  | n + 1, h, j, hj => by
    unfold ws_c at h
    by_cases e : P n = true
    · rw [if_pos e] at h; omega
    · rw [if_neg e] at h
      by_cases e2 : j = n
      · subst e2
        simpa using e
      · exact ws_c_0 (n := n) h j (by omega)
theorem ws_c_dn {P Q : Nat → Bool} {c : Nat} : ∀ {n : Nat}, c < n → P c = true → Q c = false → (∀ j, j < n → j ≠ c → Q j = P j) → ws_c P n = ws_c Q n + 1
  | 0, h, _, _, _ => by omega
  | n + 1, h, hp, hq, hj => by
    unfold ws_c
    by_cases e : c = n
    · subst e
      rw [if_pos hp, hq, ws_c_cg (P := P) (Q := Q) (n := c) (fun j h2 => (hj j (by omega) (by omega)).symm)]
      rfl
    · rw [ws_c_dn (n := n) (by omega) hp hq (fun j h2 h3 => hj j (by omega) h3), hj n (by omega) (fun z => e z.symm)]
      omega
/-! E: the pairs of a slot as a list -/
def ws_L (sc it : Nat → Int32) (b n : Nat) : List (Int32 × Int32) := (List.range n).map (fun i => (sc (b + i), it (b + i)))
theorem ws_L_len {sc it : Nat → Int32} {b n : Nat} : (ws_L sc it b n).length = n := by simp [ws_L]
theorem ws_L_get {sc it : Nat → Int32} {b n i : Nat} (h : i < (ws_L sc it b n).length) : (ws_L sc it b n)[i] = (sc (b + i), it (b + i)) := by simp [ws_L]
theorem ws_L_ext {sc it : Nat → Int32} {b n : Nat} {l : List (Int32 × Int32)} (hl : l.length = n) (h : ∀ i (hi : i < l.length), l[i] = (sc (b + i), it (b + i))) : ws_L sc it b n = l :=
  List.ext_getElem (by rw [ws_L_len, hl]) (fun i h1 h2 => by rw [ws_L_get, h i h2])
theorem ws_L_cg {sc it sc' it' : Nat → Int32} {b b' n : Nat} (h : ∀ i, i < n → sc' (b' + i) = sc (b + i) ∧ it' (b' + i) = it (b + i)) : ws_L sc' it' b' n = ws_L sc it b n :=
  ws_L_ext ws_L_len (fun i hi => by
    rw [ws_L_len] at hi
    rw [ws_L_get, (h i hi).1, (h i hi).2])
theorem ws_L_mem {sc it : Nat → Int32} {b n : Nat} {p : Int32 × Int32} : p ∈ ws_L sc it b n ↔ ∃ i, i < n ∧ (sc (b + i), it (b + i)) = p := by simp [ws_L]
theorem ws_L_s (sc it : Nat → Int32) (b n : Nat) : ws_L sc it b (n + 1) = ws_L sc it b n ++ [(sc (b + n), it (b + n))] := by simp [ws_L, List.range_succ]
theorem ws_L_er {sc it : Nat → Int32} {b n p : Nat} (h : p ≤ n) : ws_L (ws_cl sc (b + p) (b + n)) (ws_cl it (b + p) (b + n)) b n = (ws_L sc it b (n + 1)).eraseIdx p := by
  apply ws_L_ext
  · rw [List.length_eraseIdx, ws_L_len, if_pos (by omega)]; omega
  · intro i hi
    have hl : (ws_L sc it b (n + 1)).length = n + 1 := ws_L_len
    rw [List.length_eraseIdx, hl, if_pos (by omega)] at hi
    rw [List.getElem_eraseIdx]
    by_cases e : i < p
    · rw [dif_pos e, ws_L_get, ws_cl_out (by omega), ws_cl_out (by omega)]
    · rw [dif_neg e, ws_L_get, ws_cl_in (by omega) (by omega), ws_cl_in (by omega) (by omega)]
      all_goals rfl
theorem ws_L_in {sc it : Nat → Int32} {b n p : Nat} {v m : Int32} (h : p ≤ n) : ws_L (upd (ws_op sc (b + p) (b + n)) (b + p) v) (upd (ws_op it (b + p) (b + n)) (b + p) m) b (n + 1) = (ws_L sc it b n).insertIdx p (v, m) := by
  have hl : (ws_L sc it b n).length = n := ws_L_len
  apply ws_L_ext
  · rw [List.length_insertIdx, hl, if_pos h]
  · intro i hi
    rw [List.length_insertIdx, hl, if_pos h] at hi
    rw [List.getElem_insertIdx]
    by_cases e : i < p
    · rw [dif_pos e, ws_L_get, pk_un (by omega), pk_un (by omega), ws_op_out (by omega), ws_op_out (by omega)]
    · rw [dif_neg e]
      by_cases e2 : i = p
      · subst e2
        rw [dif_pos rfl, pk_us, pk_us]
      · rw [dif_neg e2, ws_L_get, pk_un (by omega), pk_un (by omega), ws_op_in (by omega) (by omega), ws_op_in (by omega) (by omega), show b + i - 1 = b + (i - 1) by omega]
theorem ws_L_ap {sc it : Nat → Int32} {b n : Nat} {v m : Int32} : ws_L (upd sc (b + n) v) (upd it (b + n) m) b (n + 1) = ws_L sc it b n ++ [(v, m)] := by
  rw [ws_L_s, pk_us, pk_us, ws_L_cg (sc := sc) (it := it) (b := b) (b' := b) (fun i hi => ⟨pk_un (by omega), pk_un (by omega)⟩)]
theorem ws_L_st {sc it : Nat → Int32} {b n p : Nat} {v : Int32} : ws_L (upd sc (b + p) v) it b n = (ws_L sc it b n).set p (v, it (b + p)) := by
  apply ws_L_ext
  · rw [List.length_set, ws_L_len]
  · intro i hi
    rw [List.getElem_set]
    by_cases e : p = i
    · subst e
      rw [if_pos rfl, pk_us]
    · rw [if_neg e, ws_L_get, pk_un (by omega)]
theorem ws_er {α : Type} : ∀ (l : List α) (i : Nat) (h : i < l.length), (l[i] :: l.eraseIdx i).Perm l
  | [], i, h => absurd h (Nat.not_lt_zero i)
  | a :: l, 0, _ => List.Perm.refl _
  | a :: l, i + 1, h => by
    have h2 : i < l.length := by simpa using h
    have := ws_er l i h2
    simp only [List.getElem_cons_succ, List.eraseIdx_cons_succ]
    exact (List.Perm.swap _ _ _).trans (this.cons a)
theorem ws_set {α : Type} (l : List α) (i : Nat) (h : i < l.length) (x : α) : (l.set i x).Perm (x :: l.eraseIdx i) := by
  have h1 := ws_er (l.set i x) i (by rw [List.length_set]; exact h)
  rw [List.eraseIdx_set_eq, List.getElem_set, if_pos rfl] at h1
  exact h1.symm
theorem ws_L_ct {sc it : Nat → Int32} {b : Nat} (p : Int32 × Int32 → Bool) : ∀ n, (ws_L sc it b n).countP p = ws_c (fun i => p (sc (b + i), it (b + i))) n
  | 0 => rfl
  | n + 1 => by
    rw [ws_L_s, List.countP_append, ws_L_ct p n, List.countP_singleton]
    all_goals rfl
