section
/-! A: rows of kit/rows that are used here (pasted) -/
theorem pk_us {f : Nat → Int32} {k : Nat} {x : Int32} : upd f k x k = x := if_pos rfl
theorem pk_un {f : Nat → Int32} {k j : Nat} {x : Int32} (h : j ≠ k) : upd f k x j = f j := if_neg h
theorem pk_uLs {f : Nat → Int64} {k : Nat} {x : Int64} : vp_updL f k x k = x := if_pos rfl
theorem pk_uLn {f : Nat → Int64} {k j : Nat} {x : Int64} (h : j ≠ k) : vp_updL f k x j = f j := if_neg h
theorem pk_sub {a b : Nat} (h : b ≤ a) : nI a - nI b = nI (a - b) := by
  obtain ⟨c, rfl⟩ : ∃ c, a = c + b := ⟨a - b, by omega⟩
  rw [← nI_add, Int32.add_sub_cancel, Nat.add_sub_cancel]
theorem pk_m1 (n : Nat) : nI (n + 1) + (-1) = nI n := by
  rw [← nI_1, Int32.add_assoc, show (1 : Int32) + (-1) = 0 from rfl, Int32.add_zero]
theorem pk_mul (a b : Nat) : nI a * nI b = nI (a * b) := (Int32.ofNat_mul a b).symm
theorem pk_ix (x : Int32) {n : Nat} (hn : n < 2 ^ 31) : x < 0 ∨ nI n ≤ x ∨ ∃ j : Nat, j < n ∧ x = nI j := by
  by_cases h : x < 0
  · exact Or.inl h
  · obtain ⟨j, hj, rfl⟩ := nI_of h
    by_cases h2 : j < n
    · exact Or.inr (Or.inr ⟨j, h2, rfl⟩)
    · exact Or.inr (Or.inl (nI_le (by omega) hj))
theorem pk_le {x y : Int32} {A B : Prop} (a b : Nat) (f : a ≤ b → A) (g : b < a → B) (hx : x = nI a := by rfl) (hy : y = nI b := by rfl) (ha : a < 2 ^ 31 := by omega) (hb : b < 2 ^ 31 := by omega) : (x ≤ y → A) ∧ (¬ x ≤ y → B) := by
  subst hx hy
  rw [nI_leI ha hb]
  exact ⟨f, fun z => g (by omega)⟩
theorem pk_lt {x y : Int32} {A B : Prop} (a b : Nat) (f : a < b → A) (g : b ≤ a → B) (hx : x = nI a := by rfl) (hy : y = nI b := by rfl) (ha : a < 2 ^ 31 := by omega) (hb : b < 2 ^ 31 := by omega) : (x < y → A) ∧ (¬ x < y → B) := by
  subst hx hy
  rw [nI_ltI ha hb]
  exact ⟨f, fun z => g (by omega)⟩
theorem pk_eq {x y : Int32} {A B : Prop} (a b : Nat) (f : a = b → A) (g : a ≠ b → B) (hx : x = nI a := by rfl) (hy : y = nI b := by rfl) (ha : a < 2 ^ 31 := by omega) (hb : b < 2 ^ 31 := by omega) : (x = y → A) ∧ (¬ x = y → B) := by
  subst hx hy
  rw [nI_eq ha hb]
  exact ⟨f, g⟩
theorem pk_in {x : Int32} (n N : Nat) (h : n < N) (hx : x = nI n := by rfl) (hN : N < 2 ^ 31 := by omega) : vp_in x N := by
  subst hx
  exact vp_in_nI h hN
theorem pk_cl {x : Int32} (n : Nat) (hx : x = nI n := by rfl) (h : n < 2 ^ 31 := by omega) : x.toNatClampNeg = n := by
  subst hx
  exact nI_clamp h
theorem pk_tn {n : Nat} (h : n < 2 ^ 32) : (nI n).toBitVec.toNat = n := Nat.mod_eq_of_lt h
theorem pk_least (P : Nat → Prop) (h : ∃ k, P k) : ∃ k, P k ∧ ∀ j, j < k → ¬ P j := by
  obtain ⟨k, hk⟩ := h
  induction k using Nat.strongRecOn with
  | ind k ih =>
    by_cases e : ∃ j, j < k ∧ P j
    · obtain ⟨j, hj, pj⟩ := e
      exact ih j hj pj
    · exact ⟨k, hk, fun j hj pj => e ⟨j, hj, pj⟩⟩
theorem pk_loop {σ : Type} (W : Nat → Nat → σ → Prop) (I : Nat → σ → Prop) (e i0 : Nat) (s : σ) (hi : i0 ≤ e) (h0 : I i0 s) (hx : ∀ n s, I e s → W (n + 1) e s)
    (hs : ∀ n i s, i < e → I i s → (∀ s', I (i + 1) s' → W n (i + 1) s') → W (n + 1) i s) : ∃ n, W n i0 s :=
  ⟨e + 1, loop_i W I e hx hs (e + 1) i0 s hi (by omega) h0⟩
theorem pk_loopD {σ : Type} (W : Nat → Nat → σ → Prop) (I : Nat → σ → Prop) (hx : ∀ n s, I 0 s → W (n + 1) 0 s)
    (hs : ∀ n i s, I (i + 1) s → (∀ s', I i s' → W n i s') → W (n + 1) (i + 1) s) : ∀ (e : Nat) (s : σ), I e s → W (e + 1) e s := by
  intro e
  induction e with
  | zero => exact fun s h => hx 0 s h
  | succ e ih => exact fun s h => hs (e + 1) e s h (fun s' h' => ih s' h')
def bt (x : Int32) (i : Nat) : Bool := x.toBitVec.getLsbD i
theorem b_ext {x y : Int32} (h : ∀ i, i < 32 → bt x i = bt y i) : x = y := Int32.toBitVec_inj.mp (BitVec.eq_of_getLsbD_eq (fun i hi => h i hi))
theorem b_or (x y : Int32) (i : Nat) : bt (x ||| y) i = (bt x i || bt y i) := by unfold bt; rw [Int32.toBitVec_or, BitVec.getLsbD_or]
theorem b_and (x y : Int32) (i : Nat) : bt (x &&& y) i = (bt x i && bt y i) := by unfold bt; rw [Int32.toBitVec_and, BitVec.getLsbD_and]
theorem b_big {x : Int32} {i : Nat} (h : 32 ≤ i) : bt x i = false := BitVec.getLsbD_of_ge _ _ h
theorem b_0 (i : Nat) : bt 0 i = false := BitVec.getLsbD_zero
theorem s_l : ∀ n, n < 32 → ((nI n &&& 31).toBitVec.smod 32).toNat = n := by decide +kernel
theorem b_shl (n : Nat) (hn : n < 32) (x : Int32) {i : Nat} (hi : i < 32) : bt (x <<< (nI n &&& 31)) i = (decide (n ≤ i) && bt x (i - n)) := by
  unfold bt
  rw [Int32.toBitVec_shiftLeft]
  show (x.toBitVec <<< ((nI n &&& 31).toBitVec.smod 32).toNat).getLsbD i = _
  rw [s_l n hn, BitVec.getLsbD_shiftLeft]
  rcases Nat.lt_or_ge i n with h | h
  · simp [h, Nat.not_le.mpr h]
  · simp [hi, h, Nat.not_lt.mpr h]
theorem b_sshr (n : Nat) (hn : n < 32) (x : Int32) {i : Nat} (hi : i < 32) : bt (x >>> (nI n &&& 31)) i = if n + i < 32 then bt x (n + i) else bt x 31 := by
  unfold bt
  rw [Int32.toBitVec_shiftRight]
  show (x.toBitVec.sshiftRight ((nI n &&& 31).toBitVec.smod 32).toNat).getLsbD i = _
  rw [s_l n hn, BitVec.getLsbD_sshiftRight, BitVec.msb_eq_getLsbD_last]
  simp [hi]
end
section
/-! B: arrays: closing and making a gap, copying a block -/
def ws_cl (f : Nat → Int32) (a e : Nat) : Nat → Int32 := fun j => if a ≤ j ∧ j < e then f (j + 1) else f j
def ws_op (f : Nat → Int32) (a e : Nat) : Nat → Int32 := fun j => if a < j ∧ j ≤ e then f (j - 1) else f j
def ws_cp (f : Nat → Int32) (a b i : Nat) : Nat → Int32 := fun j => if b ≤ j ∧ j < b + i then f (a + (j - b)) else f j
theorem ws_cl0 (f : Nat → Int32) (a : Nat) : ws_cl f a a = f := by
  funext j
  unfold ws_cl
  rw [if_neg (by omega)]
theorem ws_cls (f : Nat → Int32) {a i : Nat} (h : a ≤ i) : upd (ws_cl f a i) i (ws_cl f a i (i + 1)) = ws_cl f a (i + 1) := by
  funext j
  unfold upd ws_cl
  by_cases e : j = i
  · subst e
    rw [if_pos rfl, if_neg (by omega), if_pos (by omega)]
  · rw [if_neg e]
    by_cases e2 : a ≤ j ∧ j < i
    · rw [if_pos e2, if_pos (by omega)]
    · rw [if_neg e2, if_neg (by omega)]
theorem ws_op0 (f : Nat → Int32) (a : Nat) : ws_op f a a = f := by
  funext j
  unfold ws_op
  rw [if_neg (by omega)]
theorem ws_ops (f : Nat → Int32) {i e : Nat} (h : i + 1 ≤ e) : upd (ws_op f (i + 1) e) (i + 1) (ws_op f (i + 1) e i) = ws_op f i e := by
  funext j
  unfold upd ws_op
  by_cases e1 : j = i + 1
  · subst e1
    rw [if_pos rfl, if_neg (by omega), if_pos (by omega), Nat.add_sub_cancel]
  · rw [if_neg e1]
    by_cases e2 : i + 1 < j ∧ j ≤ e
    · rw [if_pos e2, if_pos (by omega)]
    · rw [if_neg e2, if_neg (by omega)]
theorem ws_cp0 (f : Nat → Int32) (a b : Nat) : ws_cp f a b 0 = f := by
  funext j
  unfold ws_cp
  rw [if_neg (by omega)]
theorem ws_cps (f : Nat → Int32) {a b i : Nat} (h : a + i < b ∨ b + i ≤ a) : upd (ws_cp f a b i) (b + i) (ws_cp f a b i (a + i)) = ws_cp f a b (i + 1) := by
  funext j
  unfold upd ws_cp
  by_cases e1 : j = b + i
  · subst e1
    rw [if_pos rfl, if_neg (by omega), if_pos (by omega), Nat.add_sub_cancel_left]
  · rw [if_neg e1]
    by_cases e2 : b ≤ j ∧ j < b + i
    · rw [if_pos e2, if_pos (by omega)]
    · rw [if_neg e2, if_neg (by omega)]
theorem ws_cl_out {f : Nat → Int32} {a e j : Nat} (h : j < a ∨ e ≤ j) : ws_cl f a e j = f j := if_neg (by omega)
theorem ws_cl_in {f : Nat → Int32} {a e j : Nat} (h : a ≤ j) (h2 : j < e) : ws_cl f a e j = f (j + 1) := if_pos ⟨h, h2⟩
theorem ws_op_out {f : Nat → Int32} {a e j : Nat} (h : j ≤ a ∨ e < j) : ws_op f a e j = f j := if_neg (by omega)
theorem ws_op_in {f : Nat → Int32} {a e j : Nat} (h : a < j) (h2 : j ≤ e) : ws_op f a e j = f (j - 1) := if_pos ⟨h, h2⟩
theorem ws_cp_out {f : Nat → Int32} {a b i j : Nat} (h : j < b ∨ b + i ≤ j) : ws_cp f a b i j = f j := if_neg (by omega)
theorem ws_cp_in {f : Nat → Int32} {a b i j : Nat} (h : j < i) : ws_cp f a b i (b + j) = f (a + j) := by
  unfold ws_cp
  rw [if_pos (by omega), Nat.add_sub_cancel_left]
theorem ws_same (f : Nat → Int32) {k : Nat} {x : Int32} (h : f k = x) : upd f k x = f := by
  funext j
  unfold upd
  by_cases e : j = k
  · subst e
    rw [if_pos rfl, h]
  · rw [if_neg e]
theorem ws_uu (f : Nat → Int32) (k : Nat) (x y : Int32) : upd (upd f k x) k y = upd f k y := by
  funext j
  unfold upd
  by_cases e : j = k
  · rw [if_pos e, if_pos e]
  · rw [if_neg e, if_neg e, if_neg e]
theorem ws_uuL (f : Nat → Int64) (k : Nat) (x y : Int64) : vp_updL (vp_updL f k x) k y = vp_updL f k y := by
  funext j
  unfold vp_updL
  by_cases e : j = k
  · rw [if_pos e, if_pos e]
  · rw [if_neg e, if_neg e, if_neg e]
/-! C: the ranking's order -/
abbrev ws_lt (v m v' m' : Int32) : Prop := v < v' ∨ (v = v' ∧ m < m')
theorem ws_lt_i {v m v' m' : Int32} : ws_lt v m v' m' ↔ v.toInt < v'.toInt ∨ (v.toInt = v'.toInt ∧ m.toInt < m'.toInt) := by
  unfold ws_lt
  rw [Int32.lt_iff_toInt_lt, Int32.lt_iff_toInt_lt, Int32.toInt_inj]
theorem ws_lt_tr {a b c d e f : Int32} (h : ws_lt a b c d) (h2 : ws_lt c d e f) : ws_lt a b e f := by
  rw [ws_lt_i] at *
  omega
theorem ws_lt_ir {a b : Int32} : ¬ ws_lt a b a b := by
  rw [ws_lt_i]
  omega
theorem ws_lt_as {a b c d : Int32} (h : ws_lt a b c d) : ¬ ws_lt c d a b := by
  rw [ws_lt_i] at *
  omega
theorem ws_lt_to {a b c d : Int32} (h : ¬ ws_lt a b c d) (hn : b ≠ d) : ws_lt c d a b := by
  rw [ws_lt_i] at *
  rw [Ne, ← Int32.toInt_inj] at hn
  omega
/-! D: counting -/
def ws_c (P : Nat → Bool) : Nat → Nat
  | 0 => 0
  | n + 1 => ws_c P n + (if P n = true then 1 else 0)
theorem ws_c_cg {P Q : Nat → Bool} : ∀ {n : Nat}, (∀ j, j < n → P j = Q j) → ws_c P n = ws_c Q n
  | 0, _ => rfl
  | n + 1, h => by
    unfold ws_c
    rw [ws_c_cg (n := n) (fun j hj => h j (by omega)), h n (by omega)]
theorem ws_c_le (P : Nat → Bool) : ∀ n, ws_c P n ≤ n
  | 0 => Nat.le_refl 0
  | n + 1 => by
    have := ws_c_le P n
    unfold ws_c
    by_cases e : P n = true
    · rw [if_pos e]; omega
    · rw [if_neg e]; omega
theorem ws_c_lt (i : Nat) : ∀ n, ws_c (fun j => decide (j < i)) n = if n ≤ i then n else i
  | 0 => by rw [if_pos (Nat.zero_le i)]; rfl
  | n + 1 => by
    unfold ws_c
    rw [ws_c_lt i n]
    by_cases e : n < i
    · rw [if_pos (by omega), if_pos (by simpa using e), if_pos (by omega)]
    · rw [if_neg (show ¬ (decide (n < i) = true) by simpa using e), if_neg (show ¬ n + 1 ≤ i by omega)]
      by_cases e2 : n ≤ i
      · rw [if_pos e2]; omega
      · rw [if_neg e2, Nat.add_zero]
theorem ws_c_0 {P : Nat → Bool} : ∀ {n : Nat}, (ws_c P n = 0) → ∀ j, j < n → P j = false
  | 0, _, j, hj => by omega
  | n + 1, h, j, hj => by
    unfold ws_c at h
    by_cases e : P n = true
    · rw [if_pos e] at h; omega
    · rw [if_neg e] at h
      by_cases e2 : j = n
      · subst e2
        simpa using e
      · exact ws_c_0 (n := n) h j (by omega)
theorem ws_c_dn {P Q : Nat → Bool} {c : Nat} : ∀ {n : Nat}, c < n → P c = true → Q c = false → (∀ j, j < n → j ≠ c → Q j = P j) → ws_c P n = ws_c Q n + 1
  | 0, h, _, _, _ => by omega
  | n + 1, h, hp, hq, hj => by
    unfold ws_c
    by_cases e : c = n
    · subst e
      rw [if_pos hp, hq, ws_c_cg (P := P) (Q := Q) (n := c) (fun j h2 => (hj j (by omega) (by omega)).symm)]
      rfl
    · rw [ws_c_dn (n := n) (by omega) hp hq (fun j h2 h3 => hj j (by omega) h3), hj n (by omega) (fun z => e z.symm)]
      omega
/-! E: the pairs of a slot as a list -/
def ws_L (sc it : Nat → Int32) (b n : Nat) : List (Int32 × Int32) := (List.range n).map (fun i => (sc (b + i), it (b + i)))
theorem ws_L_len {sc it : Nat → Int32} {b n : Nat} : (ws_L sc it b n).length = n := by simp [ws_L]
theorem ws_L_get {sc it : Nat → Int32} {b n i : Nat} (h : i < (ws_L sc it b n).length) : (ws_L sc it b n)[i] = (sc (b + i), it (b + i)) := by simp [ws_L]
theorem ws_L_ext {sc it : Nat → Int32} {b n : Nat} {l : List (Int32 × Int32)} (hl : l.length = n) (h : ∀ i (hi : i < l.length), l[i] = (sc (b + i), it (b + i))) : ws_L sc it b n = l :=
  List.ext_getElem (by rw [ws_L_len, hl]) (fun i h1 h2 => by rw [ws_L_get, h i h2])
theorem ws_L_cg {sc it sc' it' : Nat → Int32} {b b' n : Nat} (h : ∀ i, i < n → sc' (b' + i) = sc (b + i) ∧ it' (b' + i) = it (b + i)) : ws_L sc' it' b' n = ws_L sc it b n :=
  ws_L_ext ws_L_len (fun i hi => by
    rw [ws_L_len] at hi
    rw [ws_L_get, (h i hi).1, (h i hi).2])
theorem ws_L_mem {sc it : Nat → Int32} {b n : Nat} {p : Int32 × Int32} : p ∈ ws_L sc it b n ↔ ∃ i, i < n ∧ (sc (b + i), it (b + i)) = p := by simp [ws_L]
theorem ws_L_s (sc it : Nat → Int32) (b n : Nat) : ws_L sc it b (n + 1) = ws_L sc it b n ++ [(sc (b + n), it (b + n))] := by simp [ws_L, List.range_succ]
theorem ws_L_er {sc it : Nat → Int32} {b n p : Nat} (h : p ≤ n) : ws_L (ws_cl sc (b + p) (b + n)) (ws_cl it (b + p) (b + n)) b n = (ws_L sc it b (n + 1)).eraseIdx p := by
  apply ws_L_ext
  · rw [List.length_eraseIdx, ws_L_len, if_pos (by omega)]; omega
  · intro i hi
    have hl : (ws_L sc it b (n + 1)).length = n + 1 := ws_L_len
    rw [List.length_eraseIdx, hl, if_pos (by omega)] at hi
    rw [List.getElem_eraseIdx]
    by_cases e : i < p
    · rw [dif_pos e, ws_L_get, ws_cl_out (by omega), ws_cl_out (by omega)]
    · rw [dif_neg e, ws_L_get, ws_cl_in (by omega) (by omega), ws_cl_in (by omega) (by omega)]
      all_goals rfl
theorem ws_L_in {sc it : Nat → Int32} {b n p : Nat} {v m : Int32} (h : p ≤ n) : ws_L (upd (ws_op sc (b + p) (b + n)) (b + p) v) (upd (ws_op it (b + p) (b + n)) (b + p) m) b (n + 1) = (ws_L sc it b n).insertIdx p (v, m) := by
  have hl : (ws_L sc it b n).length = n := ws_L_len
  apply ws_L_ext
  · rw [List.length_insertIdx, hl, if_pos h]
  · intro i hi
    rw [List.length_insertIdx, hl, if_pos h] at hi
    rw [List.getElem_insertIdx]
    by_cases e : i < p
    · rw [dif_pos e, ws_L_get, pk_un (by omega), pk_un (by omega), ws_op_out (by omega), ws_op_out (by omega)]
    · rw [dif_neg e]
      by_cases e2 : i = p
      · subst e2
        rw [dif_pos rfl, pk_us, pk_us]
      · rw [dif_neg e2, ws_L_get, pk_un (by omega), pk_un (by omega), ws_op_in (by omega) (by omega), ws_op_in (by omega) (by omega), show b + i - 1 = b + (i - 1) by omega]
theorem ws_L_ap {sc it : Nat → Int32} {b n : Nat} {v m : Int32} : ws_L (upd sc (b + n) v) (upd it (b + n) m) b (n + 1) = ws_L sc it b n ++ [(v, m)] := by
  rw [ws_L_s, pk_us, pk_us, ws_L_cg (sc := sc) (it := it) (b := b) (b' := b) (fun i hi => ⟨pk_un (by omega), pk_un (by omega)⟩)]
theorem ws_L_st {sc it : Nat → Int32} {b n p : Nat} {v : Int32} : ws_L (upd sc (b + p) v) it b n = (ws_L sc it b n).set p (v, it (b + p)) := by
  apply ws_L_ext
  · rw [List.length_set, ws_L_len]
  · intro i hi
    rw [List.getElem_set]
    by_cases e : p = i
    · subst e
      rw [if_pos rfl, pk_us]
    · rw [if_neg e, ws_L_get, pk_un (by omega)]
theorem ws_er {α : Type} : ∀ (l : List α) (i : Nat) (h : i < l.length), (l[i] :: l.eraseIdx i).Perm l
  | [], i, h => absurd h (Nat.not_lt_zero i)
  | a :: l, 0, _ => List.Perm.refl _
  | a :: l, i + 1, h => by
    have h2 : i < l.length := by simpa using h
    have := ws_er l i h2
    simp only [List.getElem_cons_succ, List.eraseIdx_cons_succ]
    exact (List.Perm.swap _ _ _).trans (this.cons a)
theorem ws_set {α : Type} (l : List α) (i : Nat) (h : i < l.length) (x : α) : (l.set i x).Perm (x :: l.eraseIdx i) := by
  have h1 := ws_er (l.set i x) i (by rw [List.length_set]; exact h)
  rw [List.eraseIdx_set_eq, List.getElem_set, if_pos rfl] at h1
  exact h1.symm
theorem ws_L_ct {sc it : Nat → Int32} {b : Nat} (p : Int32 × Int32 → Bool) : ∀ n, (ws_L sc it b n).countP p = ws_c (fun i => p (sc (b + i), it (b + i))) n
  | 0 => rfl
  | n + 1 => by
    rw [ws_L_s, List.countP_append, ws_L_ct p n, List.countP_singleton]
    all_goals rfl
end
section
/-! F: a slot of X against a slot of Y -/
def ws_S (sc it : Nat → Int32) (b n : Nat) : Prop := ∀ i j, i < j → j < n → ws_lt (sc (b + i)) (it (b + i)) (sc (b + j)) (it (b + j))
def ws_D (it : Nat → Int32) (b n : Nat) : Prop := ∀ i j, i < j → j < n → it (b + i) ≠ it (b + j)
def ws_R (ix sx iy sy : Nat → Int32) (b n : Nat) : Prop := ws_S sx ix b n ∧ ws_D ix b n ∧ (ws_L sx ix b n).Perm (ws_L sy iy b n)
def ws_K (k z : Int32) (ix sx iy sy : Nat → Int32) (b : Nat) : Prop :=
  ∃ n : Nat, n ≤ 12 ∧ z = nI n ∧ ((k = 0 ∧ n = 0) ∨ (k = 1 ∧ n = 0) ∨ (k = 2 ∧ 0 < n ∧ ∀ i, i < n → ix (b + i) = iy (b + i)) ∨ (k = 3 ∧ 0 < n ∧ ws_R ix sx iy sy b n))
def st_R (kd sz dl ix sx iy sy : Nat → Int32) : Prop := ∀ s, s < 16 → (0 : Int32) ≤ dl s ∧ ws_K (kd s) (sz s) ix sx iy sy (12 * s)
theorem ws_K_cg {k z : Int32} {ix sx iy sy ix' sx' iy' sy' : Nat → Int32} {b b' : Nat} (h : ws_K k z ix sx iy sy b)
    (e : ∀ i, i < 12 → ix' (b' + i) = ix (b + i) ∧ sx' (b' + i) = sx (b + i) ∧ iy' (b' + i) = iy (b + i) ∧ sy' (b' + i) = sy (b + i)) : ws_K k z ix' sx' iy' sy' b' := by
  obtain ⟨n, hn, hz, h⟩ := h
  refine ⟨n, hn, hz, ?_⟩
  rcases h with h | h | ⟨h1, h2, h3⟩ | ⟨h1, h2, h3, h4, h5⟩
  · exact Or.inl h
  · exact Or.inr (Or.inl h)
  · refine Or.inr (Or.inr (Or.inl ⟨h1, h2, fun i hi => ?_⟩))
    rw [(e i (by omega)).1, (e i (by omega)).2.2.1, h3 i hi]
  · refine Or.inr (Or.inr (Or.inr ⟨h1, h2, fun i j hij hj => ?_, fun i j hij hj => ?_, ?_⟩))
    · rw [(e i (by omega)).1, (e i (by omega)).2.1, (e j (by omega)).1, (e j (by omega)).2.1]
      exact h3 i j hij hj
    · rw [(e i (by omega)).1, (e j (by omega)).1]
      exact h4 i j hij hj
    · rw [ws_L_cg (sc := sx) (it := ix) (b := b) (fun i hi => ⟨(e i (by omega)).2.1, (e i (by omega)).1⟩), ws_L_cg (sc := sy) (it := iy) (b := b) (fun i hi => ⟨(e i (by omega)).2.2.2, (e i (by omega)).2.2.1⟩)]
      exact h5
theorem st_up {kd sz dl ix sx iy sy kd' sz' dl' ix' sx' iy' sy' : Nat → Int32} (h : st_R kd sz dl ix sx iy sy) (k : Nat)
    (hk : ∀ s, s ≠ k → kd' s = kd s ∧ sz' s = sz s ∧ dl' s = dl s)
    (ha : ∀ j, (j < 12 * k ∨ 12 * k + 12 ≤ j) → ix' j = ix j ∧ sx' j = sx j ∧ iy' j = iy j ∧ sy' j = sy j)
    (hd : (0 : Int32) ≤ dl' k) (hn : ws_K (kd' k) (sz' k) ix' sx' iy' sy' (12 * k)) : st_R kd' sz' dl' ix' sx' iy' sy' := by
  intro s hs
  by_cases e : s = k
  · subst e
    exact ⟨hd, hn⟩
  · obtain ⟨e1, e2, e3⟩ := hk s e
    rw [e1, e2, e3]
    obtain ⟨h1, h2⟩ := h s hs
    exact ⟨h1, ws_K_cg h2 (fun i hi => ha _ (by omega))⟩
theorem ws_rk {sc it : Nat → Int32} {b n i : Nat} (h : ws_S sc it b n) (hi : i < n) : ws_c (fun j => decide (ws_lt (sc (b + j)) (it (b + j)) (sc (b + i)) (it (b + i)))) n = i := by
  have e : ws_c (fun j => decide (ws_lt (sc (b + j)) (it (b + j)) (sc (b + i)) (it (b + i)))) n = ws_c (fun j => decide (j < i)) n := by
    apply ws_c_cg
    intro j hj
    apply decide_eq_decide.mpr
    constructor
    · intro hl
      rcases Nat.lt_trichotomy j i with c | c | c
      · exact c
      · subst c
        exact absurd hl ws_lt_ir
      · exact absurd hl (ws_lt_as (h i j c hj))
    · intro c
      exact h j i c hi
  rw [e, ws_c_lt]
  by_cases c : n ≤ i
  · omega
  · rw [if_neg c]
theorem ws_toX {ix sx iy sy : Nat → Int32} {b n q : Nat} (h : ws_R ix sx iy sy b n) (hq : q < n) : ∃ i, i < n ∧ sx (b + i) = sy (b + q) ∧ ix (b + i) = iy (b + q) := by
  have h1 : (sy (b + q), iy (b + q)) ∈ ws_L sy iy b n := ws_L_mem.mpr ⟨q, hq, rfl⟩
  obtain ⟨i, hi, e⟩ := ws_L_mem.mp (h.2.2.mem_iff.mpr h1)
  exact ⟨i, hi, congrArg Prod.fst e, congrArg Prod.snd e⟩
theorem ws_toY {ix sx iy sy : Nat → Int32} {b n q : Nat} (h : ws_R ix sx iy sy b n) (hq : q < n) : ∃ i, i < n ∧ sy (b + i) = sx (b + q) ∧ iy (b + i) = ix (b + q) := by
  have h1 : (sx (b + q), ix (b + q)) ∈ ws_L sx ix b n := ws_L_mem.mpr ⟨q, hq, rfl⟩
  obtain ⟨i, hi, e⟩ := ws_L_mem.mp (h.2.2.mem_iff.mp h1)
  exact ⟨i, hi, congrArg Prod.fst e, congrArg Prod.snd e⟩
theorem ws_rkY {ix sx iy sy : Nat → Int32} {b n q i : Nat} (h : ws_R ix sx iy sy b n) (hi : i < n) (e1 : sx (b + i) = sy (b + q)) (e2 : ix (b + i) = iy (b + q)) :
    ws_c (fun j => decide (ws_lt (sy (b + j)) (iy (b + j)) (sy (b + q)) (iy (b + q)))) n = i := by
  have c := h.2.2.countP_eq (fun r => decide (ws_lt r.1 r.2 (sy (b + q)) (iy (b + q))))
  rw [ws_L_ct, ws_L_ct] at c
  rw [← ws_rk h.1 hi, e1, e2]
  exact c.symm
/-- what a search for member m answers -/
def ws_F (it : Nat → Int32) (b n : Nat) (m r : Int32) : Prop := (r = -1 ∧ ∀ i, i < n → it (b + i) ≠ m) ∨ (∃ p, p < n ∧ it (b + p) = m ∧ (∀ i, i < p → it (b + i) ≠ m) ∧ r = nI p)
theorem ws_Fex (it : Nat → Int32) (b n : Nat) (m : Int32) : ∃ r, ws_F it b n m r := by
  by_cases h : ∃ p, p < n ∧ it (b + p) = m
  · obtain ⟨p, ⟨hp, e⟩, hl⟩ := pk_least _ h
    exact ⟨nI p, Or.inr ⟨p, hp, e, fun i hi z => hl i hi ⟨by omega, z⟩, rfl⟩⟩
  · exact ⟨-1, Or.inl ⟨rfl, fun i hi z => h ⟨i, hi, z⟩⟩⟩
theorem ws_cl_at {f : Nat → Int32} {b p n i : Nat} (h : i < n) : ws_cl f (b + p) (b + n) (b + i) = f (b + (if i < p then i else i + 1)) := by
  by_cases e : i < p
  · rw [if_pos e, ws_cl_out (by omega)]
  · rw [if_neg e, ws_cl_in (by omega) (by omega)]
    all_goals rfl
theorem ws_in_at {f : Nat → Int32} {b p n i : Nat} {v : Int32} (h : i ≤ n) : upd (ws_op f (b + p) (b + n)) (b + p) v (b + i) = if i < p then f (b + i) else if i = p then v else f (b + (i - 1)) := by
  by_cases e : i < p
  · rw [if_pos e, pk_un (by omega), ws_op_out (by omega)]
  · rw [if_neg e]
    by_cases e2 : i = p
    · subst e2
      rw [if_pos rfl, pk_us]
    · rw [if_neg e2, pk_un (by omega), ws_op_in (by omega) (by omega), show b + i - 1 = b + (i - 1) by omega]
theorem ws_S_er {sc it : Nat → Int32} {b n p : Nat} (h : ws_S sc it b (n + 1)) : ws_S (ws_cl sc (b + p) (b + n)) (ws_cl it (b + p) (b + n)) b n := by
  intro i j hij hj
  rw [ws_cl_at (by omega), ws_cl_at (by omega), ws_cl_at hj, ws_cl_at hj]
  exact h _ _ (by split <;> split <;> omega) (by split <;> omega)
theorem ws_D_er {it : Nat → Int32} {b n p : Nat} (h : ws_D it b (n + 1)) : ws_D (ws_cl it (b + p) (b + n)) b n := by
  intro i j hij hj
  rw [ws_cl_at (by omega), ws_cl_at hj]
  exact h _ _ (by split <;> split <;> omega) (by split <;> omega)
theorem ws_P_er {ix sx iy sy : Nat → Int32} {b n p q : Nat} (h : (ws_L sx ix b (n + 1)).Perm (ws_L sy iy b (n + 1))) (hp : p ≤ n) (hq : q ≤ n) (e1 : sx (b + p) = sy (b + q)) (e2 : ix (b + p) = iy (b + q)) :
    ((ws_L sx ix b (n + 1)).eraseIdx p).Perm ((ws_L sy iy b (n + 1)).eraseIdx q) := by
  have h1 := ws_er (ws_L sx ix b (n + 1)) p (by rw [ws_L_len]; omega)
  have h2 := ws_er (ws_L sy iy b (n + 1)) q (by rw [ws_L_len]; omega)
  rw [ws_L_get, e1, e2] at h1
  rw [ws_L_get] at h2
  exact ((h1.trans h).trans h2.symm).cons_inv
theorem ws_R_er {ix sx iy sy : Nat → Int32} {b n p q : Nat} (h : ws_R ix sx iy sy b (n + 1)) (hp : p ≤ n) (hq : q ≤ n) (e1 : sx (b + p) = sy (b + q)) (e2 : ix (b + p) = iy (b + q)) :
    ws_R (ws_cl ix (b + p) (b + n)) (ws_cl sx (b + p) (b + n)) (ws_cl iy (b + q) (b + n)) (ws_cl sy (b + q) (b + n)) b n := by
  refine ⟨ws_S_er h.1, ws_D_er h.2.1, ?_⟩
  rw [ws_L_er hp, ws_L_er hq]
  exact ws_P_er h.2.2 hp hq e1 e2
theorem ws_S_in {sc it : Nat → Int32} {b n p : Nat} {v m : Int32} (h : ws_S sc it b n) (hp : p ≤ n) (hm : ∀ i, i < n → it (b + i) ≠ m) (hlo : ∀ i, i < p → ¬ ws_lt v m (sc (b + i)) (it (b + i))) (hhi : p < n → ws_lt v m (sc (b + p)) (it (b + p))) :
    ws_S (upd (ws_op sc (b + p) (b + n)) (b + p) v) (upd (ws_op it (b + p) (b + n)) (b + p) m) b (n + 1) := by
  intro i j hij hj
  rw [ws_in_at (by omega), ws_in_at (by omega), ws_in_at (by omega), ws_in_at (by omega)]
  by_cases a : i < p
  · rw [if_pos a, if_pos a]
    by_cases c : j < p
    · rw [if_pos c, if_pos c]
      exact h i j hij (by omega)
    · rw [if_neg c, if_neg c]
      have hi := ws_lt_to (hlo i a) (fun z => hm i (by omega) z.symm)
      by_cases d : j = p
      · rw [if_pos d, if_pos d]
        exact hi
      · rw [if_neg d, if_neg d]
        exact h i (j - 1) (by omega) (by omega)
  · rw [if_neg a, if_neg a, if_neg (show ¬ j < p by omega), if_neg (show ¬ j < p by omega), if_neg (show ¬ j = p by omega), if_neg (show ¬ j = p by omega)]
    by_cases d : i = p
    · rw [if_pos d, if_pos d]
      by_cases e : j - 1 = p
      · rw [e]
        exact hhi (by omega)
      · exact ws_lt_tr (hhi (by omega)) (h p (j - 1) (by omega) (by omega))
    · rw [if_neg d, if_neg d]
      exact h (i - 1) (j - 1) (by omega) (by omega)
theorem ws_D_in {it : Nat → Int32} {b n p : Nat} {m : Int32} (h : ws_D it b n) (hp : p ≤ n) (hm : ∀ i, i < n → it (b + i) ≠ m) : ws_D (upd (ws_op it (b + p) (b + n)) (b + p) m) b (n + 1) := by
  intro i j hij hj
  rw [ws_in_at (by omega), ws_in_at (by omega)]
  by_cases a : i < p
  · rw [if_pos a]
    by_cases c : j < p
    · rw [if_pos c]
      exact h i j hij (by omega)
    · rw [if_neg c]
      by_cases d : j = p
      · rw [if_pos d]
        exact hm i (by omega)
      · rw [if_neg d]
        exact h i (j - 1) (by omega) (by omega)
  · rw [if_neg a, if_neg (show ¬ j < p by omega), if_neg (show ¬ j = p by omega)]
    by_cases d : i = p
    · rw [if_pos d]
      exact fun z => hm (j - 1) (by omega) z.symm
    · rw [if_neg d]
      exact h (i - 1) (j - 1) (by omega) (by omega)
theorem ws_P_in {sc it : Nat → Int32} {b n p : Nat} {v m : Int32} (hp : p ≤ n) : (ws_L (upd (ws_op sc (b + p) (b + n)) (b + p) v) (upd (ws_op it (b + p) (b + n)) (b + p) m) b (n + 1)).Perm ((v, m) :: ws_L sc it b n) := by
  rw [ws_L_in hp]
  exact List.perm_insertIdx _ _ (by rw [ws_L_len]; exact hp)
/-- a new member: X seats it at p, Y appends it -/
theorem ws_R_new {ix sx iy sy : Nat → Int32} {b n p : Nat} {v m : Int32} (h : n = 0 ∨ ws_R ix sx iy sy b n) (hp : p ≤ n) (hm : ∀ i, i < n → ix (b + i) ≠ m) (hlo : ∀ i, i < p → ¬ ws_lt v m (sx (b + i)) (ix (b + i))) (hhi : p < n → ws_lt v m (sx (b + p)) (ix (b + p))) :
    ws_R (upd (ws_op ix (b + p) (b + n)) (b + p) m) (upd (ws_op sx (b + p) (b + n)) (b + p) v) (upd iy (b + n) m) (upd sy (b + n) v) b (n + 1) := by
  have h' : ws_R ix sx iy sy b n := by
    rcases h with e | h
    · subst e
      exact ⟨fun i j _ hj => absurd hj (by omega), fun i j _ hj => absurd hj (by omega), List.Perm.refl _⟩
    · exact h
  refine ⟨ws_S_in h'.1 hp hm hlo hhi, ws_D_in h'.2.1 hp hm, ?_⟩
  rw [ws_L_ap]
  exact ((ws_P_in hp).trans (h'.2.2.cons _)).trans (List.perm_append_singleton _ _).symm
/-- a member that stands at p0 of X and q of Y gets the score v: X takes it out and seats it at p, Y writes the score -/
theorem ws_R_old {ix sx iy sy : Nat → Int32} {b n p0 q p : Nat} {v m : Int32} (h : ws_R ix sx iy sy b (n + 1)) (hp0 : p0 ≤ n) (hq : q ≤ n) (e1 : sx (b + p0) = sy (b + q)) (e2 : ix (b + p0) = iy (b + q)) (em : iy (b + q) = m) (hp : p ≤ n)
    (hlo : ∀ i, i < p → ¬ ws_lt v m (ws_cl sx (b + p0) (b + n) (b + i)) (ws_cl ix (b + p0) (b + n) (b + i))) (hhi : p < n → ws_lt v m (ws_cl sx (b + p0) (b + n) (b + p)) (ws_cl ix (b + p0) (b + n) (b + p))) :
    ws_R (upd (ws_op (ws_cl ix (b + p0) (b + n)) (b + p) (b + n)) (b + p) m) (upd (ws_op (ws_cl sx (b + p0) (b + n)) (b + p) (b + n)) (b + p) v) iy (upd sy (b + q) v) b (n + 1) := by
  have hm : ∀ i, i < n → ws_cl ix (b + p0) (b + n) (b + i) ≠ m := by
    intro i hi
    rw [ws_cl_at hi, ← em, ← e2]
    by_cases c : i < p0
    · rw [if_pos c]
      exact h.2.1 i p0 c (by omega)
    · rw [if_neg c]
      exact fun z => h.2.1 p0 (i + 1) (by omega) (by omega) z.symm
  refine ⟨ws_S_in (ws_S_er h.1) hp hm hlo hhi, ws_D_in (ws_D_er h.2.1) hp hm, ?_⟩
  refine (ws_P_in hp).trans ?_
  rw [ws_L_er hp0, ws_L_st, em]
  exact ((ws_P_er h.2.2 hp0 hq e1 e2).cons _).trans (ws_set _ _ (by rw [ws_L_len]; omega) _).symm
end
section
/-! G: watching: X marks each pair, Y keeps a mask and a flag a client -/
theorem wa_1 : ∀ i, i < 32 → bt 1 i = decide (i = 0) := by decide +kernel
theorem wa_and1 (x : Int32) : x &&& 1 = 1 ↔ bt x 0 = true := by
  constructor
  · intro h
    have h2 : bt (x &&& 1) 0 = bt 1 0 := by rw [h]
    rw [b_and, wa_1 0 (by omega)] at h2
    simpa using h2
  · intro h
    apply b_ext
    intro i hi
    rw [b_and, wa_1 i hi]
    by_cases e : i = 0
    · subst e
      rw [h]
      rfl
    · rw [decide_eq_false e, Bool.and_false]
theorem wa_bit (m : Int32) {k : Nat} (hk : k < 8) : (m >>> (nI k &&& 31)) &&& 1 = 1 ↔ bt m k = true := by
  rw [wa_and1, b_sshr k (by omega) m (i := 0) (by omega), Nat.add_zero, if_pos (by omega)]
theorem wa_or (m : Int32) {k i : Nat} (hk : k < 8) (hi : i < 8) : bt (m ||| ((1 : Int32) <<< (nI k &&& 31))) i = (bt m i || decide (i = k)) := by
  rw [b_or, b_shl k (by omega) 1 (by omega), wa_1 _ (by omega)]
  congr 1
  by_cases e : i = k
  · subst e
    simp
  · rw [decide_eq_false e]
    by_cases e2 : k ≤ i
    · rw [decide_eq_false (show ¬ i - k = 0 by omega), Bool.and_false]
    · rw [decide_eq_false e2, Bool.false_and]
def wa_R (w wd d : Nat → Int32) : Prop := ∀ c, c < 4 →
  (∀ k, k < 8 → w (8 * c + k) = 0 ∨ w (8 * c + k) = 1 ∨ w (8 * c + k) = 2) ∧
  (∀ k, k < 8 → (bt (wd c) k = true ↔ w (8 * c + k) ≠ 0)) ∧
  (d c = 0 ∨ d c = 1) ∧ (d c = 1 ↔ ∃ k, k < 8 ∧ w (8 * c + k) = 2)
def ws_mk (w : Nat → Int32) (k i : Nat) : Nat → Int32 := fun j => if j % 8 = k ∧ j / 8 < i ∧ w j = 1 then 2 else w j
def ws_dc (wd d : Nat → Int32) (k i : Nat) : Nat → Int32 := fun c => if c < i ∧ bt (wd c) k = true then 1 else d c
def ws_zr (w : Nat → Int32) (c i : Nat) : Nat → Int32 := fun j => if 8 * c ≤ j ∧ j < 8 * c + i then 0 else w j
theorem ws_mk0 (w : Nat → Int32) (k : Nat) : ws_mk w k 0 = w := by
  funext j
  unfold ws_mk
  rw [if_neg (by omega)]
theorem ws_mk_same (w : Nat → Int32) {k i : Nat} (hk : k < 8) : ws_mk w k i (8 * i + k) = w (8 * i + k) := by
  unfold ws_mk
  rw [if_neg (by omega)]
theorem ws_mks (w : Nat → Int32) {k i : Nat} (hk : k < 8) (h : w (8 * i + k) = 1) : upd (ws_mk w k i) (8 * i + k) 2 = ws_mk w k (i + 1) := by
  funext j
  unfold upd ws_mk
  by_cases e : j = 8 * i + k
  · subst e
    rw [if_pos rfl, if_pos ⟨by omega, by omega, h⟩]
  · rw [if_neg e]
    by_cases e2 : j % 8 = k ∧ j / 8 < i ∧ w j = 1
    · rw [if_pos e2, if_pos ⟨e2.1, by omega, e2.2.2⟩]
    · rw [if_neg e2, if_neg (fun z => e2 ⟨z.1, by omega, z.2.2⟩)]
theorem ws_mkn (w : Nat → Int32) {k i : Nat} (h : w (8 * i + k) ≠ 1) : ws_mk w k i = ws_mk w k (i + 1) := by
  funext j
  unfold ws_mk
  by_cases e : j % 8 = k ∧ j / 8 < i ∧ w j = 1
  · rw [if_pos e, if_pos ⟨e.1, by omega, e.2.2⟩]
  · rw [if_neg e, if_neg ?_]
    intro z
    by_cases e2 : j / 8 < i
    · exact e ⟨z.1, e2, z.2.2⟩
    · exact h (by rw [show 8 * i + k = j by omega]; exact z.2.2)
theorem ws_dc0 (wd d : Nat → Int32) (k : Nat) : ws_dc wd d k 0 = d := by
  funext j
  unfold ws_dc
  rw [if_neg (by omega)]
theorem ws_dcs (wd d : Nat → Int32) {k i : Nat} (h : bt (wd i) k = true) : upd (ws_dc wd d k i) i 1 = ws_dc wd d k (i + 1) := by
  funext j
  unfold upd ws_dc
  by_cases e : j = i
  · subst e
    rw [if_pos rfl, if_pos ⟨by omega, h⟩]
  · rw [if_neg e]
    by_cases e2 : j < i ∧ bt (wd j) k = true
    · rw [if_pos e2, if_pos ⟨by omega, e2.2⟩]
    · rw [if_neg e2, if_neg (fun z => e2 ⟨by omega, z.2⟩)]
theorem ws_dcn (wd d : Nat → Int32) {k i : Nat} (h : ¬ bt (wd i) k = true) : ws_dc wd d k i = ws_dc wd d k (i + 1) := by
  funext j
  unfold ws_dc
  by_cases e2 : j < i ∧ bt (wd j) k = true
  · rw [if_pos e2, if_pos ⟨by omega, e2.2⟩]
  · rw [if_neg e2, if_neg ?_]
    intro z
    by_cases e : j = i
    · subst e
      exact h z.2
    · exact e2 ⟨by omega, z.2⟩
theorem ws_zr0 (w : Nat → Int32) (c : Nat) : ws_zr w c 0 = w := by
  funext j
  unfold ws_zr
  rw [if_neg (by omega)]
theorem ws_zrs (w : Nat → Int32) (c i : Nat) : upd (ws_zr w c i) (8 * c + i) 0 = ws_zr w c (i + 1) := by
  funext j
  unfold upd ws_zr
  by_cases e : j = 8 * c + i
  · rw [if_pos e, if_pos (by omega)]
  · rw [if_neg e]
    by_cases e2 : 8 * c ≤ j ∧ j < 8 * c + i
    · rw [if_pos e2, if_pos (by omega)]
    · rw [if_neg e2, if_neg (by omega)]
theorem ws_mk_at (w : Nat → Int32) {k c j : Nat} (hc : c < 4) (hj : j < 8) : ws_mk w k 4 (8 * c + j) = if j = k ∧ w (8 * c + j) = 1 then 2 else w (8 * c + j) := by
  unfold ws_mk
  by_cases e : j = k ∧ w (8 * c + j) = 1
  · rw [if_pos e, if_pos ⟨by omega, by omega, e.2⟩]
  · rw [if_neg e, if_neg (fun z => e ⟨by omega, z.2.2⟩)]
theorem wa_mark {w wd d : Nat → Int32} {k : Nat} (h : wa_R w wd d) (hk : k < 8) : wa_R (ws_mk w k 4) wd (ws_dc wd d k 4) := by
  intro c hc
  obtain ⟨h1, h2, h3, h4⟩ := h c hc
  refine ⟨fun j hj => ?_, fun j hj => ?_, ?_, ?_⟩
  · rw [ws_mk_at w hc hj]
    by_cases e : j = k ∧ w (8 * c + j) = 1
    · rw [if_pos e]; exact Or.inr (Or.inr rfl)
    · rw [if_neg e]; exact h1 j hj
  · rw [ws_mk_at w hc hj, h2 j hj]
    by_cases e : j = k ∧ w (8 * c + j) = 1
    · rw [if_pos e, e.2]; decide
    · rw [if_neg e]
  · unfold ws_dc
    by_cases e : c < 4 ∧ bt (wd c) k = true
    · rw [if_pos e]; exact Or.inr rfl
    · rw [if_neg e]; exact h3
  · unfold ws_dc
    by_cases e : bt (wd c) k = true
    · rw [if_pos ⟨hc, e⟩]
      refine ⟨fun _ => ⟨k, hk, ?_⟩, fun _ => rfl⟩
      rw [ws_mk_at w hc hk]
      rcases h1 k hk with z | z | z
      · exact absurd z ((h2 k hk).mp e)
      · rw [if_pos ⟨rfl, z⟩]
      · rw [if_neg (fun y => by rw [z] at y; exact absurd y.2 (by decide)), z]
    · rw [if_neg (fun z => e z.2), h4]
      have e0 : w (8 * c + k) = 0 := by
        rcases h1 k hk with z | z | z
        · exact z
        · exact absurd ((h2 k hk).mpr (by rw [z]; decide)) e
        · exact absurd ((h2 k hk).mpr (by rw [z]; decide)) e
      have e1 : ∀ j, j < 8 → ws_mk w k 4 (8 * c + j) = w (8 * c + j) := by
        intro j hj
        rw [ws_mk_at w hc hj, if_neg ?_]
        intro y
        have y2 := y.2
        rw [y.1, e0] at y2
        exact absurd y2 (by decide)
      constructor
      · intro ⟨j, hj, ej⟩
        exact ⟨j, hj, by rw [e1 j hj]; exact ej⟩
      · intro ⟨j, hj, ej⟩
        exact ⟨j, hj, by rw [e1 j hj] at ej; exact ej⟩
theorem wa_free {w wd d : Nat → Int32} {c : Nat} (h : wa_R w wd d) : wa_R (ws_zr w c 8) (upd wd c 0) (upd d c 0) := by
  intro c' hc
  obtain ⟨h1, h2, h3, h4⟩ := h c' hc
  by_cases e : c' = c
  · subst e
    have z : ∀ j, j < 8 → ws_zr w c' 8 (8 * c' + j) = 0 := fun j hj => if_pos (by omega)
    rw [pk_us, pk_us]
    refine ⟨fun j hj => Or.inl (z j hj), fun j hj => ?_, Or.inl rfl, ?_⟩
    · rw [z j hj, b_0]
      exact ⟨fun y => absurd y (by decide), fun y => absurd rfl y⟩
    · refine ⟨fun y => absurd y (by decide), fun ⟨j, hj, y⟩ => ?_⟩
      rw [z j hj] at y
      exact absurd y (by decide)
  · have z : ∀ j, j < 8 → ws_zr w c 8 (8 * c' + j) = w (8 * c' + j) := fun j hj => if_neg (by omega)
    rw [pk_un e, pk_un e]
    refine ⟨fun j hj => by rw [z j hj]; exact h1 j hj, fun j hj => by rw [z j hj]; exact h2 j hj, h3, ?_⟩
    rw [h4]
    constructor
    · intro ⟨j, hj, ej⟩
      exact ⟨j, hj, by rw [z j hj]; exact ej⟩
    · intro ⟨j, hj, ej⟩
      exact ⟨j, hj, by rw [z j hj] at ej; exact ej⟩
theorem wa_watch {w w' wd d : Nat → Int32} {c k : Nat} (h : wa_R w wd d) (hk : k < 8) (hw : (w (8 * c + k) = 0 ∧ w' = upd w (8 * c + k) 1) ∨ (w (8 * c + k) ≠ 0 ∧ w' = w)) :
    wa_R w' (upd wd c (wd c ||| ((1 : Int32) <<< (nI k &&& 31)))) d := by
  have a : ∀ c' j, c' < 4 → j < 8 → ¬ (c' = c ∧ j = k) → w' (8 * c' + j) = w (8 * c' + j) := by
    intro c' j hc hj hn
    rcases hw with ⟨_, rfl⟩ | ⟨_, rfl⟩
    · exact pk_un (by omega)
    · rfl
  have b : w' (8 * c + k) ≠ 0 ∧ (w' (8 * c + k) = 2 ↔ w (8 * c + k) = 2) := by
    rcases hw with ⟨e, rfl⟩ | ⟨e, rfl⟩
    · rw [pk_us, e]; decide
    · exact ⟨e, Iff.rfl⟩
  intro c' hc
  obtain ⟨h1, h2, h3, h4⟩ := h c' hc
  have b2 : ∀ j, j < 8 → (w' (8 * c' + j) = 2 ↔ w (8 * c' + j) = 2) := by
    intro j hj
    by_cases e : c' = c ∧ j = k
    · rw [e.1, e.2]; exact b.2
    · rw [a c' j hc hj e]
  refine ⟨fun j hj => ?_, fun j hj => ?_, h3, ?_⟩
  · by_cases e : c' = c ∧ j = k
    · obtain ⟨rfl, rfl⟩ := e
      rcases hw with ⟨_, rfl⟩ | ⟨_, rfl⟩
      · rw [pk_us]; exact Or.inr (Or.inl rfl)
      · exact h1 j hj
    · rw [a c' j hc hj e]; exact h1 j hj
  · by_cases e : c' = c
    · subst e
      rw [pk_us, wa_or _ hk hj]
      by_cases e2 : j = k
      · subst e2
        rw [decide_eq_true rfl, Bool.or_true]
        exact ⟨fun _ => b.1, fun _ => rfl⟩
      · rw [decide_eq_false e2, Bool.or_false, a c' j hc hj (fun z => e2 z.2)]
        exact h2 j hj
    · rw [pk_un e, a c' j hc hj (fun z => e z.1)]
      exact h2 j hj
  · rw [h4]
    constructor
    · intro ⟨j, hj, ej⟩
      exact ⟨j, hj, (b2 j hj).mpr ej⟩
    · intro ⟨j, hj, ej⟩
      exact ⟨j, hj, (b2 j hj).mp ej⟩
/-! H: the clients -/
def cm_R (o k a : Int32) : Prop := ∃ o' k' : Nat, o' < 12 ∧ o = nI o' ∧ k' < 8 ∧ k = nI k' ∧ (o' = 3 → ∃ a' : Nat, a' ≤ 100 ∧ a = nI a') ∧ (o' = 11 → ∃ a' : Nat, a' < 8 ∧ a' ≠ k' ∧ a = nI a')
def ct_R (st q qo qk qa rc we : Nat → Int32) (c : Nat) : Prop := (st c = 0 ∨ st c = 1 ∨ st c = 2) ∧ (0 : Int32) ≤ we c ∧ (∃ n : Nat, n ≤ 8 ∧ rc c = nI n) ∧
  ∃ n : Nat, n ≤ 8 ∧ q c = nI n ∧ (st c ≠ 2 → n = 0) ∧ ∀ i, i < n → cm_R (qo (8 * c + i)) (qk (8 * c + i)) (qa (8 * c + i))
def cl_R (st q qo qk qa rc we : Nat → Int32) : Prop := ∀ c, c < 4 → ct_R st q qo qk qa rc we c
theorem cl_up {st q qo qk qa rc we st' q' qo' qk' qa' rc' we' : Nat → Int32} (h : cl_R st q qo qk qa rc we) (c : Nat)
    (hk : ∀ s, s ≠ c → st' s = st s ∧ q' s = q s ∧ rc' s = rc s ∧ we' s = we s)
    (ha : ∀ j, (j < 8 * c ∨ 8 * c + 8 ≤ j) → qo' j = qo j ∧ qk' j = qk j ∧ qa' j = qa j)
    (hn : c < 4 → ct_R st' q' qo' qk' qa' rc' we' c) : cl_R st' q' qo' qk' qa' rc' we' := by
  intro s hs
  by_cases e : s = c
  · subst e
    exact hn hs
  · obtain ⟨e1, e2, e3, e4⟩ := hk s e
    obtain ⟨h1, h2, h3, n, h4, h5, h6, h7⟩ := h s hs
    unfold ct_R
    rw [e1, e2, e3, e4]
    refine ⟨h1, h2, h3, n, h4, h5, h6, fun i hi => ?_⟩
    obtain ⟨a1, a2, a3⟩ := ha (8 * s + i) (by omega)
    rw [a1, a2, a3]
    exact h7 i hi
end
section
/-! I: what each command makes of the slots -/
theorem st_n {kd sz dl ix sx iy sy : Nat → Int32} {k : Nat} (h : st_R kd sz dl ix sx iy sy) (hk : k < 16) : ∃ n : Nat, n ≤ 12 ∧ sz k = nI n ∧ ((kd k = 0 ∧ n = 0) ∨ (kd k = 1 ∧ n = 0) ∨ (kd k = 2 ∧ 0 < n ∧ ∀ i, i < n → ix (12 * k + i) = iy (12 * k + i)) ∨ (kd k = 3 ∧ 0 < n ∧ ws_R ix sx iy sy (12 * k) n)) := (h k hk).2
theorem st_clear {kd sz dl ix sx iy sy : Nat → Int32} (h : st_R kd sz dl ix sx iy sy) (k : Nat) : st_R (upd kd k 0) (upd sz k 0) (upd dl k 0) ix sx iy sy :=
  st_up h k (fun s e => ⟨pk_un e, pk_un e, pk_un e⟩) (fun j _ => ⟨rfl, rfl, rfl, rfl⟩) (by rw [pk_us]; decide)
    ⟨0, by omega, by rw [pk_us]; rfl, Or.inl ⟨pk_us, rfl⟩⟩
theorem st_num {kd sz dl ix sx iy sy : Nat → Int32} (h : st_R kd sz dl ix sx iy sy) (k : Nat) : st_R (upd (upd kd k 0) k 1) (upd sz k 0) (upd dl k 0) ix sx iy sy :=
  st_up h k (fun s e => ⟨by rw [pk_un e, pk_un e], pk_un e, pk_un e⟩) (fun j _ => ⟨rfl, rfl, rfl, rfl⟩) (by rw [pk_us]; decide)
    ⟨0, by omega, by rw [pk_us]; rfl, Or.inr (Or.inl ⟨pk_us, rfl⟩)⟩
theorem st_add {kd sz dl ix sx iy sy : Nat → Int32} {k : Nat} (h : st_R kd sz dl ix sx iy sy) (hk : k < 16) (e : kd k = 0 ∨ kd k = 1) : st_R (upd kd k 1) sz dl ix sx iy sy := by
  refine st_up h k (fun s e => ⟨pk_un e, rfl, rfl⟩) (fun j _ => ⟨rfl, rfl, rfl, rfl⟩) (h k hk).1 ?_
  obtain ⟨n, hn, hz, c⟩ := st_n h hk
  have n0 : n = 0 := by
    rcases c with c | c | c | c
    · exact c.2
    · exact c.2
    · rcases e with e | e <;> rw [e] at c <;> exact absurd c.1 (by decide)
    · rcases e with e | e <;> rw [e] at c <;> exact absurd c.1 (by decide)
  exact ⟨n, hn, hz, Or.inr (Or.inl ⟨pk_us, n0⟩)⟩
theorem st_dl {kd sz dl ix sx iy sy : Nat → Int32} {k : Nat} {x : Int32} (h : st_R kd sz dl ix sx iy sy) (hk : k < 16) (hx : 0 ≤ x) : st_R kd sz (upd dl k x) ix sx iy sy :=
  st_up h k (fun s e => ⟨rfl, rfl, pk_un e⟩) (fun j _ => ⟨rfl, rfl, rfl, rfl⟩) (by rw [pk_us]; exact hx) (h k hk).2
theorem st_push {kd sz dl ix sx iy sy : Nat → Int32} {k n p : Nat} {a : Int32} (h : st_R kd sz dl ix sx iy sy) (hk : k < 16) (hz : sz k = nI n) (hn : n < 12) (hp : p ≤ n) (e : kd k = 0 ∨ kd k = 2) :
    st_R (upd kd k 2) (upd sz k (nI (n + 1))) dl (upd (ws_op ix (12 * k + p) (12 * k + n)) (12 * k + p) a) (ws_op sx (12 * k + p) (12 * k + n)) (upd (ws_op iy (12 * k + p) (12 * k + n)) (12 * k + p) a) sy := by
  refine st_up h k (fun s e => ⟨pk_un e, pk_un e, rfl⟩) (fun j hj => ⟨?_, ws_op_out (by omega), ?_, rfl⟩) (h k hk).1 ?_
  · rw [pk_un (by omega), ws_op_out (by omega)]
  · rw [pk_un (by omega), ws_op_out (by omega)]
  obtain ⟨n', hn', hz', c⟩ := st_n h hk
  have nn : n' = n := (nI_eq (by omega) (by omega)).mp (hz'.symm.trans hz)
  subst nn
  refine ⟨n' + 1, by omega, pk_us, Or.inr (Or.inr (Or.inl ⟨pk_us, by omega, fun i hi => ?_⟩))⟩
  have e0 : ∀ i, i < n' → ix (12 * k + i) = iy (12 * k + i) := by
    rcases c with c | c | c | c
    · intro i hi; omega
    · intro i hi; omega
    · exact c.2.2
    · rcases e with e | e <;> rw [e] at c <;> exact absurd c.1 (by decide)
  rw [ws_in_at (by omega), ws_in_at (by omega)]
  by_cases a1 : i < p
  · rw [if_pos a1, if_pos a1]; exact e0 i (by omega)
  · rw [if_neg a1, if_neg a1]
    by_cases a2 : i = p
    · rw [if_pos a2, if_pos a2]
    · rw [if_neg a2, if_neg a2]; exact e0 (i - 1) (by omega)
/-- one is taken out of slot k: at p of X, at q of Y; n are left -/
def st_mt (kd ix sx iy sy : Nat → Int32) (k p q : Nat) : Prop := (kd k = 2 ∧ p = q) ∨ (kd k = 3 ∧ sx (12 * k + p) = sy (12 * k + q) ∧ ix (12 * k + p) = iy (12 * k + q))
theorem st_er {kd sz dl ix sx iy sy : Nat → Int32} {k n p q : Nat} (h : st_R kd sz dl ix sx iy sy) (hk : k < 16) (hz : sz k = nI (n + 1)) (hn : n < 12) (hp : p ≤ n) (hq : q ≤ n) (e : st_mt kd ix sx iy sy k p q) :
    (n ≠ 0 → st_R kd (upd sz k (nI n)) dl (ws_cl ix (12 * k + p) (12 * k + n)) (ws_cl sx (12 * k + p) (12 * k + n)) (ws_cl iy (12 * k + q) (12 * k + n)) (ws_cl sy (12 * k + q) (12 * k + n))) ∧
    (n = 0 → st_R (upd kd k 0) (upd (upd sz k (nI n)) k 0) (upd dl k 0) (ws_cl ix (12 * k + p) (12 * k + n)) (ws_cl sx (12 * k + p) (12 * k + n)) (ws_cl iy (12 * k + q) (12 * k + n)) (ws_cl sy (12 * k + q) (12 * k + n))) ∧
    ix (12 * k + p) = iy (12 * k + q) := by
  obtain ⟨n', hn', hz', c⟩ := st_n h hk
  have nn : n' = n + 1 := (nI_eq (by omega) (by omega)).mp (hz'.symm.trans hz)
  subst nn
  refine ⟨fun h0 => ?_, fun h0 => ?_, ?_⟩
  · refine st_up h k (fun s e => ⟨rfl, pk_un e, rfl⟩) (fun j hj => ⟨ws_cl_out (by omega), ws_cl_out (by omega), ws_cl_out (by omega), ws_cl_out (by omega)⟩) (h k hk).1 ?_
    rcases e with ⟨e1, e2⟩ | ⟨e1, e2, e3⟩
    · subst e2
      refine ⟨n, by omega, pk_us, Or.inr (Or.inr (Or.inl ⟨e1, by omega, fun i hi => ?_⟩))⟩
      have e0 : ∀ i, i < n + 1 → ix (12 * k + i) = iy (12 * k + i) := by
        rcases c with c | c | c | c
        · omega
        · omega
        · exact c.2.2
        · rw [e1] at c; exact absurd c.1 (by decide)
      rw [ws_cl_at hi, ws_cl_at hi]
      exact e0 _ (by split <;> omega)
    · refine ⟨n, by omega, pk_us, Or.inr (Or.inr (Or.inr ⟨e1, by omega, ?_⟩))⟩
      have e0 : ws_R ix sx iy sy (12 * k) (n + 1) := by
        rcases c with c | c | c | c
        · omega
        · omega
        · rw [e1] at c; exact absurd c.1 (by decide)
        · exact c.2.2
      exact ws_R_er e0 hp hq e2 e3
  · exact st_up h k (fun s e => ⟨pk_un e, by rw [pk_un e, pk_un e], pk_un e⟩) (fun j hj => ⟨ws_cl_out (by omega), ws_cl_out (by omega), ws_cl_out (by omega), ws_cl_out (by omega)⟩) (by rw [pk_us]; decide)
      ⟨0, by omega, by rw [pk_us]; rfl, Or.inl ⟨pk_us, rfl⟩⟩
  · rcases e with ⟨e1, e2⟩ | ⟨e1, e2, e3⟩
    · subst e2
      rcases c with c | c | c | c
      · omega
      · omega
      · exact c.2.2 p (by omega)
      · rw [e1] at c; exact absurd c.1 (by decide)
    · exact e3
theorem st_new {kd sz dl ix sx iy sy : Nat → Int32} {k n p : Nat} {v m : Int32} (h : st_R kd sz dl ix sx iy sy) (hk : k < 16) (hz : sz k = nI n) (hn : n < 12) (hp : p ≤ n) (e : kd k = 0 ∨ kd k = 3) (hm : ∀ i, i < n → ix (12 * k + i) ≠ m)
    (hlo : ∀ i, i < p → ¬ ws_lt v m (sx (12 * k + i)) (ix (12 * k + i))) (hhi : p < n → ws_lt v m (sx (12 * k + p)) (ix (12 * k + p))) :
    st_R (upd kd k 3) (upd sz k (nI (n + 1))) dl (upd (ws_op ix (12 * k + p) (12 * k + n)) (12 * k + p) m) (upd (ws_op sx (12 * k + p) (12 * k + n)) (12 * k + p) v) (upd iy (12 * k + n) m) (upd sy (12 * k + n) v) := by
  obtain ⟨n', hn', hz', c⟩ := st_n h hk
  have nn : n' = n := (nI_eq (by omega) (by omega)).mp (hz'.symm.trans hz)
  subst nn
  have e0 : n' = 0 ∨ ws_R ix sx iy sy (12 * k) n' := by
    rcases c with c | c | c | c
    · exact Or.inl c.2
    · exact Or.inl c.2
    · rcases e with e | e <;> rw [e] at c <;> exact absurd c.1 (by decide)
    · exact Or.inr c.2.2
  refine st_up h k (fun s e => ⟨pk_un e, pk_un e, rfl⟩) (fun j hj => ⟨?_, ?_, pk_un (by omega), pk_un (by omega)⟩) (h k hk).1 ⟨n' + 1, by omega, pk_us, Or.inr (Or.inr (Or.inr ⟨pk_us, by omega, ws_R_new e0 hp hm hlo hhi⟩))⟩
  · rw [pk_un (by omega), ws_op_out (by omega)]
  · rw [pk_un (by omega), ws_op_out (by omega)]
theorem st_old {kd sz dl ix sx iy sy : Nat → Int32} {k n p0 q p : Nat} {v m : Int32} (h : st_R kd sz dl ix sx iy sy) (hk : k < 16) (hz : sz k = nI (n + 1)) (hn : n < 12) (hp0 : p0 ≤ n) (hq : q ≤ n) (e1 : sx (12 * k + p0) = sy (12 * k + q)) (e2 : ix (12 * k + p0) = iy (12 * k + q)) (em : iy (12 * k + q) = m) (hp : p ≤ n) (e : kd k = 3)
    (hlo : ∀ i, i < p → ¬ ws_lt v m (ws_cl sx (12 * k + p0) (12 * k + n) (12 * k + i)) (ws_cl ix (12 * k + p0) (12 * k + n) (12 * k + i))) (hhi : p < n → ws_lt v m (ws_cl sx (12 * k + p0) (12 * k + n) (12 * k + p)) (ws_cl ix (12 * k + p0) (12 * k + n) (12 * k + p))) :
    st_R kd sz dl (upd (ws_op (ws_cl ix (12 * k + p0) (12 * k + n)) (12 * k + p) (12 * k + n)) (12 * k + p) m) (upd (ws_op (ws_cl sx (12 * k + p0) (12 * k + n)) (12 * k + p) (12 * k + n)) (12 * k + p) v) iy (upd sy (12 * k + q) v) := by
  obtain ⟨n', hn', hz', c⟩ := st_n h hk
  have nn : n' = n + 1 := (nI_eq (by omega) (by omega)).mp (hz'.symm.trans hz)
  subst nn
  have e0 : ws_R ix sx iy sy (12 * k) (n + 1) := by
    rcases c with c | c | c | c
    · omega
    · omega
    · rw [e] at c; exact absurd c.1 (by decide)
    · exact c.2.2
  refine st_up h k (fun s e => ⟨rfl, rfl, rfl⟩) (fun j hj => ⟨?_, ?_, rfl, pk_un (by omega)⟩) (h k hk).1 ⟨n + 1, by omega, hz, Or.inr (Or.inr (Or.inr ⟨e, by omega, ws_R_old e0 hp0 hq e1 e2 em hp hlo hhi⟩))⟩
  · rw [pk_un (by omega), ws_op_out (by omega), ws_cl_out (by omega)]
  · rw [pk_un (by omega), ws_op_out (by omega), ws_cl_out (by omega)]
theorem st_copy {kd sz dl ix sx iy sy : Nat → Int32} {s t : Nat} (h : st_R kd sz dl ix sx iy sy) (hs : s < 16) : st_R (upd kd t (kd s)) (upd sz t (sz s)) (upd dl t (dl s)) (ws_cp ix (12 * s) (12 * t) 12) (ws_cp sx (12 * s) (12 * t) 12) (ws_cp iy (12 * s) (12 * t) 12) (ws_cp sy (12 * s) (12 * t) 12) := by
  refine st_up h t (fun s e => ⟨pk_un e, pk_un e, pk_un e⟩) (fun j hj => ⟨ws_cp_out (by omega), ws_cp_out (by omega), ws_cp_out (by omega), ws_cp_out (by omega)⟩) (by rw [pk_us]; exact (h s hs).1) ?_
  rw [pk_us, pk_us]
  exact ws_K_cg (h s hs).2 (fun i hi => ⟨ws_cp_in hi, ws_cp_in hi, ws_cp_in hi, ws_cp_in hi⟩)
/-- the place of a member's score in a ranking -/
def ws_G (sc it : Nat → Int32) (b n : Nat) (m v : Int32) (p : Nat) : Prop := p ≤ n ∧ (∀ i, i < p → ¬ ws_lt v m (sc (b + i)) (it (b + i))) ∧ (p < n → ws_lt v m (sc (b + p)) (it (b + p)))
theorem ws_Gex (sc it : Nat → Int32) (b n : Nat) (m v : Int32) : ∃ p, ws_G sc it b n m v p := by
  by_cases h : ∃ p, p < n ∧ ws_lt v m (sc (b + p)) (it (b + p))
  · obtain ⟨p, ⟨hp, e⟩, hl⟩ := pk_least _ h
    exact ⟨p, by omega, fun i hi z => hl i hi ⟨by omega, z⟩, fun _ => e⟩
  · exact ⟨n, Nat.le_refl n, fun i hi z => h ⟨i, hi, z⟩, fun z => absurd z (Nat.lt_irrefl n)⟩
end
section
/-! J: places -/
theorem nu_x8 (c i : Nat) : nI c * 8 + nI i = nI (8 * c + i) := by
  rw [show nI c * 8 = nI (c * 8) from pk_mul c 8, nI_add, Nat.mul_comm]
theorem nu_x12 (c i : Nat) : nI c * 12 + nI i = nI (12 * c + i) := by
  rw [show nI c * 12 = nI (c * 12) from pk_mul c 12, nI_add, Nat.mul_comm]
theorem nu_y8 (c i : Nat) : 8 * nI c + nI i = nI (8 * c + i) := by
  rw [show 8 * nI c = nI (8 * c) from pk_mul 8 c, nI_add]
theorem nu_y12 (c i : Nat) : 12 * nI c + nI i = nI (12 * c + i) := by
  rw [show 12 * nI c = nI (12 * c) from pk_mul 12 c, nI_add]
theorem nu_m8 (c : Nat) : 8 * nI c = nI (8 * c) := pk_mul 8 c
theorem nu_m12 (c : Nat) : 12 * nI c = nI (12 * c) := pk_mul 12 c
theorem nu_8p (c : Nat) : 8 + nI c = nI (8 + c) := nI_add 8 c
theorem nu_m1 {n : Nat} (h : 0 < n) : nI n - 1 = nI (n - 1) := by
  obtain ⟨m, rfl⟩ : ∃ m, n = m + 1 := ⟨n - 1, by omega⟩
  exact nI_pred m
theorem nu_p1 {n : Nat} (h : 0 < n) : nI n + (-1) = nI (n - 1) := by
  obtain ⟨m, rfl⟩ : ∃ m, n = m + 1 := ⟨n - 1, by omega⟩
  exact pk_m1 m
theorem nu_ne {a b : Nat} (h : a ≠ b) (ha : a < 2 ^ 31) (hb : b < 2 ^ 31) : ¬ nI a = nI b := fun z => h ((nI_eq ha hb).mp z)
theorem nu_neg1 {n : Nat} (h : n < 2 ^ 31) : ¬ nI n = -1 := by
  intro e
  have := nI_pos (n := n) h
  rw [e] at this
  exact this (by decide)
end
section
/-! K: what each call makes of the clients -/
theorem cl_idle {st q qo qk qa rc we : Nat → Int32} {c : Nat} (h : cl_R st q qo qk qa rc we) (hc : c < 4) (h2 : st c ≠ 2) : q c = 0 := by
  obtain ⟨_, _, _, n, _, e, z, _⟩ := h c hc
  rw [e, z h2]
  rfl
theorem cl_free {st q qo qk qa rc we : Nat → Int32} {c : Nat} (h : cl_R st q qo qk qa rc we) (h2 : c < 4 → st c ≠ 2) : cl_R (upd st c 0) q qo qk qa rc we := by
  refine cl_up h c (fun s e => ⟨pk_un e, rfl, rfl, rfl⟩) (fun j _ => ⟨rfl, rfl, rfl⟩) (fun hc => ?_)
  obtain ⟨h1, h3, h4, n, h5, h6, h7, h8⟩ := h c hc
  exact ⟨Or.inl pk_us, h3, h4, n, h5, h6, fun _ => h7 (h2 hc), h8⟩
theorem cl_rel {st q qo qk qa rc we : Nat → Int32} {c : Nat} (h : cl_R st q qo qk qa rc we) : cl_R (upd st c 0) (upd q c 0) qo qk qa rc we := by
  refine cl_up h c (fun s e => ⟨pk_un e, pk_un e, rfl, rfl⟩) (fun j _ => ⟨rfl, rfl, rfl⟩) (fun hc => ?_)
  obtain ⟨h1, h3, h4, n, h5, h6, h7, h8⟩ := h c hc
  exact ⟨Or.inl pk_us, h3, h4, 0, by omega, pk_us, fun _ => rfl, fun i hi => absurd hi (by omega)⟩
theorem cl_begin {st q qo qk qa rc we : Nat → Int32} {c : Nat} (h : cl_R st q qo qk qa rc we) : cl_R (upd st c 2) q qo qk qa rc we := by
  refine cl_up h c (fun s e => ⟨pk_un e, rfl, rfl, rfl⟩) (fun j _ => ⟨rfl, rfl, rfl⟩) (fun hc => ?_)
  obtain ⟨h1, h3, h4, n, h5, h6, h7, h8⟩ := h c hc
  exact ⟨Or.inr (Or.inr pk_us), h3, h4, n, h5, h6, fun z => absurd pk_us z, h8⟩
theorem cl_wait {st q qo qk qa rc we : Nat → Int32} {c : Nat} {x : Int32} (h : cl_R st q qo qk qa rc we) (hx : 0 ≤ x) (h2 : st c ≠ 2) : cl_R (upd st c 1) q qo qk qa rc (upd we c x) := by
  refine cl_up h c (fun s e => ⟨pk_un e, rfl, rfl, pk_un e⟩) (fun j _ => ⟨rfl, rfl, rfl⟩) (fun hc => ?_)
  obtain ⟨h1, h3, h4, n, h5, h6, h7, h8⟩ := h c hc
  exact ⟨Or.inr (Or.inl pk_us), by rw [pk_us]; exact hx, h4, n, h5, h6, fun _ => h7 h2, h8⟩
theorem cl_rc {st q qo qk qa rc we : Nat → Int32} {c n : Nat} (h : cl_R st q qo qk qa rc we) (hn : n ≤ 8) : cl_R st q qo qk qa (upd rc c (nI n)) we := by
  refine cl_up h c (fun s e => ⟨rfl, rfl, pk_un e, rfl⟩) (fun j _ => ⟨rfl, rfl, rfl⟩) (fun hc => ?_)
  obtain ⟨h1, h3, h4, h5⟩ := h c hc
  exact ⟨h1, h3, ⟨n, hn, pk_us⟩, h5⟩
theorem cl_enq {st q qo qk qa rc we : Nat → Int32} {c n : Nat} {o k a : Int32} (h : cl_R st q qo qk qa rc we) (hq : q c = nI n) (hn : n < 8) (h2 : st c = 2) (hm : cm_R o k a) :
    cl_R st (upd q c (nI (n + 1))) (upd qo (8 * c + n) o) (upd qk (8 * c + n) k) (upd qa (8 * c + n) a) rc we := by
  refine cl_up h c (fun s e => ⟨rfl, pk_un e, rfl, rfl⟩) (fun j _ => ⟨pk_un (by omega), pk_un (by omega), pk_un (by omega)⟩) (fun hc => ?_)
  obtain ⟨h1, h3, h4, n', h5, h6, h7, h8⟩ := h c hc
  have nn : n' = n := (nI_eq (by omega) (by omega)).mp (h6.symm.trans hq)
  subst nn
  refine ⟨h1, h3, h4, n' + 1, by omega, pk_us, fun z => absurd h2 z, fun i hi => ?_⟩
  by_cases e : i = n'
  · subst e
    rw [pk_us, pk_us, pk_us]
    exact hm
  · rw [pk_un (by omega), pk_un (by omega), pk_un (by omega)]
    exact h8 i (by omega)
/-! L: who is served -/
def sv_g (st wk wo : Nat → Int32) (wt : Nat → Int64) (key : Int32) : Nat → Int32
  | 0 => -1
  | c + 1 => if st c = 1 ∧ (wk c = key ∨ wo c = key) ∧ (sv_g st wk wo wt key c < 0 ∨ wt c < wt (sv_g st wk wo wt key c).toNatClampNeg) then nI c else sv_g st wk wo wt key c
theorem sv_g_cases (st wk wo : Nat → Int32) (wt : Nat → Int64) (key : Int32) : ∀ n, sv_g st wk wo wt key n = -1 ∨ ∃ c, c < n ∧ sv_g st wk wo wt key n = nI c ∧ st c = 1
  | 0 => Or.inl rfl
  | n + 1 => by
    unfold sv_g
    by_cases e : st n = 1 ∧ (wk n = key ∨ wo n = key) ∧ (sv_g st wk wo wt key n < 0 ∨ wt n < wt (sv_g st wk wo wt key n).toNatClampNeg)
    · rw [if_pos e]
      exact Or.inr ⟨n, by omega, rfl, e.1⟩
    · rw [if_neg e]
      rcases sv_g_cases st wk wo wt key n with h | ⟨c, h1, h2, h3⟩
      · exact Or.inl h
      · exact Or.inr ⟨c, by omega, h2, h3⟩
def sv_ok (kd st wk wo : Nat → Int32) (wt : Nat → Int64) (k : Nat) : Prop := kd k = 2 ∧ ¬ sv_g st wk wo wt (nI k) 4 < 0
theorem sv_c {kd st wk wo : Nat → Int32} {wt : Nat → Int64} {k : Nat} (h : sv_ok kd st wk wo wt k) : ∃ c, c < 4 ∧ sv_g st wk wo wt (nI k) 4 = nI c ∧ st c = 1 := by
  rcases sv_g_cases st wk wo wt (nI k) 4 with e | e
  · exact absurd (show sv_g st wk wo wt (nI k) 4 < 0 by rw [e]; decide) h.2
  · exact e
/-- the first key that is served -/
def sv_F (kd st wk wo : Nat → Int32) (wt : Nat → Int64) (r : Int32) : Prop := (r = -1 ∧ ∀ k, k < 8 → ¬ sv_ok kd st wk wo wt k) ∨ (∃ p, p < 8 ∧ sv_ok kd st wk wo wt p ∧ (∀ i, i < p → ¬ sv_ok kd st wk wo wt i) ∧ r = nI p)
theorem sv_Fex (kd st wk wo : Nat → Int32) (wt : Nat → Int64) : ∃ r, sv_F kd st wk wo wt r := by
  by_cases h : ∃ p, p < 8 ∧ sv_ok kd st wk wo wt p
  · obtain ⟨p, ⟨hp, e⟩, hl⟩ := pk_least _ h
    exact ⟨nI p, Or.inr ⟨p, hp, e, fun i hi z => hl i hi ⟨by omega, z⟩, rfl⟩⟩
  · exact ⟨-1, Or.inl ⟨rfl, fun i hi z => h ⟨i, hi, z⟩⟩⟩
def sv_n (st : Nat → Int32) : Nat := ws_c (fun c => decide (st c = 1)) 4
theorem sv_n_le (st : Nat → Int32) : sv_n st ≤ 4 := ws_c_le _ 4
theorem sv_n_dn {st : Nat → Int32} {c : Nat} (hc : c < 4) (h : st c = 1) : sv_n st = sv_n (upd st c 0) + 1 :=
  ws_c_dn hc (show decide (st c = 1) = true by rw [h]; decide) (show decide (upd st c 0 c = 1) = false by rw [pk_us]; decide) (fun j hj hn => show decide (upd st c 0 j = 1) = decide (st j = 1) by rw [pk_un hn])
theorem sv_n0 {kd st wk wo : Nat → Int32} {wt : Nat → Int64} {k : Nat} (h : sv_n st = 0) : ¬ sv_ok kd st wk wo wt k := by
  intro z
  obtain ⟨c, hc, _, e⟩ := sv_c z
  have : decide (st c = 1) = false := ws_c_0 h c hc
  rw [e] at this
  exact absurd this (by decide)
/-! M: all clients anew; waits that end -/
def ws_z (f : Nat → Int32) (i : Nat) : Nat → Int32 := fun j => if j < i then 0 else f j
def ws_zL (f : Nat → Int64) (x : Int64) (i : Nat) : Nat → Int64 := fun j => if j < i then x else f j
theorem ws_z0 (f : Nat → Int32) : ws_z f 0 = f := by
  funext j
  unfold ws_z
  rw [if_neg (by omega)]
theorem ws_zL0 (f : Nat → Int64) (x : Int64) : ws_zL f x 0 = f := by
  funext j
  unfold ws_zL
  rw [if_neg (by omega)]
theorem ws_zs (f : Nat → Int32) (i : Nat) : upd (ws_z f i) i 0 = ws_z f (i + 1) := by
  funext j
  unfold upd ws_z
  by_cases e : j = i
  · rw [if_pos e, if_pos (by omega)]
  · rw [if_neg e]
    by_cases e2 : j < i
    · rw [if_pos e2, if_pos (by omega)]
    · rw [if_neg e2, if_neg (by omega)]
theorem ws_zLs (f : Nat → Int64) (x : Int64) (i : Nat) : vp_updL (ws_zL f x i) i x = ws_zL f x (i + 1) := by
  funext j
  unfold vp_updL ws_zL
  by_cases e : j = i
  · rw [if_pos e, if_pos (by omega)]
  · rw [if_neg e]
    by_cases e2 : j < i
    · rw [if_pos e2, if_pos (by omega)]
    · rw [if_neg e2, if_neg (by omega)]
theorem ws_zz (w : Nat → Int32) (i : Nat) : ws_zr (ws_z w (8 * i)) i 8 = ws_z w (8 * (i + 1)) := by
  funext j
  unfold ws_zr ws_z
  by_cases e : 8 * i ≤ j ∧ j < 8 * i + 8
  · rw [if_pos e, if_pos (by omega)]
  · rw [if_neg e]
    by_cases e2 : j < 8 * i
    · rw [if_pos e2, if_pos (by omega)]
    · rw [if_neg e2, if_neg (by omega)]
theorem ws_z_in {f : Nat → Int32} {i j : Nat} (h : j < i) : ws_z f i j = 0 := if_pos h
theorem wa_zero (w wd d : Nat → Int32) : wa_R (ws_z w (8 * 4)) (ws_z wd 4) (ws_z d 4) := by
  intro c hc
  rw [ws_z_in hc, ws_z_in hc]
  have z : ∀ k, k < 8 → ws_z w (8 * 4) (8 * c + k) = 0 := fun k hk => ws_z_in (by omega)
  refine ⟨fun k hk => Or.inl (z k hk), fun k hk => ?_, Or.inl rfl, ?_⟩
  · rw [z k hk, b_0]
    exact ⟨fun y => absurd y (by decide), fun y => absurd rfl y⟩
  · refine ⟨fun y => absurd y (by decide), fun ⟨j, hj, y⟩ => ?_⟩
    rw [z j hj] at y
    exact absurd y (by decide)
theorem cl_zero {st q qo qk qa rc we : Nat → Int32} (h : ∀ c, c < 4 → (0 : Int32) ≤ we c) : cl_R (ws_z st 4) (ws_z q 4) qo qk qa (ws_z rc 4) we :=
  fun c hc => ⟨Or.inl (ws_z_in hc), h c hc, ⟨0, by omega, ws_z_in hc⟩, 0, by omega, ws_z_in hc, fun _ => rfl, fun i hi => absurd hi (by omega)⟩
def ws_ew (st we : Nat → Int32) (tm : Int32) (i : Nat) : Nat → Int32 := fun c => if c < i ∧ st c = 1 ∧ we c ≠ 0 ∧ we c ≤ tm then 0 else st c
theorem ws_ew0 (st we : Nat → Int32) (tm : Int32) : ws_ew st we tm 0 = st := by
  funext j
  unfold ws_ew
  rw [if_neg (by omega)]
theorem ws_ew_at (st we : Nat → Int32) (tm : Int32) (i : Nat) : ws_ew st we tm i i = st i := by
  unfold ws_ew
  rw [if_neg (fun z => absurd z.1 (by omega))]
theorem ws_ews {st we : Nat → Int32} {tm : Int32} {i : Nat} (h : st i = 1 ∧ we i ≠ 0 ∧ we i ≤ tm) : upd (ws_ew st we tm i) i 0 = ws_ew st we tm (i + 1) := by
  funext j
  unfold upd ws_ew
  by_cases e : j = i
  · subst e
    rw [if_pos rfl, if_pos ⟨by omega, h⟩]
  · rw [if_neg e]
    by_cases e2 : j < i ∧ st j = 1 ∧ we j ≠ 0 ∧ we j ≤ tm
    · rw [if_pos e2, if_pos ⟨by omega, e2.2⟩]
    · rw [if_neg e2, if_neg (fun z => e2 ⟨by omega, z.2⟩)]
theorem ws_ewn {st we : Nat → Int32} {tm : Int32} {i : Nat} (h : ¬ (st i = 1 ∧ we i ≠ 0 ∧ we i ≤ tm)) : ws_ew st we tm i = ws_ew st we tm (i + 1) := by
  funext j
  unfold ws_ew
  by_cases e2 : j < i ∧ st j = 1 ∧ we j ≠ 0 ∧ we j ≤ tm
  · rw [if_pos e2, if_pos ⟨by omega, e2.2⟩]
  · rw [if_neg e2, if_neg ?_]
    intro z
    by_cases e : j = i
    · subst e
      exact h z.2
    · exact e2 ⟨by omega, z.2⟩
theorem cl_ew {st q qo qk qa rc we : Nat → Int32} (h : cl_R st q qo qk qa rc we) (tm : Int32) : cl_R (ws_ew st we tm 4) q qo qk qa rc we := by
  intro c hc
  obtain ⟨h1, h3, h4, n, h5, h6, h7, h8⟩ := h c hc
  by_cases e : c < 4 ∧ st c = 1 ∧ we c ≠ 0 ∧ we c ≤ tm
  · have e1 : ws_ew st we tm 4 c = 0 := if_pos e
    exact ⟨Or.inl e1, h3, h4, n, h5, h6, fun _ => h7 (by rw [e.2.1]; decide), h8⟩
  · have e1 : ws_ew st we tm 4 c = st c := if_neg e
    exact ⟨by rw [e1]; exact h1, h3, h4, n, h5, h6, by rw [e1]; exact h7, h8⟩
end
section
section WX
variable {tm : Int32} {tn : Int64} {kd nu sz dl ix sx iy sy st wk wo we w wd d q qo qk qa qb rc ra : Nat → Int32} {wt te tk tf tg rs : Nat → Int64}
/-! N: X's small methods -/
theorem wx_clear {post : SX → Prop} {k : Nat} (hk : k < 16) (h : post (tm, tn, upd kd k 0, upd nu k 0, upd sz k 0, upd dl k 0, ix, sx, st, wk, wo, we, wt, te, tk, w, q, qo, qk, qa, qb, rc, rs)) : wpX_clearSlot post (tm, tn, kd, nu, sz, dl, ix, sx, st, wk, wo, we, wt, te, tk, w, q, qo, qk, qa, qb, rc, rs) (nI k) := by
  have e : (nI k).toNatClampNeg = k := nI_clamp (by omega)
  have i : vp_in (nI k) 16 := vp_in_nI hk (by omega)
  unfold wpX_clearSlot
  dsimp only
  rw [e]
  exact ⟨i, nm_e ⟨i, nm_e ⟨i, nm_e ⟨i, nm_e h⟩⟩⟩⟩
theorem wx_forget {post : SX → Prop} {c : Nat} (hc : c < 4) (h : post (tm, tn, kd, nu, sz, dl, ix, sx, st, wk, wo, we, wt, vp_updL te c 10000000006, vp_updL tk c 10000000006, w, q, qo, qk, qa, qb, rc, rs)) : wpX_forgetTaken post (tm, tn, kd, nu, sz, dl, ix, sx, st, wk, wo, we, wt, te, tk, w, q, qo, qk, qa, qb, rc, rs) (nI c) := by
  have e : (nI c).toNatClampNeg = c := nI_clamp (by omega)
  have i : vp_in (nI c) 4 := vp_in_nI hc (by omega)
  unfold wpX_forgetTaken
  dsimp only
  rw [e]
  exact ⟨i, nm_e ⟨i, nm_e h⟩⟩
theorem wx_mark_l {post : SX → Prop} {k : Nat} (hk : k < 8) (h : post (tm, tn, kd, nu, sz, dl, ix, sx, st, wk, wo, we, wt, te, tk, ws_mk w k 4, q, qo, qk, qa, qb, rc, rs)) : ∀ m i, i + m = 4 → wX_markChanged_2 post (nI k) tm tn (m + 1) (nI i) kd nu sz dl ix sx st wk wo we wt te tk (ws_mk w k i) q qo qk qa qb rc rs := by
  intro m
  induction m with
  | zero =>
    intro i hi
    obtain rfl : i = 4 := by omega
    exact br_t (nI_le (a := 4) (b := 4) (by omega) (by omega)) h
  | succ m ih =>
    intro i hi
    have c1 : ¬ (4 : Int32) ≤ nI i := nI_ge (b := 4) (by omega) (by decide)
    have e2 : (nI (8 * i + k)).toNatClampNeg = 8 * i + k := nI_clamp (by omega)
    have v : vp_in (nI (8 * i + k)) 32 := vp_in_nI (by omega) (by omega)
    refine br_f c1 (nm_r (nu_x8 i k) ⟨v, ?_⟩)
    rw [e2, ws_mk_same w hk]
    by_cases z : w (8 * i + k) = 1
    · exact br_t z ⟨v, nm_r (ws_mks w hk z) (nm_r (nI_1 i) (ih (i + 1) (by omega)))⟩
    · refine br_f z (nm_r (nI_1 i) ?_)
      rw [ws_mkn w z]
      exact ih (i + 1) (by omega)
theorem wx_mark {post : SX → Prop} {k : Nat} (hk : k < 8) (h : post (tm, tn, kd, nu, sz, dl, ix, sx, st, wk, wo, we, wt, te, tk, ws_mk w k 4, q, qo, qk, qa, qb, rc, rs)) : wpX_markChanged post (tm, tn, kd, nu, sz, dl, ix, sx, st, wk, wo, we, wt, te, tk, w, q, qo, qk, qa, qb, rc, rs) (nI k) := by
  have g := wx_mark_l hk h 4 0 rfl
  rw [ws_mk0] at g
  exact ⟨5, g⟩
theorem wx_rel_l {post : SX → Prop} {c : Nat} (hc : c < 4) (h : post (tm, tn, kd, nu, sz, dl, ix, sx, st, wk, wo, we, wt, te, tk, ws_zr w c 8, q, qo, qk, qa, qb, rc, rs)) : ∀ m i, i + m = 8 → wX_release_16 post (nI c) tm tn (m + 1) (nI i) kd nu sz dl ix sx st wk wo we wt te tk (ws_zr w c i) q qo qk qa qb rc rs := by
  intro m
  induction m with
  | zero =>
    intro i hi
    obtain rfl : i = 8 := by omega
    exact br_t (nI_le (a := 8) (b := 8) (by omega) (by omega)) h
  | succ m ih =>
    intro i hi
    have c1 : ¬ (8 : Int32) ≤ nI i := nI_ge (b := 8) (by omega) (by decide)
    have e2 : (nI (8 * c + i)).toNatClampNeg = 8 * c + i := nI_clamp (by omega)
    have v : vp_in (nI (8 * c + i)) 32 := vp_in_nI (by omega) (by omega)
    refine br_f c1 ?_
    rw [nu_x8, e2, ws_zrs]
    exact ⟨v, nm_e (nm_r (nI_1 i) (ih (i + 1) (by omega)))⟩
theorem wx_rel {post : SX → Prop} {c : Nat} (hc : c < 4) (h : post (tm, tn, kd, nu, sz, dl, ix, sx, upd st c 0, wk, wo, we, wt, te, tk, ws_zr w c 8, upd q c 0, qo, qk, qa, qb, rc, rs)) : wpX_release post (tm, tn, kd, nu, sz, dl, ix, sx, st, wk, wo, we, wt, te, tk, w, q, qo, qk, qa, qb, rc, rs) (nI c) := by
  have e : (nI c).toNatClampNeg = c := nI_clamp (by omega)
  have i : vp_in (nI c) 4 := vp_in_nI hc (by omega)
  have g := wx_rel_l hc h 8 0 rfl
  rw [ws_zr0] at g
  unfold wpX_release
  dsimp only
  rw [e]
  exact ⟨i, nm_e ⟨i, nm_e ⟨9, g⟩⟩⟩
theorem wx_reset_l {post : SX → Prop} (h : post (tm, tn, kd, nu, sz, dl, ix, sx, ws_z st 4, wk, wo, we, wt, ws_zL te 10000000006 4, ws_zL tk 10000000006 4, ws_z w (8 * 4), ws_z q 4, qo, qk, qa, qb, ws_z rc 4, rs)) : ∀ m i, i + m = 4 → wX_resetClients_2 post (m + 1) (nI i) tm tn kd nu sz dl ix sx (ws_z st i) wk wo we wt (ws_zL te 10000000006 i) (ws_zL tk 10000000006 i) (ws_z w (8 * i)) (ws_z q i) qo qk qa qb (ws_z rc i) rs := by
  intro m
  induction m with
  | zero =>
    intro i hi
    obtain rfl : i = 4 := by omega
    exact br_t (nI_le (a := 4) (b := 4) (by omega) (by omega)) h
  | succ m ih =>
    intro i hi
    have c1 : ¬ (4 : Int32) ≤ nI i := nI_ge (b := 4) (by omega) (by decide)
    have e2 : (nI i).toNatClampNeg = i := nI_clamp (by omega)
    have v : vp_in (nI i) 4 := vp_in_nI (by omega) (by omega)
    refine br_f c1 (wx_rel (by omega) ⟨v, ?_⟩)
    rw [e2, ws_zs, ws_zs, ws_zz, ws_zs]
    refine nm_e (wx_forget (by omega) ?_)
    rw [ws_zLs, ws_zLs]
    exact nm_r (nI_1 i) (ih (i + 1) (by omega))
theorem wx_reset {post : SX → Prop} (h : post (tm, tn, kd, nu, sz, dl, ix, sx, ws_z st 4, wk, wo, we, wt, ws_zL te 10000000006 4, ws_zL tk 10000000006 4, ws_z w (8 * 4), ws_z q 4, qo, qk, qa, qb, ws_z rc 4, rs)) : wpX_resetClients post (tm, tn, kd, nu, sz, dl, ix, sx, st, wk, wo, we, wt, te, tk, w, q, qo, qk, qa, qb, rc, rs) := by
  have g := wx_reset_l h 4 0 rfl
  rw [Nat.mul_zero, ws_z0, ws_z0, ws_z0, ws_z0, ws_zL0, ws_zL0] at g
  exact ⟨5, g⟩
theorem wx_opn_l {post : SX → Prop} {k n p : Nat} (hk : k < 16) (hz : sz k = nI n) (hn : n < 12) (h : post (tm, tn, kd, nu, upd sz k (nI (n + 1)), dl, ws_op ix (12 * k + p) (12 * k + n), ws_op sx (12 * k + p) (12 * k + n), st, wk, wo, we, wt, te, tk, w, q, qo, qk, qa, qb, rc, rs)) : ∀ m i, i = p + m → i ≤ n → wX_openPlace_7 post (nI k) (nI p) tm tn (m + 1) (nI i) kd nu sz dl (ws_op ix (12 * k + i) (12 * k + n)) (ws_op sx (12 * k + i) (12 * k + n)) st wk wo we wt te tk w q qo qk qa qb rc rs := by
  have ek : (nI k).toNatClampNeg = k := nI_clamp (by omega)
  have vk : vp_in (nI k) 16 := vp_in_nI hk (by omega)
  intro m
  induction m with
  | zero =>
    intro i hi hin
    obtain rfl : i = p := by omega
    refine br_t (nI_le (by omega) (by omega)) ?_
    rw [ek, hz]
    exact ⟨vk, vk, nm_r (by rw [nI_1]) h⟩
  | succ m ih =>
    intro i hi hin
    obtain ⟨j, rfl⟩ : ∃ j, i = j + 1 := ⟨i - 1, by omega⟩
    have c1 : ¬ nI (j + 1) ≤ nI p := nI_ge (by omega) (by omega)
    have e0 : nI k * 12 + nI (j + 1) = nI (12 * k + j + 1) := nu_x12 k (j + 1)
    have e1 : nI (12 * k + j + 1) - 1 = nI (12 * k + j) := nI_pred _
    have e2 : (nI (12 * k + j + 1)).toNatClampNeg = 12 * k + j + 1 := nI_clamp (by omega)
    have e3 : (nI (12 * k + j)).toNatClampNeg = 12 * k + j := nI_clamp (by omega)
    have v : vp_in (nI (12 * k + j + 1)) 192 := vp_in_nI (by omega) (by omega)
    have v1 : vp_in (nI (12 * k + j)) 192 := vp_in_nI (by omega) (by omega)
    refine br_f c1 (nm_r e0 ?_)
    rw [e1, e2, e3]
    refine ⟨v1, v, nm_r (ws_ops ix (i := 12 * k + j) (by omega)) ⟨v1, v, nm_r (ws_ops sx (i := 12 * k + j) (by omega)) (nm_r (pk_m1 j) (ih j (by omega) (by omega)))⟩⟩
theorem wx_opn {post : SX → Prop} {k n p : Nat} (hk : k < 16) (hz : sz k = nI n) (hn : n < 12) (hp : p ≤ n) (h : post (tm, tn, kd, nu, upd sz k (nI (n + 1)), dl, ws_op ix (12 * k + p) (12 * k + n), ws_op sx (12 * k + p) (12 * k + n), st, wk, wo, we, wt, te, tk, w, q, qo, qk, qa, qb, rc, rs)) : wpX_openPlace post (tm, tn, kd, nu, sz, dl, ix, sx, st, wk, wo, we, wt, te, tk, w, q, qo, qk, qa, qb, rc, rs) (nI k) (nI p) := by
  have ek : (nI k).toNatClampNeg = k := nI_clamp (by omega)
  have vk : vp_in (nI k) 16 := vp_in_nI hk (by omega)
  have g := wx_opn_l hk hz hn h (n - p) n (by omega) (by omega)
  rw [ws_op0, ws_op0] at g
  unfold wpX_openPlace
  dsimp only
  rw [ek, hz]
  exact ⟨vk, nm_e ⟨_, g⟩⟩
theorem wx_cls_l {post : SX → Prop} {k n p : Nat} (hk : k < 16) (hn : n < 12) (h : post (tm, tn, kd, nu, upd sz k (nI n), dl, ws_cl ix (12 * k + p) (12 * k + n), ws_cl sx (12 * k + p) (12 * k + n), st, wk, wo, we, wt, te, tk, w, q, qo, qk, qa, qb, rc, rs)) : ∀ m i, p ≤ i → i + m = n → wX_closePlace_12 post (nI k) (nI n) tm tn (m + 1) (nI i) kd nu sz dl (ws_cl ix (12 * k + p) (12 * k + i)) (ws_cl sx (12 * k + p) (12 * k + i)) st wk wo we wt te tk w q qo qk qa qb rc rs := by
  have ek : (nI k).toNatClampNeg = k := nI_clamp (by omega)
  have vk : vp_in (nI k) 16 := vp_in_nI hk (by omega)
  intro m
  induction m with
  | zero =>
    intro i hi hin
    obtain rfl : i = n := by omega
    refine br_t (nI_le (by omega) (by omega)) ?_
    rw [ek]
    exact ⟨vk, nm_e h⟩
  | succ m ih =>
    intro i hi hin
    have c1 : ¬ nI n ≤ nI i := nI_ge (by omega) (by omega)
    have e1 : nI (12 * k + i) + 1 = nI (12 * k + i + 1) := nI_1 _
    have e2 : (nI (12 * k + i + 1)).toNatClampNeg = 12 * k + i + 1 := nI_clamp (by omega)
    have e3 : (nI (12 * k + i)).toNatClampNeg = 12 * k + i := nI_clamp (by omega)
    have v : vp_in (nI (12 * k + i + 1)) 192 := vp_in_nI (by omega) (by omega)
    have v1 : vp_in (nI (12 * k + i)) 192 := vp_in_nI (by omega) (by omega)
    refine br_f c1 (nm_r (nu_x12 k i) ?_)
    rw [e1, e2, e3]
    exact ⟨v, v1, nm_r (ws_cls ix (i := 12 * k + i) (by omega)) ⟨v, v1, nm_r (ws_cls sx (i := 12 * k + i) (by omega)) (nm_r (nI_1 i) (ih (i + 1) (by omega) (by omega)))⟩⟩
theorem wx_cls {post : SX → Prop} {k n p : Nat} (hk : k < 16) (hz : sz k = nI (n + 1)) (hn : n < 12) (hp : p ≤ n) (h : post (tm, tn, kd, nu, upd sz k (nI n), dl, ws_cl ix (12 * k + p) (12 * k + n), ws_cl sx (12 * k + p) (12 * k + n), st, wk, wo, we, wt, te, tk, w, q, qo, qk, qa, qb, rc, rs)) : wpX_closePlace post (tm, tn, kd, nu, sz, dl, ix, sx, st, wk, wo, we, wt, te, tk, w, q, qo, qk, qa, qb, rc, rs) (nI k) (nI p) := by
  have ek : (nI k).toNatClampNeg = k := nI_clamp (by omega)
  have vk : vp_in (nI k) 16 := vp_in_nI hk (by omega)
  have g := wx_cls_l hk hn h (n - p) p (by omega) (by omega)
  rw [ws_cl0, ws_cl0] at g
  unfold wpX_closePlace
  dsimp only
  rw [ek, hz]
  exact ⟨vk, nm_r (nI_pred n) ⟨_, g⟩⟩
theorem wx_cpy_l {post : SX → Prop} {s t : Nat} (hs : s < 16) (ht : t < 16) (hst : s ≠ t) (h : post (tm, tn, kd, nu, sz, dl, ws_cp ix (12 * s) (12 * t) 12, ws_cp sx (12 * s) (12 * t) 12, st, wk, wo, we, wt, te, tk, w, q, qo, qk, qa, qb, rc, rs)) : ∀ m i, i + m = 12 → wX_copySlot_50 post (nI s) (nI t) tm tn (m + 1) (nI i) kd nu sz dl (ws_cp ix (12 * s) (12 * t) i) (ws_cp sx (12 * s) (12 * t) i) st wk wo we wt te tk w q qo qk qa qb rc rs := by
  intro m
  induction m with
  | zero =>
    intro i hi
    obtain rfl : i = 12 := by omega
    exact br_t (nI_le (a := 12) (b := 12) (by omega) (by omega)) h
  | succ m ih =>
    intro i hi
    have c1 : ¬ (12 : Int32) ≤ nI i := nI_ge (b := 12) (by omega) (by decide)
    have e2 : (nI (12 * s + i)).toNatClampNeg = 12 * s + i := nI_clamp (by omega)
    have e3 : (nI (12 * t + i)).toNatClampNeg = 12 * t + i := nI_clamp (by omega)
    have v : vp_in (nI (12 * s + i)) 192 := vp_in_nI (by omega) (by omega)
    have v1 : vp_in (nI (12 * t + i)) 192 := vp_in_nI (by omega) (by omega)
    refine br_f c1 ?_
    rw [nu_x12, nu_x12, e2, e3]
    exact ⟨v, v1, nm_r (ws_cps ix (by omega)) ⟨v, v1, nm_r (ws_cps sx (by omega)) (nm_r (nI_1 i) (ih (i + 1) (by omega)))⟩⟩
theorem wx_cpy {post : SX → Prop} {s t : Nat} (hs : s < 16) (ht : t < 16) (hst : s ≠ t) (h : post (tm, tn, upd kd t (kd s), upd nu t (nu s), upd sz t (sz s), upd dl t (dl s), ws_cp ix (12 * s) (12 * t) 12, ws_cp sx (12 * s) (12 * t) 12, st, wk, wo, we, wt, te, tk, w, q, qo, qk, qa, qb, rc, rs)) : wpX_copySlot post (tm, tn, kd, nu, sz, dl, ix, sx, st, wk, wo, we, wt, te, tk, w, q, qo, qk, qa, qb, rc, rs) (nI s) (nI t) := by
  have es : (nI s).toNatClampNeg = s := nI_clamp (by omega)
  have vs : vp_in (nI s) 16 := vp_in_nI hs (by omega)
  have et : (nI t).toNatClampNeg = t := nI_clamp (by omega)
  have vt : vp_in (nI t) 16 := vp_in_nI ht (by omega)
  have g := wx_cpy_l hs ht hst h 12 0 rfl
  rw [ws_cp0, ws_cp0] at g
  unfold wpX_copySlot
  dsimp only
  rw [es, et]
  exact ⟨vs, vt, nm_e ⟨vs, vt, nm_e ⟨vs, vt, nm_e ⟨vs, vt, nm_e ⟨13, g⟩⟩⟩⟩⟩
theorem wx_fnd_l {post : Int32 → Prop} {k n : Nat} {m r : Int32} (hk : k < 16) (hn : n ≤ 12) (hF : ws_F ix (12 * k) n m r) (h : post r) : ∀ j i, i + j = n → (∀ a, a < i → ix (12 * k + a) ≠ m) → wX_placeOf_10 post (nI k) m (nI n) tm tn kd nu sz dl ix sx st wk wo we wt te tk w q qo qk qa qb rc rs (j + 1) (nI i) := by
  intro j
  induction j with
  | zero =>
    intro i hi hlo
    obtain rfl : i = n := by omega
    refine br_t (nI_le (by omega) (by omega)) ?_
    rcases hF with ⟨rfl, _⟩ | ⟨p, hp, e, _, _⟩
    · exact h
    · exact absurd e (hlo p hp)
  | succ j ih =>
    intro i hi hlo
    have c1 : ¬ nI n ≤ nI i := nI_ge (by omega) (by omega)
    have e2 : (nI (12 * k + i)).toNatClampNeg = 12 * k + i := nI_clamp (by omega)
    have v : vp_in (nI (12 * k + i)) 192 := vp_in_nI (by omega) (by omega)
    refine br_f c1 ?_
    rw [nu_x12, e2]
    refine ⟨v, ?_⟩
    by_cases z : ix (12 * k + i) = m
    · refine br_t z ?_
      rcases hF with ⟨_, hno⟩ | ⟨p, hp, e, hl, rfl⟩
      · exact absurd z (hno i (by omega))
      · have : p = i := by
          rcases Nat.lt_trichotomy p i with c | c | c
          · exact absurd e (hlo p c)
          · exact c
          · exact absurd z (hl i c)
        rw [← this]
        exact h
    · refine br_f z (nm_r (nI_1 i) (ih (i + 1) (by omega) (fun a ha => ?_)))
      by_cases c : a = i
      · rw [c]; exact z
      · exact hlo a (by omega)
theorem wx_fnd {post : Int32 → Prop} {k n : Nat} {m r : Int32} (hk : k < 16) (hz : sz k = nI n) (hn : n ≤ 12) (hF : ws_F ix (12 * k) n m r) (h : post r) : wpX_placeOf post (tm, tn, kd, nu, sz, dl, ix, sx, st, wk, wo, we, wt, te, tk, w, q, qo, qk, qa, qb, rc, rs) (nI k) m := by
  have ek : (nI k).toNatClampNeg = k := nI_clamp (by omega)
  have vk : vp_in (nI k) 16 := vp_in_nI hk (by omega)
  unfold wpX_placeOf
  dsimp only
  rw [ek, hz]
  exact ⟨vk, nm_e ⟨n + 1, wx_fnd_l hk hn hF h n 0 (by omega) (fun a ha => absurd ha (by omega))⟩⟩
theorem wx_for_l {post : Int32 → Prop} {k n p : Nat} {m v : Int32} (hk : k < 16) (hn : n ≤ 12) (hG : ws_G sx ix (12 * k) n m v p) (h : post (nI p)) : ∀ j i, i + j = n → i ≤ p → wX_placeFor_11 post (nI k) m v (nI n) tm tn kd nu sz dl ix sx st wk wo we wt te tk w q qo qk qa qb rc rs (j + 1) (nI i) := by
  obtain ⟨hp, hlo, hhi⟩ := hG
  intro j
  induction j with
  | zero =>
    intro i hi hip
    obtain rfl : i = n := by omega
    obtain rfl : i = p := by omega
    exact br_t (nI_le (by omega) (by omega)) h
  | succ j ih =>
    intro i hi hip
    have c1 : ¬ nI n ≤ nI i := nI_ge (by omega) (by omega)
    have e2 : (nI (12 * k + i)).toNatClampNeg = 12 * k + i := nI_clamp (by omega)
    have vi : vp_in (nI (12 * k + i)) 192 := vp_in_nI (by omega) (by omega)
    refine br_f c1 (nm_r (nu_x12 k i) ?_)
    rw [e2]
    have hit : ∀ {A : Prop}, ws_lt v m (sx (12 * k + i)) (ix (12 * k + i)) → (post (nI i) → A) → A := by
      intro A hl f
      have : p = i := by
        by_cases c : i < p
        · exact absurd hl (hlo i c)
        · omega
      rw [← this] at f
      exact f h
    have nx : ¬ ws_lt v m (sx (12 * k + i)) (ix (12 * k + i)) → wX_placeFor_11 post (nI k) m v (nI n) tm tn kd nu sz dl ix sx st wk wo we wt te tk w q qo qk qa qb rc rs (j + 1) (nI (i + 1)) := by
      intro hl
      refine ih (i + 1) (by omega) ?_
      by_cases c : i = p
      · rw [c] at hl
        exact absurd (hhi (by omega)) hl
      · omega
    refine ⟨vi, ?_⟩
    by_cases a : v < sx (12 * k + i)
    · exact br_t a (hit (Or.inl a) id)
    · refine br_f a ⟨vi, ?_⟩
      by_cases b : sx (12 * k + i) = v
      · refine br_t b ⟨vi, ?_⟩
        by_cases c : ix (12 * k + i) ≤ m
        · refine br_t c (nm_r (nI_1 i) (nx ?_))
          rintro (z | z)
          · exact a z
          · exact Int32.not_lt.mpr c z.2
        · refine br_f c (hit (Or.inr ⟨b.symm, Int32.not_le.mp c⟩) id)
      · refine br_f b (nm_r (nI_1 i) (nx ?_))
        rintro (z | z)
        · exact a z
        · exact b z.1.symm
theorem wx_for {post : Int32 → Prop} {k n p : Nat} {m v : Int32} (hk : k < 16) (hz : sz k = nI n) (hn : n ≤ 12) (hG : ws_G sx ix (12 * k) n m v p) (h : post (nI p)) : wpX_placeFor post (tm, tn, kd, nu, sz, dl, ix, sx, st, wk, wo, we, wt, te, tk, w, q, qo, qk, qa, qb, rc, rs) (nI k) m v := by
  have ek : (nI k).toNatClampNeg = k := nI_clamp (by omega)
  have vk : vp_in (nI k) 16 := vp_in_nI hk (by omega)
  unfold wpX_placeFor
  dsimp only
  rw [ek, hz]
  exact ⟨vk, nm_e ⟨n + 1, wx_for_l hk hn hG h n 0 (by omega) (by omega)⟩⟩
end WX
end
section
section WY
variable {tm : Int32} {tn : Int64} {kd nu sz dl ix sx iy sy st wk wo we w wd d q qo qk qa qb rc ra : Nat → Int32} {wt te tk tf tg rs : Nat → Int64}
/-! O: Y's small methods -/
theorem wy_b0 : vp_nar .boolean 0 = 0 := by decide
theorem wy_b1 : vp_nar .boolean 1 = 1 := by decide
theorem wy_clear {post : SY → Prop} {k : Nat} (hk : k < 16) (h : post (tm, tn, upd kd k 0, upd nu k 0, upd sz k 0, iy, sy, upd dl k 0, st, wk, wo, we, wt, wd, d, qo, qk, qa, qb, q, rs, rc, te, tk)) : wpY_nothing post (tm, tn, kd, nu, sz, iy, sy, dl, st, wk, wo, we, wt, wd, d, qo, qk, qa, qb, q, rs, rc, te, tk) (nI k) := by
  have e : (nI k).toNatClampNeg = k := nI_clamp (by omega)
  have i : vp_in (nI k) 16 := vp_in_nI hk (by omega)
  unfold wpY_nothing
  dsimp only
  rw [e]
  exact ⟨i, nm_e ⟨i, nm_e ⟨i, nm_e ⟨i, nm_e h⟩⟩⟩⟩
theorem wy_forget {post : SY → Prop} {c : Nat} (hc : c < 4) (h : post (tm, tn, kd, nu, sz, iy, sy, dl, st, wk, wo, we, wt, wd, d, qo, qk, qa, qb, q, rs, rc, vp_updL te c 10000000006, vp_updL tk c 10000000006)) : wpY_forgetTaken post (tm, tn, kd, nu, sz, iy, sy, dl, st, wk, wo, we, wt, wd, d, qo, qk, qa, qb, q, rs, rc, te, tk) (nI c) := by
  have e : (nI c).toNatClampNeg = c := nI_clamp (by omega)
  have i : vp_in (nI c) 4 := vp_in_nI hc (by omega)
  unfold wpY_forgetTaken
  dsimp only
  rw [e]
  exact ⟨i, nm_e ⟨i, nm_e h⟩⟩
theorem wy_unwatch {post : SY → Prop} {c : Nat} (hc : c < 4) (h : post (tm, tn, kd, nu, sz, iy, sy, dl, upd st c 0, wk, wo, we, wt, upd wd c 0, upd d c 0, qo, qk, qa, qb, upd q c 0, rs, rc, te, tk)) : wpY_unwatch post (tm, tn, kd, nu, sz, iy, sy, dl, st, wk, wo, we, wt, wd, d, qo, qk, qa, qb, q, rs, rc, te, tk) (nI c) := by
  have e : (nI c).toNatClampNeg = c := nI_clamp (by omega)
  have i : vp_in (nI c) 4 := vp_in_nI hc (by omega)
  unfold wpY_unwatch
  dsimp only
  rw [e, wy_b0]
  exact ⟨i, nm_e ⟨i, nm_e ⟨i, nm_e ⟨i, nm_e h⟩⟩⟩⟩
theorem wy_mark_l {post : SY → Prop} {k : Nat} (hk : k < 8) (h : post (tm, tn, kd, nu, sz, iy, sy, dl, st, wk, wo, we, wt, wd, ws_dc wd d k 4, qo, qk, qa, qb, q, rs, rc, te, tk)) : ∀ m i, i + m = 4 → wY_changes_2 post (nI k) tm tn (m + 1) (nI i) kd nu sz iy sy dl st wk wo we wt wd (ws_dc wd d k i) qo qk qa qb q rs rc te tk := by
  intro m
  induction m with
  | zero =>
    intro i hi
    obtain rfl : i = 4 := by omega
    exact br_t (nI_le (a := 4) (b := 4) (by omega) (by omega)) h
  | succ m ih =>
    intro i hi
    have c1 : ¬ (4 : Int32) ≤ nI i := nI_ge (b := 4) (by omega) (by decide)
    have e2 : (nI i).toNatClampNeg = i := nI_clamp (by omega)
    have v : vp_in (nI i) 4 := vp_in_nI (by omega) (by omega)
    refine br_f c1 ?_
    rw [e2, wy_b1]
    refine ⟨v, ?_⟩
    by_cases z : bt (wd i) k = true
    · exact br_t ((wa_bit _ hk).mpr z) ⟨v, nm_r (ws_dcs wd d z) (nm_r (nI_1 i) (ih (i + 1) (by omega)))⟩
    · refine br_f (fun y => z ((wa_bit _ hk).mp y)) (nm_r (nI_1 i) ?_)
      rw [ws_dcn wd d z]
      exact ih (i + 1) (by omega)
theorem wy_mark {post : SY → Prop} {k : Nat} (hk : k < 8) (h : post (tm, tn, kd, nu, sz, iy, sy, dl, st, wk, wo, we, wt, wd, ws_dc wd d k 4, qo, qk, qa, qb, q, rs, rc, te, tk)) : wpY_changes post (tm, tn, kd, nu, sz, iy, sy, dl, st, wk, wo, we, wt, wd, d, qo, qk, qa, qb, q, rs, rc, te, tk) (nI k) := by
  have g := wy_mark_l hk h 4 0 rfl
  rw [ws_dc0] at g
  exact ⟨5, g⟩
theorem wy_cpy_l {post : SY → Prop} {s t : Nat} (hs : s < 16) (ht : t < 16) (hst : s ≠ t) (h : post (tm, tn, kd, nu, sz, ws_cp iy (12 * s) (12 * t) 12, ws_cp sy (12 * s) (12 * t) 12, dl, st, wk, wo, we, wt, wd, d, qo, qk, qa, qb, q, rs, rc, te, tk)) : ∀ m i, i + m = 12 → wY_copy_50 post (nI s) (nI t) tm tn (m + 1) (nI i) kd nu sz (ws_cp iy (12 * s) (12 * t) i) (ws_cp sy (12 * s) (12 * t) i) dl st wk wo we wt wd d qo qk qa qb q rs rc te tk := by
  intro m
  induction m with
  | zero =>
    intro i hi
    obtain rfl : i = 12 := by omega
    exact br_t (nI_le (a := 12) (b := 12) (by omega) (by omega)) h
  | succ m ih =>
    intro i hi
    have c1 : ¬ (12 : Int32) ≤ nI i := nI_ge (b := 12) (by omega) (by decide)
    have e2 : (nI (12 * s + i)).toNatClampNeg = 12 * s + i := nI_clamp (by omega)
    have e3 : (nI (12 * t + i)).toNatClampNeg = 12 * t + i := nI_clamp (by omega)
    have v : vp_in (nI (12 * s + i)) 192 := vp_in_nI (by omega) (by omega)
    have v1 : vp_in (nI (12 * t + i)) 192 := vp_in_nI (by omega) (by omega)
    refine br_f c1 ?_
    rw [nu_y12, nu_y12, e2, e3]
    exact ⟨v, v1, nm_r (ws_cps iy (by omega)) ⟨v, v1, nm_r (ws_cps sy (by omega)) (nm_r (nI_1 i) (ih (i + 1) (by omega)))⟩⟩
theorem wy_cpy {post : SY → Prop} {s t : Nat} (hs : s < 16) (ht : t < 16) (hst : s ≠ t) (h : post (tm, tn, upd kd t (kd s), upd nu t (nu s), upd sz t (sz s), ws_cp iy (12 * s) (12 * t) 12, ws_cp sy (12 * s) (12 * t) 12, upd dl t (dl s), st, wk, wo, we, wt, wd, d, qo, qk, qa, qb, q, rs, rc, te, tk)) : wpY_copy post (tm, tn, kd, nu, sz, iy, sy, dl, st, wk, wo, we, wt, wd, d, qo, qk, qa, qb, q, rs, rc, te, tk) (nI s) (nI t) := by
  have es : (nI s).toNatClampNeg = s := nI_clamp (by omega)
  have vs : vp_in (nI s) 16 := vp_in_nI hs (by omega)
  have et : (nI t).toNatClampNeg = t := nI_clamp (by omega)
  have vt : vp_in (nI t) 16 := vp_in_nI ht (by omega)
  have g := wy_cpy_l hs ht hst h 12 0 rfl
  rw [ws_cp0, ws_cp0] at g
  unfold wpY_copy
  dsimp only
  rw [es, et]
  exact ⟨vs, vt, nm_e ⟨vs, vt, nm_e ⟨vs, vt, nm_e ⟨vs, vt, nm_e ⟨13, g⟩⟩⟩⟩⟩
theorem wy_fnd_l {post : Int32 → Prop} {k n : Nat} {m r : Int32} (hk : k < 16) (hz : sz k = nI n) (hn : n ≤ 12) (hF : ws_F iy (12 * k) n m r) (h : post r) : ∀ j i, i + j = n → (∀ a, a < i → iy (12 * k + a) ≠ m) → wY_find_2 post (nI k) m tm tn kd nu sz iy sy dl st wk wo we wt wd d qo qk qa qb q rs rc te tk (j + 1) (nI i) := by
  have ek : (nI k).toNatClampNeg = k := nI_clamp (by omega)
  have vk : vp_in (nI k) 16 := vp_in_nI hk (by omega)
  intro j
  induction j with
  | zero =>
    intro i hi hlo
    obtain rfl : i = n := by omega
    unfold wY_find_2
    rw [ek, hz]
    refine ⟨vk, br_t (nI_le (by omega) (by omega)) ?_⟩
    rcases hF with ⟨rfl, _⟩ | ⟨p, hp, e, _, _⟩
    · exact h
    · exact absurd e (hlo p hp)
  | succ j ih =>
    intro i hi hlo
    have c1 : ¬ nI n ≤ nI i := nI_ge (by omega) (by omega)
    have e2 : (nI (12 * k + i)).toNatClampNeg = 12 * k + i := nI_clamp (by omega)
    have v : vp_in (nI (12 * k + i)) 192 := vp_in_nI (by omega) (by omega)
    unfold wY_find_2
    rw [ek, hz, nu_y12, e2]
    refine ⟨vk, br_f c1 ⟨v, ?_⟩⟩
    by_cases z : iy (12 * k + i) = m
    · refine br_t z ?_
      rcases hF with ⟨_, hno⟩ | ⟨p, hp, e, hl, rfl⟩
      · exact absurd z (hno i (by omega))
      · have : p = i := by
          rcases Nat.lt_trichotomy p i with c | c | c
          · exact absurd e (hlo p c)
          · exact c
          · exact absurd z (hl i c)
        rw [← this]
        exact h
    · refine br_f z (nm_r (nI_1 i) (ih (i + 1) (by omega) (fun a ha => ?_)))
      by_cases c : a = i
      · rw [c]; exact z
      · exact hlo a (by omega)
theorem wy_fnd {post : Int32 → Prop} {k n : Nat} {m r : Int32} (hk : k < 16) (hz : sz k = nI n) (hn : n ≤ 12) (hF : ws_F iy (12 * k) n m r) (h : post r) : wpY_find post (tm, tn, kd, nu, sz, iy, sy, dl, st, wk, wo, we, wt, wd, d, qo, qk, qa, qb, q, rs, rc, te, tk) (nI k) m :=
  ⟨n + 1, wy_fnd_l hk hz hn hF h n 0 (by omega) (fun a ha => absurd ha (by omega))⟩
/-- the count of a rank -/
def wy_P (iy sy : Nat → Int32) (b p : Nat) : Nat → Bool := fun j => decide (ws_lt (sy (b + j)) (iy (b + j)) (sy (b + p)) (iy (b + p)))
theorem wy_rnk_l {post : Int32 → Prop} {k n p : Nat} (hk : k < 16) (hz : sz k = nI n) (hn : n ≤ 12) (hp : p < 12) (h : post (nI (ws_c (wy_P iy sy (12 * k) p) n))) : ∀ j i, i + j = n → wY_rank_16 post (nI k) (nI (12 * k + p)) tm tn kd nu sz iy sy dl st wk wo we wt wd d qo qk qa qb q rs rc te tk (j + 1) (nI (ws_c (wy_P iy sy (12 * k) p) i)) (nI (12 * k + i)) := by
  have ek : (nI k).toNatClampNeg = k := nI_clamp (by omega)
  have vk : vp_in (nI k) 16 := vp_in_nI hk (by omega)
  have ep : (nI (12 * k + p)).toNatClampNeg = 12 * k + p := nI_clamp (by omega)
  have vp : vp_in (nI (12 * k + p)) 192 := vp_in_nI (by omega) (by omega)
  intro j
  induction j with
  | zero =>
    intro i hi
    obtain rfl : i = n := by omega
    unfold wY_rank_16
    rw [ek, hz, nu_y12]
    exact ⟨vk, br_t (nI_le (by omega) (by omega)) h⟩
  | succ j ih =>
    intro i hi
    have c1 : ¬ nI (12 * k + n) ≤ nI (12 * k + i) := nI_ge (by omega) (by omega)
    have e2 : (nI (12 * k + i)).toNatClampNeg = 12 * k + i := nI_clamp (by omega)
    have v : vp_in (nI (12 * k + i)) 192 := vp_in_nI (by omega) (by omega)
    have g := ih (i + 1) (by omega)
    have ys : ws_lt (sy (12 * k + i)) (iy (12 * k + i)) (sy (12 * k + p)) (iy (12 * k + p)) → ws_c (wy_P iy sy (12 * k) p) (i + 1) = ws_c (wy_P iy sy (12 * k) p) i + 1 := by
      intro hl
      show ws_c _ i + (if decide (ws_lt (sy (12 * k + i)) (iy (12 * k + i)) (sy (12 * k + p)) (iy (12 * k + p))) = true then 1 else 0) = _
      rw [if_pos (decide_eq_true hl)]
    have no : ¬ ws_lt (sy (12 * k + i)) (iy (12 * k + i)) (sy (12 * k + p)) (iy (12 * k + p)) → ws_c (wy_P iy sy (12 * k) p) (i + 1) = ws_c (wy_P iy sy (12 * k) p) i := by
      intro hl
      show ws_c _ i + (if decide (ws_lt (sy (12 * k + i)) (iy (12 * k + i)) (sy (12 * k + p)) (iy (12 * k + p))) = true then 1 else 0) = _
      rw [if_neg (fun y => hl (of_decide_eq_true y)), Nat.add_zero]
    unfold wY_rank_16
    rw [ek, hz, nu_y12, e2, ep]
    refine ⟨vk, br_f c1 ⟨v, vp, ?_⟩⟩
    by_cases a : sy (12 * k + i) < sy (12 * k + p)
    · rw [ys (Or.inl a)] at g
      exact br_t a (nm_r (nI_1 _) (nm_r (nI_1 (12 * k + i)) g))
    · refine br_f a ⟨v, vp, ?_⟩
      by_cases b : sy (12 * k + i) = sy (12 * k + p)
      · refine br_t b ⟨v, vp, ?_⟩
        by_cases c : iy (12 * k + p) ≤ iy (12 * k + i)
        · rw [no (by
            rintro (z | z)
            · exact a z
            · exact Int32.not_lt.mpr c z.2)] at g
          exact br_t c (nm_r (nI_1 (12 * k + i)) g)
        · rw [ys (Or.inr ⟨b, Int32.not_le.mp c⟩)] at g
          exact br_f c (nm_r (nI_1 _) (nm_r (nI_1 (12 * k + i)) g))
      · rw [no (by
          rintro (z | z)
          · exact a z
          · exact b z.1)] at g
        exact br_f b (nm_r (nI_1 (12 * k + i)) g)
theorem wy_rnk {post : Int32 → Prop} {k n p : Nat} (hk : k < 16) (hz : sz k = nI n) (hn : n ≤ 12) (hp : p < 12) (h : post (nI (ws_c (wy_P iy sy (12 * k) p) n))) : wpY_rank post (tm, tn, kd, nu, sz, iy, sy, dl, st, wk, wo, we, wt, wd, d, qo, qk, qa, qb, q, rs, rc, te, tk) (nI k) (nI p) :=
  nm_r (nu_y12 k p) (nm_r (nu_m12 k) ⟨n + 1, wy_rnk_l hk hz hn hp h n 0 (by omega)⟩)
/-- the place of rank i: X's i-th -/
theorem wy_plc {k n i : Nat} (hk : k < 16) (hz : sz k = nI n) (hn : n ≤ 12) (hR : ws_R ix sx iy sy (12 * k) n) (hi : i < n) : ∃ p, p < n ∧ sx (12 * k + i) = sy (12 * k + p) ∧ ix (12 * k + i) = iy (12 * k + p) ∧ ∀ post : Int32 → Prop, post (nI p) → wpY_placeOf post (tm, tn, kd, nu, sz, iy, sy, dl, st, wk, wo, we, wt, wd, d, qo, qk, qa, qb, q, rs, rc, te, tk) (nI k) (nI i) := by
  have hex : ∃ p, p < n ∧ ws_c (wy_P iy sy (12 * k) p) n = i := by
    obtain ⟨p, hp, e1, e2⟩ := ws_toY hR hi
    exact ⟨p, hp, ws_rkY hR hi e1.symm e2.symm⟩
  obtain ⟨p, ⟨hp, er⟩, hl⟩ := pk_least _ hex
  obtain ⟨i', hi', e1, e2⟩ := ws_toX hR hp
  have ei : ws_c (wy_P iy sy (12 * k) p) n = i' := ws_rkY hR hi' e1 e2
  obtain rfl : i' = i := by omega
  refine ⟨p, hp, e1, e2, fun post h => ⟨p + 1, ?_⟩⟩
  have g : ∀ j a, a + j = p → wY_placeOf_2 post (nI k) (nI i') tm tn kd nu sz iy sy dl st wk wo we wt wd d qo qk qa qb q rs rc te tk (j + 1) (nI a) := by
    intro j
    induction j with
    | zero =>
      intro a ha
      obtain rfl : a = p := by omega
      exact wy_rnk hk hz hn (by omega) (br_t (by rw [er]) h)
    | succ j ih =>
      intro a ha
      have hb := ws_c_le (wy_P iy sy (12 * k) a) n
      refine wy_rnk hk hz hn (by omega) (br_f (nu_ne (fun y => hl a (by omega) ⟨by omega, y⟩) (by omega) (by omega)) (nm_r (nI_1 a) (ih (a + 1) (by omega))))
  exact g p 0 (by omega)
theorem wy_out_l {post : Int32 → SY → Prop} {k n p : Nat} {r : Int32} (hk : k < 8) (hz : sz k = nI n) (hn : n < 12)
    (h0 : n ≠ 0 → post r (tm, tn, kd, nu, sz, ws_cl iy (12 * k + p) (12 * k + n), ws_cl sy (12 * k + p) (12 * k + n), dl, st, wk, wo, we, wt, wd, ws_dc wd d k 4, qo, qk, qa, qb, q, rs, rc, te, tk))
    (h1 : n = 0 → post r (tm, tn, upd kd k 0, upd nu k 0, upd sz k 0, ws_cl iy (12 * k + p) (12 * k + n), ws_cl sy (12 * k + p) (12 * k + n), upd dl k 0, st, wk, wo, we, wt, wd, ws_dc wd d k 4, qo, qk, qa, qb, q, rs, rc, te, tk)) :
    ∀ m i, p ≤ i → i + m = n → wY_out_28 post (nI k) r tm tn (m + 1) (nI (12 * k + i)) kd nu sz (ws_cl iy (12 * k + p) (12 * k + i)) (ws_cl sy (12 * k + p) (12 * k + i)) dl st wk wo we wt wd d qo qk qa qb q rs rc te tk := by
  have ek : (nI k).toNatClampNeg = k := nI_clamp (by omega)
  have vk : vp_in (nI k) 16 := vp_in_nI (by omega) (by omega)
  intro m
  induction m with
  | zero =>
    intro i hi hin
    obtain rfl : i = n := by omega
    unfold wY_out_28
    rw [ek, hz, nu_y12]
    refine ⟨vk, br_t (nI_le (by omega) (by omega)) ⟨vk, ?_⟩⟩
    by_cases z : i = 0
    · exact br_t (by rw [z]; rfl) (wy_clear (by omega) (wy_mark hk (h1 z)))
    · exact br_f (nI_ne0 (by omega) (by omega)) (wy_mark hk (h0 z))
  | succ m ih =>
    intro i hi hin
    have c1 : ¬ nI (12 * k + n) ≤ nI (12 * k + i) := nI_ge (by omega) (by omega)
    have e1 : nI (12 * k + i) + 1 = nI (12 * k + i + 1) := nI_1 _
    have e2 : (nI (12 * k + i + 1)).toNatClampNeg = 12 * k + i + 1 := nI_clamp (by omega)
    have e3 : (nI (12 * k + i)).toNatClampNeg = 12 * k + i := nI_clamp (by omega)
    have v : vp_in (nI (12 * k + i + 1)) 192 := vp_in_nI (by omega) (by omega)
    have v1 : vp_in (nI (12 * k + i)) 192 := vp_in_nI (by omega) (by omega)
    unfold wY_out_28
    rw [ek, hz, nu_y12, e1, e2, e3]
    exact ⟨vk, br_f c1 ⟨v, v1, nm_r (ws_cls iy (i := 12 * k + i) (by omega)) ⟨v, v1, nm_r (ws_cls sy (i := 12 * k + i) (by omega)) (nm_e (ih (i + 1) (by omega) (by omega)))⟩⟩⟩
theorem wy_out {post : Int32 → SY → Prop} {k n p : Nat} (hk : k < 8) (hz : sz k = nI (n + 1)) (hn : n < 12) (hp : p ≤ n)
    (h0 : n ≠ 0 → post (iy (12 * k + p)) (tm, tn, kd, nu, upd sz k (nI n), ws_cl iy (12 * k + p) (12 * k + n), ws_cl sy (12 * k + p) (12 * k + n), dl, st, wk, wo, we, wt, wd, ws_dc wd d k 4, qo, qk, qa, qb, q, rs, rc, te, tk))
    (h1 : n = 0 → post (iy (12 * k + p)) (tm, tn, upd kd k 0, upd nu k 0, upd (upd sz k (nI n)) k 0, ws_cl iy (12 * k + p) (12 * k + n), ws_cl sy (12 * k + p) (12 * k + n), upd dl k 0, st, wk, wo, we, wt, wd, ws_dc wd d k 4, qo, qk, qa, qb, q, rs, rc, te, tk)) :
    wpY_out post (tm, tn, kd, nu, sz, iy, sy, dl, st, wk, wo, we, wt, wd, d, qo, qk, qa, qb, q, rs, rc, te, tk) (nI k) (nI p) := by
  have ek : (nI k).toNatClampNeg = k := nI_clamp (by omega)
  have vk : vp_in (nI k) 16 := vp_in_nI (by omega) (by omega)
  have e3 : (nI (12 * k + p)).toNatClampNeg = 12 * k + p := nI_clamp (by omega)
  have v1 : vp_in (nI (12 * k + p)) 192 := vp_in_nI (by omega) (by omega)
  have g := wy_out_l (sz := upd sz k (nI n)) (p := p) hk pk_us hn h0 h1 (n - p) p (by omega) (by omega)
  rw [ws_cl0, ws_cl0] at g
  unfold wpY_out
  dsimp only
  rw [ek, hz]
  refine nm_r (nu_y12 k p) ⟨v1, nm_r (by rw [e3]) ⟨vk, vk, nm_r (by rw [nI_pred]) ⟨_, g⟩⟩⟩
end WY
end
section
section CX
variable {tm : Int32} {tn : Int64} {kd nu sz dl ix sx iy sy st wk wo we w wd d q qo qk qa qb rc ra : Nat → Int32} {wt te tk tf tg rs : Nat → Int64}
variable {k : Nat} {a b : Int32}
/-! P: X's commands -/
theorem wx_put {post : Int64 → SX → Prop} (hk : k < 8) (h : post 0 (tm, tn, upd (upd kd k 0) k 1, upd (upd nu k 0) k a, upd sz k 0, upd dl k 0, ix, sx, st, wk, wo, we, wt, te, tk, ws_mk w k 4, q, qo, qk, qa, qb, rc, rs)) : wpX_putNumber post (tm, tn, kd, nu, sz, dl, ix, sx, st, wk, wo, we, wt, te, tk, w, q, qo, qk, qa, qb, rc, rs) (nI k) a := by
  have e : (nI k).toNatClampNeg = k := nI_clamp (by omega)
  have i : vp_in (nI k) 16 := vp_in_nI (by omega) (by omega)
  unfold wpX_putNumber
  rw [e]
  exact wx_clear (by omega) ⟨i, nm_e ⟨i, nm_e (wx_mark hk h)⟩⟩
theorem wx_add {post : Int64 → SX → Prop} (hk : k < 8) (h : post (nu k + a).toInt64 (tm, tn, upd kd k 1, upd nu k (nu k + a), sz, dl, ix, sx, st, wk, wo, we, wt, te, tk, ws_mk w k 4, q, qo, qk, qa, qb, rc, rs)) : wpX_addNumber post (tm, tn, kd, nu, sz, dl, ix, sx, st, wk, wo, we, wt, te, tk, w, q, qo, qk, qa, qb, rc, rs) (nI k) a := by
  have e : (nI k).toNatClampNeg = k := nI_clamp (by omega)
  have i : vp_in (nI k) 16 := vp_in_nI (by omega) (by omega)
  unfold wpX_addNumber
  rw [e]
  refine ⟨i, nm_e ⟨i, i, nm_e (wx_mark hk ⟨i, ?_⟩)⟩⟩
  rw [pk_us]
  exact h
theorem wx_drop0 {post : Int64 → SX → Prop} (hk : k < 8) (h0 : kd k = 0) (h : post 0 (tm, tn, kd, nu, sz, dl, ix, sx, st, wk, wo, we, wt, te, tk, w, q, qo, qk, qa, qb, rc, rs)) : wpX_dropKey post (tm, tn, kd, nu, sz, dl, ix, sx, st, wk, wo, we, wt, te, tk, w, q, qo, qk, qa, qb, rc, rs) (nI k) := by
  have e : (nI k).toNatClampNeg = k := nI_clamp (by omega)
  have i : vp_in (nI k) 16 := vp_in_nI (by omega) (by omega)
  unfold wpX_dropKey
  rw [e]
  exact ⟨i, br_t h0 h⟩
theorem wx_drop1 {post : Int64 → SX → Prop} (hk : k < 8) (h0 : kd k ≠ 0) (h : post 1 (tm, tn, upd kd k 0, upd nu k 0, upd sz k 0, upd dl k 0, ix, sx, st, wk, wo, we, wt, te, tk, ws_mk w k 4, q, qo, qk, qa, qb, rc, rs)) : wpX_dropKey post (tm, tn, kd, nu, sz, dl, ix, sx, st, wk, wo, we, wt, te, tk, w, q, qo, qk, qa, qb, rc, rs) (nI k) := by
  have e : (nI k).toNatClampNeg = k := nI_clamp (by omega)
  have i : vp_in (nI k) 16 := vp_in_nI (by omega) (by omega)
  unfold wpX_dropKey
  rw [e]
  exact ⟨i, br_f h0 (wx_clear (by omega) (wx_mark hk h))⟩
theorem wx_dl0 {post : Int64 → SX → Prop} (hk : k < 8) (h0 : kd k = 0) (h : post 0 (tm, tn, kd, nu, sz, dl, ix, sx, st, wk, wo, we, wt, te, tk, w, q, qo, qk, qa, qb, rc, rs)) : wpX_setDeadline post (tm, tn, kd, nu, sz, dl, ix, sx, st, wk, wo, we, wt, te, tk, w, q, qo, qk, qa, qb, rc, rs) (nI k) a := by
  have e : (nI k).toNatClampNeg = k := nI_clamp (by omega)
  have i : vp_in (nI k) 16 := vp_in_nI (by omega) (by omega)
  unfold wpX_setDeadline
  rw [e]
  exact ⟨i, br_t h0 h⟩
theorem wx_dl1 {post : Int64 → SX → Prop} {x : Int32} (hk : k < 8) (h0 : kd k ≠ 0) (hx : (a = 0 ∧ x = 0) ∨ (a ≠ 0 ∧ x = tm + a)) (h : post 1 (tm, tn, kd, nu, sz, upd dl k x, ix, sx, st, wk, wo, we, wt, te, tk, ws_mk w k 4, q, qo, qk, qa, qb, rc, rs)) : wpX_setDeadline post (tm, tn, kd, nu, sz, dl, ix, sx, st, wk, wo, we, wt, te, tk, w, q, qo, qk, qa, qb, rc, rs) (nI k) a := by
  have e : (nI k).toNatClampNeg = k := nI_clamp (by omega)
  have i : vp_in (nI k) 16 := vp_in_nI (by omega) (by omega)
  unfold wpX_setDeadline
  rw [e]
  refine ⟨i, br_f h0 ?_⟩
  rcases hx with ⟨ha, rfl⟩ | ⟨ha, rfl⟩
  · exact br_t ha ⟨i, nm_r (e' := upd dl k 0) (by rw [e]) (wx_mark hk h)⟩
  · exact br_f ha ⟨i, nm_r (e' := upd dl k (tm + a)) (by rw [e]) (wx_mark hk h)⟩
theorem wx_elem0 {post : Int64 → SX → Prop} {p1 : Int32} (hk : k < 8) (hz : sz k = nI 12) (h : post 10000000003 (tm, tn, kd, nu, sz, dl, ix, sx, st, wk, wo, we, wt, te, tk, w, q, qo, qk, qa, qb, rc, rs)) : wpX_putElement post (tm, tn, kd, nu, sz, dl, ix, sx, st, wk, wo, we, wt, te, tk, w, q, qo, qk, qa, qb, rc, rs) (nI k) p1 a := by
  have e : (nI k).toNatClampNeg = k := nI_clamp (by omega)
  have i : vp_in (nI k) 16 := vp_in_nI (by omega) (by omega)
  unfold wpX_putElement
  show _ ∧ _
  rw [e, hz]
  exact ⟨i, br_f (nI_nlt (a := 12) (b := 12) (by omega) (by omega)) h⟩
theorem wx_elem1 {post : Int64 → SX → Prop} {n p : Nat} (hk : k < 8) (hz : sz k = nI n) (hn : n < 12) (hp : p ≤ n) (h : post (nI (n + 1)).toInt64 (tm, tn, upd kd k 2, nu, upd sz k (nI (n + 1)), dl, upd (ws_op ix (12 * k + p) (12 * k + n)) (12 * k + p) a, ws_op sx (12 * k + p) (12 * k + n), st, wk, wo, we, wt, te, tk, ws_mk w k 4, q, qo, qk, qa, qb, rc, rs)) : wpX_putElement post (tm, tn, kd, nu, sz, dl, ix, sx, st, wk, wo, we, wt, te, tk, w, q, qo, qk, qa, qb, rc, rs) (nI k) (nI p) a := by
  have e : (nI k).toNatClampNeg = k := nI_clamp (by omega)
  have i : vp_in (nI k) 16 := vp_in_nI (by omega) (by omega)
  have e3 : (nI (12 * k + p)).toNatClampNeg = 12 * k + p := nI_clamp (by omega)
  have v1 : vp_in (nI (12 * k + p)) 192 := vp_in_nI (by omega) (by omega)
  unfold wpX_putElement
  show _ ∧ _
  rw [e, hz, nu_x12, e3]
  refine ⟨i, br_t (nI_lt (b := 12) hn (by omega)) ⟨i, nm_e (wx_opn (by omega) hz hn hp ⟨v1, nm_e (wx_mark hk ⟨i, ?_⟩)⟩)⟩⟩
  rw [pk_us]
  exact h
theorem wx_tout {post : Int32 → SX → Prop} {n p : Nat} (hk : k < 8) (hz : sz k = nI (n + 1)) (hn : n < 12) (hp : p ≤ n)
    (h0 : n ≠ 0 → post (ix (12 * k + p)) (tm, tn, kd, nu, upd sz k (nI n), dl, ws_cl ix (12 * k + p) (12 * k + n), ws_cl sx (12 * k + p) (12 * k + n), st, wk, wo, we, wt, te, tk, ws_mk w k 4, q, qo, qk, qa, qb, rc, rs))
    (h1 : n = 0 → post (ix (12 * k + p)) (tm, tn, upd kd k 0, upd nu k 0, upd (upd sz k (nI n)) k 0, upd dl k 0, ws_cl ix (12 * k + p) (12 * k + n), ws_cl sx (12 * k + p) (12 * k + n), st, wk, wo, we, wt, te, tk, ws_mk w k 4, q, qo, qk, qa, qb, rc, rs)) :
    wpX_takeOut post (tm, tn, kd, nu, sz, dl, ix, sx, st, wk, wo, we, wt, te, tk, w, q, qo, qk, qa, qb, rc, rs) (nI k) (nI p) := by
  have e : (nI k).toNatClampNeg = k := nI_clamp (by omega)
  have i : vp_in (nI k) 16 := vp_in_nI (by omega) (by omega)
  have e3 : (nI (12 * k + p)).toNatClampNeg = 12 * k + p := nI_clamp (by omega)
  have v1 : vp_in (nI (12 * k + p)) 192 := vp_in_nI (by omega) (by omega)
  unfold wpX_takeOut
  rw [nu_x12, e3, e]
  refine ⟨v1, nm_e (wx_cls (by omega) hz hn hp ⟨i, ?_⟩)⟩
  rw [pk_us]
  by_cases z : n = 0
  · exact br_t (by rw [z]; rfl) (wx_clear (by omega) (wx_mark hk (h1 z)))
  · exact br_f (nI_ne0 (by omega) (by omega)) (wx_mark hk (h0 z))
theorem wx_seat10 {post : SX → Prop} {n p : Nat} {m v : Int32} (hk : k < 8) (hz : sz k = nI n) (hn : n < 12) (hG : ws_G sx ix (12 * k) n m v p)
    (h : post (tm, tn, upd kd k 3, nu, upd sz k (nI (n + 1)), dl, upd (ws_op ix (12 * k + p) (12 * k + n)) (12 * k + p) m, upd (ws_op sx (12 * k + p) (12 * k + n)) (12 * k + p) v, st, wk, wo, we, wt, te, tk, ws_mk w k 4, q, qo, qk, qa, qb, rc, rs)) :
    wX_seatMember_10 post (nI k) m v tm tn kd nu sz dl ix sx st wk wo we wt te tk w q qo qk qa qb rc rs := by
  have hp : p ≤ n := hG.1
  have e : (nI k).toNatClampNeg = k := nI_clamp (by omega)
  have i : vp_in (nI k) 16 := vp_in_nI (by omega) (by omega)
  have vv : vp_in (nI k * 12 + nI p) 192 := by
    rw [nu_x12]
    exact vp_in_nI (by omega) (by omega)
  have ee : (nI k * 12 + nI p).toNatClampNeg = 12 * k + p := by
    rw [nu_x12]
    exact nI_clamp (by omega)
  unfold wX_seatMember_10
  rw [e]
  exact ⟨i, nm_e (wx_for (by omega) hz (by omega) hG (wx_opn (by omega) hz hn hp ⟨vv, nm_r (e' := upd (ws_op ix (12 * k + p) (12 * k + n)) (12 * k + p) m) (by rw [ee]) ⟨vv, nm_r (e' := upd (ws_op sx (12 * k + p) (12 * k + n)) (12 * k + p) v) (by rw [ee]) (wx_mark hk h)⟩⟩))⟩
theorem wx_seatN {post : SX → Prop} {n p : Nat} {m v : Int32} (hk : k < 8) (hz : sz k = nI n) (hn : n < 12) (hG : ws_G sx ix (12 * k) n m v p)
    (h : post (tm, tn, upd kd k 3, nu, upd sz k (nI (n + 1)), dl, upd (ws_op ix (12 * k + p) (12 * k + n)) (12 * k + p) m, upd (ws_op sx (12 * k + p) (12 * k + n)) (12 * k + p) v, st, wk, wo, we, wt, te, tk, ws_mk w k 4, q, qo, qk, qa, qb, rc, rs)) :
    wpX_seatMember post (tm, tn, kd, nu, sz, dl, ix, sx, st, wk, wo, we, wt, te, tk, w, q, qo, qk, qa, qb, rc, rs) (nI k) m (-1) v := br_t (by decide) (wx_seat10 hk hz hn hG h)
theorem wx_seatO {post : SX → Prop} {n p0 p : Nat} {m v : Int32} (hk : k < 8) (hz : sz k = nI (n + 1)) (h3 : kd k = 3) (hn : n < 12) (hp0 : p0 ≤ n) (hG : ws_G (ws_cl sx (12 * k + p0) (12 * k + n)) (ws_cl ix (12 * k + p0) (12 * k + n)) (12 * k) n m v p)
    (h : post (tm, tn, kd, nu, sz, dl, upd (ws_op (ws_cl ix (12 * k + p0) (12 * k + n)) (12 * k + p) (12 * k + n)) (12 * k + p) m, upd (ws_op (ws_cl sx (12 * k + p0) (12 * k + n)) (12 * k + p) (12 * k + n)) (12 * k + p) v, st, wk, wo, we, wt, te, tk, ws_mk w k 4, q, qo, qk, qa, qb, rc, rs)) :
    wpX_seatMember post (tm, tn, kd, nu, sz, dl, ix, sx, st, wk, wo, we, wt, te, tk, w, q, qo, qk, qa, qb, rc, rs) (nI k) m (nI p0) v := by
  refine br_f (nI_pos (by omega)) (wx_cls (by omega) hz hn hp0 (wx_seat10 hk pk_us hn hG ?_))
  rw [ws_uu, ws_same sz hz, ws_same kd h3]
  exact h
theorem wx_ren0 {post : Int64 → SX → Prop} (hk : k < 8) (h0 : kd k = 0) (h : post 0 (tm, tn, kd, nu, sz, dl, ix, sx, st, wk, wo, we, wt, te, tk, w, q, qo, qk, qa, qb, rc, rs)) : wpX_renameKey post (tm, tn, kd, nu, sz, dl, ix, sx, st, wk, wo, we, wt, te, tk, w, q, qo, qk, qa, qb, rc, rs) (nI k) a := by
  have e : (nI k).toNatClampNeg = k := nI_clamp (by omega)
  have i : vp_in (nI k) 16 := vp_in_nI (by omega) (by omega)
  unfold wpX_renameKey
  rw [e]
  exact ⟨i, br_t h0 h⟩
theorem wx_ren1 {post : Int64 → SX → Prop} {t : Nat} (hk : k < 8) (ht : t < 8) (hkt : k ≠ t) (h0 : kd k ≠ 0)
    (h : post 1 (tm, tn, upd (upd kd t (kd k)) k 0, upd (upd nu t (nu k)) k 0, upd (upd sz t (sz k)) k 0, upd (upd dl t (dl k)) k 0, ws_cp ix (12 * k) (12 * t) 12, ws_cp sx (12 * k) (12 * t) 12, st, wk, wo, we, wt, te, tk, ws_mk (ws_mk w k 4) t 4, q, qo, qk, qa, qb, rc, rs)) : wpX_renameKey post (tm, tn, kd, nu, sz, dl, ix, sx, st, wk, wo, we, wt, te, tk, w, q, qo, qk, qa, qb, rc, rs) (nI k) (nI t) := by
  have e : (nI k).toNatClampNeg = k := nI_clamp (by omega)
  have i : vp_in (nI k) 16 := vp_in_nI (by omega) (by omega)
  unfold wpX_renameKey
  rw [e]
  exact ⟨i, br_f h0 (wx_cpy (by omega) (by omega) hkt (wx_clear (by omega) (wx_mark hk (wx_mark ht h))))⟩
end CX
end
section
section CY
variable {tm : Int32} {tn : Int64} {kd nu sz dl ix sx iy sy st wk wo we w wd d q qo qk qa qb rc ra : Nat → Int32} {wt te tk tf tg rs : Nat → Int64}
variable {k : Nat} {a b : Int32}
/-! Q: Y's commands -/
theorem wy_put75 {post : Int64 → SY → Prop} {p : Nat} (hk : k < 8) (hp : p < 12) (h : post (sz k).toInt64 (tm, tn, kd, nu, sz, upd iy (12 * k + p) a, sy, dl, st, wk, wo, we, wt, wd, ws_dc wd d k 4, qo, qk, qa, qb, q, rs, rc, te, tk)) : wY_put_75 post (nI k) a (nI (12 * k + p)) tm tn kd nu sz iy sy dl st wk wo we wt wd d qo qk qa qb q rs rc te tk := by
  have e : (nI k).toNatClampNeg = k := nI_clamp (by omega)
  have i : vp_in (nI k) 16 := vp_in_nI (by omega) (by omega)
  have e3 : (nI (12 * k + p)).toNatClampNeg = 12 * k + p := nI_clamp (by omega)
  have v1 : vp_in (nI (12 * k + p)) 192 := vp_in_nI (by omega) (by omega)
  unfold wY_put_75
  rw [e3, e]
  exact ⟨v1, nm_e (wy_mark hk ⟨i, h⟩)⟩
theorem wy_putL {post : Int64 → SY → Prop} {n : Nat} (hk : k < 8) (hn : n < 12) (h : post (sz k).toInt64 (tm, tn, kd, nu, sz, upd (ws_op iy (12 * k + 0) (12 * k + n)) (12 * k + 0) a, sy, dl, st, wk, wo, we, wt, wd, ws_dc wd d k 4, qo, qk, qa, qb, q, rs, rc, te, tk)) : ∀ m, m ≤ n → wY_put_40 post (nI k) 1 a tm tn (m + 1) (nI (12 * k + m)) kd nu sz (ws_op iy (12 * k + m) (12 * k + n)) sy dl st wk wo we wt wd d qo qk qa qb q rs rc te tk := by
  intro m
  induction m with
  | zero =>
    intro hm
    refine br_f (by decide) (br_t ?_ (wy_put75 hk (by omega) h))
    rw [nu_m12]
    exact nI_le (by omega) (by omega)
  | succ m ih =>
    intro hm
    have c1 : ¬ nI (12 * k + (m + 1)) ≤ 12 * nI k := by
      rw [nu_m12]
      exact nI_ge (by omega) (by omega)
    have e1 : nI (12 * k + (m + 1)) - 1 = nI (12 * k + m) := nI_pred _
    have e2 : (nI (12 * k + (m + 1))).toNatClampNeg = 12 * k + m + 1 := nI_clamp (by omega)
    have e3 : (nI (12 * k + m)).toNatClampNeg = 12 * k + m := nI_clamp (by omega)
    have v : vp_in (nI (12 * k + (m + 1))) 192 := vp_in_nI (by omega) (by omega)
    have v1 : vp_in (nI (12 * k + m)) 192 := vp_in_nI (by omega) (by omega)
    refine br_f (by decide) (br_f c1 ?_)
    rw [e1, e2, e3]
    exact ⟨v1, v, nm_r (ws_ops iy (i := 12 * k + m) (by omega)) (nm_r (pk_m1 (12 * k + m)) (ih (by omega)))⟩
theorem wy_put0 {post : Int64 → SY → Prop} {f : Int32} (hk : k < 8) (hz : sz k = nI 12) (h : post 10000000003 (tm, tn, kd, nu, sz, iy, sy, dl, st, wk, wo, we, wt, wd, d, qo, qk, qa, qb, q, rs, rc, te, tk)) : wpY_put post (tm, tn, kd, nu, sz, iy, sy, dl, st, wk, wo, we, wt, wd, d, qo, qk, qa, qb, q, rs, rc, te, tk) (nI k) f a := by
  have e : (nI k).toNatClampNeg = k := nI_clamp (by omega)
  have i : vp_in (nI k) 16 := vp_in_nI (by omega) (by omega)
  unfold wpY_put
  show _ ∧ _
  rw [e, hz]
  exact ⟨i, br_t rfl h⟩
theorem wy_putF {post : Int64 → SY → Prop} {n : Nat} (hk : k < 8) (hz : sz k = nI n) (hn : n < 12) (h : post (nI (n + 1)).toInt64 (tm, tn, upd kd k 2, nu, upd sz k (nI (n + 1)), upd (ws_op iy (12 * k + 0) (12 * k + n)) (12 * k + 0) a, sy, dl, st, wk, wo, we, wt, wd, ws_dc wd d k 4, qo, qk, qa, qb, q, rs, rc, te, tk)) : wpY_put post (tm, tn, kd, nu, sz, iy, sy, dl, st, wk, wo, we, wt, wd, d, qo, qk, qa, qb, q, rs, rc, te, tk) (nI k) 1 a := by
  have e : (nI k).toNatClampNeg = k := nI_clamp (by omega)
  have i : vp_in (nI k) 16 := vp_in_nI (by omega) (by omega)
  have g := wy_putL (kd := upd kd k 2) (sz := upd sz k (nI (n + 1))) hk hn (by rw [pk_us]; exact h) n (by omega)
  rw [ws_op0] at g
  unfold wpY_put
  show _ ∧ _
  rw [e, hz, nu_y12, nI_1]
  exact ⟨i, br_f (nu_ne (b := 12) (by omega) (by omega) (by omega)) ⟨i, nm_e ⟨i, i, nm_e (nm_e ⟨_, g⟩)⟩⟩⟩
theorem wy_putB {post : Int64 → SY → Prop} {n : Nat} (hk : k < 8) (hz : sz k = nI n) (hn : n < 12) (h : post (nI (n + 1)).toInt64 (tm, tn, upd kd k 2, nu, upd sz k (nI (n + 1)), upd iy (12 * k + n) a, sy, dl, st, wk, wo, we, wt, wd, ws_dc wd d k 4, qo, qk, qa, qb, q, rs, rc, te, tk)) : wpY_put post (tm, tn, kd, nu, sz, iy, sy, dl, st, wk, wo, we, wt, wd, d, qo, qk, qa, qb, q, rs, rc, te, tk) (nI k) 0 a := by
  have e : (nI k).toNatClampNeg = k := nI_clamp (by omega)
  have i : vp_in (nI k) 16 := vp_in_nI (by omega) (by omega)
  have g := wy_put75 (kd := upd kd k 2) (sz := upd sz k (nI (n + 1))) (a := a) (p := n) hk hn (by rw [pk_us]; exact h)
  unfold wpY_put
  show _ ∧ _
  rw [e, hz, nu_y12, nI_1]
  exact ⟨i, br_f (nu_ne (b := 12) (by omega) (by omega) (by omega)) ⟨i, nm_e ⟨i, i, nm_e (nm_e ⟨1, br_t rfl g⟩)⟩⟩⟩
theorem wy_wh0 {post : Int64 → SY → Prop} {o : Int32} (hk : k < 8) (h0 : kd k = 0) (h : post 0 (tm, tn, kd, nu, sz, iy, sy, dl, st, wk, wo, we, wt, wd, d, qo, qk, qa, qb, q, rs, rc, te, tk)) : wpY_whole post (tm, tn, kd, nu, sz, iy, sy, dl, st, wk, wo, we, wt, wd, d, qo, qk, qa, qb, q, rs, rc, te, tk) o (nI k) a := by
  have e : (nI k).toNatClampNeg = k := nI_clamp (by omega)
  have i : vp_in (nI k) 16 := vp_in_nI (by omega) (by omega)
  unfold wpY_whole
  rw [e]
  exact ⟨i, br_t h0 h⟩
theorem wy_drop1 {post : Int64 → SY → Prop} (hk : k < 8) (h0 : kd k ≠ 0) (h : post 1 (tm, tn, upd kd k 0, upd nu k 0, upd sz k 0, iy, sy, upd dl k 0, st, wk, wo, we, wt, wd, ws_dc wd d k 4, qo, qk, qa, qb, q, rs, rc, te, tk)) : wpY_whole post (tm, tn, kd, nu, sz, iy, sy, dl, st, wk, wo, we, wt, wd, d, qo, qk, qa, qb, q, rs, rc, te, tk) 2 (nI k) a := by
  have e : (nI k).toNatClampNeg = k := nI_clamp (by omega)
  have i : vp_in (nI k) 16 := vp_in_nI (by omega) (by omega)
  unfold wpY_whole
  rw [e]
  exact ⟨i, br_f h0 (br_f (by decide) (br_f (by decide) (wy_clear (by omega) (wy_mark hk h))))⟩
theorem wy_dl1 {post : Int64 → SY → Prop} {x : Int32} (hk : k < 8) (h0 : kd k ≠ 0) (hx : (a = 0 ∧ x = 0) ∨ (a ≠ 0 ∧ x = tm + a)) (h : post 1 (tm, tn, kd, nu, sz, iy, sy, upd dl k x, st, wk, wo, we, wt, wd, ws_dc wd d k 4, qo, qk, qa, qb, q, rs, rc, te, tk)) : wpY_whole post (tm, tn, kd, nu, sz, iy, sy, dl, st, wk, wo, we, wt, wd, d, qo, qk, qa, qb, q, rs, rc, te, tk) 3 (nI k) a := by
  have e : (nI k).toNatClampNeg = k := nI_clamp (by omega)
  have i : vp_in (nI k) 16 := vp_in_nI (by omega) (by omega)
  unfold wpY_whole
  rw [e]
  refine ⟨i, br_f h0 (br_f (by decide) (br_t rfl ?_))⟩
  rcases hx with ⟨ha, rfl⟩ | ⟨ha, rfl⟩
  · exact br_t ha ⟨i, nm_r (e' := upd dl k 0) (by rw [e]) (wy_mark hk h)⟩
  · exact br_f ha ⟨i, nm_r (e' := upd dl k (tm + a)) (by rw [e]) (wy_mark hk h)⟩
theorem wy_ren1 {post : Int64 → SY → Prop} {t : Nat} (hk : k < 8) (ht : t < 8) (hkt : k ≠ t) (h0 : kd k ≠ 0)
    (h : post 1 (tm, tn, upd (upd kd t (kd k)) k 0, upd (upd nu t (nu k)) k 0, upd (upd sz t (sz k)) k 0, ws_cp iy (12 * k) (12 * t) 12, ws_cp sy (12 * k) (12 * t) 12, upd (upd dl t (dl k)) k 0, st, wk, wo, we, wt, wd, ws_dc wd (ws_dc wd d t 4) k 4, qo, qk, qa, qb, q, rs, rc, te, tk)) : wpY_whole post (tm, tn, kd, nu, sz, iy, sy, dl, st, wk, wo, we, wt, wd, d, qo, qk, qa, qb, q, rs, rc, te, tk) 11 (nI k) (nI t) := by
  have e : (nI k).toNatClampNeg = k := nI_clamp (by omega)
  have i : vp_in (nI k) 16 := vp_in_nI (by omega) (by omega)
  unfold wpY_whole
  rw [e]
  exact ⟨i, br_f h0 (br_t rfl (wy_cpy (by omega) (by omega) hkt (wy_mark ht (br_f (by decide) (wy_clear (by omega) (wy_mark hk h))))))⟩
theorem wy_scA {post : Int64 → SY → Prop} {m f : Int32} (hk : k < 8) (hz : sz k = nI 12) (hF : ws_F iy (12 * k) 12 m (-1)) (h : post 10000000003 (tm, tn, kd, nu, sz, iy, sy, dl, st, wk, wo, we, wt, wd, d, qo, qk, qa, qb, q, rs, rc, te, tk)) : wpY_scored post (tm, tn, kd, nu, sz, iy, sy, dl, st, wk, wo, we, wt, wd, d, qo, qk, qa, qb, q, rs, rc, te, tk) (nI k) m b f := by
  have e : (nI k).toNatClampNeg = k := nI_clamp (by omega)
  have i : vp_in (nI k) 16 := vp_in_nI (by omega) (by omega)
  refine wy_fnd (by omega) hz (by omega) hF (br_f (by decide) (br_f (by decide) ⟨i, ?_⟩))
  rw [e, hz]
  exact br_t rfl h
theorem wy_sc147 {post : Int64 → SY → Prop} {p : Nat} {f g v : Int32} {r : Int64} (hk : k < 8) (hp : p < 12) (hr : (f = 0 ∧ g = 0 ∧ r = 0) ∨ (f = 0 ∧ g = 1 ∧ r = 1) ∨ (f = 1 ∧ r = v.toInt64))
    (h : post r (tm, tn, kd, nu, sz, iy, upd sy (12 * k + p) v, dl, st, wk, wo, we, wt, wd, ws_dc wd d k 4, qo, qk, qa, qb, q, rs, rc, te, tk)) : wY_scored_147 post (nI k) f g (nI (12 * k + p)) v 1 tm tn kd nu sz iy sy dl st wk wo we wt wd d qo qk qa qb q rs rc te tk := by
  have e3 : (nI (12 * k + p)).toNatClampNeg = 12 * k + p := nI_clamp (by omega)
  have v1 : vp_in (nI (12 * k + p)) 192 := vp_in_nI (by omega) (by omega)
  unfold wY_scored_147
  rw [e3]
  refine ⟨v1, nm_e (br_f (by decide) (wy_mark hk ?_))⟩
  rcases hr with ⟨rfl, rfl, rfl⟩ | ⟨rfl, rfl, rfl⟩ | ⟨rfl, rfl⟩
  · exact br_t rfl (br_t rfl h)
  · exact br_t rfl (br_f (by decide) h)
  · exact br_f (by decide) h
theorem wy_scB {post : Int64 → SY → Prop} {n : Nat} {m f v : Int32} {r : Int64} (hk : k < 8) (hz : sz k = nI n) (hn : n < 12) (hF : ws_F iy (12 * k) n m (-1)) (hr : (f = 0 ∧ v = b ∧ r = 1) ∨ (f = 1 ∧ v = 0 + b ∧ r = v.toInt64))
    (h : post r (tm, tn, upd kd k 3, nu, upd sz k (nI (n + 1)), upd iy (12 * k + n) m, upd sy (12 * k + n) v, dl, st, wk, wo, we, wt, wd, ws_dc wd d k 4, qo, qk, qa, qb, q, rs, rc, te, tk)) : wpY_scored post (tm, tn, kd, nu, sz, iy, sy, dl, st, wk, wo, we, wt, wd, d, qo, qk, qa, qb, q, rs, rc, te, tk) (nI k) m b f := by
  have e : (nI k).toNatClampNeg = k := nI_clamp (by omega)
  have i : vp_in (nI k) 16 := vp_in_nI (by omega) (by omega)
  have e3 : (nI (12 * k + n)).toNatClampNeg = 12 * k + n := nI_clamp (by omega)
  have v1 : vp_in (nI (12 * k + n)) 192 := vp_in_nI (by omega) (by omega)
  have g : wY_scored_147 post (nI k) f 1 (nI (12 * k + n)) v 1 tm tn (upd kd k 3) nu (upd sz k (nI (n + 1))) (upd iy (12 * k + n) m) (upd sy (12 * k + n) 0) dl st wk wo we wt wd d qo qk qa qb q rs rc te tk := by
    refine wy_sc147 hk hn ?_ (by rw [ws_uu]; exact h)
    rcases hr with ⟨rfl, rfl, rfl⟩ | ⟨rfl, _, rfl⟩
    · exact Or.inr (Or.inl ⟨rfl, rfl, rfl⟩)
    · exact Or.inr (Or.inr ⟨rfl, rfl⟩)
  refine wy_fnd (by omega) hz (by omega) hF (br_f (by decide) (br_f (by decide) ⟨i, ?_⟩))
  rw [e, hz]
  refine br_f (nu_ne (b := 12) (by omega) (by omega) (by omega)) (br_f (by decide) ⟨i, nm_r (e' := upd kd k 3) (by rw [e]) ⟨i, i, nm_r (e' := upd sz k (nI (n + 1))) (by rw [e, hz, nI_1]) (nm_r (e' := nI n) (by rw [e, hz]) ?_)⟩⟩)
  rw [nu_y12, e3]
  refine ⟨v1, nm_e ⟨v1, nm_e (nm_r (nu_y12 k n) ?_)⟩⟩
  rcases hr with ⟨rfl, rfl, rfl⟩ | ⟨rfl, rfl, rfl⟩
  · exact br_t rfl (br_f (by decide) g)
  · refine br_f (by decide) ⟨v1, ?_⟩
    rw [e3, pk_us]
    exact br_f (by decide) g
theorem wy_scC {post : Int64 → SY → Prop} {n p : Nat} {m f v : Int32} {r : Int64} (hk : k < 8) (hz : sz k = nI n) (hn : n ≤ 12) (hF : ws_F iy (12 * k) n m (nI p)) (hp : p < 12) (hr : (f = 0 ∧ v = b ∧ v ≠ sy (12 * k + p) ∧ r = 0) ∨ (f = 1 ∧ v = sy (12 * k + p) + b ∧ r = v.toInt64))
    (h : post r (tm, tn, kd, nu, sz, iy, upd sy (12 * k + p) v, dl, st, wk, wo, we, wt, wd, ws_dc wd d k 4, qo, qk, qa, qb, q, rs, rc, te, tk)) : wpY_scored post (tm, tn, kd, nu, sz, iy, sy, dl, st, wk, wo, we, wt, wd, d, qo, qk, qa, qb, q, rs, rc, te, tk) (nI k) m b f := by
  have e3 : (nI (12 * k + p)).toNatClampNeg = 12 * k + p := nI_clamp (by omega)
  have v1 : vp_in (nI (12 * k + p)) 192 := vp_in_nI (by omega) (by omega)
  have g : wY_scored_147 post (nI k) f 0 (nI (12 * k + p)) v 1 tm tn kd nu sz iy sy dl st wk wo we wt wd d qo qk qa qb q rs rc te tk := by
    refine wy_sc147 hk hp ?_ h
    rcases hr with ⟨rfl, rfl, _, rfl⟩ | ⟨rfl, _, rfl⟩
    · exact Or.inl ⟨rfl, rfl, rfl⟩
    · exact Or.inr (Or.inr ⟨rfl, rfl⟩)
  refine wy_fnd (by omega) hz hn hF (br_t (nI_pos' (by omega)) (br_t rfl (br_t rfl (nm_r (nu_y12 k p) ?_))))
  rcases hr with ⟨rfl, rfl, hne, rfl⟩ | ⟨rfl, rfl, rfl⟩
  · refine br_t rfl (br_t rfl (br_t rfl ⟨v1, ?_⟩))
    rw [e3]
    exact br_f hne g
  · refine br_f (by decide) ⟨v1, ?_⟩
    rw [e3]
    exact br_t rfl (br_f (by decide) g)
theorem wy_scD {post : Int64 → SY → Prop} {n p : Nat} {m : Int32} (hk : k < 8) (hz : sz k = nI n) (hn : n ≤ 12) (hF : ws_F iy (12 * k) n m (nI p)) (hp : p < 12) (hb : b = sy (12 * k + p))
    (h : post 0 (tm, tn, kd, nu, sz, iy, sy, dl, st, wk, wo, we, wt, wd, d, qo, qk, qa, qb, q, rs, rc, te, tk)) : wpY_scored post (tm, tn, kd, nu, sz, iy, sy, dl, st, wk, wo, we, wt, wd, d, qo, qk, qa, qb, q, rs, rc, te, tk) (nI k) m b 0 := by
  have e3 : (nI (12 * k + p)).toNatClampNeg = 12 * k + p := nI_clamp (by omega)
  have v1 : vp_in (nI (12 * k + p)) 192 := vp_in_nI (by omega) (by omega)
  refine wy_fnd (by omega) hz hn hF (br_t (nI_pos' (by omega)) (br_t rfl (br_t rfl (nm_r (nu_y12 k p) (br_t rfl (br_t rfl (br_t rfl ⟨v1, ?_⟩)))))))
  rw [e3]
  refine br_t hb ⟨v1, ?_⟩
  rw [e3, ws_same sy hb.symm]
  exact nm_e (br_t rfl (br_t rfl (br_t rfl h)))
end CY
end
section
section PF
variable {tm : Int32} {tn : Int64} {kd nu sz dl ix sx iy sy st wk wo we w wd d q qo qk qa qb rc ra : Nat → Int32} {wt te tk tf tg rs : Nat → Int64}
variable {k : Nat} {a b : Int32}
/-! R: a command is carried out: X and Y side by side -/
abbrev lk_F : Type := Nat → Int32
def lk_R (wd : Nat → Int32) (XW : (Int64 → SX → Prop) → Prop) (YW : (Int64 → SY → Prop) → Prop) (mx : lk_F → lk_F → lk_F → lk_F → lk_F → lk_F → lk_F → SX) (my : lk_F → lk_F → lk_F → lk_F → lk_F → lk_F → lk_F → SY) : Prop :=
  ∃ (r : Int64) (kd nu sz dl ix sx iy sy w d : Nat → Int32), st_R kd sz dl ix sx iy sy ∧ wa_R w wd d ∧ (∀ post : Int64 → SX → Prop, post r (mx kd nu sz dl ix sx w) → XW post) ∧ (∀ post : Int64 → SY → Prop, post r (my kd nu sz dl iy sy d) → YW post)
def lk_I (wd : Nat → Int32) (XW : (Int32 → SX → Prop) → Prop) (YW : (Int32 → SY → Prop) → Prop) (mx : lk_F → lk_F → lk_F → lk_F → lk_F → lk_F → lk_F → SX) (my : lk_F → lk_F → lk_F → lk_F → lk_F → lk_F → lk_F → SY) : Prop :=
  ∃ (r : Int32) (kd nu sz dl ix sx iy sy w d : Nat → Int32), st_R kd sz dl ix sx iy sy ∧ wa_R w wd d ∧ (∀ post : Int32 → SX → Prop, post r (mx kd nu sz dl ix sx w) → XW post) ∧ (∀ post : Int32 → SY → Prop, post r (my kd nu sz dl iy sy d) → YW post)
theorem ws_dc_comm (wd d : Nat → Int32) (k t : Nat) : ws_dc wd (ws_dc wd d t 4) k 4 = ws_dc wd (ws_dc wd d k 4) t 4 := by
  funext c
  unfold ws_dc
  by_cases e1 : c < 4 ∧ bt (wd c) k = true
  · by_cases e2 : c < 4 ∧ bt (wd c) t = true
    · rw [if_pos e1, if_pos e2]
    · rw [if_pos e1, if_neg e2, if_pos e1]
  · by_cases e2 : c < 4 ∧ bt (wd c) t = true
    · rw [if_neg e1, if_pos e2, if_pos e2]
    · rw [if_neg e1, if_neg e2, if_neg e2, if_neg e1]
theorem lk_out {n p p' : Nat} (hS : st_R kd sz dl ix sx iy sy) (hW : wa_R w wd d) (hk : k < 8) (hz : sz k = nI (n + 1)) (hn : n < 12) (hp : p ≤ n) (hq : p' ≤ n) (hm : st_mt kd ix sx iy sy k p p') :
    lk_I wd (fun post => wpX_takeOut post (tm, tn, kd, nu, sz, dl, ix, sx, st, wk, wo, we, wt, te, tk, w, q, qo, qk, qa, qb, rc, rs) (nI k) (nI p)) (fun post => wpY_out post (tm, tn, kd, nu, sz, iy, sy, dl, st, wk, wo, we, wt, wd, d, qo, qk, qa, qb, q, rs, ra, tf, tg) (nI k) (nI p')) (fun kd nu sz dl ix sx w => (tm, tn, kd, nu, sz, dl, ix, sx, st, wk, wo, we, wt, te, tk, w, q, qo, qk, qa, qb, rc, rs)) (fun kd nu sz dl iy sy d => (tm, tn, kd, nu, sz, iy, sy, dl, st, wk, wo, we, wt, wd, d, qo, qk, qa, qb, q, rs, ra, tf, tg)) := by
  obtain ⟨h0, h1, h2⟩ := st_er hS (by omega) hz hn hp hq hm
  by_cases z : n = 0
  · refine ⟨ix (12 * k + p), upd kd k 0, upd nu k 0, upd (upd sz k (nI n)) k 0, upd dl k 0, _, _, _, _, ws_mk w k 4, ws_dc wd d k 4, h1 z, wa_mark hW hk, fun post h => ?_, fun post h => ?_⟩
    · exact wx_tout hk hz hn hp (fun y => absurd z y) (fun _ => h)
    · rw [h2] at h
      exact wy_out hk hz hn hq (fun y => absurd z y) (fun _ => h)
  · refine ⟨ix (12 * k + p), kd, nu, upd sz k (nI n), dl, _, _, _, _, ws_mk w k 4, ws_dc wd d k 4, h0 z, wa_mark hW hk, fun post h => ?_, fun post h => ?_⟩
    · exact wx_tout hk hz hn hp (fun _ => h) (fun y => absurd y z)
    · rw [h2] at h
      exact wy_out hk hz hn hq (fun _ => h) (fun y => absurd y z)
theorem sx_t {post : Int32 → Prop} {K o : Int32} (hf : ∀ P : Int32 → Prop, P K → wpX_kindFor P o) (hk : k < 8) (hok : K = 0 ∨ kd k = 0 ∨ kd k = K) (h : post 1) : wpX_suits post (tm, tn, kd, nu, sz, dl, ix, sx, st, wk, wo, we, wt, te, tk, w, q, qo, qk, qa, qb, rc, rs) o (nI k) := by
  have e : (nI k).toNatClampNeg = k := nI_clamp (by omega)
  have i : vp_in (nI k) 16 := vp_in_nI (by omega) (by omega)
  unfold wpX_suits
  rw [e]
  show wpX_kindFor _ _
  apply hf
  by_cases z : K = 0
  · exact br_t z h
  · refine br_f z ⟨i, ?_⟩
    by_cases z1 : kd k = 0
    · exact br_t z1 h
    · refine br_f z1 ⟨i, br_t ?_ h⟩
      rcases hok with c | c | c
      · exact absurd c z
      · exact absurd c z1
      · exact c
theorem sx_f {post : Int32 → Prop} {K o : Int32} (hf : ∀ P : Int32 → Prop, P K → wpX_kindFor P o) (hk : k < 8) (h0 : K ≠ 0) (h1 : kd k ≠ 0) (h2 : kd k ≠ K) (h : post 0) : wpX_suits post (tm, tn, kd, nu, sz, dl, ix, sx, st, wk, wo, we, wt, te, tk, w, q, qo, qk, qa, qb, rc, rs) o (nI k) := by
  have e : (nI k).toNatClampNeg = k := nI_clamp (by omega)
  have i : vp_in (nI k) 16 := vp_in_nI (by omega) (by omega)
  unfold wpX_suits
  rw [e]
  show wpX_kindFor _ _
  apply hf
  exact br_f h0 ⟨i, br_f h1 ⟨i, br_f h2 h⟩⟩
theorem kf_0 (P : Int32 → Prop) (h : P 0) : wpX_kindFor P 0 := br_f (by decide) (br_t (by decide) (br_t (by decide) (h)))
theorem kf_1 (P : Int32 → Prop) (h : P 1) : wpX_kindFor P 1 := br_t rfl h
theorem kf_2 (P : Int32 → Prop) (h : P 0) : wpX_kindFor P 2 := br_f (by decide) (br_t (by decide) (br_t (by decide) (h)))
theorem kf_3 (P : Int32 → Prop) (h : P 0) : wpX_kindFor P 3 := br_f (by decide) (br_t (by decide) (br_t (by decide) (h)))
theorem kf_4 (P : Int32 → Prop) (h : P 2) : wpX_kindFor P 4 := br_f (by decide) (br_f (by decide) (br_f (by decide) (h)))
theorem kf_5 (P : Int32 → Prop) (h : P 2) : wpX_kindFor P 5 := br_f (by decide) (br_f (by decide) (br_f (by decide) (h)))
theorem kf_6 (P : Int32 → Prop) (h : P 2) : wpX_kindFor P 6 := br_f (by decide) (br_f (by decide) (br_f (by decide) (h)))
theorem kf_7 (P : Int32 → Prop) (h : P 3) : wpX_kindFor P 7 := br_f (by decide) (br_f (by decide) (br_t (by decide) (br_f (by decide) (br_f (by decide) (h)))))
theorem kf_8 (P : Int32 → Prop) (h : P 3) : wpX_kindFor P 8 := br_f (by decide) (br_f (by decide) (br_t (by decide) (br_f (by decide) (br_f (by decide) (h)))))
theorem kf_9 (P : Int32 → Prop) (h : P 3) : wpX_kindFor P 9 := br_f (by decide) (br_f (by decide) (br_t (by decide) (br_f (by decide) (br_f (by decide) (h)))))
theorem kf_10 (P : Int32 → Prop) (h : P 3) : wpX_kindFor P 10 := br_f (by decide) (br_f (by decide) (br_t (by decide) (br_f (by decide) (br_f (by decide) (h)))))
theorem kf_11 (P : Int32 → Prop) (h : P 0) : wpX_kindFor P 11 := br_f (by decide) (br_f (by decide) (br_t (by decide) (br_f (by decide) (br_t (by decide) (h)))))
theorem sy_t0 {post : Int32 → Prop} (hk : k < 8) (h : post 0) : wpY_wrong post (tm, tn, kd, nu, sz, iy, sy, dl, st, wk, wo, we, wt, wd, d, qo, qk, qa, qb, q, rs, rc, te, tk) 0 (nI k) := by
  have e : (nI k).toNatClampNeg = k := nI_clamp (by omega)
  have i : vp_in (nI k) 16 := vp_in_nI (by omega) (by omega)
  unfold wpY_wrong
  rw [e]
  exact ⟨i, nm_e (br_c (fun _ => h) (fun _ => br_f (by decide) (br_t (by decide) (br_t (by decide) (h)))))⟩
theorem sy_t1 {post : Int32 → Prop} (hk : k < 8) (hok : kd k = 0 ∨ kd k = 1) (h : post 0) : wpY_wrong post (tm, tn, kd, nu, sz, iy, sy, dl, st, wk, wo, we, wt, wd, d, qo, qk, qa, qb, q, rs, rc, te, tk) 1 (nI k) := by
  have e : (nI k).toNatClampNeg = k := nI_clamp (by omega)
  have i : vp_in (nI k) 16 := vp_in_nI (by omega) (by omega)
  unfold wpY_wrong
  rw [e]
  refine ⟨i, nm_e ?_⟩
  rcases hok with c | c
  · exact br_t c h
  · exact br_f (by rw [c]; decide) (br_t rfl (br_t c (br_t (by decide) (br_t (by decide) h))))
theorem sy_f1 {post : Int32 → Prop} (hk : k < 8) (h1 : kd k ≠ 0) (h2 : kd k ≠ 1) (h : post 1) : wpY_wrong post (tm, tn, kd, nu, sz, iy, sy, dl, st, wk, wo, we, wt, wd, d, qo, qk, qa, qb, q, rs, rc, te, tk) 1 (nI k) := by
  have e : (nI k).toNatClampNeg = k := nI_clamp (by omega)
  have i : vp_in (nI k) 16 := vp_in_nI (by omega) (by omega)
  unfold wpY_wrong
  rw [e]
  exact ⟨i, nm_e (br_f h1 (br_t rfl (br_f h2 h)))⟩
theorem sy_t2 {post : Int32 → Prop} (hk : k < 8) (h : post 0) : wpY_wrong post (tm, tn, kd, nu, sz, iy, sy, dl, st, wk, wo, we, wt, wd, d, qo, qk, qa, qb, q, rs, rc, te, tk) 2 (nI k) := by
  have e : (nI k).toNatClampNeg = k := nI_clamp (by omega)
  have i : vp_in (nI k) 16 := vp_in_nI (by omega) (by omega)
  unfold wpY_wrong
  rw [e]
  exact ⟨i, nm_e (br_c (fun _ => h) (fun _ => br_f (by decide) (br_t (by decide) (br_t (by decide) (h)))))⟩
theorem sy_t3 {post : Int32 → Prop} (hk : k < 8) (h : post 0) : wpY_wrong post (tm, tn, kd, nu, sz, iy, sy, dl, st, wk, wo, we, wt, wd, d, qo, qk, qa, qb, q, rs, rc, te, tk) 3 (nI k) := by
  have e : (nI k).toNatClampNeg = k := nI_clamp (by omega)
  have i : vp_in (nI k) 16 := vp_in_nI (by omega) (by omega)
  unfold wpY_wrong
  rw [e]
  exact ⟨i, nm_e (br_c (fun _ => h) (fun _ => br_f (by decide) (br_t (by decide) (br_t (by decide) (h)))))⟩
theorem sy_t4 {post : Int32 → Prop} (hk : k < 8) (hok : kd k = 0 ∨ kd k = 2) (h : post 0) : wpY_wrong post (tm, tn, kd, nu, sz, iy, sy, dl, st, wk, wo, we, wt, wd, d, qo, qk, qa, qb, q, rs, rc, te, tk) 4 (nI k) := by
  have e : (nI k).toNatClampNeg = k := nI_clamp (by omega)
  have i : vp_in (nI k) 16 := vp_in_nI (by omega) (by omega)
  unfold wpY_wrong
  rw [e]
  refine ⟨i, nm_e ?_⟩
  rcases hok with c | c
  · exact br_t c h
  · exact br_f (by rw [c]; decide) (br_f (by decide) (br_f (by decide) (br_f (by decide) (br_t c (br_t (by decide) h)))))
theorem sy_f4 {post : Int32 → Prop} (hk : k < 8) (h1 : kd k ≠ 0) (h2 : kd k ≠ 2) (h : post 1) : wpY_wrong post (tm, tn, kd, nu, sz, iy, sy, dl, st, wk, wo, we, wt, wd, d, qo, qk, qa, qb, q, rs, rc, te, tk) 4 (nI k) := by
  have e : (nI k).toNatClampNeg = k := nI_clamp (by omega)
  have i : vp_in (nI k) 16 := vp_in_nI (by omega) (by omega)
  unfold wpY_wrong
  rw [e]
  exact ⟨i, nm_e (br_f h1 (br_f (by decide) (br_f (by decide) (br_f (by decide) (br_f h2 h)))))⟩
theorem sy_t5 {post : Int32 → Prop} (hk : k < 8) (hok : kd k = 0 ∨ kd k = 2) (h : post 0) : wpY_wrong post (tm, tn, kd, nu, sz, iy, sy, dl, st, wk, wo, we, wt, wd, d, qo, qk, qa, qb, q, rs, rc, te, tk) 5 (nI k) := by
  have e : (nI k).toNatClampNeg = k := nI_clamp (by omega)
  have i : vp_in (nI k) 16 := vp_in_nI (by omega) (by omega)
  unfold wpY_wrong
  rw [e]
  refine ⟨i, nm_e ?_⟩
  rcases hok with c | c
  · exact br_t c h
  · exact br_f (by rw [c]; decide) (br_f (by decide) (br_f (by decide) (br_f (by decide) (br_t c (br_t (by decide) h)))))
theorem sy_f5 {post : Int32 → Prop} (hk : k < 8) (h1 : kd k ≠ 0) (h2 : kd k ≠ 2) (h : post 1) : wpY_wrong post (tm, tn, kd, nu, sz, iy, sy, dl, st, wk, wo, we, wt, wd, d, qo, qk, qa, qb, q, rs, rc, te, tk) 5 (nI k) := by
  have e : (nI k).toNatClampNeg = k := nI_clamp (by omega)
  have i : vp_in (nI k) 16 := vp_in_nI (by omega) (by omega)
  unfold wpY_wrong
  rw [e]
  exact ⟨i, nm_e (br_f h1 (br_f (by decide) (br_f (by decide) (br_f (by decide) (br_f h2 h)))))⟩
theorem sy_t6 {post : Int32 → Prop} (hk : k < 8) (hok : kd k = 0 ∨ kd k = 2) (h : post 0) : wpY_wrong post (tm, tn, kd, nu, sz, iy, sy, dl, st, wk, wo, we, wt, wd, d, qo, qk, qa, qb, q, rs, rc, te, tk) 6 (nI k) := by
  have e : (nI k).toNatClampNeg = k := nI_clamp (by omega)
  have i : vp_in (nI k) 16 := vp_in_nI (by omega) (by omega)
  unfold wpY_wrong
  rw [e]
  refine ⟨i, nm_e ?_⟩
  rcases hok with c | c
  · exact br_t c h
  · exact br_f (by rw [c]; decide) (br_f (by decide) (br_f (by decide) (br_f (by decide) (br_t c (br_t (by decide) h)))))
theorem sy_f6 {post : Int32 → Prop} (hk : k < 8) (h1 : kd k ≠ 0) (h2 : kd k ≠ 2) (h : post 1) : wpY_wrong post (tm, tn, kd, nu, sz, iy, sy, dl, st, wk, wo, we, wt, wd, d, qo, qk, qa, qb, q, rs, rc, te, tk) 6 (nI k) := by
  have e : (nI k).toNatClampNeg = k := nI_clamp (by omega)
  have i : vp_in (nI k) 16 := vp_in_nI (by omega) (by omega)
  unfold wpY_wrong
  rw [e]
  exact ⟨i, nm_e (br_f h1 (br_f (by decide) (br_f (by decide) (br_f (by decide) (br_f h2 h)))))⟩
theorem sy_t7 {post : Int32 → Prop} (hk : k < 8) (hok : kd k = 0 ∨ kd k = 3) (h : post 0) : wpY_wrong post (tm, tn, kd, nu, sz, iy, sy, dl, st, wk, wo, we, wt, wd, d, qo, qk, qa, qb, q, rs, rc, te, tk) 7 (nI k) := by
  have e : (nI k).toNatClampNeg = k := nI_clamp (by omega)
  have i : vp_in (nI k) 16 := vp_in_nI (by omega) (by omega)
  unfold wpY_wrong
  rw [e]
  refine ⟨i, nm_e ?_⟩
  rcases hok with c | c
  · exact br_t c h
  · exact br_f (by rw [c]; decide) (br_f (by decide) (br_f (by decide) (br_t (by decide) (br_f (by decide) (br_f (by decide) (br_t c h))))))
theorem sy_f7 {post : Int32 → Prop} (hk : k < 8) (h1 : kd k ≠ 0) (h2 : kd k ≠ 3) (h : post 1) : wpY_wrong post (tm, tn, kd, nu, sz, iy, sy, dl, st, wk, wo, we, wt, wd, d, qo, qk, qa, qb, q, rs, rc, te, tk) 7 (nI k) := by
  have e : (nI k).toNatClampNeg = k := nI_clamp (by omega)
  have i : vp_in (nI k) 16 := vp_in_nI (by omega) (by omega)
  unfold wpY_wrong
  rw [e]
  exact ⟨i, nm_e (br_f h1 (br_f (by decide) (br_f (by decide) (br_t (by decide) (br_f (by decide) (br_f (by decide) (br_f h2 h)))))))⟩
theorem sy_t8 {post : Int32 → Prop} (hk : k < 8) (hok : kd k = 0 ∨ kd k = 3) (h : post 0) : wpY_wrong post (tm, tn, kd, nu, sz, iy, sy, dl, st, wk, wo, we, wt, wd, d, qo, qk, qa, qb, q, rs, rc, te, tk) 8 (nI k) := by
  have e : (nI k).toNatClampNeg = k := nI_clamp (by omega)
  have i : vp_in (nI k) 16 := vp_in_nI (by omega) (by omega)
  unfold wpY_wrong
  rw [e]
  refine ⟨i, nm_e ?_⟩
  rcases hok with c | c
  · exact br_t c h
  · exact br_f (by rw [c]; decide) (br_f (by decide) (br_f (by decide) (br_t (by decide) (br_f (by decide) (br_f (by decide) (br_t c h))))))
theorem sy_f8 {post : Int32 → Prop} (hk : k < 8) (h1 : kd k ≠ 0) (h2 : kd k ≠ 3) (h : post 1) : wpY_wrong post (tm, tn, kd, nu, sz, iy, sy, dl, st, wk, wo, we, wt, wd, d, qo, qk, qa, qb, q, rs, rc, te, tk) 8 (nI k) := by
  have e : (nI k).toNatClampNeg = k := nI_clamp (by omega)
  have i : vp_in (nI k) 16 := vp_in_nI (by omega) (by omega)
  unfold wpY_wrong
  rw [e]
  exact ⟨i, nm_e (br_f h1 (br_f (by decide) (br_f (by decide) (br_t (by decide) (br_f (by decide) (br_f (by decide) (br_f h2 h)))))))⟩
theorem sy_t9 {post : Int32 → Prop} (hk : k < 8) (hok : kd k = 0 ∨ kd k = 3) (h : post 0) : wpY_wrong post (tm, tn, kd, nu, sz, iy, sy, dl, st, wk, wo, we, wt, wd, d, qo, qk, qa, qb, q, rs, rc, te, tk) 9 (nI k) := by
  have e : (nI k).toNatClampNeg = k := nI_clamp (by omega)
  have i : vp_in (nI k) 16 := vp_in_nI (by omega) (by omega)
  unfold wpY_wrong
  rw [e]
  refine ⟨i, nm_e ?_⟩
  rcases hok with c | c
  · exact br_t c h
  · exact br_f (by rw [c]; decide) (br_f (by decide) (br_f (by decide) (br_t (by decide) (br_f (by decide) (br_f (by decide) (br_t c h))))))
theorem sy_f9 {post : Int32 → Prop} (hk : k < 8) (h1 : kd k ≠ 0) (h2 : kd k ≠ 3) (h : post 1) : wpY_wrong post (tm, tn, kd, nu, sz, iy, sy, dl, st, wk, wo, we, wt, wd, d, qo, qk, qa, qb, q, rs, rc, te, tk) 9 (nI k) := by
  have e : (nI k).toNatClampNeg = k := nI_clamp (by omega)
  have i : vp_in (nI k) 16 := vp_in_nI (by omega) (by omega)
  unfold wpY_wrong
  rw [e]
  exact ⟨i, nm_e (br_f h1 (br_f (by decide) (br_f (by decide) (br_t (by decide) (br_f (by decide) (br_f (by decide) (br_f h2 h)))))))⟩
theorem sy_t10 {post : Int32 → Prop} (hk : k < 8) (hok : kd k = 0 ∨ kd k = 3) (h : post 0) : wpY_wrong post (tm, tn, kd, nu, sz, iy, sy, dl, st, wk, wo, we, wt, wd, d, qo, qk, qa, qb, q, rs, rc, te, tk) 10 (nI k) := by
  have e : (nI k).toNatClampNeg = k := nI_clamp (by omega)
  have i : vp_in (nI k) 16 := vp_in_nI (by omega) (by omega)
  unfold wpY_wrong
  rw [e]
  refine ⟨i, nm_e ?_⟩
  rcases hok with c | c
  · exact br_t c h
  · exact br_f (by rw [c]; decide) (br_f (by decide) (br_f (by decide) (br_t (by decide) (br_f (by decide) (br_f (by decide) (br_t c h))))))
theorem sy_f10 {post : Int32 → Prop} (hk : k < 8) (h1 : kd k ≠ 0) (h2 : kd k ≠ 3) (h : post 1) : wpY_wrong post (tm, tn, kd, nu, sz, iy, sy, dl, st, wk, wo, we, wt, wd, d, qo, qk, qa, qb, q, rs, rc, te, tk) 10 (nI k) := by
  have e : (nI k).toNatClampNeg = k := nI_clamp (by omega)
  have i : vp_in (nI k) 16 := vp_in_nI (by omega) (by omega)
  unfold wpY_wrong
  rw [e]
  exact ⟨i, nm_e (br_f h1 (br_f (by decide) (br_f (by decide) (br_t (by decide) (br_f (by decide) (br_f (by decide) (br_f h2 h)))))))⟩
theorem sy_t11 {post : Int32 → Prop} (hk : k < 8) (h : post 0) : wpY_wrong post (tm, tn, kd, nu, sz, iy, sy, dl, st, wk, wo, we, wt, wd, d, qo, qk, qa, qb, q, rs, rc, te, tk) 11 (nI k) := by
  have e : (nI k).toNatClampNeg = k := nI_clamp (by omega)
  have i : vp_in (nI k) 16 := vp_in_nI (by omega) (by omega)
  unfold wpY_wrong
  rw [e]
  exact ⟨i, nm_e (br_c (fun _ => h) (fun _ => br_f (by decide) (br_f (by decide) (br_t (by decide) (br_f (by decide) (br_t (by decide) (h)))))))⟩
end PF
end
section
section PG
variable {tm : Int32} {tn : Int64} {kd nu sz dl ix sx iy sy st wk wo we w wd d q qo qk qa qb rc ra : Nat → Int32} {wt te tk tf tg rs : Nat → Int64}
variable {k : Nat} {a b : Int32}
theorem pf_w1 (hS : st_R kd sz dl ix sx iy sy) (hW : wa_R w wd d) (hk : k < 8) (h1 : kd k ≠ 0) (h2 : kd k ≠ 1) : lk_R wd (fun post => wpX_perform post (tm, tn, kd, nu, sz, dl, ix, sx, st, wk, wo, we, wt, te, tk, w, q, qo, qk, qa, qb, rc, rs) 1 (nI k) a b) (fun post => wpY_carryOut post (tm, tn, kd, nu, sz, iy, sy, dl, st, wk, wo, we, wt, wd, d, qo, qk, qa, qb, q, rs, ra, te, tk) 1 (nI k) a b) (fun kd nu sz dl ix sx w => (tm, tn, kd, nu, sz, dl, ix, sx, st, wk, wo, we, wt, te, tk, w, q, qo, qk, qa, qb, rc, rs)) (fun kd nu sz dl iy sy d => (tm, tn, kd, nu, sz, iy, sy, dl, st, wk, wo, we, wt, wd, d, qo, qk, qa, qb, q, rs, ra, te, tk)) := by
  have e : (nI k).toNatClampNeg = k := nI_clamp (by omega)
  have i : vp_in (nI k) 16 := vp_in_nI (by omega) (by omega)
  refine ⟨10000000001, kd, nu, sz, dl, ix, sx, iy, sy, w, d, hS, hW, fun post h => ?_, fun post h => ?_⟩
  · unfold wpX_perform
    exact sx_f kf_1 hk (by decide) h1 h2 (br_t rfl h)
  · unfold wpY_carryOut
    exact sy_f1 hk h1 h2 (br_f (by decide) h)
theorem pf_w4 (hS : st_R kd sz dl ix sx iy sy) (hW : wa_R w wd d) (hk : k < 8) (h1 : kd k ≠ 0) (h2 : kd k ≠ 2) : lk_R wd (fun post => wpX_perform post (tm, tn, kd, nu, sz, dl, ix, sx, st, wk, wo, we, wt, te, tk, w, q, qo, qk, qa, qb, rc, rs) 4 (nI k) a b) (fun post => wpY_carryOut post (tm, tn, kd, nu, sz, iy, sy, dl, st, wk, wo, we, wt, wd, d, qo, qk, qa, qb, q, rs, ra, te, tk) 4 (nI k) a b) (fun kd nu sz dl ix sx w => (tm, tn, kd, nu, sz, dl, ix, sx, st, wk, wo, we, wt, te, tk, w, q, qo, qk, qa, qb, rc, rs)) (fun kd nu sz dl iy sy d => (tm, tn, kd, nu, sz, iy, sy, dl, st, wk, wo, we, wt, wd, d, qo, qk, qa, qb, q, rs, ra, te, tk)) := by
  have e : (nI k).toNatClampNeg = k := nI_clamp (by omega)
  have i : vp_in (nI k) 16 := vp_in_nI (by omega) (by omega)
  refine ⟨10000000001, kd, nu, sz, dl, ix, sx, iy, sy, w, d, hS, hW, fun post h => ?_, fun post h => ?_⟩
  · unfold wpX_perform
    exact sx_f kf_4 hk (by decide) h1 h2 (br_t rfl h)
  · unfold wpY_carryOut
    exact sy_f4 hk h1 h2 (br_f (by decide) h)
theorem pf_w5 (hS : st_R kd sz dl ix sx iy sy) (hW : wa_R w wd d) (hk : k < 8) (h1 : kd k ≠ 0) (h2 : kd k ≠ 2) : lk_R wd (fun post => wpX_perform post (tm, tn, kd, nu, sz, dl, ix, sx, st, wk, wo, we, wt, te, tk, w, q, qo, qk, qa, qb, rc, rs) 5 (nI k) a b) (fun post => wpY_carryOut post (tm, tn, kd, nu, sz, iy, sy, dl, st, wk, wo, we, wt, wd, d, qo, qk, qa, qb, q, rs, ra, te, tk) 5 (nI k) a b) (fun kd nu sz dl ix sx w => (tm, tn, kd, nu, sz, dl, ix, sx, st, wk, wo, we, wt, te, tk, w, q, qo, qk, qa, qb, rc, rs)) (fun kd nu sz dl iy sy d => (tm, tn, kd, nu, sz, iy, sy, dl, st, wk, wo, we, wt, wd, d, qo, qk, qa, qb, q, rs, ra, te, tk)) := by
  have e : (nI k).toNatClampNeg = k := nI_clamp (by omega)
  have i : vp_in (nI k) 16 := vp_in_nI (by omega) (by omega)
  refine ⟨10000000001, kd, nu, sz, dl, ix, sx, iy, sy, w, d, hS, hW, fun post h => ?_, fun post h => ?_⟩
  · unfold wpX_perform
    exact sx_f kf_5 hk (by decide) h1 h2 (br_t rfl h)
  · unfold wpY_carryOut
    exact sy_f5 hk h1 h2 (br_f (by decide) h)
theorem pf_w6 (hS : st_R kd sz dl ix sx iy sy) (hW : wa_R w wd d) (hk : k < 8) (h1 : kd k ≠ 0) (h2 : kd k ≠ 2) : lk_R wd (fun post => wpX_perform post (tm, tn, kd, nu, sz, dl, ix, sx, st, wk, wo, we, wt, te, tk, w, q, qo, qk, qa, qb, rc, rs) 6 (nI k) a b) (fun post => wpY_carryOut post (tm, tn, kd, nu, sz, iy, sy, dl, st, wk, wo, we, wt, wd, d, qo, qk, qa, qb, q, rs, ra, te, tk) 6 (nI k) a b) (fun kd nu sz dl ix sx w => (tm, tn, kd, nu, sz, dl, ix, sx, st, wk, wo, we, wt, te, tk, w, q, qo, qk, qa, qb, rc, rs)) (fun kd nu sz dl iy sy d => (tm, tn, kd, nu, sz, iy, sy, dl, st, wk, wo, we, wt, wd, d, qo, qk, qa, qb, q, rs, ra, te, tk)) := by
  have e : (nI k).toNatClampNeg = k := nI_clamp (by omega)
  have i : vp_in (nI k) 16 := vp_in_nI (by omega) (by omega)
  refine ⟨10000000001, kd, nu, sz, dl, ix, sx, iy, sy, w, d, hS, hW, fun post h => ?_, fun post h => ?_⟩
  · unfold wpX_perform
    exact sx_f kf_6 hk (by decide) h1 h2 (br_t rfl h)
  · unfold wpY_carryOut
    exact sy_f6 hk h1 h2 (br_f (by decide) h)
theorem pf_w7 (hS : st_R kd sz dl ix sx iy sy) (hW : wa_R w wd d) (hk : k < 8) (h1 : kd k ≠ 0) (h2 : kd k ≠ 3) : lk_R wd (fun post => wpX_perform post (tm, tn, kd, nu, sz, dl, ix, sx, st, wk, wo, we, wt, te, tk, w, q, qo, qk, qa, qb, rc, rs) 7 (nI k) a b) (fun post => wpY_carryOut post (tm, tn, kd, nu, sz, iy, sy, dl, st, wk, wo, we, wt, wd, d, qo, qk, qa, qb, q, rs, ra, te, tk) 7 (nI k) a b) (fun kd nu sz dl ix sx w => (tm, tn, kd, nu, sz, dl, ix, sx, st, wk, wo, we, wt, te, tk, w, q, qo, qk, qa, qb, rc, rs)) (fun kd nu sz dl iy sy d => (tm, tn, kd, nu, sz, iy, sy, dl, st, wk, wo, we, wt, wd, d, qo, qk, qa, qb, q, rs, ra, te, tk)) := by
  have e : (nI k).toNatClampNeg = k := nI_clamp (by omega)
  have i : vp_in (nI k) 16 := vp_in_nI (by omega) (by omega)
  refine ⟨10000000001, kd, nu, sz, dl, ix, sx, iy, sy, w, d, hS, hW, fun post h => ?_, fun post h => ?_⟩
  · unfold wpX_perform
    exact sx_f kf_7 hk (by decide) h1 h2 (br_t rfl h)
  · unfold wpY_carryOut
    exact sy_f7 hk h1 h2 (br_f (by decide) h)
theorem pf_w8 (hS : st_R kd sz dl ix sx iy sy) (hW : wa_R w wd d) (hk : k < 8) (h1 : kd k ≠ 0) (h2 : kd k ≠ 3) : lk_R wd (fun post => wpX_perform post (tm, tn, kd, nu, sz, dl, ix, sx, st, wk, wo, we, wt, te, tk, w, q, qo, qk, qa, qb, rc, rs) 8 (nI k) a b) (fun post => wpY_carryOut post (tm, tn, kd, nu, sz, iy, sy, dl, st, wk, wo, we, wt, wd, d, qo, qk, qa, qb, q, rs, ra, te, tk) 8 (nI k) a b) (fun kd nu sz dl ix sx w => (tm, tn, kd, nu, sz, dl, ix, sx, st, wk, wo, we, wt, te, tk, w, q, qo, qk, qa, qb, rc, rs)) (fun kd nu sz dl iy sy d => (tm, tn, kd, nu, sz, iy, sy, dl, st, wk, wo, we, wt, wd, d, qo, qk, qa, qb, q, rs, ra, te, tk)) := by
  have e : (nI k).toNatClampNeg = k := nI_clamp (by omega)
  have i : vp_in (nI k) 16 := vp_in_nI (by omega) (by omega)
  refine ⟨10000000001, kd, nu, sz, dl, ix, sx, iy, sy, w, d, hS, hW, fun post h => ?_, fun post h => ?_⟩
  · unfold wpX_perform
    exact sx_f kf_8 hk (by decide) h1 h2 (br_t rfl h)
  · unfold wpY_carryOut
    exact sy_f8 hk h1 h2 (br_f (by decide) h)
theorem pf_w9 (hS : st_R kd sz dl ix sx iy sy) (hW : wa_R w wd d) (hk : k < 8) (h1 : kd k ≠ 0) (h2 : kd k ≠ 3) : lk_R wd (fun post => wpX_perform post (tm, tn, kd, nu, sz, dl, ix, sx, st, wk, wo, we, wt, te, tk, w, q, qo, qk, qa, qb, rc, rs) 9 (nI k) a b) (fun post => wpY_carryOut post (tm, tn, kd, nu, sz, iy, sy, dl, st, wk, wo, we, wt, wd, d, qo, qk, qa, qb, q, rs, ra, te, tk) 9 (nI k) a b) (fun kd nu sz dl ix sx w => (tm, tn, kd, nu, sz, dl, ix, sx, st, wk, wo, we, wt, te, tk, w, q, qo, qk, qa, qb, rc, rs)) (fun kd nu sz dl iy sy d => (tm, tn, kd, nu, sz, iy, sy, dl, st, wk, wo, we, wt, wd, d, qo, qk, qa, qb, q, rs, ra, te, tk)) := by
  have e : (nI k).toNatClampNeg = k := nI_clamp (by omega)
  have i : vp_in (nI k) 16 := vp_in_nI (by omega) (by omega)
  refine ⟨10000000001, kd, nu, sz, dl, ix, sx, iy, sy, w, d, hS, hW, fun post h => ?_, fun post h => ?_⟩
  · unfold wpX_perform
    exact sx_f kf_9 hk (by decide) h1 h2 (br_t rfl h)
  · unfold wpY_carryOut
    exact sy_f9 hk h1 h2 (br_f (by decide) h)
theorem pf_w10 (hS : st_R kd sz dl ix sx iy sy) (hW : wa_R w wd d) (hk : k < 8) (h1 : kd k ≠ 0) (h2 : kd k ≠ 3) : lk_R wd (fun post => wpX_perform post (tm, tn, kd, nu, sz, dl, ix, sx, st, wk, wo, we, wt, te, tk, w, q, qo, qk, qa, qb, rc, rs) 10 (nI k) a b) (fun post => wpY_carryOut post (tm, tn, kd, nu, sz, iy, sy, dl, st, wk, wo, we, wt, wd, d, qo, qk, qa, qb, q, rs, ra, te, tk) 10 (nI k) a b) (fun kd nu sz dl ix sx w => (tm, tn, kd, nu, sz, dl, ix, sx, st, wk, wo, we, wt, te, tk, w, q, qo, qk, qa, qb, rc, rs)) (fun kd nu sz dl iy sy d => (tm, tn, kd, nu, sz, iy, sy, dl, st, wk, wo, we, wt, wd, d, qo, qk, qa, qb, q, rs, ra, te, tk)) := by
  have e : (nI k).toNatClampNeg = k := nI_clamp (by omega)
  have i : vp_in (nI k) 16 := vp_in_nI (by omega) (by omega)
  refine ⟨10000000001, kd, nu, sz, dl, ix, sx, iy, sy, w, d, hS, hW, fun post h => ?_, fun post h => ?_⟩
  · unfold wpX_perform
    exact sx_f kf_10 hk (by decide) h1 h2 (br_t rfl h)
  · unfold wpY_carryOut
    exact sy_f10 hk h1 h2 (br_f (by decide) h)
theorem pf_0 (hS : st_R kd sz dl ix sx iy sy) (hW : wa_R w wd d) (hk : k < 8) : lk_R wd (fun post => wpX_perform post (tm, tn, kd, nu, sz, dl, ix, sx, st, wk, wo, we, wt, te, tk, w, q, qo, qk, qa, qb, rc, rs) 0 (nI k) a b) (fun post => wpY_carryOut post (tm, tn, kd, nu, sz, iy, sy, dl, st, wk, wo, we, wt, wd, d, qo, qk, qa, qb, q, rs, ra, te, tk) 0 (nI k) a b) (fun kd nu sz dl ix sx w => (tm, tn, kd, nu, sz, dl, ix, sx, st, wk, wo, we, wt, te, tk, w, q, qo, qk, qa, qb, rc, rs)) (fun kd nu sz dl iy sy d => (tm, tn, kd, nu, sz, iy, sy, dl, st, wk, wo, we, wt, wd, d, qo, qk, qa, qb, q, rs, ra, te, tk)) := by
  have e : (nI k).toNatClampNeg = k := nI_clamp (by omega)
  have i : vp_in (nI k) 16 := vp_in_nI (by omega) (by omega)
  refine ⟨0, upd (upd kd k 0) k 1, upd (upd nu k 0) k a, upd sz k 0, upd dl k 0, ix, sx, iy, sy, ws_mk w k 4, ws_dc wd d k 4, st_num hS k, wa_mark hW hk, fun post h => ?_, fun post h => ?_⟩
  · unfold wpX_perform
    exact sx_t kf_0 hk (Or.inl rfl) (br_f (by decide) (br_f (by decide) (br_f (by decide) (br_t (by decide) (wx_put hk h)))))
  · unfold wpY_carryOut
    exact sy_t0 hk  (br_t (by decide) (br_t (by decide) (br_f (by decide) (br_f (by decide) (br_f (by decide) (br_f (by decide) (br_t (by decide) (wy_clear (by omega) ⟨i, nm_r (e' := upd (upd kd k 0) k 1) (by rw [e]) ⟨i, nm_r (e' := upd (upd nu k 0) k a) (by rw [e]) (wy_mark hk h)⟩⟩))))))))
theorem pf_1 (hS : st_R kd sz dl ix sx iy sy) (hW : wa_R w wd d) (hk : k < 8) (hok : kd k = 0 ∨ kd k = 1) : lk_R wd (fun post => wpX_perform post (tm, tn, kd, nu, sz, dl, ix, sx, st, wk, wo, we, wt, te, tk, w, q, qo, qk, qa, qb, rc, rs) 1 (nI k) a b) (fun post => wpY_carryOut post (tm, tn, kd, nu, sz, iy, sy, dl, st, wk, wo, we, wt, wd, d, qo, qk, qa, qb, q, rs, ra, te, tk) 1 (nI k) a b) (fun kd nu sz dl ix sx w => (tm, tn, kd, nu, sz, dl, ix, sx, st, wk, wo, we, wt, te, tk, w, q, qo, qk, qa, qb, rc, rs)) (fun kd nu sz dl iy sy d => (tm, tn, kd, nu, sz, iy, sy, dl, st, wk, wo, we, wt, wd, d, qo, qk, qa, qb, q, rs, ra, te, tk)) := by
  have e : (nI k).toNatClampNeg = k := nI_clamp (by omega)
  have i : vp_in (nI k) 16 := vp_in_nI (by omega) (by omega)
  refine ⟨(nu k + a).toInt64, upd kd k 1, upd nu k (nu k + a), sz, dl, ix, sx, iy, sy, ws_mk w k 4, ws_dc wd d k 4, st_add hS (by omega) hok, wa_mark hW hk, fun post h => ?_, fun post h => ?_⟩
  · unfold wpX_perform
    exact sx_t kf_1 hk (Or.inr hok) (br_f (by decide) (br_f (by decide) (br_f (by decide) (br_f (by decide) (br_t (by decide) (wx_add hk h))))))
  · unfold wpY_carryOut
    exact sy_t1 hk hok (br_t (by decide) (br_t (by decide) (br_f (by decide) (br_f (by decide) (br_f (by decide) (br_f (by decide) (br_f (by decide) (br_t (by decide) (⟨i, nm_r (e' := upd kd k 1) (by rw [e]) ⟨i, i, nm_r (e' := upd nu k (nu k + a)) (by rw [e]) (wy_mark hk ⟨i, by rw [e, pk_us]; exact h⟩)⟩⟩)))))))))
theorem pf_2 (hS : st_R kd sz dl ix sx iy sy) (hW : wa_R w wd d) (hk : k < 8) : lk_R wd (fun post => wpX_perform post (tm, tn, kd, nu, sz, dl, ix, sx, st, wk, wo, we, wt, te, tk, w, q, qo, qk, qa, qb, rc, rs) 2 (nI k) a b) (fun post => wpY_carryOut post (tm, tn, kd, nu, sz, iy, sy, dl, st, wk, wo, we, wt, wd, d, qo, qk, qa, qb, q, rs, ra, te, tk) 2 (nI k) a b) (fun kd nu sz dl ix sx w => (tm, tn, kd, nu, sz, dl, ix, sx, st, wk, wo, we, wt, te, tk, w, q, qo, qk, qa, qb, rc, rs)) (fun kd nu sz dl iy sy d => (tm, tn, kd, nu, sz, iy, sy, dl, st, wk, wo, we, wt, wd, d, qo, qk, qa, qb, q, rs, ra, te, tk)) := by
  have e : (nI k).toNatClampNeg = k := nI_clamp (by omega)
  have i : vp_in (nI k) 16 := vp_in_nI (by omega) (by omega)
  by_cases z : kd k = 0
  · refine ⟨0, kd, nu, sz, dl, ix, sx, iy, sy, w, d, hS, hW, fun post h => ?_, fun post h => ?_⟩
    · unfold wpX_perform
      exact sx_t kf_2 hk (Or.inl rfl) (br_f (by decide) (br_f (by decide) (br_f (by decide) (br_f (by decide) (br_f (by decide) (br_t (by decide) (wx_drop0 hk z h)))))))
    · unfold wpY_carryOut
      exact sy_t2 hk  (br_t (by decide) (br_t (by decide) (br_f (by decide) (br_f (by decide) (br_f (by decide) (br_f (by decide) (br_f (by decide) (br_f (by decide) (br_t (by decide) (wy_wh0 hk z h))))))))))
  · refine ⟨1, upd kd k 0, upd nu k 0, upd sz k 0, upd dl k 0, ix, sx, iy, sy, ws_mk w k 4, ws_dc wd d k 4, st_clear hS k, wa_mark hW hk, fun post h => ?_, fun post h => ?_⟩
    · unfold wpX_perform
      exact sx_t kf_2 hk (Or.inl rfl) (br_f (by decide) (br_f (by decide) (br_f (by decide) (br_f (by decide) (br_f (by decide) (br_t (by decide) (wx_drop1 hk z h)))))))
    · unfold wpY_carryOut
      exact sy_t2 hk  (br_t (by decide) (br_t (by decide) (br_f (by decide) (br_f (by decide) (br_f (by decide) (br_f (by decide) (br_f (by decide) (br_f (by decide) (br_t (by decide) (wy_drop1 hk z h))))))))))
theorem pf_3 (hS : st_R kd sz dl ix sx iy sy) (hW : wa_R w wd d) (hk : k < 8) (hx : ∃ x : Int32, 0 ≤ x ∧ ((a = 0 ∧ x = 0) ∨ (a ≠ 0 ∧ x = tm + a))) : lk_R wd (fun post => wpX_perform post (tm, tn, kd, nu, sz, dl, ix, sx, st, wk, wo, we, wt, te, tk, w, q, qo, qk, qa, qb, rc, rs) 3 (nI k) a b) (fun post => wpY_carryOut post (tm, tn, kd, nu, sz, iy, sy, dl, st, wk, wo, we, wt, wd, d, qo, qk, qa, qb, q, rs, ra, te, tk) 3 (nI k) a b) (fun kd nu sz dl ix sx w => (tm, tn, kd, nu, sz, dl, ix, sx, st, wk, wo, we, wt, te, tk, w, q, qo, qk, qa, qb, rc, rs)) (fun kd nu sz dl iy sy d => (tm, tn, kd, nu, sz, iy, sy, dl, st, wk, wo, we, wt, wd, d, qo, qk, qa, qb, q, rs, ra, te, tk)) := by
  have e : (nI k).toNatClampNeg = k := nI_clamp (by omega)
  have i : vp_in (nI k) 16 := vp_in_nI (by omega) (by omega)
  obtain ⟨x, hx0, hx⟩ := hx
  by_cases z : kd k = 0
  · refine ⟨0, kd, nu, sz, dl, ix, sx, iy, sy, w, d, hS, hW, fun post h => ?_, fun post h => ?_⟩
    · unfold wpX_perform
      exact sx_t kf_3 hk (Or.inl rfl) (br_f (by decide) (br_f (by decide) (br_f (by decide) (br_f (by decide) (br_f (by decide) (br_f (by decide) (br_t (by decide) (wx_dl0 hk z h))))))))
    · unfold wpY_carryOut
      exact sy_t3 hk  (br_t (by decide) (br_t (by decide) (br_f (by decide) (br_f (by decide) (br_f (by decide) (br_f (by decide) (br_f (by decide) (br_f (by decide) (br_f (by decide) (br_t (by decide) (wy_wh0 hk z h)))))))))))
  · refine ⟨1, kd, nu, sz, upd dl k x, ix, sx, iy, sy, ws_mk w k 4, ws_dc wd d k 4, st_dl hS (by omega) hx0, wa_mark hW hk, fun post h => ?_, fun post h => ?_⟩
    · unfold wpX_perform
      exact sx_t kf_3 hk (Or.inl rfl) (br_f (by decide) (br_f (by decide) (br_f (by decide) (br_f (by decide) (br_f (by decide) (br_f (by decide) (br_t (by decide) (wx_dl1 hk z hx h))))))))
    · unfold wpY_carryOut
      exact sy_t3 hk  (br_t (by decide) (br_t (by decide) (br_f (by decide) (br_f (by decide) (br_f (by decide) (br_f (by decide) (br_f (by decide) (br_f (by decide) (br_f (by decide) (br_t (by decide) (wy_dl1 hk z hx h)))))))))))
theorem pf_4 (hS : st_R kd sz dl ix sx iy sy) (hW : wa_R w wd d) (hk : k < 8) (hok : kd k = 0 ∨ kd k = 2) : lk_R wd (fun post => wpX_perform post (tm, tn, kd, nu, sz, dl, ix, sx, st, wk, wo, we, wt, te, tk, w, q, qo, qk, qa, qb, rc, rs) 4 (nI k) a b) (fun post => wpY_carryOut post (tm, tn, kd, nu, sz, iy, sy, dl, st, wk, wo, we, wt, wd, d, qo, qk, qa, qb, q, rs, ra, te, tk) 4 (nI k) a b) (fun kd nu sz dl ix sx w => (tm, tn, kd, nu, sz, dl, ix, sx, st, wk, wo, we, wt, te, tk, w, q, qo, qk, qa, qb, rc, rs)) (fun kd nu sz dl iy sy d => (tm, tn, kd, nu, sz, iy, sy, dl, st, wk, wo, we, wt, wd, d, qo, qk, qa, qb, q, rs, ra, te, tk)) := by
  have e : (nI k).toNatClampNeg = k := nI_clamp (by omega)
  have i : vp_in (nI k) 16 := vp_in_nI (by omega) (by omega)
  obtain ⟨n, hn, hz, _⟩ := st_n hS (k := k) (by omega)
  by_cases hn1 : n < 12
  · have g := st_push (p := 0) (a := a) hS (by omega) hz hn1 (by omega) hok
    refine ⟨(nI (n + 1)).toInt64, upd kd k 2, nu, upd sz k (nI (n + 1)), dl, upd (ws_op ix (12 * k + 0) (12 * k + n)) (12 * k + 0) a, ws_op sx (12 * k + 0) (12 * k + n), upd (ws_op iy (12 * k + 0) (12 * k + n)) (12 * k + 0) a, sy, ws_mk w k 4, ws_dc wd d k 4, g, wa_mark hW hk, fun post h => ?_, fun post h => ?_⟩
    · unfold wpX_perform
      exact sx_t kf_4 hk (Or.inr hok) (br_f (by decide) (br_f (by decide) (br_f (by decide) (br_f (by decide) (br_f (by decide) (br_f (by decide) (br_f (by decide) (br_t (by decide) (wx_elem1 (p := 0) hk hz hn1 (Nat.zero_le n) h)))))))))
    · unfold wpY_carryOut
      exact sy_t4 hk hok (br_t (by decide) (br_f (by decide) (br_f (by decide) (br_t (by decide) (wy_putF hk hz hn1 h)))))
  · obtain rfl : n = 12 := by omega
    refine ⟨10000000003, kd, nu, sz, dl, ix, sx, iy, sy, w, d, hS, hW, fun post h => ?_, fun post h => ?_⟩
    · unfold wpX_perform
      exact sx_t kf_4 hk (Or.inr hok) (br_f (by decide) (br_f (by decide) (br_f (by decide) (br_f (by decide) (br_f (by decide) (br_f (by decide) (br_f (by decide) (br_t (by decide) (wx_elem0 hk hz h)))))))))
    · unfold wpY_carryOut
      exact sy_t4 hk hok (br_t (by decide) (br_f (by decide) (br_f (by decide) (br_t (by decide) (wy_put0 hk hz h)))))
theorem pf_5 (hS : st_R kd sz dl ix sx iy sy) (hW : wa_R w wd d) (hk : k < 8) (hok : kd k = 0 ∨ kd k = 2) : lk_R wd (fun post => wpX_perform post (tm, tn, kd, nu, sz, dl, ix, sx, st, wk, wo, we, wt, te, tk, w, q, qo, qk, qa, qb, rc, rs) 5 (nI k) a b) (fun post => wpY_carryOut post (tm, tn, kd, nu, sz, iy, sy, dl, st, wk, wo, we, wt, wd, d, qo, qk, qa, qb, q, rs, ra, te, tk) 5 (nI k) a b) (fun kd nu sz dl ix sx w => (tm, tn, kd, nu, sz, dl, ix, sx, st, wk, wo, we, wt, te, tk, w, q, qo, qk, qa, qb, rc, rs)) (fun kd nu sz dl iy sy d => (tm, tn, kd, nu, sz, iy, sy, dl, st, wk, wo, we, wt, wd, d, qo, qk, qa, qb, q, rs, ra, te, tk)) := by
  have e : (nI k).toNatClampNeg = k := nI_clamp (by omega)
  have i : vp_in (nI k) 16 := vp_in_nI (by omega) (by omega)
  obtain ⟨n, hn, hz, _⟩ := st_n hS (k := k) (by omega)
  by_cases hn1 : n < 12
  · have g := st_push (p := n) (a := a) hS (by omega) hz hn1 (by omega) hok
    rw [ws_op0, ws_op0, ws_op0] at g
    refine ⟨(nI (n + 1)).toInt64, upd kd k 2, nu, upd sz k (nI (n + 1)), dl, upd ix (12 * k + n) a, sx, upd iy (12 * k + n) a, sy, ws_mk w k 4, ws_dc wd d k 4, g, wa_mark hW hk, fun post h => ?_, fun post h => ?_⟩
    · unfold wpX_perform
      exact sx_t kf_5 hk (Or.inr hok) (br_f (by decide) (br_f (by decide) (br_f (by decide) (br_f (by decide) (br_f (by decide) (br_f (by decide) (br_f (by decide) (br_f (by decide) (br_t (by decide) (⟨i, by rw [e, hz]; exact wx_elem1 (p := n) hk hz hn1 (Nat.le_refl n) (by rw [ws_op0, ws_op0]; exact h)⟩))))))))))
    · unfold wpY_carryOut
      exact sy_t5 hk hok (br_t (by decide) (br_f (by decide) (br_f (by decide) (br_f (by decide) (wy_putB hk hz hn1 h)))))
  · obtain rfl : n = 12 := by omega
    refine ⟨10000000003, kd, nu, sz, dl, ix, sx, iy, sy, w, d, hS, hW, fun post h => ?_, fun post h => ?_⟩
    · unfold wpX_perform
      exact sx_t kf_5 hk (Or.inr hok) (br_f (by decide) (br_f (by decide) (br_f (by decide) (br_f (by decide) (br_f (by decide) (br_f (by decide) (br_f (by decide) (br_f (by decide) (br_t (by decide) (⟨i, wx_elem0 hk hz h⟩))))))))))
    · unfold wpY_carryOut
      exact sy_t5 hk hok (br_t (by decide) (br_f (by decide) (br_f (by decide) (br_f (by decide) (wy_put0 hk hz h)))))
theorem pf_6 (hS : st_R kd sz dl ix sx iy sy) (hW : wa_R w wd d) (hk : k < 8) (hok : kd k = 0 ∨ kd k = 2) : lk_R wd (fun post => wpX_perform post (tm, tn, kd, nu, sz, dl, ix, sx, st, wk, wo, we, wt, te, tk, w, q, qo, qk, qa, qb, rc, rs) 6 (nI k) a b) (fun post => wpY_carryOut post (tm, tn, kd, nu, sz, iy, sy, dl, st, wk, wo, we, wt, wd, d, qo, qk, qa, qb, q, rs, ra, te, tk) 6 (nI k) a b) (fun kd nu sz dl ix sx w => (tm, tn, kd, nu, sz, dl, ix, sx, st, wk, wo, we, wt, te, tk, w, q, qo, qk, qa, qb, rc, rs)) (fun kd nu sz dl iy sy d => (tm, tn, kd, nu, sz, iy, sy, dl, st, wk, wo, we, wt, wd, d, qo, qk, qa, qb, q, rs, ra, te, tk)) := by
  have e : (nI k).toNatClampNeg = k := nI_clamp (by omega)
  have i : vp_in (nI k) 16 := vp_in_nI (by omega) (by omega)
  obtain ⟨n, hn, hz, hc⟩ := st_n hS (k := k) (by omega)
  by_cases z : kd k = 0
  · have n0 : sz k = 0 := by
      rcases hc with c | c | c | c
      · rw [hz, c.2]; rfl
      · rw [z] at c; exact absurd c.1 (by decide)
      · rw [z] at c; exact absurd c.1 (by decide)
      · rw [z] at c; exact absurd c.1 (by decide)
    refine ⟨10000000002, kd, nu, sz, dl, ix, sx, iy, sy, w, d, hS, hW, fun post h => ?_, fun post h => ?_⟩
    · unfold wpX_perform
      refine sx_t kf_6 hk (Or.inr hok) (br_f (by decide) (br_f (by decide) (br_f (by decide) (br_f (by decide) (br_f (by decide) (br_f (by decide) (br_f (by decide) (br_f (by decide) (br_f (by decide) (br_t (by decide) (br_c (fun _ => ⟨i, ?_⟩) (fun _ => ⟨i, ?_⟩))))))))))))
      · rw [e]; exact br_t z h
      · rw [e]; exact br_t z h
    · unfold wpY_carryOut
      refine sy_t6 hk hok (br_t (by decide) (br_f (by decide) (br_t (by decide) (br_f (by decide) (br_f (by decide) (br_f (by decide) (br_f (by decide) (br_f (by decide) (br_f (by decide) (br_f (by decide) (br_f (by decide) (br_f (by decide) (br_f (by decide) (br_t (by decide) (⟨i, ?_⟩)))))))))))))))
      rw [e]
      exact br_t n0 h
  · have h2 : kd k = 2 := hok.resolve_left z
    obtain ⟨n', rfl⟩ : ∃ n', n = n' + 1 := by
      rcases hc with c | c | c | c
      · exact absurd c.1 z
      · rw [h2] at c; exact absurd c.1 (by decide)
      · exact ⟨n - 1, by omega⟩
      · exact ⟨n - 1, by omega⟩
    have ne : ¬ sz k = 0 := by
      rw [hz]
      exact nI_ne0 (by omega) (by omega)
    by_cases a0 : a = 0
    · obtain ⟨r, kd', nu', sz', dl', ix', sx', iy', sy', w', d', r1, r2, rx, ry⟩ := lk_out (nu := nu) (tm := tm) (tn := tn) (st := st) (wk := wk) (wo := wo) (we := we) (wt := wt) (te := te) (tk := tk) (tf := te) (tg := tk) (q := q) (qo := qo) (qk := qk) (qa := qa) (qb := qb) (rc := rc) (ra := ra) (rs := rs) (p := 0) (p' := 0) hS hW hk hz (by omega) (by omega) (by omega) (Or.inl ⟨h2, rfl⟩)
      refine ⟨r.toInt64, kd', nu', sz', dl', ix', sx', iy', sy', w', d', r1, r2, fun post h => ?_, fun post h => ?_⟩
      · unfold wpX_perform
        refine sx_t kf_6 hk (Or.inr hok) (br_f (by decide) (br_f (by decide) (br_f (by decide) (br_f (by decide) (br_f (by decide) (br_f (by decide) (br_f (by decide) (br_f (by decide) (br_f (by decide) (br_t (by decide) (br_t a0 ⟨i, ?_⟩)))))))))))
        rw [e]
        exact br_f z (rx _ h)
      · unfold wpY_carryOut
        refine sy_t6 hk hok (br_t (by decide) (br_f (by decide) (br_t (by decide) (br_f (by decide) (br_f (by decide) (br_f (by decide) (br_f (by decide) (br_f (by decide) (br_f (by decide) (br_f (by decide) (br_f (by decide) (br_f (by decide) (br_f (by decide) (br_t (by decide) (⟨i, ?_⟩)))))))))))))))
        rw [e]
        exact br_f ne (br_t a0 (ry _ h))
    · obtain ⟨r, kd', nu', sz', dl', ix', sx', iy', sy', w', d', r1, r2, rx, ry⟩ := lk_out (nu := nu) (tm := tm) (tn := tn) (st := st) (wk := wk) (wo := wo) (we := we) (wt := wt) (te := te) (tk := tk) (tf := te) (tg := tk) (q := q) (qo := qo) (qk := qk) (qa := qa) (qb := qb) (rc := rc) (ra := ra) (rs := rs) (p := n') (p' := n') hS hW hk hz (by omega) (by omega) (by omega) (Or.inl ⟨h2, rfl⟩)
      refine ⟨r.toInt64, kd', nu', sz', dl', ix', sx', iy', sy', w', d', r1, r2, fun post h => ?_, fun post h => ?_⟩
      · unfold wpX_perform
        refine sx_t kf_6 hk (Or.inr hok) (br_f (by decide) (br_f (by decide) (br_f (by decide) (br_f (by decide) (br_f (by decide) (br_f (by decide) (br_f (by decide) (br_f (by decide) (br_f (by decide) (br_t (by decide) (br_f a0 ⟨i, ?_⟩)))))))))))
        rw [e, hz, nI_pred]
        exact br_f z ⟨i, rx _ h⟩
      · unfold wpY_carryOut
        refine sy_t6 hk hok (br_t (by decide) (br_f (by decide) (br_t (by decide) (br_f (by decide) (br_f (by decide) (br_f (by decide) (br_f (by decide) (br_f (by decide) (br_f (by decide) (br_f (by decide) (br_f (by decide) (br_f (by decide) (br_f (by decide) (br_t (by decide) (⟨i, ?_⟩)))))))))))))))
        rw [e]
        refine br_f ne (br_f a0 ⟨i, ?_⟩)
        rw [hz, nI_pred]
        exact ry _ h
end PG
end
section
section PH
variable {tm : Int32} {tn : Int64} {kd nu sz dl ix sx iy sy st wk wo we w wd d q qo qk qa qb rc ra : Nat → Int32} {wt te tk tf tg rs : Nat → Int64}
variable {k : Nat} {a b : Int32}
theorem ws_Fxy {n b0 : Nat} {m : Int32} (h : n = 0 ∨ ws_R ix sx iy sy b0 n) : (ws_F ix b0 n m (-1) ∧ ws_F iy b0 n m (-1) ∧ ∀ j, j < n → ix (b0 + j) ≠ m) ∨ (∃ p p', p < n ∧ p' < n ∧ ws_F ix b0 n m (nI p) ∧ ws_F iy b0 n m (nI p') ∧ sx (b0 + p) = sy (b0 + p') ∧ ix (b0 + p) = iy (b0 + p') ∧ iy (b0 + p') = m ∧ ws_R ix sx iy sy b0 n) := by
  by_cases hx : ∃ p, p < n ∧ ix (b0 + p) = m
  · have hR : ws_R ix sx iy sy b0 n := by
      rcases h with h | h
      · obtain ⟨p, hp, _⟩ := hx
        omega
      · exact h
    obtain ⟨p, ⟨hp, ep⟩, hl⟩ := pk_least _ hx
    obtain ⟨p2, hp2, _, e2⟩ := ws_toY hR hp
    obtain ⟨p', ⟨hp', ep'⟩, hl'⟩ := pk_least (fun j => j < n ∧ iy (b0 + j) = m) ⟨p2, hp2, e2.trans ep⟩
    obtain ⟨j, hj, e3, e4⟩ := ws_toX hR hp'
    have jp : j = p := by
      rcases Nat.lt_trichotomy j p with c | c | c
      · exact absurd (e4.trans (ep'.trans ep.symm)) (hR.2.1 j p c hp)
      · exact c
      · exact absurd (e4.trans (ep'.trans ep.symm)).symm (hR.2.1 p j c hj)
    rw [jp] at e3 e4
    exact Or.inr ⟨p, p', hp, hp', Or.inr ⟨p, hp, ep, fun y hy z => hl y hy ⟨by omega, z⟩, rfl⟩, Or.inr ⟨p', hp', ep', fun y hy z => hl' y hy ⟨by omega, z⟩, rfl⟩, e3, e4, ep', hR⟩
  · refine Or.inl ⟨Or.inl ⟨rfl, fun y hy z => hx ⟨y, hy, z⟩⟩, Or.inl ⟨rfl, fun y hy z => ?_⟩, fun y hy z => hx ⟨y, hy, z⟩⟩
    rcases h with h | h
    · omega
    · obtain ⟨j, hj, _, e4⟩ := ws_toX h hy
      exact hx ⟨j, hj, e4.trans z⟩
theorem pf_7 (hS : st_R kd sz dl ix sx iy sy) (hW : wa_R w wd d) (hk : k < 8) (hok : kd k = 0 ∨ kd k = 3) : lk_R wd (fun post => wpX_perform post (tm, tn, kd, nu, sz, dl, ix, sx, st, wk, wo, we, wt, te, tk, w, q, qo, qk, qa, qb, rc, rs) 7 (nI k) a b) (fun post => wpY_carryOut post (tm, tn, kd, nu, sz, iy, sy, dl, st, wk, wo, we, wt, wd, d, qo, qk, qa, qb, q, rs, ra, te, tk) 7 (nI k) a b) (fun kd nu sz dl ix sx w => (tm, tn, kd, nu, sz, dl, ix, sx, st, wk, wo, we, wt, te, tk, w, q, qo, qk, qa, qb, rc, rs)) (fun kd nu sz dl iy sy d => (tm, tn, kd, nu, sz, iy, sy, dl, st, wk, wo, we, wt, wd, d, qo, qk, qa, qb, q, rs, ra, te, tk)) := by
  have e : (nI k).toNatClampNeg = k := nI_clamp (by omega)
  have i : vp_in (nI k) 16 := vp_in_nI (by omega) (by omega)
  have vv : ∀ p, p < 12 → vp_in (nI k * 12 + nI p) 192 := by
    intro p hp
    rw [nu_x12]
    exact vp_in_nI (by omega) (by omega)
  have ee : ∀ p, p < 12 → (nI k * 12 + nI p).toNatClampNeg = 12 * k + p := by
    intro p hp
    rw [nu_x12]
    exact nI_clamp (by omega)
  obtain ⟨n, hn, hz, hc⟩ := st_n hS (k := k) (by omega)
  have hR : n = 0 ∨ ws_R ix sx iy sy (12 * k) n := by
    rcases hc with c | c | c | c
    · exact Or.inl c.2
    · exact Or.inl c.2
    · rcases hok with y | y <;> rw [y] at c <;> exact absurd c.1 (by decide)
    · exact Or.inr c.2.2
  have h3 : n ≠ 0 → kd k = 3 := by
    intro y
    rcases hc with c | c | c | c
    · exact absurd c.2 y
    · exact absurd c.2 y
    · rcases hok with y | y <;> rw [y] at c <;> exact absurd c.1 (by decide)
    · exact c.1
  rcases ws_Fxy (m := a) hR with ⟨fx, fy, hno⟩ | ⟨p, p', hp, hp', fx, fy, e1, e2, em, hRR⟩
  · by_cases hn1 : n < 12
    · obtain ⟨p, hG⟩ := ws_Gex sx ix (12 * k) n a b
      refine ⟨1, upd kd k 3, nu, upd sz k (nI (n + 1)), dl, _, _, _, _, ws_mk w k 4, ws_dc wd d k 4, st_new hS (by omega) hz hn1 hG.1 hok hno hG.2.1 hG.2.2, wa_mark hW hk, fun post h => ?_, fun post h => ?_⟩
      · unfold wpX_perform
        refine sx_t kf_7 hk (Or.inr hok) (br_f (by decide) (br_f (by decide) (br_f (by decide) (br_f (by decide) (br_f (by decide) (br_f (by decide) (br_f (by decide) (br_f (by decide) (br_f (by decide) (br_f (by decide) (br_t (by decide) (wx_fnd (by omega) hz hn fx (br_f (by decide) ⟨i, ?_⟩)))))))))))))
        rw [e, hz]
        exact br_t (nI_lt (b := 12) hn1 (by omega)) (br_f (by decide) (wx_seatN hk hz hn1 hG h))
      · unfold wpY_carryOut
        exact sy_t7 hk hok (br_t (by decide) (br_f (by decide) (br_t (by decide) (br_t (by decide) (br_f (by decide) (wy_scB hk hz hn1 fy (Or.inl ⟨rfl, rfl, rfl⟩) h))))))
    · obtain rfl : n = 12 := by omega
      refine ⟨10000000003, kd, nu, sz, dl, ix, sx, iy, sy, w, d, hS, hW, fun post h => ?_, fun post h => ?_⟩
      · unfold wpX_perform
        refine sx_t kf_7 hk (Or.inr hok) (br_f (by decide) (br_f (by decide) (br_f (by decide) (br_f (by decide) (br_f (by decide) (br_f (by decide) (br_f (by decide) (br_f (by decide) (br_f (by decide) (br_f (by decide) (br_t (by decide) (wx_fnd (by omega) hz hn fx (br_f (by decide) ⟨i, ?_⟩)))))))))))))
        rw [e, hz]
        exact br_f (nI_nlt (a := 12) (b := 12) (by omega) (by omega)) h
      · unfold wpY_carryOut
        exact sy_t7 hk hok (br_t (by decide) (br_f (by decide) (br_t (by decide) (br_t (by decide) (br_f (by decide) (wy_scA hk hz fy h))))))
  · by_cases zz : sx (12 * k + p) = b
    · refine ⟨0, kd, nu, sz, dl, ix, sx, iy, sy, w, d, hS, hW, fun post h => ?_, fun post h => ?_⟩
      · unfold wpX_perform
        refine sx_t kf_7 hk (Or.inr hok) (br_f (by decide) (br_f (by decide) (br_f (by decide) (br_f (by decide) (br_f (by decide) (br_f (by decide) (br_f (by decide) (br_f (by decide) (br_f (by decide) (br_f (by decide) (br_t (by decide) (wx_fnd (by omega) hz hn fx (br_t (nI_pos' (by omega)) (br_t (nI_pos' (by omega)) ⟨vv p (by omega), ?_⟩))))))))))))))
        rw [ee p (by omega)]
        exact br_t zz h
      · unfold wpY_carryOut
        exact sy_t7 hk hok (br_t (by decide) (br_f (by decide) (br_t (by decide) (br_t (by decide) (br_f (by decide) (wy_scD hk hz hn fy (by omega) (zz.symm.trans e1) h))))))
    · obtain ⟨n', rfl⟩ : ∃ n', n = n' + 1 := ⟨n - 1, by omega⟩
      have h3 : kd k = 3 := h3 (by omega)
      obtain ⟨s, hG⟩ := ws_Gex (ws_cl sx (12 * k + p) (12 * k + n')) (ws_cl ix (12 * k + p) (12 * k + n')) (12 * k) n' a b
      refine ⟨0, kd, nu, sz, dl, _, _, _, _, ws_mk w k 4, ws_dc wd d k 4, st_old hS (by omega) hz (by omega) (by omega) (by omega) e1 e2 em hG.1 h3 hG.2.1 hG.2.2, wa_mark hW hk, fun post h => ?_, fun post h => ?_⟩
      · unfold wpX_perform
        refine sx_t kf_7 hk (Or.inr hok) (br_f (by decide) (br_f (by decide) (br_f (by decide) (br_f (by decide) (br_f (by decide) (br_f (by decide) (br_f (by decide) (br_f (by decide) (br_f (by decide) (br_f (by decide) (br_t (by decide) (wx_fnd (by omega) hz hn fx (br_t (nI_pos' (by omega)) (br_t (nI_pos' (by omega)) ⟨vv p (by omega), ?_⟩))))))))))))))
        rw [ee p (by omega)]
        exact br_f zz (wx_seatO hk hz h3 (by omega) (by omega) hG h)
      · unfold wpY_carryOut
        exact sy_t7 hk hok (br_t (by decide) (br_f (by decide) (br_t (by decide) (br_t (by decide) (br_f (by decide) (wy_scC hk hz hn fy (by omega) (Or.inl ⟨rfl, rfl, fun y => zz (e1.trans y.symm), rfl⟩) h))))))
theorem pf_8 (hS : st_R kd sz dl ix sx iy sy) (hW : wa_R w wd d) (hk : k < 8) (hok : kd k = 0 ∨ kd k = 3) : lk_R wd (fun post => wpX_perform post (tm, tn, kd, nu, sz, dl, ix, sx, st, wk, wo, we, wt, te, tk, w, q, qo, qk, qa, qb, rc, rs) 8 (nI k) a b) (fun post => wpY_carryOut post (tm, tn, kd, nu, sz, iy, sy, dl, st, wk, wo, we, wt, wd, d, qo, qk, qa, qb, q, rs, ra, te, tk) 8 (nI k) a b) (fun kd nu sz dl ix sx w => (tm, tn, kd, nu, sz, dl, ix, sx, st, wk, wo, we, wt, te, tk, w, q, qo, qk, qa, qb, rc, rs)) (fun kd nu sz dl iy sy d => (tm, tn, kd, nu, sz, iy, sy, dl, st, wk, wo, we, wt, wd, d, qo, qk, qa, qb, q, rs, ra, te, tk)) := by
  have e : (nI k).toNatClampNeg = k := nI_clamp (by omega)
  have i : vp_in (nI k) 16 := vp_in_nI (by omega) (by omega)
  have vv : ∀ p, p < 12 → vp_in (nI k * 12 + nI p) 192 := by
    intro p hp
    rw [nu_x12]
    exact vp_in_nI (by omega) (by omega)
  have ee : ∀ p, p < 12 → (nI k * 12 + nI p).toNatClampNeg = 12 * k + p := by
    intro p hp
    rw [nu_x12]
    exact nI_clamp (by omega)
  obtain ⟨n, hn, hz, hc⟩ := st_n hS (k := k) (by omega)
  have hR : n = 0 ∨ ws_R ix sx iy sy (12 * k) n := by
    rcases hc with c | c | c | c
    · exact Or.inl c.2
    · exact Or.inl c.2
    · rcases hok with y | y <;> rw [y] at c <;> exact absurd c.1 (by decide)
    · exact Or.inr c.2.2
  have h3 : n ≠ 0 → kd k = 3 := by
    intro y
    rcases hc with c | c | c | c
    · exact absurd c.2 y
    · exact absurd c.2 y
    · rcases hok with y | y <;> rw [y] at c <;> exact absurd c.1 (by decide)
    · exact c.1
  rcases ws_Fxy (m := a) hR with ⟨fx, fy, hno⟩ | ⟨p, p', hp, hp', fx, fy, e1, e2, em, hRR⟩
  · by_cases hn1 : n < 12
    · obtain ⟨p, hG⟩ := ws_Gex sx ix (12 * k) n a b
      refine ⟨b.toInt64, upd kd k 3, nu, upd sz k (nI (n + 1)), dl, _, _, _, _, ws_mk w k 4, ws_dc wd d k 4, st_new hS (by omega) hz hn1 hG.1 hok hno hG.2.1 hG.2.2, wa_mark hW hk, fun post h => ?_, fun post h => ?_⟩
      · unfold wpX_perform
        refine sx_t kf_8 hk (Or.inr hok) (br_f (by decide) (br_f (by decide) (br_f (by decide) (br_f (by decide) (br_f (by decide) (br_f (by decide) (br_f (by decide) (br_f (by decide) (br_f (by decide) (br_f (by decide) (br_f (by decide) (br_t (by decide) (wx_fnd (by omega) hz hn fx (br_f (by decide) ⟨i, ?_⟩))))))))))))))
        rw [e, hz]
        exact br_t (nI_lt (b := 12) hn1 (by omega)) (br_f (by decide) (wx_seatN hk hz hn1 hG h))
      · unfold wpY_carryOut
        exact sy_t8 hk hok (br_t (by decide) (br_f (by decide) (br_t (by decide) (br_f (by decide) (br_t (by decide) (br_t (by decide) (wy_scB hk hz hn1 fy (Or.inr ⟨rfl, (Int32.zero_add b).symm, rfl⟩) h)))))))
    · obtain rfl : n = 12 := by omega
      refine ⟨10000000003, kd, nu, sz, dl, ix, sx, iy, sy, w, d, hS, hW, fun post h => ?_, fun post h => ?_⟩
      · unfold wpX_perform
        refine sx_t kf_8 hk (Or.inr hok) (br_f (by decide) (br_f (by decide) (br_f (by decide) (br_f (by decide) (br_f (by decide) (br_f (by decide) (br_f (by decide) (br_f (by decide) (br_f (by decide) (br_f (by decide) (br_f (by decide) (br_t (by decide) (wx_fnd (by omega) hz hn fx (br_f (by decide) ⟨i, ?_⟩))))))))))))))
        rw [e, hz]
        exact br_f (nI_nlt (a := 12) (b := 12) (by omega) (by omega)) h
      · unfold wpY_carryOut
        exact sy_t8 hk hok (br_t (by decide) (br_f (by decide) (br_t (by decide) (br_f (by decide) (br_t (by decide) (br_t (by decide) (wy_scA hk hz fy h)))))))
  · obtain ⟨n', rfl⟩ : ∃ n', n = n' + 1 := ⟨n - 1, by omega⟩
    have h3 : kd k = 3 := h3 (by omega)
    obtain ⟨s, hG⟩ := ws_Gex (ws_cl sx (12 * k + p) (12 * k + n')) (ws_cl ix (12 * k + p) (12 * k + n')) (12 * k) n' a (sx (12 * k + p) + b)
    refine ⟨(sx (12 * k + p) + b).toInt64, kd, nu, sz, dl, _, _, _, _, ws_mk w k 4, ws_dc wd d k 4, st_old hS (by omega) hz (by omega) (by omega) (by omega) e1 e2 em hG.1 h3 hG.2.1 hG.2.2, wa_mark hW hk, fun post h => ?_, fun post h => ?_⟩
    · unfold wpX_perform
      refine sx_t kf_8 hk (Or.inr hok) (br_f (by decide) (br_f (by decide) (br_f (by decide) (br_f (by decide) (br_f (by decide) (br_f (by decide) (br_f (by decide) (br_f (by decide) (br_f (by decide) (br_f (by decide) (br_f (by decide) (br_t (by decide) (wx_fnd (by omega) hz hn fx (br_t (nI_pos' (by omega)) (br_t (nI_pos' (by omega)) ⟨vv p (by omega), ?_⟩)))))))))))))))
      rw [ee p (by omega)]
      exact wx_seatO hk hz h3 (by omega) (by omega) hG h
    · unfold wpY_carryOut
      exact sy_t8 hk hok (br_t (by decide) (br_f (by decide) (br_t (by decide) (br_f (by decide) (br_t (by decide) (br_t (by decide) (wy_scC hk hz hn fy (by omega) (Or.inr ⟨rfl, by rw [e1], rfl⟩) h)))))))
theorem pf_9 (hS : st_R kd sz dl ix sx iy sy) (hW : wa_R w wd d) (hk : k < 8) (hok : kd k = 0 ∨ kd k = 3) : lk_R wd (fun post => wpX_perform post (tm, tn, kd, nu, sz, dl, ix, sx, st, wk, wo, we, wt, te, tk, w, q, qo, qk, qa, qb, rc, rs) 9 (nI k) a b) (fun post => wpY_carryOut post (tm, tn, kd, nu, sz, iy, sy, dl, st, wk, wo, we, wt, wd, d, qo, qk, qa, qb, q, rs, ra, te, tk) 9 (nI k) a b) (fun kd nu sz dl ix sx w => (tm, tn, kd, nu, sz, dl, ix, sx, st, wk, wo, we, wt, te, tk, w, q, qo, qk, qa, qb, rc, rs)) (fun kd nu sz dl iy sy d => (tm, tn, kd, nu, sz, iy, sy, dl, st, wk, wo, we, wt, wd, d, qo, qk, qa, qb, q, rs, ra, te, tk)) := by
  have e : (nI k).toNatClampNeg = k := nI_clamp (by omega)
  have i : vp_in (nI k) 16 := vp_in_nI (by omega) (by omega)
  obtain ⟨n, hn, hz, hc⟩ := st_n hS (k := k) (by omega)
  have hR : n = 0 ∨ ws_R ix sx iy sy (12 * k) n := by
    rcases hc with c | c | c | c
    · exact Or.inl c.2
    · exact Or.inl c.2
    · rcases hok with y | y <;> rw [y] at c <;> exact absurd c.1 (by decide)
    · exact Or.inr c.2.2
  have h3 : n ≠ 0 → kd k = 3 := by
    intro y
    rcases hc with c | c | c | c
    · exact absurd c.2 y
    · exact absurd c.2 y
    · rcases hok with y | y <;> rw [y] at c <;> exact absurd c.1 (by decide)
    · exact c.1
  rcases ws_Fxy (m := a) hR with ⟨fx, fy, hno⟩ | ⟨p, p', hp, hp', fx, fy, e1, e2, em, hRR⟩
  · refine ⟨0, kd, nu, sz, dl, ix, sx, iy, sy, w, d, hS, hW, fun post h => ?_, fun post h => ?_⟩
    · unfold wpX_perform
      exact sx_t kf_9 hk (Or.inr hok) (br_f (by decide) (br_f (by decide) (br_f (by decide) (br_f (by decide) (br_f (by decide) (br_f (by decide) (br_f (by decide) (br_f (by decide) (br_f (by decide) (br_f (by decide) (br_f (by decide) (br_f (by decide) (br_t (by decide) (wx_fnd (by omega) hz hn fx (br_f (by decide) h)))))))))))))))
    · unfold wpY_carryOut
      exact sy_t9 hk hok (br_t (by decide) (br_f (by decide) (br_t (by decide) (br_f (by decide) (br_f (by decide) (br_f (by decide) (br_f (by decide) (br_f (by decide) (br_f (by decide) (br_f (by decide) (br_f (by decide) (br_f (by decide) (br_f (by decide) (br_f (by decide) (br_f (by decide) (br_f (by decide) (br_t (by decide) (wy_fnd (by omega) hz hn fy (br_t (by decide) (br_f (by decide) h))))))))))))))))))))
  · obtain ⟨n', rfl⟩ : ∃ n', n = n' + 1 := ⟨n - 1, by omega⟩
    obtain ⟨r, kd', nu', sz', dl', ix', sx', iy', sy', w', d', r1, r2, rx, ry⟩ := lk_out (nu := nu) (tf := te) (tg := tk) (ra := ra) (tm := tm) (tn := tn) (st := st) (wk := wk) (wo := wo) (we := we) (wt := wt) (te := te) (tk := tk) (q := q) (qo := qo) (qk := qk) (qa := qa) (qb := qb) (rc := rc) (rs := rs) (p := p) (p' := p') hS hW hk hz (by omega) (by omega) (by omega) (Or.inr ⟨h3 (by omega), e1, e2⟩)
    refine ⟨1, kd', nu', sz', dl', ix', sx', iy', sy', w', d', r1, r2, fun post h => ?_, fun post h => ?_⟩
    · unfold wpX_perform
      exact sx_t kf_9 hk (Or.inr hok) (br_f (by decide) (br_f (by decide) (br_f (by decide) (br_f (by decide) (br_f (by decide) (br_f (by decide) (br_f (by decide) (br_f (by decide) (br_f (by decide) (br_f (by decide) (br_f (by decide) (br_f (by decide) (br_t (by decide) (wx_fnd (by omega) hz hn fx (br_t (nI_pos' (by omega)) (rx _ h))))))))))))))))
    · unfold wpY_carryOut
      exact sy_t9 hk hok (br_t (by decide) (br_f (by decide) (br_t (by decide) (br_f (by decide) (br_f (by decide) (br_f (by decide) (br_f (by decide) (br_f (by decide) (br_f (by decide) (br_f (by decide) (br_f (by decide) (br_f (by decide) (br_f (by decide) (br_f (by decide) (br_f (by decide) (br_f (by decide) (br_t (by decide) (wy_fnd (by omega) hz hn fy (br_f (nI_pos (by omega)) (ry _ (br_t (nI_pos' (by omega)) h)))))))))))))))))))))
theorem pf_10 (hS : st_R kd sz dl ix sx iy sy) (hW : wa_R w wd d) (hk : k < 8) (hok : kd k = 0 ∨ kd k = 3) : lk_R wd (fun post => wpX_perform post (tm, tn, kd, nu, sz, dl, ix, sx, st, wk, wo, we, wt, te, tk, w, q, qo, qk, qa, qb, rc, rs) 10 (nI k) a b) (fun post => wpY_carryOut post (tm, tn, kd, nu, sz, iy, sy, dl, st, wk, wo, we, wt, wd, d, qo, qk, qa, qb, q, rs, ra, te, tk) 10 (nI k) a b) (fun kd nu sz dl ix sx w => (tm, tn, kd, nu, sz, dl, ix, sx, st, wk, wo, we, wt, te, tk, w, q, qo, qk, qa, qb, rc, rs)) (fun kd nu sz dl iy sy d => (tm, tn, kd, nu, sz, iy, sy, dl, st, wk, wo, we, wt, wd, d, qo, qk, qa, qb, q, rs, ra, te, tk)) := by
  have e : (nI k).toNatClampNeg = k := nI_clamp (by omega)
  have i : vp_in (nI k) 16 := vp_in_nI (by omega) (by omega)
  obtain ⟨n, hn, hz, hc⟩ := st_n hS (k := k) (by omega)
  have hR : n = 0 ∨ ws_R ix sx iy sy (12 * k) n := by
    rcases hc with c | c | c | c
    · exact Or.inl c.2
    · exact Or.inl c.2
    · rcases hok with y | y <;> rw [y] at c <;> exact absurd c.1 (by decide)
    · exact Or.inr c.2.2
  have h3 : n ≠ 0 → kd k = 3 := by
    intro y
    rcases hc with c | c | c | c
    · exact absurd c.2 y
    · exact absurd c.2 y
    · rcases hok with y | y <;> rw [y] at c <;> exact absurd c.1 (by decide)
    · exact c.1
  by_cases z : kd k = 0
  · have n0 : sz k = 0 := by
      by_cases y : n = 0
      · rw [hz, y]; rfl
      · rw [h3 y] at z
        exact absurd z (by decide)
    refine ⟨10000000002, kd, nu, sz, dl, ix, sx, iy, sy, w, d, hS, hW, fun post h => ?_, fun post h => ?_⟩
    · unfold wpX_perform
      refine sx_t kf_10 hk (Or.inr hok) (br_f (by decide) (br_f (by decide) (br_f (by decide) (br_f (by decide) (br_f (by decide) (br_f (by decide) (br_f (by decide) (br_f (by decide) (br_f (by decide) (br_f (by decide) (br_f (by decide) (br_f (by decide) (br_f (by decide) (br_t (by decide) (⟨i, ?_⟩)))))))))))))))
      rw [e]
      exact br_t z h
    · unfold wpY_carryOut
      refine sy_t10 hk hok (br_t (by decide) (br_f (by decide) (br_t (by decide) (br_f (by decide) (br_f (by decide) (br_f (by decide) (br_f (by decide) (br_f (by decide) (br_f (by decide) (br_f (by decide) (br_f (by decide) (br_f (by decide) (br_f (by decide) (br_f (by decide) (br_f (by decide) (br_f (by decide) (br_f (by decide) (br_t (by decide) (⟨i, ?_⟩)))))))))))))))))))
      rw [e]
      exact br_t n0 h
  · have k3 : kd k = 3 := hok.resolve_left z
    have n0 : n ≠ 0 := by
      rcases hc with c | c | c | c
      · exact absurd c.1 z
      · rw [k3] at c; exact absurd c.1 (by decide)
      · omega
      · omega
    obtain ⟨n', rfl⟩ : ∃ n', n = n' + 1 := ⟨n - 1, by omega⟩
    have hRR := hR.resolve_left n0
    have ne : ¬ sz k = 0 := by
      rw [hz]
      exact nI_ne0 (by omega) (by omega)
    obtain ⟨p', hp', e1, e2, hpl⟩ := wy_plc (tm := tm) (tn := tn) (st := st) (wk := wk) (wo := wo) (we := we) (wt := wt) (te := te) (tk := tk) (q := q) (qo := qo) (qk := qk) (qa := qa) (qb := qb) (rc := ra) (rs := rs) (nu := nu) (kd := kd) (dl := dl) (wd := wd) (d := d) (i := 0) (by omega) hz hn hRR (by omega)
    obtain ⟨r, kd', nu', sz', dl', ix', sx', iy', sy', w', d', r1, r2, rx, ry⟩ := lk_out (nu := nu) (tf := te) (tg := tk) (ra := ra) (tm := tm) (tn := tn) (st := st) (wk := wk) (wo := wo) (we := we) (wt := wt) (te := te) (tk := tk) (q := q) (qo := qo) (qk := qk) (qa := qa) (qb := qb) (rc := rc) (rs := rs) (p := 0) (p' := p') hS hW hk hz (by omega) (by omega) (by omega) (Or.inr ⟨k3, e1, e2⟩)
    refine ⟨r.toInt64, kd', nu', sz', dl', ix', sx', iy', sy', w', d', r1, r2, fun post h => ?_, fun post h => ?_⟩
    · unfold wpX_perform
      refine sx_t kf_10 hk (Or.inr hok) (br_f (by decide) (br_f (by decide) (br_f (by decide) (br_f (by decide) (br_f (by decide) (br_f (by decide) (br_f (by decide) (br_f (by decide) (br_f (by decide) (br_f (by decide) (br_f (by decide) (br_f (by decide) (br_f (by decide) (br_t (by decide) (⟨i, ?_⟩)))))))))))))))
      rw [e]
      exact br_f z (rx _ h)
    · unfold wpY_carryOut
      refine sy_t10 hk hok (br_t (by decide) (br_f (by decide) (br_t (by decide) (br_f (by decide) (br_f (by decide) (br_f (by decide) (br_f (by decide) (br_f (by decide) (br_f (by decide) (br_f (by decide) (br_f (by decide) (br_f (by decide) (br_f (by decide) (br_f (by decide) (br_f (by decide) (br_f (by decide) (br_f (by decide) (br_t (by decide) (⟨i, ?_⟩)))))))))))))))))))
      rw [e]
      exact br_f ne (hpl _ (ry _ h))
theorem pf_11 {t : Nat} (hS : st_R kd sz dl ix sx iy sy) (hW : wa_R w wd d) (hk : k < 8) (ht : t < 8) (hkt : k ≠ t) : lk_R wd (fun post => wpX_perform post (tm, tn, kd, nu, sz, dl, ix, sx, st, wk, wo, we, wt, te, tk, w, q, qo, qk, qa, qb, rc, rs) 11 (nI k) (nI t) b) (fun post => wpY_carryOut post (tm, tn, kd, nu, sz, iy, sy, dl, st, wk, wo, we, wt, wd, d, qo, qk, qa, qb, q, rs, ra, te, tk) 11 (nI k) (nI t) b) (fun kd nu sz dl ix sx w => (tm, tn, kd, nu, sz, dl, ix, sx, st, wk, wo, we, wt, te, tk, w, q, qo, qk, qa, qb, rc, rs)) (fun kd nu sz dl iy sy d => (tm, tn, kd, nu, sz, iy, sy, dl, st, wk, wo, we, wt, wd, d, qo, qk, qa, qb, q, rs, ra, te, tk)) := by
  have e : (nI k).toNatClampNeg = k := nI_clamp (by omega)
  have i : vp_in (nI k) 16 := vp_in_nI (by omega) (by omega)
  by_cases z : kd k = 0
  · refine ⟨0, kd, nu, sz, dl, ix, sx, iy, sy, w, d, hS, hW, fun post h => ?_, fun post h => ?_⟩
    · unfold wpX_perform
      exact sx_t kf_11 hk (Or.inl rfl) (br_f (by decide) (br_f (by decide) (br_t (by decide) (wx_ren0 hk z h))))
    · unfold wpY_carryOut
      exact sy_t11 hk  (br_t (by decide) (br_f (by decide) (br_t (by decide) (br_f (by decide) (br_f (by decide) (br_f (by decide) (br_f (by decide) (br_f (by decide) (br_f (by decide) (br_f (by decide) (br_f (by decide) (br_f (by decide) (br_f (by decide) (br_f (by decide) (br_f (by decide) (br_f (by decide) (br_f (by decide) (br_f (by decide) (br_t (by decide) (wy_wh0 hk z h))))))))))))))))))))
  · refine ⟨1, _, upd (upd nu t (nu k)) k 0, _, _, _, _, _, _, _, _, st_clear (st_copy hS (s := k) (t := t) (by omega)) k, wa_mark (wa_mark hW hk) ht, fun post h => ?_, fun post h => ?_⟩
    · unfold wpX_perform
      exact sx_t kf_11 hk (Or.inl rfl) (br_f (by decide) (br_f (by decide) (br_t (by decide) (wx_ren1 hk ht hkt z h))))
    · unfold wpY_carryOut
      exact sy_t11 hk  (br_t (by decide) (br_f (by decide) (br_t (by decide) (br_f (by decide) (br_f (by decide) (br_f (by decide) (br_f (by decide) (br_f (by decide) (br_f (by decide) (br_f (by decide) (br_f (by decide) (br_f (by decide) (br_f (by decide) (br_f (by decide) (br_f (by decide) (br_f (by decide) (br_f (by decide) (br_f (by decide) (br_t (by decide) (wy_ren1 hk ht hkt z (by rw [ws_dc_comm]; exact h)))))))))))))))))))))
theorem pf_all {o key : Int32} {t : Nat} (hS : st_R kd sz dl ix sx iy sy) (hW : wa_R w wd d) (hm : cm_R o key a) (ht : tm = nI t) (ht1 : t ≤ 1000000000) : lk_R wd (fun post => wpX_perform post (tm, tn, kd, nu, sz, dl, ix, sx, st, wk, wo, we, wt, te, tk, w, q, qo, qk, qa, qb, rc, rs) o key a b) (fun post => wpY_carryOut post (tm, tn, kd, nu, sz, iy, sy, dl, st, wk, wo, we, wt, wd, d, qo, qk, qa, qb, q, rs, ra, te, tk) o key a b) (fun kd nu sz dl ix sx w => (tm, tn, kd, nu, sz, dl, ix, sx, st, wk, wo, we, wt, te, tk, w, q, qo, qk, qa, qb, rc, rs)) (fun kd nu sz dl iy sy d => (tm, tn, kd, nu, sz, iy, sy, dl, st, wk, wo, we, wt, wd, d, qo, qk, qa, qb, q, rs, ra, te, tk)) := by
  obtain ⟨o', k, ho, rfl, hk, rfl, h3, h11⟩ := hm
  have cs : o' = 0 ∨ o' = 1 ∨ o' = 2 ∨ o' = 3 ∨ o' = 4 ∨ o' = 5 ∨ o' = 6 ∨ o' = 7 ∨ o' = 8 ∨ o' = 9 ∨ o' = 10 ∨ o' = 11 := by omega
  rcases cs with rfl | rfl | rfl | rfl | rfl | rfl | rfl | rfl | rfl | rfl | rfl | rfl
  · exact pf_0 hS hW hk
  · by_cases z0 : kd k = 0
    · exact pf_1 hS hW hk (Or.inl z0)
    · by_cases z1 : kd k = 1
      · exact pf_1 hS hW hk (Or.inr z1)
      · exact pf_w1 hS hW hk z0 z1
  · exact pf_2 hS hW hk
  · obtain ⟨a', ha, rfl⟩ := h3 rfl
    refine pf_3 hS hW hk ?_
    by_cases z : a' = 0
    · exact ⟨0, by decide, Or.inl ⟨by rw [z]; rfl, rfl⟩⟩
    · refine ⟨nI (t + a'), nI_pos' (by omega), Or.inr ⟨nI_ne0 (by omega) (by omega), ?_⟩⟩
      rw [ht, nI_add]
  · by_cases z0 : kd k = 0
    · exact pf_4 hS hW hk (Or.inl z0)
    · by_cases z1 : kd k = 2
      · exact pf_4 hS hW hk (Or.inr z1)
      · exact pf_w4 hS hW hk z0 z1
  · by_cases z0 : kd k = 0
    · exact pf_5 hS hW hk (Or.inl z0)
    · by_cases z1 : kd k = 2
      · exact pf_5 hS hW hk (Or.inr z1)
      · exact pf_w5 hS hW hk z0 z1
  · by_cases z0 : kd k = 0
    · exact pf_6 hS hW hk (Or.inl z0)
    · by_cases z1 : kd k = 2
      · exact pf_6 hS hW hk (Or.inr z1)
      · exact pf_w6 hS hW hk z0 z1
  · by_cases z0 : kd k = 0
    · exact pf_7 hS hW hk (Or.inl z0)
    · by_cases z1 : kd k = 3
      · exact pf_7 hS hW hk (Or.inr z1)
      · exact pf_w7 hS hW hk z0 z1
  · by_cases z0 : kd k = 0
    · exact pf_8 hS hW hk (Or.inl z0)
    · by_cases z1 : kd k = 3
      · exact pf_8 hS hW hk (Or.inr z1)
      · exact pf_w8 hS hW hk z0 z1
  · by_cases z0 : kd k = 0
    · exact pf_9 hS hW hk (Or.inl z0)
    · by_cases z1 : kd k = 3
      · exact pf_9 hS hW hk (Or.inr z1)
      · exact pf_w9 hS hW hk z0 z1
  · by_cases z0 : kd k = 0
    · exact pf_10 hS hW hk (Or.inl z0)
    · by_cases z1 : kd k = 3
      · exact pf_10 hS hW hk (Or.inr z1)
      · exact pf_w10 hS hW hk z0 z1
  · obtain ⟨t', ht', htk, rfl⟩ := h11 rfl
    exact pf_11 hS hW hk ht' (fun y => htk y.symm)
end PH
end
section
section SV
variable {tm : Int32} {tn : Int64} {kd nu sz dl ix sx iy sy st wk wo we w wd d q qo qk qa qb rc ra : Nat → Int32} {wt te tk tf tg rs : Nat → Int64}
/-! S: who waits longest; serving -/
theorem wx_lng_l {post : Int32 → Prop} {key : Int32} (h : post (sv_g st wk wo wt key 4)) : ∀ m i, i + m = 4 → wX_longestWaiting_4 post key tm tn kd nu sz dl ix sx st wk wo we wt te tk w q qo qk qa qb rc rs (m + 1) (sv_g st wk wo wt key i) (nI i) := by
  intro m
  induction m with
  | zero =>
    intro i hi
    obtain rfl : i = 4 := by omega
    exact br_t (nI_le (a := 4) (b := 4) (by omega) (by omega)) h
  | succ m ih =>
    intro i hi
    have c1 : ¬ (4 : Int32) ≤ nI i := nI_ge (b := 4) (by omega) (by decide)
    have e2 : (nI i).toNatClampNeg = i := nI_clamp (by omega)
    have v : vp_in (nI i) 4 := vp_in_nI (by omega) (by omega)
    have g := ih (i + 1) (by omega)
    have no : ¬ (st i = 1 ∧ (wk i = key ∨ wo i = key) ∧ (sv_g st wk wo wt key i < 0 ∨ wt i < wt (sv_g st wk wo wt key i).toNatClampNeg)) → wX_longestWaiting_4 post key tm tn kd nu sz dl ix sx st wk wo we wt te tk w q qo qk qa qb rc rs (m + 1) (sv_g st wk wo wt key i) (nI (i + 1)) := by
      intro z
      rw [show sv_g st wk wo wt key (i + 1) = sv_g st wk wo wt key i from if_neg z] at g
      exact g
    have ys : (st i = 1 ∧ (wk i = key ∨ wo i = key) ∧ (sv_g st wk wo wt key i < 0 ∨ wt i < wt (sv_g st wk wo wt key i).toNatClampNeg)) → wX_longestWaiting_4 post key tm tn kd nu sz dl ix sx st wk wo we wt te tk w q qo qk qa qb rc rs (m + 1) (nI i) (nI (i + 1)) := by
      intro z
      rw [show sv_g st wk wo wt key (i + 1) = nI i from if_pos z] at g
      exact g
    have tt : st i = 1 → (wk i = key ∨ wo i = key) → wX_longestWaiting_39 post (wX_longestWaiting_4 post key tm tn kd nu sz dl ix sx st wk wo we wt te tk w q qo qk qa qb rc rs (m + 1)) key (sv_g st wk wo wt key i) (nI i) tm tn kd nu sz dl ix sx st wk wo we wt te tk w q qo qk qa qb rc rs := by
      intro a b
      unfold wX_longestWaiting_39 wX_longestWaiting_44
      refine br_f (by decide) ?_
      by_cases c : sv_g st wk wo wt key i < 0
      · exact br_t c (nm_r (nI_1 i) (ys ⟨a, b, Or.inl c⟩))
      · have hj : ∃ j, j < i ∧ sv_g st wk wo wt key i = nI j ∧ st j = 1 := by
          rcases sv_g_cases st wk wo wt key i with y | y
          · exact absurd (by rw [y]; decide) c
          · exact y
        obtain ⟨j, hj, ej, _⟩ := hj
        refine br_f c ⟨v, by rw [ej]; exact vp_in_nI (by omega) (by omega), ?_⟩
        rw [e2]
        by_cases c2 : wt (sv_g st wk wo wt key i).toNatClampNeg ≤ wt i
        · refine br_t c2 (nm_r (nI_1 i) (no (fun z => ?_)))
          rcases z.2.2 with y | y
          · exact c y
          · exact Int64.not_lt.mpr c2 y
        · exact br_f c2 (nm_r (nI_1 i) (ys ⟨a, b, Or.inr (Int64.not_le.mp c2)⟩))
    have nn : ¬ (st i = 1 ∧ (wk i = key ∨ wo i = key)) → wX_longestWaiting_43 post (wX_longestWaiting_4 post key tm tn kd nu sz dl ix sx st wk wo we wt te tk w q qo qk qa qb rc rs (m + 1)) key (sv_g st wk wo wt key i) (nI i) tm tn kd nu sz dl ix sx st wk wo we wt te tk w q qo qk qa qb rc rs := by
      intro z
      unfold wX_longestWaiting_43 wX_longestWaiting_44
      exact br_t rfl (nm_r (nI_1 i) (no (fun y => z ⟨y.1, y.2.1⟩)))
    refine br_f c1 ?_
    rw [e2]
    refine ⟨v, ?_⟩
    by_cases a : st i = 1
    · refine br_t a ⟨v, ?_⟩
      by_cases b : wk i = key
      · exact br_t b (tt a (Or.inl b))
      · refine br_f b ⟨v, ?_⟩
        by_cases c : wo i = key
        · exact br_t c (tt a (Or.inr c))
        · exact br_f c (nn (fun y => y.2.elim b c))
    · exact br_f a (nn (fun y => a y.1))
theorem wx_lng {post : Int32 → Prop} {key : Int32} (h : post (sv_g st wk wo wt key 4)) : wpX_longestWaiting post (tm, tn, kd, nu, sz, dl, ix, sx, st, wk, wo, we, wt, te, tk, w, q, qo, qk, qa, qb, rc, rs) key := ⟨5, wx_lng_l h 4 0 rfl⟩
theorem wy_lng_l {post : Int32 → Prop} {key : Int32} (h : post (sv_g st wk wo wt key 4)) : ∀ m i, i + m = 4 → wY_longest_4 post key tm tn kd nu sz iy sy dl st wk wo we wt wd d qo qk qa qb q rs rc te tk (m + 1) (sv_g st wk wo wt key i) (nI i) := by
  intro m
  induction m with
  | zero =>
    intro i hi
    obtain rfl : i = 4 := by omega
    exact br_t (nI_le (a := 4) (b := 4) (by omega) (by omega)) h
  | succ m ih =>
    intro i hi
    have c1 : ¬ (4 : Int32) ≤ nI i := nI_ge (b := 4) (by omega) (by decide)
    have e2 : (nI i).toNatClampNeg = i := nI_clamp (by omega)
    have v : vp_in (nI i) 4 := vp_in_nI (by omega) (by omega)
    have g := ih (i + 1) (by omega)
    have no : ¬ (st i = 1 ∧ (wk i = key ∨ wo i = key) ∧ (sv_g st wk wo wt key i < 0 ∨ wt i < wt (sv_g st wk wo wt key i).toNatClampNeg)) → wY_longest_4 post key tm tn kd nu sz iy sy dl st wk wo we wt wd d qo qk qa qb q rs rc te tk (m + 1) (sv_g st wk wo wt key i) (nI (i + 1)) := by
      intro z
      rw [show sv_g st wk wo wt key (i + 1) = sv_g st wk wo wt key i from if_neg z] at g
      exact g
    have ys : (st i = 1 ∧ (wk i = key ∨ wo i = key) ∧ (sv_g st wk wo wt key i < 0 ∨ wt i < wt (sv_g st wk wo wt key i).toNatClampNeg)) → wY_longest_4 post key tm tn kd nu sz iy sy dl st wk wo we wt wd d qo qk qa qb q rs rc te tk (m + 1) (nI i) (nI (i + 1)) := by
      intro z
      rw [show sv_g st wk wo wt key (i + 1) = nI i from if_pos z] at g
      exact g
    have tt : st i = 1 → (wk i = key ∨ wo i = key) → wY_longest_39 post (wY_longest_4 post key tm tn kd nu sz iy sy dl st wk wo we wt wd d qo qk qa qb q rs rc te tk (m + 1)) key (sv_g st wk wo wt key i) (nI i) tm tn kd nu sz iy sy dl st wk wo we wt wd d qo qk qa qb q rs rc te tk := by
      intro a b
      unfold wY_longest_39
      by_cases c : sv_g st wk wo wt key i < 0
      · exact br_t c (nm_r (nI_1 i) (ys ⟨a, b, Or.inl c⟩))
      · have hj : ∃ j, j < i ∧ sv_g st wk wo wt key i = nI j ∧ st j = 1 := by
          rcases sv_g_cases st wk wo wt key i with y | y
          · exact absurd (by rw [y]; decide) c
          · exact y
        obtain ⟨j, hj, ej, _⟩ := hj
        refine br_f c ⟨v, by rw [ej]; exact vp_in_nI (by omega) (by omega), ?_⟩
        rw [e2]
        by_cases c2 : wt (sv_g st wk wo wt key i).toNatClampNeg ≤ wt i
        · refine br_t c2 (nm_r (nI_1 i) (no (fun z => ?_)))
          rcases z.2.2 with y | y
          · exact c y
          · exact Int64.not_lt.mpr c2 y
        · exact br_f c2 (nm_r (nI_1 i) (ys ⟨a, b, Or.inr (Int64.not_le.mp c2)⟩))
    refine br_f c1 ?_
    rw [e2]
    refine ⟨v, ?_⟩
    by_cases a : st i = 1
    · refine br_t a ⟨v, ?_⟩
      by_cases b : wk i = key
      · exact br_t b (tt a (Or.inl b))
      · refine br_f b ⟨v, ?_⟩
        by_cases c : wo i = key
        · exact br_t c (tt a (Or.inr c))
        · exact br_f c (nm_r (nI_1 i) (no (fun y => y.2.1.elim b c)))
    · exact br_f a (nm_r (nI_1 i) (no (fun y => a y.1)))
theorem wy_lng {post : Int32 → Prop} {key : Int32} (h : post (sv_g st wk wo wt key 4)) : wpY_longest post (tm, tn, kd, nu, sz, iy, sy, dl, st, wk, wo, we, wt, wd, d, qo, qk, qa, qb, q, rs, rc, te, tk) key := ⟨5, wy_lng_l h 4 0 rfl⟩
theorem wx_lst_l {post : Int32 → Prop} {r : Int32} (hF : sv_F kd st wk wo wt r) (h : post r) : ∀ m i, i + m = 8 → (∀ a, a < i → ¬ sv_ok kd st wk wo wt a) → wX_leastAwaitedList_2 post tm tn kd nu sz dl ix sx st wk wo we wt te tk w q qo qk qa qb rc rs (m + 1) (nI i) := by
  intro m
  induction m with
  | zero =>
    intro i hi hlo
    obtain rfl : i = 8 := by omega
    refine br_t (nI_le (a := 8) (b := 8) (by omega) (by omega)) ?_
    rcases hF with ⟨rfl, _⟩ | ⟨p, hp, e, _, _⟩
    · exact h
    · exact absurd e (hlo p hp)
  | succ m ih =>
    intro i hi hlo
    have c1 : ¬ (8 : Int32) ≤ nI i := nI_ge (b := 8) (by omega) (by decide)
    have e2 : (nI i).toNatClampNeg = i := nI_clamp (by omega)
    have v : vp_in (nI i) 16 := vp_in_nI (by omega) (by omega)
    have nx : ¬ sv_ok kd st wk wo wt i → wX_leastAwaitedList_2 post tm tn kd nu sz dl ix sx st wk wo we wt te tk w q qo qk qa qb rc rs (m + 1) (nI (i + 1)) := by
      intro z
      refine ih (i + 1) (by omega) (fun a ha => ?_)
      by_cases c : a = i
      · rw [c]; exact z
      · exact hlo a (by omega)
    refine br_f c1 ?_
    rw [e2]
    refine ⟨v, ?_⟩
    by_cases a : kd i = 2
    · refine br_t a (wx_lng ?_)
      by_cases b : sv_g st wk wo wt (nI i) 4 < 0
      · exact br_t b (nm_r (nI_1 i) (nx (fun z => z.2 b)))
      · refine br_f b ?_
        rcases hF with ⟨_, hno⟩ | ⟨p, hp, e, hl, rfl⟩
        · exact absurd ⟨a, b⟩ (hno i (by omega))
        · have : p = i := by
            rcases Nat.lt_trichotomy p i with c | c | c
            · exact absurd e (hlo p c)
            · exact c
            · exact absurd ⟨a, b⟩ (hl i c)
          rw [← this]
          exact h
    · exact br_f a (nm_r (nI_1 i) (nx (fun z => a z.1)))
theorem wx_lst {post : Int32 → Prop} {r : Int32} (hF : sv_F kd st wk wo wt r) (h : post r) : wpX_leastAwaitedList post (tm, tn, kd, nu, sz, dl, ix, sx, st, wk, wo, we, wt, te, tk, w, q, qo, qk, qa, qb, rc, rs) := ⟨9, wx_lst_l hF h 8 0 rfl (fun a ha => absurd ha (by omega))⟩
/-- client c takes the first element of the list at k -/
theorem lk_take {k c : Nat} (hS : st_R kd sz dl ix sx iy sy) (hW : wa_R w wd d) (hk : k < 8) (hc : c < 4) (h2 : kd k = 2) :
    ∃ (r : Int32) (kd' nu' sz' dl' ix' sx' iy' sy' w' d' : Nat → Int32), st_R kd' sz' dl' ix' sx' iy' sy' ∧ wa_R w' wd d' ∧
    (∀ post : Int64 → SX → Prop, post r.toInt64 (tm, tn, kd', nu', sz', dl', ix', sx', upd st c 0, wk, wo, we, wt, vp_updL te c r.toInt64, vp_updL tk c (nI k).toInt64, w', q, qo, qk, qa, qb, rc, rs) → wpX_takeFirst post (tm, tn, kd, nu, sz, dl, ix, sx, st, wk, wo, we, wt, te, tk, w, q, qo, qk, qa, qb, rc, rs) (nI c) (nI k)) ∧
    (∀ post : SY → Prop, post (tm, tn, kd', nu', sz', iy', sy', dl', upd st c 0, wk, wo, we, wt, wd, d', qo, qk, qa, qb, q, rs, ra, vp_updL tf c r.toInt64, vp_updL tg c (nI k).toInt64) → wpY_take post (tm, tn, kd, nu, sz, iy, sy, dl, st, wk, wo, we, wt, wd, d, qo, qk, qa, qb, q, rs, ra, tf, tg) (nI c) (nI k)) := by
  have ec : (nI c).toNatClampNeg = c := nI_clamp (by omega)
  have vc : vp_in (nI c) 4 := vp_in_nI hc (by omega)
  obtain ⟨n, hn, hz, hq⟩ := st_n hS (k := k) (by omega)
  obtain ⟨n', rfl⟩ : ∃ n', n = n' + 1 := by
    rcases hq with y | y | y | y
    · rw [h2] at y; exact absurd y.1 (by decide)
    · rw [h2] at y; exact absurd y.1 (by decide)
    · exact ⟨n - 1, by omega⟩
    · exact ⟨n - 1, by omega⟩
  obtain ⟨r, kd', nu', sz', dl', ix', sx', iy', sy', w', d', r1, r2, rx, ry⟩ := lk_out (nu := nu) (tf := tf) (tg := tg) (ra := ra) (tm := tm) (tn := tn) (st := st) (wk := wk) (wo := wo) (we := we) (wt := wt) (te := te) (tk := tk) (q := q) (qo := qo) (qk := qk) (qa := qa) (qb := qb) (rc := rc) (rs := rs) (p := 0) (p' := 0) hS hW hk hz (by omega) (by omega) (by omega) (Or.inl ⟨h2, rfl⟩)
  refine ⟨r, kd', nu', sz', dl', ix', sx', iy', sy', w', d', r1, r2, fun post h => ?_, fun post h => ?_⟩
  · unfold wpX_takeFirst
    rw [ec]
    exact rx _ ⟨vc, nm_e ⟨vc, nm_e ⟨vc, nm_e h⟩⟩⟩
  · unfold wpY_take
    rw [ec]
    exact ry _ ⟨vc, nm_e ⟨vc, nm_e ⟨vc, nm_e h⟩⟩⟩
theorem wy_scn {post : SY → Prop} {N p : Nat} (hp : p ≤ 8) (hno : ∀ a, a < p → ¬ sv_ok kd st wk wo wt a) (h : wY_serve_2 post (N + 1) (nI p) tm tn kd nu sz iy sy dl st wk wo we wt wd d qo qk qa qb q rs rc te tk) : ∀ j i, i + j = p → wY_serve_2 post (j + (N + 1)) (nI i) tm tn kd nu sz iy sy dl st wk wo we wt wd d qo qk qa qb q rs rc te tk := by
  intro j
  induction j with
  | zero =>
    intro i hi
    obtain rfl : i = p := by omega
    rw [Nat.zero_add]
    exact h
  | succ j ih =>
    intro i hi
    have c1 : ¬ (8 : Int32) ≤ nI i := nI_ge (b := 8) (by omega) (by decide)
    have e2 : (nI i).toNatClampNeg = i := nI_clamp (by omega)
    have v : vp_in (nI i) 16 := vp_in_nI (by omega) (by omega)
    have g := ih (i + 1) (by omega)
    rw [show j + 1 + (N + 1) = (j + (N + 1)) + 1 by omega]
    refine br_f c1 ?_
    rw [e2]
    refine ⟨v, ?_⟩
    by_cases a : kd i = 2
    · refine br_t a (wy_lng ?_)
      refine br_f ?_ (nm_r (nI_1 i) g)
      intro y
      exact hno i (by omega) ⟨a, Int32.not_lt.mpr y⟩
    · exact br_f a (br_f (by decide) (nm_r (nI_1 i) g))
theorem wy_non {post : SY → Prop} (hno : ∀ a, a < 8 → ¬ sv_ok kd st wk wo wt a) (h : post (tm, tn, kd, nu, sz, iy, sy, dl, st, wk, wo, we, wt, wd, d, qo, qk, qa, qb, q, rs, rc, te, tk)) : wY_serve_2 post (8 + (0 + 1)) 0 tm tn kd nu sz iy sy dl st wk wo we wt wd d qo qk qa qb q rs rc te tk :=
  wy_scn (N := 0) (p := 8) (by omega) hno (br_t (nI_le (a := 8) (b := 8) (by omega) (by omega)) h) 8 0 rfl
theorem lk_serve (hcr : cl_R st q qo qk qa rc we) (hS : st_R kd sz dl ix sx iy sy) (hW : wa_R w wd d) : ∀ m i, i + m = 4 → sv_n st ≤ m →
    ∃ (st' kd' nu' sz' dl' ix' sx' iy' sy' w' d' : Nat → Int32) (te' tk' : Nat → Int64), st_R kd' sz' dl' ix' sx' iy' sy' ∧ wa_R w' wd d' ∧ cl_R st' q qo qk qa rc we ∧
    (∀ post : SX → Prop, post (tm, tn, kd', nu', sz', dl', ix', sx', st', wk, wo, we, wt, te', tk', w', q, qo, qk, qa, qb, rc, rs) → wX_serveWaiting_2 post (m + 1) (nI i) tm tn kd nu sz dl ix sx st wk wo we wt te tk w q qo qk qa qb rc rs) ∧
    (∃ N, ∀ post : SY → Prop, post (tm, tn, kd', nu', sz', iy', sy', dl', st', wk, wo, we, wt, wd, d', qo, qk, qa, qb, q, rs, rc, te', tk') → wY_serve_2 post N 0 tm tn kd nu sz iy sy dl st wk wo we wt wd d qo qk qa qb q rs rc te tk) := by
  intro m
  induction m generalizing st kd nu sz dl ix sx iy sy w d te tk with
  | zero =>
    intro i hi hs
    obtain rfl : i = 4 := by omega
    refine ⟨st, kd, nu, sz, dl, ix, sx, iy, sy, w, d, te, tk, hS, hW, hcr, fun post h => ?_, _, fun post h => wy_non (fun a _ => sv_n0 (by omega)) h⟩
    exact br_t (nI_le (a := 4) (b := 4) (by omega) (by omega)) h
  | succ m ih =>
    intro i hi hs
    have c1 : ¬ (4 : Int32) ≤ nI i := nI_ge (b := 4) (by omega) (by decide)
    obtain ⟨r, hF⟩ := sv_Fex kd st wk wo wt
    rcases hF with ⟨hr, hno⟩ | ⟨p, hp, hok, hlo, hr⟩
    · refine ⟨st, kd, nu, sz, dl, ix, sx, iy, sy, w, d, te, tk, hS, hW, hcr, fun post h => ?_, _, fun post h => wy_non hno h⟩
      exact br_f c1 (wx_lst (r := -1) (Or.inl ⟨rfl, hno⟩) (br_f (by decide) (br_f (by decide) h)))
    · obtain ⟨c, hc, eg, hst⟩ := sv_c hok
      obtain ⟨r', kd1, nu1, sz1, dl1, ix1, sx1, iy1, sy1, w1, d1, s1, s2, tx, ty⟩ := lk_take (nu := nu) (tf := te) (tg := tk) (ra := rc) (tm := tm) (tn := tn) (st := st) (wk := wk) (wo := wo) (we := we) (wt := wt) (te := te) (tk := tk) (q := q) (qo := qo) (qk := qk) (qa := qa) (qb := qb) (rc := rc) (rs := rs) hS hW hp hc hok.1
      have hcr1 : cl_R (upd st c 0) q qo qk qa rc we := cl_free hcr (fun _ => by rw [hst]; decide)
      obtain ⟨st', kd', nu', sz', dl', ix', sx', iy', sy', w', d', te', tk', t1, t2, t3, ux, N, uy⟩ := ih (nu := nu1) (te := vp_updL te c r'.toInt64) (tk := vp_updL tk c (nI p).toInt64) hcr1 s1 s2 (i + 1) (by omega) (by have := sv_n_dn hc hst; omega)
      refine ⟨st', kd', nu', sz', dl', ix', sx', iy', sy', w', d', te', tk', t1, t2, t3, fun post h => ?_, p + (N + 1), fun post h => ?_⟩
      · refine br_f c1 (wx_lst (r := nI p) (Or.inr ⟨p, hp, hok, hlo, rfl⟩) (br_t (nI_pos' (by omega)) (wx_lng ?_)))
        rw [eg]
        exact br_t (nI_pos' (by omega)) (tx _ (nm_r (nI_1 i) (ux post h)))
      · refine wy_scn (N := N) (by omega) hlo ?_ p 0 (by omega)
        have e2 : (nI p).toNatClampNeg = p := nI_clamp (by omega)
        have v : vp_in (nI p) 16 := vp_in_nI (by omega) (by omega)
        refine br_f (nI_ge (b := 8) (by omega) (by decide)) ?_
        rw [e2]
        refine ⟨v, br_t hok.1 (wy_lng ?_)⟩
        rw [eg]
        exact br_t (nI_pos' (by omega)) (ty _ (uy post h))
end SV
end
section
section RL
variable {tm : Int32} {tn : Int64} {kd nu sz dl ix sx iy sy st wk wo we w wd d q qo qk qa qb rc ra : Nat → Int32} {wt te tk tf tg rs : Nat → Int64}
/-! T: the relation -/
def rl_R (tm : Int32) (kd sz dl ix sx iy sy st w wd d q qo qk qa rc we : Nat → Int32) : Prop := (∃ t : Nat, t ≤ 1000000000 ∧ tm = nI t) ∧ st_R kd sz dl ix sx iy sy ∧ wa_R w wd d ∧ cl_R st q qo qk qa rc we
/-- the relation at the head of a turn: near equality; rankings are permuted, watching is kept otherwise -/
def i_Rel (k : Nat) (u : SX) (v : SY) : Prop := ∃ (tm : Int32) (tn : Int64) (kd nu sz dl ix sx iy sy st wk wo we w wd d q qo qk qa qb rc : Nat → Int32) (wt te tk rs : Nat → Int64), u = (tm, tn, kd, nu, sz, dl, ix, sx, st, wk, wo, we, wt, te, tk, w, q, qo, qk, qa, qb, rc, rs) ∧ v = (tm, tn, kd, nu, sz, iy, sy, dl, st, wk, wo, we, wt, wd, d, qo, qk, qa, qb, q, rs, rc, te, tk) ∧ rl_R tm kd sz dl ix sx iy sy st w wd d q qo qk qa rc we
theorem i_up {k : Nat} {u : SX} {v : SY} (h : i_Rel k u v) : i_Rel (k + 6) u v := h
theorem rl_i {k : Nat} (h : rl_R tm kd sz dl ix sx iy sy st w wd d q qo qk qa rc we) : i_Rel k (tm, tn, kd, nu, sz, dl, ix, sx, st, wk, wo, we, wt, te, tk, w, q, qo, qk, qa, qb, rc, rs) (tm, tn, kd, nu, sz, iy, sy, dl, st, wk, wo, we, wt, wd, d, qo, qk, qa, qb, q, rs, rc, te, tk) :=
  ⟨tm, tn, kd, nu, sz, dl, ix, sx, iy, sy, st, wk, wo, we, w, wd, d, q, qo, qk, qa, qb, rc, wt, te, tk, rs, rfl, rfl, h⟩
/-! U: arguments -/
def rl_O (x : Int32) (n : Nat) : Prop := x < 0 ∨ nI n ≤ x
theorem rl_cs (x : Int32) (n : Nat) (hn : n < 2 ^ 31) : rl_O x n ∨ ∃ j, j < n ∧ x = nI j := by
  rcases pk_ix x hn with h | h | h
  · exact Or.inl (Or.inl h)
  · exact Or.inl (Or.inr h)
  · exact Or.inr h
theorem xc_t {post : Int32 → Prop} {c : Nat} (hc : c < 4) (h : post 1) : wpX_isClient post (nI c) := br_f (nI_pos (by omega)) (br_f (nI_ge (b := 4) hc (by omega)) h)
theorem xc_f {post : Int32 → Prop} {x : Int32} (hx : rl_O x 4) (h : post 0) : wpX_isClient post x := br_c (fun _ => h) (fun y => br_t (hx.resolve_left y) h)
theorem xk_t {post : Int32 → Prop} {k : Nat} (hk : k < 8) (h : post 1) : wpX_isKey post (nI k) := br_f (nI_pos (by omega)) (br_f (nI_ge (b := 8) hk (by omega)) h)
theorem xk_f {post : Int32 → Prop} {x : Int32} (hx : rl_O x 8) (h : post 0) : wpX_isKey post x := br_c (fun _ => h) (fun y => br_t (hx.resolve_left y) h)
theorem ya_t {post : Int32 → Prop} {j n : Nat} (hj : j < n) (hn : n < 2 ^ 31) (h : post 1) : wpY_among post (tm, tn, kd, nu, sz, iy, sy, dl, st, wk, wo, we, wt, wd, d, qo, qk, qa, qb, q, rs, rc, te, tk) (nI j) (nI n) := br_f (nI_pos (by omega)) (br_f (nI_ge hj hn) h)
theorem ya_f {post : Int32 → Prop} {x : Int32} {n : Nat} (hx : rl_O x n) (h : post 0) : wpY_among post (tm, tn, kd, nu, sz, iy, sy, dl, st, wk, wo, we, wt, wd, d, qo, qk, qa, qb, q, rs, rc, te, tk) x (nI n) := br_c (fun _ => h) (fun y => br_t (hx.resolve_left y) h)
def rl_N (st : Nat → Int32) (x : Int32) : Prop := rl_O x 4 ∨ ∃ c, c < 4 ∧ x = nI c ∧ st c ≠ 0
theorem rl_rd (st : Nat → Int32) (x : Int32) : rl_N st x ∨ ∃ c, c < 4 ∧ x = nI c ∧ st c = 0 := by
  rcases rl_cs x 4 (by omega) with h | ⟨c, hc, rfl⟩
  · exact Or.inl (Or.inl h)
  · by_cases z : st c = 0
    · exact Or.inr ⟨c, hc, rfl, z⟩
    · exact Or.inl (Or.inr ⟨c, hc, rfl, z⟩)
theorem xr_t {post : Int32 → Prop} {c : Nat} (hc : c < 4) (h0 : st c = 0) (h : post 1) : wpX_isReady post (tm, tn, kd, nu, sz, dl, ix, sx, st, wk, wo, we, wt, te, tk, w, q, qo, qk, qa, qb, rc, rs) (nI c) := by
  have e : (nI c).toNatClampNeg = c := nI_clamp (by omega)
  have i : vp_in (nI c) 4 := vp_in_nI hc (by omega)
  unfold wpX_isReady
  rw [e]
  exact xc_t hc (br_f (by decide) ⟨i, br_t h0 h⟩)
theorem xr_f {post : Int32 → Prop} {x : Int32} (hx : rl_N st x) (h : post 0) : wpX_isReady post (tm, tn, kd, nu, sz, dl, ix, sx, st, wk, wo, we, wt, te, tk, w, q, qo, qk, qa, qb, rc, rs) x := by
  unfold wpX_isReady
  rcases hx with hx | ⟨c, hc, rfl, h0⟩
  · exact xc_f hx (br_t rfl h)
  · have e : (nI c).toNatClampNeg = c := nI_clamp (by omega)
    have i : vp_in (nI c) 4 := vp_in_nI hc (by omega)
    rw [e]
    exact xc_t hc (br_f (by decide) ⟨i, br_f h0 h⟩)
theorem yr_t {post : Int32 → Prop} {c : Nat} (hc : c < 4) (h0 : st c = 0) (h : post 1) : wpY_ready post (tm, tn, kd, nu, sz, iy, sy, dl, st, wk, wo, we, wt, wd, d, qo, qk, qa, qb, q, rs, rc, te, tk) (nI c) := by
  have e : (nI c).toNatClampNeg = c := nI_clamp (by omega)
  have i : vp_in (nI c) 4 := vp_in_nI hc (by omega)
  unfold wpY_ready
  rw [e]
  exact ya_t (n := 4) hc (by omega) (br_f (by decide) ⟨i, br_t h0 h⟩)
theorem yr_f {post : Int32 → Prop} {x : Int32} (hx : rl_N st x) (h : post 0) : wpY_ready post (tm, tn, kd, nu, sz, iy, sy, dl, st, wk, wo, we, wt, wd, d, qo, qk, qa, qb, q, rs, rc, te, tk) x := by
  unfold wpY_ready
  rcases hx with hx | ⟨c, hc, rfl, h0⟩
  · exact ya_f (n := 4) hx (br_t rfl h)
  · have e : (nI c).toNatClampNeg = c := nI_clamp (by omega)
    have i : vp_in (nI c) 4 := vp_in_nI hc (by omega)
    rw [e]
    exact ya_t (n := 4) hc (by omega) (br_f (by decide) ⟨i, br_f h0 h⟩)
end RL
end
section
/-! V: begin, cancel, watch, result, got, ask, rewrite -/
theorem i_vc_begin {k : Nat} {u : SX} {v : SY} (I : i_Rel k u v) (hk : k + 6 ≤ 3072) (v1 : Int32) : wpX_begin (fun r u' => wpY_begin (fun r' v' => r' = r ∧ i_Rel (k + 6) u' v') v v1) u v1 := by
  obtain ⟨tm, tn, kd, nu, sz, dl, ix, sx, iy, sy, st, wk, wo, we, w, wd, d, q, qo, qk, qa, qb, rc, wt, te, tk, rs, rfl, rfl, hT, hS, hW, hC⟩ := I
  rcases rl_rd st v1 with hn | ⟨c, hc, rfl, h0⟩
  · unfold wpX_begin
    refine xr_f hn (br_t rfl ?_)
    unfold wpY_begin
    exact yr_f hn (br_t rfl ⟨rfl, rl_i ⟨hT, hS, hW, hC⟩⟩)
  · have e : (nI c).toNatClampNeg = c := nI_clamp (by omega)
    have i : vp_in (nI c) 4 := vp_in_nI hc (by omega)
    have eq : upd q c 0 = q := ws_same q (cl_idle hC hc (by rw [h0]; decide))
    have R : i_Rel (k + 6) (tm, tn, kd, nu, sz, dl, ix, sx, upd st c 2, wk, wo, we, wt, te, tk, w, q, qo, qk, qa, qb, rc, rs) (tm, tn, kd, nu, sz, iy, sy, dl, upd st c 2, wk, wo, we, wt, wd, d, qo, qk, qa, qb, q, rs, rc, te, tk) := rl_i ⟨hT, hS, hW, cl_begin hC⟩
    unfold wpX_begin
    refine xr_t hc h0 (br_f (by decide) ⟨i, nm_r (e' := upd st c 2) (by rw [e]) ?_⟩)
    unfold wpY_begin
    exact yr_t hc h0 (br_f (by decide) ⟨i, nm_r (e' := upd st c 2) (by rw [e]) ⟨i, nm_r (e' := q) (by rw [e, eq]) ⟨rfl, R⟩⟩⟩)
theorem i_vc_cancel {k : Nat} {u : SX} {v : SY} (I : i_Rel k u v) (hk : k + 6 ≤ 3072) (v1 : Int32) : wpX_cancel (fun r u' => wpY_cancel (fun r' v' => r' = r ∧ i_Rel (k + 6) u' v') v v1) u v1 := by
  obtain ⟨tm, tn, kd, nu, sz, dl, ix, sx, iy, sy, st, wk, wo, we, w, wd, d, q, qo, qk, qa, qb, rc, wt, te, tk, rs, rfl, rfl, hT, hS, hW, hC⟩ := I
  rcases rl_cs v1 4 (by omega) with hn | ⟨c, hc, rfl⟩
  · unfold wpX_cancel
    refine xc_f hn (br_t rfl ?_)
    unfold wpY_cancel
    exact ya_f (n := 4) hn (br_t rfl ⟨rfl, rl_i ⟨hT, hS, hW, hC⟩⟩)
  · have e : (nI c).toNatClampNeg = c := nI_clamp (by omega)
    have i : vp_in (nI c) 4 := vp_in_nI hc (by omega)
    unfold wpX_cancel
    rw [e]
    refine xc_t hc (br_f (by decide) ⟨i, ?_⟩)
    by_cases z : st c = 1
    · refine br_t z ?_
      unfold wpY_cancel
      rw [e]
      exact ya_t (n := 4) hc (by omega) (br_f (by decide) ⟨i, br_t z ⟨rfl, rl_i ⟨hT, hS, hW, hC⟩⟩⟩)
    · refine br_f z (wx_rel hc ?_)
      unfold wpY_cancel
      rw [e]
      exact ya_t (n := 4) hc (by omega) (br_f (by decide) ⟨i, br_f z (wy_unwatch hc ⟨rfl, rl_i ⟨hT, hS, wa_free hW, cl_rel hC⟩⟩)⟩)
theorem i_vc_watch {k : Nat} {u : SX} {v : SY} (I : i_Rel k u v) (hk : k + 6 ≤ 3072) (v1 : Int32) (v2 : Int32) : wpX_watch (fun r u' => wpY_watch (fun r' v' => r' = r ∧ i_Rel (k + 6) u' v') v v1 v2) u v1 v2 := by
  obtain ⟨tm, tn, kd, nu, sz, dl, ix, sx, iy, sy, st, wk, wo, we, w, wd, d, q, qo, qk, qa, qb, rc, wt, te, tk, rs, rfl, rfl, hT, hS, hW, hC⟩ := I
  rcases rl_rd st v1 with hn | ⟨c, hc, rfl, h0⟩
  · unfold wpX_watch
    refine xr_f hn (br_t rfl ?_)
    unfold wpY_watch
    exact yr_f hn (br_t rfl ⟨rfl, rl_i ⟨hT, hS, hW, hC⟩⟩)
  · rcases rl_cs v2 8 (by omega) with hn | ⟨j, hj, rfl⟩
    · unfold wpX_watch
      refine xr_t hc h0 (br_f (by decide) (xk_f hn (br_t rfl ?_)))
      unfold wpY_watch
      exact yr_t hc h0 (br_f (by decide) (ya_f (n := 8) hn (br_t rfl ⟨rfl, rl_i ⟨hT, hS, hW, hC⟩⟩)))
    · have e : (nI c).toNatClampNeg = c := nI_clamp (by omega)
      have i : vp_in (nI c) 4 := vp_in_nI hc (by omega)
      have e3 : (nI (8 * c + j)).toNatClampNeg = 8 * c + j := nI_clamp (by omega)
      have v3 : vp_in (nI (8 * c + j)) 32 := vp_in_nI (by omega) (by omega)
      unfold wpX_watch
      refine xr_t hc h0 (br_f (by decide) (xk_t hj (br_f (by decide) (nm_r (nu_x8 c j) ⟨v3, ?_⟩))))
      rw [e3]
      by_cases z : w (8 * c + j) = 0
      · have R : i_Rel (k + 6) (tm, tn, kd, nu, sz, dl, ix, sx, st, wk, wo, we, wt, te, tk, upd w (8 * c + j) 1, q, qo, qk, qa, qb, rc, rs) (tm, tn, kd, nu, sz, iy, sy, dl, st, wk, wo, we, wt, upd wd c (wd c ||| ((1 : Int32) <<< (nI j &&& 31))), d, qo, qk, qa, qb, q, rs, rc, te, tk) := rl_i ⟨hT, hS, wa_watch hW hj (Or.inl ⟨z, rfl⟩), hC⟩
        refine br_t z ⟨v3, nm_e ?_⟩
        unfold wpY_watch
        rw [e]
        exact yr_t hc h0 (br_f (by decide) (ya_t (n := 8) hj (by omega) (br_f (by decide) ⟨i, i, nm_e ⟨rfl, R⟩⟩)))
      · have R : i_Rel (k + 6) (tm, tn, kd, nu, sz, dl, ix, sx, st, wk, wo, we, wt, te, tk, w, q, qo, qk, qa, qb, rc, rs) (tm, tn, kd, nu, sz, iy, sy, dl, st, wk, wo, we, wt, upd wd c (wd c ||| ((1 : Int32) <<< (nI j &&& 31))), d, qo, qk, qa, qb, q, rs, rc, te, tk) := rl_i ⟨hT, hS, wa_watch hW hj (Or.inr ⟨z, rfl⟩), hC⟩
        refine br_f z ?_
        unfold wpY_watch
        rw [e]
        exact yr_t hc h0 (br_f (by decide) (ya_t (n := 8) hj (by omega) (br_f (by decide) ⟨i, i, nm_e ⟨rfl, R⟩⟩)))
theorem i_vc_result {k : Nat} {u : SX} {v : SY} (I : i_Rel k u v) (hk : k + 6 ≤ 3072) (v1 : Int32) (v2 : Int32) : wpX_result (fun r => wpY_result (fun r' => r' = r ∧ i_Rel (k + 6) u v) v v1 v2) u v1 v2 := by
  have I6 := i_up I
  obtain ⟨tm, tn, kd, nu, sz, dl, ix, sx, iy, sy, st, wk, wo, we, w, wd, d, q, qo, qk, qa, qb, rc, wt, te, tk, rs, rfl, rfl, hT, hS, hW, hC⟩ := I
  rcases rl_cs v1 4 (by omega) with hn | ⟨c, hc, rfl⟩
  · unfold wpX_result
    refine xc_f hn (br_t rfl ?_)
    unfold wpY_result
    exact ya_f (n := 4) hn (br_t rfl ⟨rfl, I6⟩)
  · have e : (nI c).toNatClampNeg = c := nI_clamp (by omega)
    have i : vp_in (nI c) 4 := vp_in_nI hc (by omega)
    obtain ⟨_, _, ⟨n, hn8, er⟩, _⟩ := hC c hc
    unfold wpX_result
    rw [e]
    refine xc_t hc (br_f (by decide) ?_)
    rcases rl_cs v2 n (by omega) with hn | ⟨j, hj, rfl⟩
    · have g : wpY_result (fun r' => r' = 10000000006 ∧ i_Rel (k + 6) (tm, tn, kd, nu, sz, dl, ix, sx, st, wk, wo, we, wt, te, tk, w, q, qo, qk, qa, qb, rc, rs) (tm, tn, kd, nu, sz, iy, sy, dl, st, wk, wo, we, wt, wd, d, qo, qk, qa, qb, q, rs, rc, te, tk)) (tm, tn, kd, nu, sz, iy, sy, dl, st, wk, wo, we, wt, wd, d, qo, qk, qa, qb, q, rs, rc, te, tk) (nI c) v2 := by
        unfold wpY_result
        rw [e]
        refine ya_t (n := 4) hc (by omega) (br_f (by decide) ⟨i, ?_⟩)
        rw [er]
        exact ya_f hn (br_t rfl ⟨rfl, I6⟩)
      refine br_c (fun _ => g) (fun y => ⟨i, br_f ?_ g⟩)
      rw [er]
      exact Int32.not_lt.mpr (hn.resolve_left y)
    · have e3 : (nI (8 * c + j)).toNatClampNeg = 8 * c + j := nI_clamp (by omega)
      have v3 : vp_in (nI (8 * c + j)) 32 := vp_in_nI (by omega) (by omega)
      refine br_f (nI_pos (by omega)) ⟨i, ?_⟩
      rw [er, nu_x8, e3]
      refine br_t (nI_lt hj (by omega)) ⟨v3, ?_⟩
      unfold wpY_result
      rw [e]
      refine ya_t (n := 4) hc (by omega) (br_f (by decide) ⟨i, ?_⟩)
      rw [er, nu_y8, e3]
      exact ya_t hj (by omega) (br_f (by decide) ⟨v3, rfl, I6⟩)
theorem i_vc_rewrite {k : Nat} {u : SX} {v : SY} (I : i_Rel k u v) (hk : k + 6 ≤ 3072) : wpX_rewrite (fun u' => wpY_rewrite (fun v' => i_Rel (k + 6) u' v') v) u := i_up I
theorem i_vc_got {k : Nat} {u : SX} {v : SY} (I : i_Rel k u v) (hk : k + 6 ≤ 3072) (v1 : Int32) (v2 : Int32) : wpX_got (fun r => wpY_got (fun r' => r' = r ∧ i_Rel (k + 6) u v) v v1 v2) u v1 v2 := by
  have I6 := i_up I
  obtain ⟨tm, tn, kd, nu, sz, dl, ix, sx, iy, sy, st, wk, wo, we, w, wd, d, q, qo, qk, qa, qb, rc, wt, te, tk, rs, rfl, rfl, hT, hS, hW, hC⟩ := I
  rcases rl_cs v1 4 (by omega) with hn | ⟨c, hc, rfl⟩
  · unfold wpX_got
    refine xc_f hn (br_t rfl ?_)
    unfold wpY_got
    exact ya_f (n := 4) hn (br_t rfl ⟨rfl, I6⟩)
  · have e : (nI c).toNatClampNeg = c := nI_clamp (by omega)
    have i : vp_in (nI c) 4 := vp_in_nI hc (by omega)
    obtain ⟨_, hw0, _⟩ := hC c hc
    unfold wpX_got
    rw [e]
    refine xc_t hc (br_f (by decide) ?_)
    have y : ∀ {P : Int64 → Prop}, ((v2 = 0 → (vp_in (nI c) 4 ∧ P (st c).toInt64)) ∧ (¬ v2 = 0 → ((v2 = 1 → (vp_in (nI c) 4 ∧ P (te c))) ∧ (¬ v2 = 1 → ((v2 = 2 → (vp_in (nI c) 4 ∧ P (tk c))) ∧ (¬ v2 = 2 → ((v2 = 3 → (vp_in (nI c) 4 ∧ ((st c = 1 → (vp_in (nI c) 4 ∧ ((we c ≤ 0 → P 10000000006) ∧ (¬ we c ≤ 0 → (vp_in (nI c) 4 ∧ P (we c - tm).toInt64))))) ∧ (¬ st c = 1 → P 10000000006)))) ∧ (¬ v2 = 3 → P 10000000006)))))))) → wpY_got P (tm, tn, kd, nu, sz, iy, sy, dl, st, wk, wo, we, wt, wd, d, qo, qk, qa, qb, q, rs, rc, te, tk) (nI c) v2 := by
      intro P h
      unfold wpY_got
      rw [e]
      exact ya_t (n := 4) hc (by omega) (br_f (by decide) h)
    by_cases z0 : v2 = 0
    · subst z0
      exact br_f (by decide) (br_f (by decide) (br_t rfl ⟨i, y (br_t rfl ⟨i, rfl, I6⟩)⟩))
    · by_cases z1 : v2 = 1
      · subst z1
        exact br_f (by decide) (br_f (by decide) (br_f (by decide) (br_t rfl ⟨i, y (br_f (by decide) (br_t rfl ⟨i, rfl, I6⟩))⟩)))
      · by_cases z2 : v2 = 2
        · subst z2
          exact br_f (by decide) (br_f (by decide) (br_f (by decide) (br_f (by decide) (br_t rfl ⟨i, y (br_f (by decide) (br_f (by decide) (br_t rfl ⟨i, rfl, I6⟩)))⟩))))
        · by_cases z3 : v2 = 3
          · subst z3
            refine br_f (by decide) (br_f (by decide) (br_f (by decide) (br_f (by decide) (br_f (by decide) (br_t rfl ?_)))))
            unfold wpX_hasEnd
            rw [e]
            refine ⟨i, ?_⟩
            by_cases s1 : st c = 1
            · refine br_t s1 ⟨i, ?_⟩
              by_cases w0 : we c = 0
              · exact br_t w0 (br_t rfl (y (br_f (by decide) (br_f (by decide) (br_f (by decide) (br_t rfl ⟨i, br_t s1 ⟨i, br_t (by rw [w0]; decide) ⟨rfl, I6⟩⟩⟩))))))
              · refine br_f w0 (br_f (by decide) ⟨i, y (br_f (by decide) (br_f (by decide) (br_f (by decide) (br_t rfl ⟨i, br_t s1 ⟨i, br_f ?_ ⟨i, rfl, I6⟩⟩⟩))))⟩)
                intro hle
                exact w0 (Int32.le_antisymm hle hw0)
            · exact br_f s1 (br_t rfl (y (br_f (by decide) (br_f (by decide) (br_f (by decide) (br_t rfl ⟨i, br_f s1 ⟨rfl, I6⟩⟩))))))
          · have g : wpY_got (fun r' => r' = 10000000006 ∧ i_Rel (k + 6) (tm, tn, kd, nu, sz, dl, ix, sx, st, wk, wo, we, wt, te, tk, w, q, qo, qk, qa, qb, rc, rs) (tm, tn, kd, nu, sz, iy, sy, dl, st, wk, wo, we, wt, wd, d, qo, qk, qa, qb, q, rs, rc, te, tk)) (tm, tn, kd, nu, sz, iy, sy, dl, st, wk, wo, we, wt, wd, d, qo, qk, qa, qb, q, rs, rc, te, tk) (nI c) v2 := y (br_f z0 (br_f z1 (br_f z2 (br_f z3 ⟨rfl, I6⟩))))
            exact br_c (fun _ => g) (fun _ => br_c (fun _ => g) (fun _ => br_f z0 (br_f z1 (br_f z2 (br_f z3 trivial)))))
theorem i_vc_ask {k : Nat} {u : SX} {v : SY} (I : i_Rel k u v) (hk : k + 6 ≤ 3072) (v1 : Int32) (v2 : Int32) : wpX_ask (fun r => wpY_ask (fun r' => r' = r ∧ i_Rel (k + 6) u v) v v1 v2) u v1 v2 := by
  have I6 := i_up I
  obtain ⟨tm, tn, kd, nu, sz, dl, ix, sx, iy, sy, st, wk, wo, we, w, wd, d, q, qo, qk, qa, qb, rc, wt, te, tk, rs, rfl, rfl, hT, hS, hW, hC⟩ := I
  rcases rl_cs v1 8 (by omega) with hn | ⟨c, hc, rfl⟩
  · unfold wpX_ask
    refine xk_f hn (br_t rfl ?_)
    unfold wpY_ask
    exact ya_f (n := 8) hn (br_t rfl ⟨rfl, I6⟩)
  · have e : (nI c).toNatClampNeg = c := nI_clamp (by omega)
    have i : vp_in (nI c) 16 := vp_in_nI (by omega) (by omega)
    unfold wpX_ask
    rw [e]
    refine xk_t hc (br_f (by decide) ?_)
    rcases rl_cs v2 4 (by omega) with hn | ⟨j, hj, rfl⟩
    · have g : wpY_ask (fun r' => r' = -1 ∧ i_Rel (k + 6) (tm, tn, kd, nu, sz, dl, ix, sx, st, wk, wo, we, wt, te, tk, w, q, qo, qk, qa, qb, rc, rs) (tm, tn, kd, nu, sz, iy, sy, dl, st, wk, wo, we, wt, wd, d, qo, qk, qa, qb, q, rs, rc, te, tk)) (tm, tn, kd, nu, sz, iy, sy, dl, st, wk, wo, we, wt, wd, d, qo, qk, qa, qb, q, rs, rc, te, tk) (nI c) v2 := by
        unfold wpY_ask
        exact ya_t (n := 8) hc (by omega) (br_f (by decide) (ya_f (n := 4) hn (br_t rfl ⟨rfl, I6⟩)))
      refine br_c (fun _ => g) (fun y => br_t ?_ g)
      have h4 := hn.resolve_left y
      rw [Int32.le_iff_toInt_le, nI_toInt (by omega)] at h4
      rw [Int32.lt_iff_toInt_lt, show (3 : Int32).toInt = 3 from by decide]
      omega
    · have y : ∀ {P : Int32 → Prop}, ((nI j = 3 → (vp_in (nI c) 16 ∧ ((dl c = 0 → P (-1)) ∧ (¬ dl c = 0 → (vp_in (nI c) 16 ∧ P (dl c - tm)))))) ∧ (¬ nI j = 3 → ((nI j = 0 → (vp_in (nI c) 16 ∧ P (kd c))) ∧ (¬ nI j = 0 → ((nI j = 1 → (vp_in (nI c) 16 ∧ P (nu c))) ∧ (¬ nI j = 1 → (vp_in (nI c) 16 ∧ P (sz c)))))))) → wpY_ask P (tm, tn, kd, nu, sz, iy, sy, dl, st, wk, wo, we, wt, wd, d, qo, qk, qa, qb, q, rs, rc, te, tk) (nI c) (nI j) := by
        intro P h
        unfold wpY_ask
        rw [e]
        exact ya_t (n := 8) hc (by omega) (br_f (by decide) (ya_t (n := 4) hj (by omega) (br_f (by decide) h)))
      have cs : j = 0 ∨ j = 1 ∨ j = 2 ∨ j = 3 := by omega
      rcases cs with rfl | rfl | rfl | rfl
      · exact br_f (by decide) (br_f (by decide) (br_t rfl ⟨i, y (br_f (by decide) (br_t rfl ⟨i, rfl, I6⟩))⟩))
      · exact br_f (by decide) (br_f (by decide) (br_f (by decide) (br_t rfl ⟨i, y (br_f (by decide) (br_f (by decide) (br_t rfl ⟨i, rfl, I6⟩)))⟩)))
      · exact br_f (by decide) (br_f (by decide) (br_f (by decide) (br_f (by decide) (br_t rfl ⟨i, y (br_f (by decide) (br_f (by decide) (br_f (by decide) ⟨i, rfl, I6⟩)))⟩))))
      · refine br_f (by decide) (br_f (by decide) (br_f (by decide) (br_f (by decide) (br_f (by decide) (br_t rfl ⟨i, ?_⟩)))))
        by_cases z : dl c = 0
        · exact br_t z (y (br_t rfl ⟨i, br_t z ⟨rfl, I6⟩⟩))
        · exact br_f z ⟨i, y (br_t rfl ⟨i, br_f z ⟨i, rfl, I6⟩⟩)⟩
end
section
section TM
variable {tm : Int32} {tn : Int64} {kd nu sz dl ix sx iy sy st wk wo we w wd d q qo qk qa qb rc ra : Nat → Int32} {wt te tk tf tg rs : Nat → Int64}
/-! W: tick -/
theorem xe_t {post : Int32 → Prop} {k : Nat} (hk : k < 16) (h1 : dl k ≠ 0) (h2 : ¬ tm < dl k) (h : post 1) : wpX_isExpired post (tm, tn, kd, nu, sz, dl, ix, sx, st, wk, wo, we, wt, te, tk, w, q, qo, qk, qa, qb, rc, rs) (nI k) := by
  have e : (nI k).toNatClampNeg = k := nI_clamp (by omega)
  have i : vp_in (nI k) 16 := vp_in_nI hk (by omega)
  unfold wpX_isExpired
  rw [e]
  exact ⟨i, br_f h1 ⟨i, br_f h2 h⟩⟩
theorem xe_f {post : Int32 → Prop} {k : Nat} (hk : k < 16) (h1 : dl k = 0 ∨ tm < dl k) (h : post 0) : wpX_isExpired post (tm, tn, kd, nu, sz, dl, ix, sx, st, wk, wo, we, wt, te, tk, w, q, qo, qk, qa, qb, rc, rs) (nI k) := by
  have e : (nI k).toNatClampNeg = k := nI_clamp (by omega)
  have i : vp_in (nI k) 16 := vp_in_nI hk (by omega)
  unfold wpX_isExpired
  rw [e]
  refine ⟨i, ?_⟩
  by_cases z : dl k = 0
  · exact br_t z h
  · exact br_f z ⟨i, br_t (h1.resolve_left z) h⟩
theorem lk_exp : ∀ m i, i + m = 8 → ∀ (kd nu sz dl ix sx iy sy w d : Nat → Int32) (x : Int32), st_R kd sz dl ix sx iy sy → wa_R w wd d →
    ∃ (x' : Int32) (kd' nu' sz' dl' ix' sx' iy' sy' w' d' : Nat → Int32), st_R kd' sz' dl' ix' sx' iy' sy' ∧ wa_R w' wd d' ∧
    (∀ post : Int32 → SX → Prop, post x' (tm, tn, kd', nu', sz', dl', ix', sx', st, wk, wo, we, wt, te, tk, w', q, qo, qk, qa, qb, rc, rs) → wX_expireKeys_4 post (m + 1) x (nI i) tm tn kd nu sz dl ix sx st wk wo we wt te tk w q qo qk qa qb rc rs) ∧
    (∀ post : Int32 → SY → Prop, (∃ n, wY_tick_89 post x' tm tn n 0 kd' nu' sz' iy' sy' dl' st wk wo we wt wd d' qo qk qa qb q rs rc te tk) → wY_tick_37 post (m + 1) x (nI i) tm tn kd nu sz iy sy dl st wk wo we wt wd d qo qk qa qb q rs rc te tk) := by
  intro m
  induction m with
  | zero =>
    intro i hi kd nu sz dl ix sx iy sy w d x hS hW
    obtain rfl : i = 8 := by omega
    exact ⟨x, kd, nu, sz, dl, ix, sx, iy, sy, w, d, hS, hW, fun post h => br_t (nI_le (a := 8) (b := 8) (by omega) (by omega)) h, fun post h => br_t (nI_le (a := 8) (b := 8) (by omega) (by omega)) h⟩
  | succ m ih =>
    intro i hi kd nu sz dl ix sx iy sy w d x hS hW
    have c1 : ¬ (8 : Int32) ≤ nI i := nI_ge (b := 8) (by omega) (by decide)
    have e : (nI i).toNatClampNeg = i := nI_clamp (by omega)
    have v : vp_in (nI i) 16 := vp_in_nI (by omega) (by omega)
    by_cases z : dl i = 0 ∨ tm < dl i
    · obtain ⟨x', kd', nu', sz', dl', ix', sx', iy', sy', w', d', r1, r2, rx, ry⟩ := ih (i + 1) (by omega) kd nu sz dl ix sx iy sy w d x hS hW
      refine ⟨x', kd', nu', sz', dl', ix', sx', iy', sy', w', d', r1, r2, fun post h => ?_, fun post h => ?_⟩
      · exact br_f c1 (xe_f (by omega) z (br_t rfl (nm_r (nI_1 i) (rx post h))))
      · refine br_f c1 ?_
        rw [e]
        refine ⟨v, ?_⟩
        by_cases z0 : dl i = 0
        · exact br_t z0 (nm_r (nI_1 i) (ry post h))
        · exact br_f z0 ⟨v, br_f (Int32.not_le.mpr (z.resolve_left z0)) (nm_r (nI_1 i) (ry post h))⟩
    · have z0 : dl i ≠ 0 := fun y => z (Or.inl y)
      have z1 : ¬ tm < dl i := fun y => z (Or.inr y)
      obtain ⟨x', kd', nu', sz', dl', ix', sx', iy', sy', w', d', r1, r2, rx, ry⟩ := ih (i + 1) (by omega) (upd kd i 0) (upd nu i 0) (upd sz i 0) (upd dl i 0) ix sx iy sy (ws_mk w i 4) (ws_dc wd d i 4) (x + 1) (st_clear hS i) (wa_mark hW (by omega))
      refine ⟨x', kd', nu', sz', dl', ix', sx', iy', sy', w', d', r1, r2, fun post h => ?_, fun post h => ?_⟩
      · exact br_f c1 (xe_t (by omega) z0 z1 (br_f (by decide) (wx_clear (by omega) (wx_mark (by omega) (nm_e (nm_r (nI_1 i) (rx post h)))))))
      · refine br_f c1 ?_
        rw [e]
        exact ⟨v, br_f z0 ⟨v, br_t (Int32.not_lt.mp z1) (wy_clear (by omega) (wy_mark (by omega) (nm_e (nm_r (nI_1 i) (ry post h)))))⟩⟩
theorem wx_end_l {post : SX → Prop} (h : post (tm, tn, kd, nu, sz, dl, ix, sx, ws_ew st we tm 4, wk, wo, we, wt, te, tk, w, q, qo, qk, qa, qb, rc, rs)) : ∀ m i, i + m = 4 → wX_endWaiting_2 post tm tn (m + 1) (nI i) kd nu sz dl ix sx (ws_ew st we tm i) wk wo we wt te tk w q qo qk qa qb rc rs := by
  intro m
  induction m with
  | zero =>
    intro i hi
    obtain rfl : i = 4 := by omega
    exact br_t (nI_le (a := 4) (b := 4) (by omega) (by omega)) h
  | succ m ih =>
    intro i hi
    have c1 : ¬ (4 : Int32) ≤ nI i := nI_ge (b := 4) (by omega) (by decide)
    have e : (nI i).toNatClampNeg = i := nI_clamp (by omega)
    have v : vp_in (nI i) 4 := vp_in_nI (by omega) (by omega)
    have g := ih (i + 1) (by omega)
    have no : ¬ (st i = 1 ∧ we i ≠ 0 ∧ we i ≤ tm) → wX_endWaiting_2 post tm tn (m + 1) (nI (i + 1)) kd nu sz dl ix sx (ws_ew st we tm i) wk wo we wt te tk w q qo qk qa qb rc rs := by
      intro z
      rw [ws_ewn z]
      exact g
    refine br_f c1 ?_
    unfold wpX_hasEnd
    rw [e]
    show _ ∧ _
    rw [ws_ew_at]
    refine ⟨v, ?_⟩
    by_cases a : st i = 1
    · refine br_t a ⟨v, ?_⟩
      by_cases b : we i = 0
      · exact br_t b (br_t rfl (nm_r (nI_1 i) (no (fun z => z.2.1 b))))
      · refine br_f b (br_f (by decide) ⟨v, ?_⟩)
        by_cases c : tm < we i
        · exact br_t c (nm_r (nI_1 i) (no (fun z => Int32.not_le.mpr c z.2.2)))
        · exact br_f c ⟨v, nm_r (ws_ews ⟨a, b, Int32.not_lt.mp c⟩) (nm_r (nI_1 i) g)⟩
    · exact br_f a (br_t rfl (nm_r (nI_1 i) (no (fun z => a z.1))))
theorem wx_end {post : SX → Prop} (h : post (tm, tn, kd, nu, sz, dl, ix, sx, ws_ew st we tm 4, wk, wo, we, wt, te, tk, w, q, qo, qk, qa, qb, rc, rs)) : wpX_endWaiting post (tm, tn, kd, nu, sz, dl, ix, sx, st, wk, wo, we, wt, te, tk, w, q, qo, qk, qa, qb, rc, rs) := by
  have g := wx_end_l h 4 0 rfl
  rw [ws_ew0] at g
  exact ⟨5, g⟩
theorem wy_end_l {post : Int32 → SY → Prop} {x : Int32} (hw : ∀ c, c < 4 → (0 : Int32) ≤ we c) (h : post x (tm, tn, kd, nu, sz, iy, sy, dl, ws_ew st we tm 4, wk, wo, we, wt, wd, d, qo, qk, qa, qb, q, rs, rc, te, tk)) : ∀ m i, i + m = 4 → wY_tick_89 post x tm tn (m + 1) (nI i) kd nu sz iy sy dl (ws_ew st we tm i) wk wo we wt wd d qo qk qa qb q rs rc te tk := by
  intro m
  induction m with
  | zero =>
    intro i hi
    obtain rfl : i = 4 := by omega
    exact br_t (nI_le (a := 4) (b := 4) (by omega) (by omega)) h
  | succ m ih =>
    intro i hi
    have c1 : ¬ (4 : Int32) ≤ nI i := nI_ge (b := 4) (by omega) (by decide)
    have e : (nI i).toNatClampNeg = i := nI_clamp (by omega)
    have v : vp_in (nI i) 4 := vp_in_nI (by omega) (by omega)
    have g := ih (i + 1) (by omega)
    have no : ¬ (st i = 1 ∧ we i ≠ 0 ∧ we i ≤ tm) → wY_tick_89 post x tm tn (m + 1) (nI (i + 1)) kd nu sz iy sy dl (ws_ew st we tm i) wk wo we wt wd d qo qk qa qb q rs rc te tk := by
      intro z
      rw [ws_ewn z]
      exact g
    refine br_f c1 ?_
    rw [e, ws_ew_at]
    refine ⟨v, ?_⟩
    by_cases a : st i = 1
    · refine br_t a ⟨v, ?_⟩
      by_cases b : we i ≤ 0
      · exact br_t b (nm_r (nI_1 i) (no (fun z => z.2.1 (Int32.le_antisymm b (hw i (by omega))))))
      · refine br_f b ⟨v, ?_⟩
        by_cases c : tm < we i
        · exact br_t c (nm_r (nI_1 i) (no (fun z => Int32.not_le.mpr c z.2.2)))
        · exact br_f c ⟨v, nm_r (ws_ews ⟨a, fun y => b (by rw [y]; decide), Int32.not_lt.mp c⟩) (nm_r (nI_1 i) g)⟩
    · exact br_f a (nm_r (nI_1 i) (no (fun z => a z.1)))
theorem wy_end {post : Int32 → SY → Prop} {x : Int32} (hw : ∀ c, c < 4 → (0 : Int32) ≤ we c) (h : post x (tm, tn, kd, nu, sz, iy, sy, dl, ws_ew st we tm 4, wk, wo, we, wt, wd, d, qo, qk, qa, qb, q, rs, rc, te, tk)) : ∃ n, wY_tick_89 post x tm tn n 0 kd nu sz iy sy dl st wk wo we wt wd d qo qk qa qb q rs rc te tk := by
  have g := wy_end_l hw h 4 0 rfl
  rw [ws_ew0] at g
  exact ⟨5, g⟩
theorem i_vc_tick {k : Nat} {u : SX} {v : SY} (I : i_Rel k u v) (hk : k + 6 ≤ 3072) (v1 : Int32) : wpX_tick (fun r u' => wpY_tick (fun r' v' => r' = r ∧ i_Rel (k + 6) u' v') v v1) u v1 := by
  have I6 := i_up I
  obtain ⟨tm, tn, kd, nu, sz, dl, ix, sx, iy, sy, st, wk, wo, we, w, wd, d, q, qo, qk, qa, qb, rc, wt, te, tk, rs, rfl, rfl, ⟨t, ht, rfl⟩, hS, hW, hC⟩ := I
  rcases rl_cs v1 51 (by omega) with hn | ⟨m, hm, rfl⟩
  · have g : wpY_tick (fun r' v' => r' = -1 ∧ i_Rel (k + 6) (nI t, tn, kd, nu, sz, dl, ix, sx, st, wk, wo, we, wt, te, tk, w, q, qo, qk, qa, qb, rc, rs) v') (nI t, tn, kd, nu, sz, iy, sy, dl, st, wk, wo, we, wt, wd, d, qo, qk, qa, qb, q, rs, rc, te, tk) v1 := by
      unfold wpY_tick
      exact ya_f (n := 51) hn (br_t rfl ⟨rfl, I6⟩)
    unfold wpX_tick
    refine br_c (fun _ => g) (fun y => br_t ?_ g)
    have h4 := hn.resolve_left y
    rw [Int32.le_iff_toInt_le, nI_toInt (by omega)] at h4
    rw [Int32.lt_iff_toInt_lt, show (50 : Int32).toInt = 50 from by decide]
    omega
  · have eL : (1000000000 : Int32) - nI m = nI (1000000000 - m) := pk_sub (a := 1000000000) (by omega)
    unfold wpX_tick
    refine br_f (nI_pos (by omega)) (br_f (nI_nlt (b := m) (a := 50) (by omega) (by omega)) ?_)
    rw [eL]
    by_cases z : t + m ≤ 1000000000
    · refine br_t (nI_le (by omega) (by omega)) (nm_r (nI_add t m) ?_)
      obtain ⟨x', kd', nu', sz', dl', ix', sx', iy', sy', w', d', r1, r2, rx, ry⟩ := lk_exp (tm := nI (t + m)) (tn := tn) (st := st) (wk := wk) (wo := wo) (we := we) (wt := wt) (te := te) (tk := tk) (q := q) (qo := qo) (qk := qk) (qa := qa) (qb := qb) (rc := rc) (rs := rs) 8 0 rfl kd nu sz dl ix sx iy sy w d 0 hS hW
      have R : i_Rel (k + 6) (nI (t + m), tn, kd', nu', sz', dl', ix', sx', ws_ew st we (nI (t + m)) 4, wk, wo, we, wt, te, tk, w', q, qo, qk, qa, qb, rc, rs) (nI (t + m), tn, kd', nu', sz', iy', sy', dl', ws_ew st we (nI (t + m)) 4, wk, wo, we, wt, wd, d', qo, qk, qa, qb, q, rs, rc, te, tk) := rl_i ⟨⟨t + m, z, rfl⟩, r1, r2, cl_ew hC _⟩
      refine ⟨9, rx _ (wx_end ?_)⟩
      unfold wpY_tick
      refine ya_t (n := 51) hm (by omega) (br_f (by decide) (br_t ?_ (nm_r (nI_add t m) ⟨9, ry _ (wy_end (fun c hc => (hC c hc).2.1) ⟨rfl, R⟩)⟩)))
      rw [nI_add]
      exact nI_le (b := 1000000000) z (by omega)
    · refine br_f (nI_ge (by omega) (by omega)) ?_
      unfold wpY_tick
      refine ya_t (n := 51) hm (by omega) (br_f (by decide) (br_f ?_ ⟨rfl, I6⟩))
      rw [nI_add]
      exact nI_ge (a := 1000000000) (by omega) (by omega)
/-! X: sync -/
theorem lk_sync : ∀ m i, i + m = 8 → ∀ (kd nu sz dl ix sx iy sy : Nat → Int32), st_R kd sz dl ix sx iy sy →
    ∃ (kd' nu' sz' dl' ix' sx' iy' sy' : Nat → Int32), st_R kd' sz' dl' ix' sx' iy' sy' ∧
    (∀ post : SX → Prop, post (tm, tn, kd', nu', sz', dl', ix', sx', st, wk, wo, we, wt, te, tk, w, q, qo, qk, qa, qb, rc, rs) → wX_sync_2 post (m + 1) (nI i) tm tn kd nu sz dl ix sx st wk wo we wt te tk w q qo qk qa qb rc rs) ∧
    (∀ post : SY → Prop, post (tm, tn, kd', nu', sz', iy', sy', dl', st, wk, wo, we, wt, wd, d, qo, qk, qa, qb, q, rs, rc, te, tk) → wY_sync_2 post (m + 1) (nI i) tm tn kd nu sz iy sy dl st wk wo we wt wd d qo qk qa qb q rs rc te tk) := by
  intro m
  induction m with
  | zero =>
    intro i hi kd nu sz dl ix sx iy sy hS
    obtain rfl : i = 8 := by omega
    exact ⟨kd, nu, sz, dl, ix, sx, iy, sy, hS, fun post h => br_t (nI_le (a := 8) (b := 8) (by omega) (by omega)) h, fun post h => br_t (nI_le (a := 8) (b := 8) (by omega) (by omega)) h⟩
  | succ m ih =>
    intro i hi kd nu sz dl ix sx iy sy hS
    have c1 : ¬ (8 : Int32) ≤ nI i := nI_ge (b := 8) (by omega) (by decide)
    obtain ⟨kd', nu', sz', dl', ix', sx', iy', sy', r1, rx, ry⟩ := ih (i + 1) (by omega) _ (upd nu (8 + i) (nu i)) _ _ _ _ _ _ (st_copy hS (s := i) (t := 8 + i) (by omega))
    refine ⟨kd', nu', sz', dl', ix', sx', iy', sy', r1, fun post h => ?_, fun post h => ?_⟩
    · refine br_f c1 ?_
      rw [nu_8p]
      exact wx_cpy (by omega) (by omega) (by omega) (nm_r (nI_1 i) (rx post h))
    · refine br_f c1 ?_
      rw [nu_8p]
      exact wy_cpy (by omega) (by omega) (by omega) (nm_r (nI_1 i) (ry post h))
theorem i_vc_sync {k : Nat} {u : SX} {v : SY} (I : i_Rel k u v) (hk : k + 6 ≤ 3072) : wpX_sync (fun u' => wpY_sync (fun v' => i_Rel (k + 6) u' v') v) u := by
  obtain ⟨tm, tn, kd, nu, sz, dl, ix, sx, iy, sy, st, wk, wo, we, w, wd, d, q, qo, qk, qa, qb, rc, wt, te, tk, rs, rfl, rfl, hT, hS, hW, hC⟩ := I
  obtain ⟨kd', nu', sz', dl', ix', sx', iy', sy', r1, rx, ry⟩ := lk_sync (tm := tm) (tn := tn) (st := st) (wk := wk) (wo := wo) (we := we) (wt := wt) (te := te) (tk := tk) (w := w) (wd := wd) (d := d) (q := q) (qo := qo) (qk := qk) (qa := qa) (qb := qb) (rc := rc) (rs := rs) 8 0 rfl kd nu sz dl ix sx iy sy hS
  have R : i_Rel (k + 6) (tm, tn, kd', nu', sz', dl', ix', sx', st, wk, wo, we, wt, te, tk, w, q, qo, qk, qa, qb, rc, rs) (tm, tn, kd', nu', sz', iy', sy', dl', st, wk, wo, we, wt, wd, d, qo, qk, qa, qb, q, rs, rc, te, tk) := rl_i ⟨hT, r1, hW, hC⟩
  exact ⟨9, rx _ ⟨9, ry _ R⟩⟩
/-! Y: crash -/
theorem wy_c66 {post : Int32 → SY → Prop} {x : Int32} (h : post x (tm, tn, kd, nu, sz, iy, sy, dl, ws_z st 4, wk, wo, we, wt, ws_z wd 4, ws_z d 4, qo, qk, qa, qb, ws_z q 4, rs, ws_z rc 4, ws_zL te 10000000006 4, ws_zL tk 10000000006 4)) : ∀ m i, i + m = 4 → wY_crash_66 post x (m + 1) (nI i) tm tn kd nu sz iy sy dl (ws_z st i) wk wo we wt (ws_z wd i) (ws_z d i) qo qk qa qb (ws_z q i) rs (ws_z rc i) (ws_zL te 10000000006 i) (ws_zL tk 10000000006 i) := by
  intro m
  induction m with
  | zero =>
    intro i hi
    obtain rfl : i = 4 := by omega
    exact br_t (nI_le (a := 4) (b := 4) (by omega) (by omega)) h
  | succ m ih =>
    intro i hi
    have c1 : ¬ (4 : Int32) ≤ nI i := nI_ge (b := 4) (by omega) (by decide)
    have e : (nI i).toNatClampNeg = i := nI_clamp (by omega)
    have v : vp_in (nI i) 4 := vp_in_nI (by omega) (by omega)
    refine br_f c1 (wy_unwatch (by omega) ⟨v, ?_⟩)
    rw [e, ws_zs, ws_zs, ws_zs, ws_zs, ws_zs]
    refine nm_e (wy_forget (by omega) ?_)
    rw [ws_zLs, ws_zLs]
    exact nm_r (nI_1 i) (ih (i + 1) (by omega))
theorem wy_c66' {post : Int32 → SY → Prop} {x : Int32} (h : post x (tm, tn, kd, nu, sz, iy, sy, dl, ws_z st 4, wk, wo, we, wt, ws_z wd 4, ws_z d 4, qo, qk, qa, qb, ws_z q 4, rs, ws_z rc 4, ws_zL te 10000000006 4, ws_zL tk 10000000006 4)) : ∃ n, wY_crash_66 post x n 0 tm tn kd nu sz iy sy dl st wk wo we wt wd d qo qk qa qb q rs rc te tk := by
  have g := wy_c66 h 4 0 rfl
  rw [ws_z0, ws_z0, ws_z0, ws_z0, ws_z0, ws_zL0, ws_zL0] at g
  exact ⟨5, g⟩
theorem lk_crash : ∀ m i, i + m = 8 → ∀ (kd nu sz dl ix sx iy sy : Nat → Int32) (x : Int32), st_R kd sz dl ix sx iy sy →
    ∃ (x' : Int32) (kd' nu' sz' dl' ix' sx' iy' sy' : Nat → Int32), st_R kd' sz' dl' ix' sx' iy' sy' ∧
    (∀ post : Int32 → SX → Prop, wpX_resetClients (fun u => post x' u) (tm, tn, kd', nu', sz', dl', ix', sx', st, wk, wo, we, wt, te, tk, w, q, qo, qk, qa, qb, rc, rs) → wX_crash_4 post (m + 1) x (nI i) tm tn kd nu sz dl ix sx st wk wo we wt te tk w q qo qk qa qb rc rs) ∧
    (∀ post : Int32 → SY → Prop, (∃ n, wY_crash_66 post x' n 0 tm tn kd' nu' sz' iy' sy' dl' st wk wo we wt wd d qo qk qa qb q rs rc te tk) → wY_crash_4 post (m + 1) x (nI i) tm tn kd nu sz iy sy dl st wk wo we wt wd d qo qk qa qb q rs rc te tk) := by
  intro m
  induction m with
  | zero =>
    intro i hi kd nu sz dl ix sx iy sy x hS
    obtain rfl : i = 8 := by omega
    exact ⟨x, kd, nu, sz, dl, ix, sx, iy, sy, hS, fun post h => br_t (nI_le (a := 8) (b := 8) (by omega) (by omega)) h, fun post h => br_t (nI_le (a := 8) (b := 8) (by omega) (by omega)) h⟩
  | succ m ih =>
    intro i hi kd nu sz dl ix sx iy sy x hS
    have c1 : ¬ (8 : Int32) ≤ nI i := nI_ge (b := 8) (by omega) (by decide)
    have e : (nI i).toNatClampNeg = i := nI_clamp (by omega)
    have v : vp_in (nI i) 16 := vp_in_nI (by omega) (by omega)
    have s32 : ∀ (kd nu sz dl ix sx iy sy : Nat → Int32), st_R kd sz dl ix sx iy sy →
        ∃ (x' : Int32) (kd' nu' sz' dl' ix' sx' iy' sy' : Nat → Int32), st_R kd' sz' dl' ix' sx' iy' sy' ∧
        (∀ post : Int32 → SX → Prop, wpX_resetClients (fun u => post x' u) (tm, tn, kd', nu', sz', dl', ix', sx', st, wk, wo, we, wt, te, tk, w, q, qo, qk, qa, qb, rc, rs) → wX_crash_32 post (wX_crash_4 post (m + 1)) x (nI i) tm tn kd nu sz dl ix sx st wk wo we wt te tk w q qo qk qa qb rc rs) ∧
        (∀ post : Int32 → SY → Prop, (∃ n, wY_crash_66 post x' n 0 tm tn kd' nu' sz' iy' sy' dl' st wk wo we wt wd d qo qk qa qb q rs rc te tk) → wY_crash_46 post (wY_crash_4 post (m + 1)) x (nI i) tm tn kd nu sz iy sy dl st wk wo we wt wd d qo qk qa qb q rs rc te tk) := by
      intro kd nu sz dl ix sx iy sy hS
      by_cases y : kd i = 0
      · obtain ⟨x', kd', nu', sz', dl', ix', sx', iy', sy', r1, rx, ry⟩ := ih (i + 1) (by omega) kd nu sz dl ix sx iy sy x hS
        refine ⟨x', kd', nu', sz', dl', ix', sx', iy', sy', r1, fun post h => ?_, fun post h => ?_⟩
        · unfold wX_crash_32
          rw [e]
          exact ⟨v, br_t y (nm_r (nI_1 i) (rx post h))⟩
        · unfold wY_crash_46
          rw [e]
          exact ⟨v, br_t (by rw [y]; decide) (nm_r (nI_1 i) (ry post h))⟩
      · obtain ⟨x', kd', nu', sz', dl', ix', sx', iy', sy', r1, rx, ry⟩ := ih (i + 1) (by omega) kd nu sz dl ix sx iy sy (x + 1) hS
        refine ⟨x', kd', nu', sz', dl', ix', sx', iy', sy', r1, fun post h => ?_, fun post h => ?_⟩
        · unfold wX_crash_32
          rw [e]
          exact ⟨v, br_f y (nm_e (nm_r (nI_1 i) (rx post h)))⟩
        · unfold wY_crash_46
          rw [e]
          refine ⟨v, br_f ?_ (nm_e (nm_r (nI_1 i) (ry post h)))⟩
          obtain ⟨n, _, _, hc⟩ := st_n hS (k := i) (by omega)
          rcases hc with c | c | c | c
          · exact absurd c.1 y
          · rw [c.1]; decide
          · rw [c.1]; decide
          · rw [c.1]; decide
    have S1 := st_copy hS (s := 8 + i) (t := i) (by omega)
    by_cases z : dl (8 + i) = 0 ∨ tm < dl (8 + i)
    · obtain ⟨x', kd', nu', sz', dl', ix', sx', iy', sy', r1, rx, ry⟩ := s32 _ (upd nu i (nu (8 + i))) _ _ _ _ _ _ S1
      refine ⟨x', kd', nu', sz', dl', ix', sx', iy', sy', r1, fun post h => ?_, fun post h => ?_⟩
      · refine br_f c1 ?_
        rw [nu_8p]
        exact wx_cpy (by omega) (by omega) (by omega) (xe_f (by omega) (by rw [pk_us]; exact z) (br_t rfl (rx post h)))
      · refine br_f c1 ?_
        rw [nu_8p]
        refine wy_cpy (by omega) (by omega) (by omega) ⟨v, ?_⟩
        rw [e, pk_us]
        by_cases z0 : dl (8 + i) ≤ 0
        · exact br_t z0 (ry post h)
        · exact br_f z0 ⟨v, br_t (z.resolve_left (fun y => z0 (by rw [y]; decide))) (ry post h)⟩
    · have z0 : dl (8 + i) ≠ 0 := fun y => z (Or.inl y)
      have z1 : ¬ tm < dl (8 + i) := fun y => z (Or.inr y)
      obtain ⟨x', kd', nu', sz', dl', ix', sx', iy', sy', r1, rx, ry⟩ := s32 _ (upd (upd nu i (nu (8 + i))) i 0) _ _ _ _ _ _ (st_clear S1 i)
      refine ⟨x', kd', nu', sz', dl', ix', sx', iy', sy', r1, fun post h => ?_, fun post h => ?_⟩
      · refine br_f c1 ?_
        rw [nu_8p]
        exact wx_cpy (by omega) (by omega) (by omega) (xe_t (by omega) (by rw [pk_us]; exact z0) (by rw [pk_us]; exact z1) (br_f (by decide) (wx_clear (by omega) (rx post h))))
      · refine br_f c1 ?_
        rw [nu_8p]
        refine wy_cpy (by omega) (by omega) (by omega) ⟨v, ?_⟩
        rw [e, pk_us]
        exact br_f (fun y => z0 (Int32.le_antisymm y (hS (8 + i) (by omega)).1)) ⟨v, br_f z1 (wy_clear (by omega) (ry post h))⟩
theorem i_vc_crash {k : Nat} {u : SX} {v : SY} (I : i_Rel k u v) (hk : k + 6 ≤ 3072) : wpX_crash (fun r u' => wpY_crash (fun r' v' => r' = r ∧ i_Rel (k + 6) u' v') v) u := by
  obtain ⟨tm, tn, kd, nu, sz, dl, ix, sx, iy, sy, st, wk, wo, we, w, wd, d, q, qo, qk, qa, qb, rc, wt, te, tk, rs, rfl, rfl, hT, hS, hW, hC⟩ := I
  obtain ⟨x', kd', nu', sz', dl', ix', sx', iy', sy', r1, rx, ry⟩ := lk_crash (tm := tm) (tn := tn) (st := st) (wk := wk) (wo := wo) (we := we) (wt := wt) (te := te) (tk := tk) (w := w) (wd := wd) (d := d) (q := q) (qo := qo) (qk := qk) (qa := qa) (qb := qb) (rc := rc) (rs := rs) 8 0 rfl kd nu sz dl ix sx iy sy 0 hS
  have R : i_Rel (k + 6) (tm, tn, kd', nu', sz', dl', ix', sx', ws_z st 4, wk, wo, we, wt, ws_zL te 10000000006 4, ws_zL tk 10000000006 4, ws_z w (8 * 4), ws_z q 4, qo, qk, qa, qb, ws_z rc 4, rs) (tm, tn, kd', nu', sz', iy', sy', dl', ws_z st 4, wk, wo, we, wt, ws_z wd 4, ws_z d 4, qo, qk, qa, qb, ws_z q 4, rs, ws_z rc 4, ws_zL te 10000000006 4, ws_zL tk 10000000006 4) := rl_i ⟨hT, r1, wa_zero w wd d, cl_zero (fun c hc => (hC c hc).2.1)⟩
  exact ⟨9, rx _ (wx_reset ⟨9, ry _ (wy_c66' ⟨rfl, R⟩)⟩)⟩
/-! Z: the constructors -/
theorem wy_i173 {post : SY → Prop} (h : post (tm, tn, kd, nu, sz, iy, sy, dl, st, wk, wo, we, wt, wd, d, qo, qk, qa, qb, q, rs, rc, ws_zL te 10000000006 4, ws_zL tk 10000000006 4)) : ∀ m i, i + m = 4 → wY_init_173 post (m + 1) (nI i) tm tn kd nu sz iy sy dl st wk wo we wt wd d qo qk qa qb q rs rc (ws_zL te 10000000006 i) (ws_zL tk 10000000006 i) := by
  intro m
  induction m with
  | zero =>
    intro i hi
    obtain rfl : i = 4 := by omega
    exact br_t (nI_le (a := 4) (b := 4) (by omega) (by omega)) h
  | succ m ih =>
    intro i hi
    have c1 : ¬ (4 : Int32) ≤ nI i := nI_ge (b := 4) (by omega) (by decide)
    refine br_f c1 (wy_forget (by omega) ?_)
    rw [ws_zLs, ws_zLs]
    exact nm_r (nI_1 i) (ih (i + 1) (by omega))
theorem ws_z00 (i : Nat) : ws_z (fun _ => 0) i = fun _ => 0 := by
  funext j
  unfold ws_z
  by_cases z : j < i
  · rw [if_pos z]
  · rw [if_neg z]
theorem i_vc0 : wpX_init (fun u => wpY_init (fun v => i_Rel 0 u v)) := by
  unfold wpX_init
  refine wx_reset ?_
  show ∃ n, _
  have hS : st_R (fun _ => 0) (fun _ => 0) (fun _ => 0) (fun _ => 0) (fun _ => 0) (fun _ => 0) (fun _ => 0) := fun s hs => ⟨show (0 : Int32) ≤ 0 by decide, 0, by omega, rfl, Or.inl ⟨rfl, rfl⟩⟩
  have hW : wa_R (fun _ => 0) (fun _ => 0) (fun _ => 0) := by
    have g := wa_zero (fun _ => 0) (fun _ => 0) (fun _ => 0)
    rw [ws_z00, ws_z00] at g
    exact g
  have hC : cl_R (fun _ => 0) (fun _ => 0) (fun _ => 0) (fun _ => 0) (fun _ => 0) (fun _ => 0) (fun _ => 0) := fun c hc => ⟨Or.inl rfl, show (0 : Int32) ≤ 0 by decide, ⟨0, by omega, rfl⟩, 0, by omega, rfl, fun _ => rfl, fun i hi => absurd hi (by omega)⟩
  rw [ws_z00, ws_z00]
  have g := wy_i173 (post := fun v => i_Rel 0 (0, 0, (fun _ => 0), (fun _ => 0), (fun _ => 0), (fun _ => 0), (fun _ => 0), (fun _ => 0), (fun _ => 0), (fun _ => 0), (fun _ => 0), (fun _ => 0), (fun _ => 0), ws_zL (fun _ => 0) 10000000006 4, ws_zL (fun _ => 0) 10000000006 4, (fun _ => 0), (fun _ => 0), (fun _ => 0), (fun _ => 0), (fun _ => 0), (fun _ => 0), (fun _ => 0), (fun _ => 0)) v) (te := fun _ => 0) (tk := fun _ => 0) (rl_i ⟨⟨0, by omega, rfl⟩, hS, hW, hC⟩) 4 0 rfl
  rw [ws_zL0] at g
  exact ⟨5, g⟩
end TM
end
section
section RD
variable {tm : Int32} {tn : Int64} {kd nu sz dl ix sx iy sy st wk wo we w wd d q qo qk qa qb rc ra : Nat → Int32} {wt te tk tf tg rs : Nat → Int64}
/-! AA: element, member, between -/
theorem i_vc_element {k : Nat} {u : SX} {v : SY} (I : i_Rel k u v) (hk : k + 6 ≤ 3072) (v1 : Int32) (v2 : Int32) : wpX_element (fun r => wpY_element (fun r' => r' = r ∧ i_Rel (k + 6) u v) v v1 v2) u v1 v2 := by
  have I6 := i_up I
  obtain ⟨tm, tn, kd, nu, sz, dl, ix, sx, iy, sy, st, wk, wo, we, w, wd, d, q, qo, qk, qa, qb, rc, wt, te, tk, rs, rfl, rfl, hT, hS, hW, hC⟩ := I
  rcases rl_cs v1 8 (by omega) with hn | ⟨c, hc, rfl⟩
  · unfold wpX_element
    refine xk_f hn (br_t rfl ?_)
    unfold wpY_element
    exact ya_f (n := 8) hn (br_t rfl ⟨rfl, I6⟩)
  · have e : (nI c).toNatClampNeg = c := nI_clamp (by omega)
    have i : vp_in (nI c) 16 := vp_in_nI (by omega) (by omega)
    obtain ⟨n, hn12, hz, hq⟩ := st_n hS (k := c) (by omega)
    unfold wpX_element
    rw [e]
    refine xk_t hc (br_f (by decide) ?_)
    rcases rl_cs v2 n (by omega) with hn | ⟨j, hj, rfl⟩
    · have g : wpY_element (fun r' => r' = 10000000006 ∧ i_Rel (k + 6) (tm, tn, kd, nu, sz, dl, ix, sx, st, wk, wo, we, wt, te, tk, w, q, qo, qk, qa, qb, rc, rs) (tm, tn, kd, nu, sz, iy, sy, dl, st, wk, wo, we, wt, wd, d, qo, qk, qa, qb, q, rs, rc, te, tk)) (tm, tn, kd, nu, sz, iy, sy, dl, st, wk, wo, we, wt, wd, d, qo, qk, qa, qb, q, rs, rc, te, tk) (nI c) v2 := by
        unfold wpY_element
        rw [e]
        refine ya_t (n := 8) hc (by omega) (br_f (by decide) ⟨i, ?_⟩)
        rw [hz]
        exact ya_f hn (br_t rfl ⟨rfl, I6⟩)
      refine br_c (fun _ => g) (fun y => ⟨i, br_f ?_ g⟩)
      rw [hz]
      exact Int32.not_lt.mpr (hn.resolve_left y)
    · have e3 : (nI (12 * c + j)).toNatClampNeg = 12 * c + j := nI_clamp (by omega)
      have v3 : vp_in (nI (12 * c + j)) 192 := vp_in_nI (by omega) (by omega)
      refine br_f (nI_pos (by omega)) ⟨i, ?_⟩
      rw [hz, nu_x12, e3]
      refine br_t (nI_lt hj (by omega)) ⟨v3, ?_⟩
      unfold wpY_element
      rw [e]
      refine ya_t (n := 8) hc (by omega) (br_f (by decide) ⟨i, ?_⟩)
      rw [hz]
      refine ya_t hj (by omega) (br_f (by decide) ⟨i, ?_⟩)
      rcases hq with y | y | ⟨y, _, ys⟩ | ⟨y, _, hR⟩
      · omega
      · omega
      · refine br_t y ?_
        unfold wY_element_48
        rw [nu_y12, e3, ys j hj]
        exact ⟨v3, rfl, I6⟩
      · refine br_f (by rw [y]; decide) ?_
        obtain ⟨p, hp, e1, e2, hpl⟩ := wy_plc (tm := tm) (tn := tn) (kd := kd) (nu := nu) (dl := dl) (st := st) (wk := wk) (wo := wo) (we := we) (wt := wt) (te := te) (tk := tk) (wd := wd) (d := d) (q := q) (qo := qo) (qk := qk) (qa := qa) (qb := qb) (rc := rc) (rs := rs) (by omega) hz hn12 hR hj
        refine hpl _ ?_
        have e4 : (nI (12 * c + p)).toNatClampNeg = 12 * c + p := nI_clamp (by omega)
        have v4 : vp_in (nI (12 * c + p)) 192 := vp_in_nI (by omega) (by omega)
        unfold wY_element_48
        rw [nu_y12, e4, e2]
        exact ⟨v4, rfl, I6⟩
theorem i_vc_member {k : Nat} {u : SX} {v : SY} (I : i_Rel k u v) (hk : k + 6 ≤ 3072) (v1 : Int32) (v2 : Int32) (v3 : Int32) : wpX_member (fun r => wpY_member (fun r' => r' = r ∧ i_Rel (k + 6) u v) v v1 v2 v3) u v1 v2 v3 := by
  have I6 := i_up I
  obtain ⟨tm, tn, kd, nu, sz, dl, ix, sx, iy, sy, st, wk, wo, we, w, wd, d, q, qo, qk, qa, qb, rc, wt, te, tk, rs, rfl, rfl, hT, hS, hW, hC⟩ := I
  rcases rl_cs v1 8 (by omega) with hn | ⟨c, hc, rfl⟩
  · unfold wpX_member
    refine xk_f hn (br_t rfl ?_)
    unfold wpY_member
    exact ya_f (n := 8) hn (br_t rfl (br_t (by decide) ⟨rfl, I6⟩))
  · have e : (nI c).toNatClampNeg = c := nI_clamp (by omega)
    have i : vp_in (nI c) 16 := vp_in_nI (by omega) (by omega)
    obtain ⟨n, hn12, hz, hq⟩ := st_n hS (k := c) (by omega)
    unfold wpX_member
    rw [e]
    refine xk_t hc (br_f (by decide) ⟨i, ?_⟩)
    by_cases z : kd c = 3
    · have hR : ws_R ix sx iy sy (12 * c) n := by
        rcases hq with y | y | y | y
        · rw [z] at y; exact absurd y.1 (by decide)
        · rw [z] at y; exact absurd y.1 (by decide)
        · rw [z] at y; exact absurd y.1 (by decide)
        · exact y.2.2
      have y : ∀ {P : Int64 → Prop} {r : Int32}, ws_F iy (12 * c) n v2 r → wY_member_30 P (nI c) v3 r tm tn kd nu sz iy sy dl st wk wo we wt wd d qo qk qa qb q rs rc te tk → wpY_member P (tm, tn, kd, nu, sz, iy, sy, dl, st, wk, wo, we, wt, wd, d, qo, qk, qa, qb, q, rs, rc, te, tk) (nI c) v2 v3 := by
        intro P r hF h
        unfold wpY_member
        rw [e]
        exact ya_t (n := 8) hc (by omega) (br_f (by decide) ⟨i, br_t z (wy_fnd (by omega) hz hn12 hF h)⟩)
      refine br_t z ?_
      rcases ws_Fxy (m := v2) (Or.inr hR) with ⟨fx, fy, _⟩ | ⟨p, p', hp, hp', fx, fy, e1, e2, em, _⟩
      · exact wx_fnd (by omega) hz hn12 fx (br_f (by decide) (y fy (br_t (by decide) ⟨rfl, I6⟩)))
      · have e3 : (nI (12 * c + p)).toNatClampNeg = 12 * c + p := nI_clamp (by omega)
        have x3 : vp_in (nI (12 * c + p)) 192 := vp_in_nI (by omega) (by omega)
        have e4 : (nI (12 * c + p')).toNatClampNeg = 12 * c + p' := nI_clamp (by omega)
        have x4 : vp_in (nI (12 * c + p')) 192 := vp_in_nI (by omega) (by omega)
        refine wx_fnd (by omega) hz hn12 fx (br_t (nI_pos' (by omega)) ?_)
        rw [nu_x12, e3]
        by_cases z0 : v3 = 0
        · subst z0
          refine br_t rfl ⟨x3, y fy (br_f (nI_pos (by omega)) (ya_t (j := 0) (n := 2) (by omega) (by omega) (br_f (by decide) (br_t rfl ?_))))⟩
          rw [nu_y12, e4, e1]
          exact ⟨x4, rfl, I6⟩
        · by_cases z1 : v3 = 1
          · subst z1
            refine br_f (by decide) (br_t rfl (y fy (br_f (nI_pos (by omega)) (ya_t (j := 1) (n := 2) (by omega) (by omega) (br_f (by decide) (br_f (by decide) (wy_rnk (by omega) hz hn12 (by omega) ⟨?_, I6⟩)))))))
            rw [show ws_c (wy_P iy sy (12 * c) p') n = p from ws_rkY hR hp e1 e2]
          · refine br_f z0 (br_f z1 (y fy (br_f (nI_pos (by omega)) (ya_f (n := 2) ?_ (br_t rfl ⟨rfl, I6⟩)))))
            rcases rl_cs v3 2 (by omega) with y | ⟨j, hj, rfl⟩
            · exact y
            · have cs : j = 0 ∨ j = 1 := by omega
              rcases cs with rfl | rfl
              · exact absurd rfl z0
              · exact absurd rfl z1
    · refine br_f z ?_
      unfold wpY_member
      rw [e]
      exact ya_t (n := 8) hc (by omega) (br_f (by decide) ⟨i, br_f z (br_t (by decide) ⟨rfl, I6⟩)⟩)
def bw_P (sc : Nat → Int32) (b : Nat) (lo hi : Int32) : Nat → Bool := fun j => decide (¬ sc (b + j) < lo ∧ ¬ hi < sc (b + j))
theorem bw_y {sc : Nat → Int32} {b j : Nat} {lo hi : Int32} (h1 : ¬ sc (b + j) < lo) (h2 : ¬ hi < sc (b + j)) : ws_c (bw_P sc b lo hi) (j + 1) = ws_c (bw_P sc b lo hi) j + 1 := by
  show ws_c _ j + (if decide (¬ sc (b + j) < lo ∧ ¬ hi < sc (b + j)) = true then 1 else 0) = _
  rw [if_pos (decide_eq_true ⟨h1, h2⟩)]
theorem bw_n {sc : Nat → Int32} {b j : Nat} {lo hi : Int32} (h : ¬ (¬ sc (b + j) < lo ∧ ¬ hi < sc (b + j))) : ws_c (bw_P sc b lo hi) (j + 1) = ws_c (bw_P sc b lo hi) j := by
  show ws_c _ j + (if decide (¬ sc (b + j) < lo ∧ ¬ hi < sc (b + j)) = true then 1 else 0) = _
  rw [if_neg (fun y => h (of_decide_eq_true y)), Nat.add_zero]
theorem wx_btw {post : Int32 → Prop} {c n : Nat} {lo hi : Int32} (hc : c < 8) (hn : n ≤ 12) (h : post (nI (ws_c (bw_P sx (12 * c) lo hi) n))) : ∀ m i, i + m = n → wX_between_33 post (nI c) lo hi (nI n) tm tn kd nu sz dl ix sx st wk wo we wt te tk w q qo qk qa qb rc rs (m + 1) (nI (ws_c (bw_P sx (12 * c) lo hi) i)) (nI i) := by
  intro m
  induction m with
  | zero =>
    intro i hi
    obtain rfl : i = n := by omega
    exact br_t (nI_le (by omega) (by omega)) h
  | succ m ih =>
    intro i hi2
    have c1 : ¬ nI n ≤ nI i := nI_ge (by omega) (by omega)
    have e2 : (nI (12 * c + i)).toNatClampNeg = 12 * c + i := nI_clamp (by omega)
    have v : vp_in (nI (12 * c + i)) 192 := vp_in_nI (by omega) (by omega)
    have g := ih (i + 1) (by omega)
    refine br_f c1 ?_
    rw [nu_x12, e2]
    refine ⟨v, nm_e ?_⟩
    by_cases a : sx (12 * c + i) < lo
    · rw [bw_n (fun y => y.1 a)] at g
      exact br_t a (nm_r (nI_1 i) g)
    · refine br_f a ?_
      by_cases b : hi < sx (12 * c + i)
      · rw [bw_n (fun y => y.2 b)] at g
        exact br_t b (nm_r (nI_1 i) g)
      · rw [bw_y a b] at g
        exact br_f b (nm_r (nI_1 _) (nm_r (nI_1 i) g))
theorem wy_btw {post : Int32 → Prop} {c n : Nat} {lo hi : Int32} (hc : c < 8) (hz : sz c = nI n) (hn : n ≤ 12) (h : post (nI (ws_c (bw_P sy (12 * c) lo hi) n))) : ∀ m i, i + m = n → wY_between_31 post (nI c) lo hi tm tn kd nu sz iy sy dl st wk wo we wt wd d qo qk qa qb q rs rc te tk (m + 1) (nI (ws_c (bw_P sy (12 * c) lo hi) i)) (nI (12 * c + i)) := by
  have ek : (nI c).toNatClampNeg = c := nI_clamp (by omega)
  have vk : vp_in (nI c) 16 := vp_in_nI (by omega) (by omega)
  intro m
  induction m with
  | zero =>
    intro i hi
    obtain rfl : i = n := by omega
    unfold wY_between_31
    rw [ek, hz, nu_y12]
    exact ⟨vk, br_t (nI_le (by omega) (by omega)) h⟩
  | succ m ih =>
    intro i hi2
    have c1 : ¬ nI (12 * c + n) ≤ nI (12 * c + i) := nI_ge (by omega) (by omega)
    have e2 : (nI (12 * c + i)).toNatClampNeg = 12 * c + i := nI_clamp (by omega)
    have v : vp_in (nI (12 * c + i)) 192 := vp_in_nI (by omega) (by omega)
    have g := ih (i + 1) (by omega)
    unfold wY_between_31
    rw [ek, hz, nu_y12, e2]
    refine ⟨vk, br_f c1 ⟨v, ?_⟩⟩
    by_cases a : sy (12 * c + i) < lo
    · rw [bw_n (fun y => y.1 a)] at g
      exact br_t a (nm_r (nI_1 (12 * c + i)) g)
    · refine br_f a ⟨v, ?_⟩
      by_cases b : hi < sy (12 * c + i)
      · rw [bw_n (fun y => y.2 b)] at g
        exact br_t b (nm_r (nI_1 (12 * c + i)) g)
      · rw [bw_y a b] at g
        exact br_f b (nm_r (nI_1 _) (nm_r (nI_1 (12 * c + i)) g))
theorem i_vc_between {k : Nat} {u : SX} {v : SY} (I : i_Rel k u v) (hk : k + 6 ≤ 3072) (v1 : Int32) (v2 : Int32) (v3 : Int32) : wpX_between (fun r => wpY_between (fun r' => r' = r ∧ i_Rel (k + 6) u v) v v1 v2 v3) u v1 v2 v3 := by
  have I6 := i_up I
  obtain ⟨tm, tn, kd, nu, sz, dl, ix, sx, iy, sy, st, wk, wo, we, w, wd, d, q, qo, qk, qa, qb, rc, wt, te, tk, rs, rfl, rfl, hT, hS, hW, hC⟩ := I
  rcases rl_cs v1 8 (by omega) with hn | ⟨c, hc, rfl⟩
  · unfold wpX_between
    refine xk_f hn (br_t rfl ?_)
    unfold wpY_between
    exact ya_f (n := 8) hn (br_t rfl ⟨rfl, I6⟩)
  · have e : (nI c).toNatClampNeg = c := nI_clamp (by omega)
    have i : vp_in (nI c) 16 := vp_in_nI (by omega) (by omega)
    obtain ⟨n, hn12, hz, hq⟩ := st_n hS (k := c) (by omega)
    unfold wpX_between
    rw [e]
    refine xk_t hc (br_f (by decide) ⟨i, ?_⟩)
    by_cases z : kd c = 3
    · have hR : ws_R ix sx iy sy (12 * c) n := by
        rcases hq with y | y | y | y
        · rw [z] at y; exact absurd y.1 (by decide)
        · rw [z] at y; exact absurd y.1 (by decide)
        · rw [z] at y; exact absurd y.1 (by decide)
        · exact y.2.2
      have ec : ws_c (bw_P sx (12 * c) v2 v3) n = ws_c (bw_P sy (12 * c) v2 v3) n := by
        have g := hR.2.2.countP_eq (fun r => decide (¬ r.1 < v2 ∧ ¬ v3 < r.1))
        rw [ws_L_ct, ws_L_ct] at g
        exact g
      refine br_t z ⟨i, ?_⟩
      rw [hz]
      refine nm_e ⟨n + 1, wx_btw hc hn12 ?_ n 0 (by omega)⟩
      unfold wpY_between
      rw [e]
      refine ya_t (n := 8) hc (by omega) (br_f (by decide) ⟨i, br_t z (nm_r (nu_m12 c) ⟨n + 1, wy_btw hc hz hn12 ⟨?_, I6⟩ n 0 (by omega)⟩)⟩)
      rw [ec]
    · refine br_f z ?_
      unfold wpY_between
      rw [e]
      exact ya_t (n := 8) hc (by omega) (br_f (by decide) ⟨i, br_f z ⟨rfl, I6⟩⟩)
end RD
end
section
section CM
variable {tm : Int32} {tn : Int64} {kd nu sz dl ix sx iy sy st wk wo we w wd d q qo qk qa qb rc ra : Nat → Int32} {wt te tk tf tg rs : Nat → Int64}
/-! BB: command -/
theorem lk_fit {o key a : Int32} : ∃ r : Int32, (r = 0 ∨ (r = 1 ∧ cm_R o key a)) ∧ (∀ post : Int32 → Prop, post r → wpX_isCommand post o key a) ∧ (∀ post : Int32 → Prop, post r → wpY_fits post (tm, tn, kd, nu, sz, iy, sy, dl, st, wk, wo, we, wt, wd, d, qo, qk, qa, qb, q, rs, rc, te, tk) o key a) := by
  rcases rl_cs o 12 (by omega) with hn | ⟨o', ho, rfl⟩
  · refine ⟨0, Or.inl rfl, fun post h => br_c (fun _ => h) (fun y => br_t ?_ h), fun post h => ?_⟩
    · have h4 := hn.resolve_left y
      rw [Int32.le_iff_toInt_le, nI_toInt (by omega)] at h4
      rw [Int32.lt_iff_toInt_lt, show (11 : Int32).toInt = 11 from by decide]
      omega
    · unfold wpY_fits
      exact ya_f (n := 12) hn (br_t rfl h)
  · rcases rl_cs key 8 (by omega) with hn | ⟨k, hk, rfl⟩
    · refine ⟨0, Or.inl rfl, fun post h => br_f (nI_pos (by omega)) (br_f (nI_nlt (a := 11) (b := o') (by omega) (by omega)) (xk_f hn (br_t rfl h))), fun post h => ?_⟩
      unfold wpY_fits
      exact ya_t (n := 12) ho (by omega) (br_f (by decide) (ya_f (n := 8) hn (br_t rfl h)))
    · have cs : o' = 0 ∨ o' = 1 ∨ o' = 2 ∨ o' = 3 ∨ o' = 4 ∨ o' = 5 ∨ o' = 6 ∨ o' = 7 ∨ o' = 8 ∨ o' = 9 ∨ o' = 10 ∨ o' = 11 := by omega
      rcases cs with rfl | rfl | rfl | rfl | rfl | rfl | rfl | rfl | rfl | rfl | rfl | rfl
      · refine ⟨1, Or.inr ⟨rfl, 0, k, by omega, rfl, hk, rfl, fun y => absurd y (by decide), fun y => absurd y (by decide)⟩, fun post h => br_f (by decide) (br_f (by decide) (xk_t hk (br_f (by decide) (br_t (by decide) (h))))), fun post h => ?_⟩
        unfold wpY_fits
        exact ya_t (j := 0) (n := 12) (by omega) (by omega) (br_f (by decide) (ya_t (n := 8) hk (by omega) (br_f (by decide) (br_t (by decide) (br_f (by decide) (br_f (by decide) (h)))))))
      · refine ⟨1, Or.inr ⟨rfl, 1, k, by omega, rfl, hk, rfl, fun y => absurd y (by decide), fun y => absurd y (by decide)⟩, fun post h => br_f (by decide) (br_f (by decide) (xk_t hk (br_f (by decide) (br_t (by decide) (h))))), fun post h => ?_⟩
        unfold wpY_fits
        exact ya_t (j := 1) (n := 12) (by omega) (by omega) (br_f (by decide) (ya_t (n := 8) hk (by omega) (br_f (by decide) (br_t (by decide) (br_f (by decide) (br_f (by decide) (h)))))))
      · refine ⟨1, Or.inr ⟨rfl, 2, k, by omega, rfl, hk, rfl, fun y => absurd y (by decide), fun y => absurd y (by decide)⟩, fun post h => br_f (by decide) (br_f (by decide) (xk_t hk (br_f (by decide) (br_t (by decide) (h))))), fun post h => ?_⟩
        unfold wpY_fits
        exact ya_t (j := 2) (n := 12) (by omega) (by omega) (br_f (by decide) (ya_t (n := 8) hk (by omega) (br_f (by decide) (br_t (by decide) (br_f (by decide) (br_f (by decide) (h)))))))
      · rcases rl_cs a 101 (by omega) with hn | ⟨a', ha, rfl⟩
        · refine ⟨0, Or.inl rfl, fun post h => br_f (by decide) (br_f (by decide) (xk_t hk (br_f (by decide) (br_f (by decide) (br_f (by decide) (br_t (by decide) (br_c (fun _ => h) (fun y => br_t ?_ h)))))))), fun post h => ?_⟩
          · have h4 := hn.resolve_left y
            rw [Int32.le_iff_toInt_le, nI_toInt (by omega)] at h4
            rw [Int32.lt_iff_toInt_lt, show (100 : Int32).toInt = 100 from by decide]
            omega
          · unfold wpY_fits
            exact ya_t (j := 3) (n := 12) (by omega) (by omega) (br_f (by decide) (ya_t (n := 8) hk (by omega) (br_f (by decide) (br_t (by decide) (br_f (by decide) (br_t (by decide) (ya_f (n := 101) hn (br_t rfl h))))))))
        · refine ⟨1, Or.inr ⟨rfl, 3, k, by omega, rfl, hk, rfl, fun _ => ⟨a', by omega, rfl⟩, fun y => absurd y (by decide)⟩, fun post h => br_f (by decide) (br_f (by decide) (xk_t hk (br_f (by decide) (br_f (by decide) (br_f (by decide) (br_t (by decide) (br_f (nI_pos (by omega)) (br_f (nI_nlt (a := 100) (b := a') (by omega) (by omega)) h)))))))), fun post h => ?_⟩
          unfold wpY_fits
          exact ya_t (j := 3) (n := 12) (by omega) (by omega) (br_f (by decide) (ya_t (n := 8) hk (by omega) (br_f (by decide) (br_t (by decide) (br_f (by decide) (br_t (by decide) (ya_t (n := 101) ha (by omega) (br_f (by decide) h))))))))
      · refine ⟨1, Or.inr ⟨rfl, 4, k, by omega, rfl, hk, rfl, fun y => absurd y (by decide), fun y => absurd y (by decide)⟩, fun post h => br_f (by decide) (br_f (by decide) (xk_t hk (br_f (by decide) (br_f (by decide) (br_f (by decide) (br_f (by decide) (br_t (by decide) (h)))))))), fun post h => ?_⟩
        unfold wpY_fits
        exact ya_t (j := 4) (n := 12) (by omega) (by omega) (br_f (by decide) (ya_t (n := 8) hk (by omega) (br_f (by decide) (br_t (by decide) (br_f (by decide) (br_f (by decide) (h)))))))
      · refine ⟨1, Or.inr ⟨rfl, 5, k, by omega, rfl, hk, rfl, fun y => absurd y (by decide), fun y => absurd y (by decide)⟩, fun post h => br_f (by decide) (br_f (by decide) (xk_t hk (br_f (by decide) (br_f (by decide) (br_f (by decide) (br_f (by decide) (br_f (by decide) (br_t (by decide) (h))))))))), fun post h => ?_⟩
        unfold wpY_fits
        exact ya_t (j := 5) (n := 12) (by omega) (by omega) (br_f (by decide) (ya_t (n := 8) hk (by omega) (br_f (by decide) (br_t (by decide) (br_f (by decide) (br_f (by decide) (h)))))))
      · refine ⟨1, Or.inr ⟨rfl, 6, k, by omega, rfl, hk, rfl, fun y => absurd y (by decide), fun y => absurd y (by decide)⟩, fun post h => br_f (by decide) (br_f (by decide) (xk_t hk (br_f (by decide) (br_f (by decide) (br_f (by decide) (br_f (by decide) (br_f (by decide) (br_f (by decide) (br_t (by decide) (h)))))))))), fun post h => ?_⟩
        unfold wpY_fits
        exact ya_t (j := 6) (n := 12) (by omega) (by omega) (br_f (by decide) (ya_t (n := 8) hk (by omega) (br_f (by decide) (br_t (by decide) (br_f (by decide) (br_f (by decide) (h)))))))
      · rcases rl_cs a 16 (by omega) with hn | ⟨a', ha, rfl⟩
        · refine ⟨0, Or.inl rfl, fun post h => br_f (by decide) (br_f (by decide) (xk_t hk (br_f (by decide) (br_f (by decide) (br_f (by decide) (br_f (by decide) (br_f (by decide) (br_f (by decide) (br_f (by decide) (br_t (by decide) (br_c (fun _ => h) (fun y => br_t (hn.resolve_left y) h)))))))))))), fun post h => ?_⟩
          unfold wpY_fits
          exact ya_t (j := 7) (n := 12) (by omega) (by omega) (br_f (by decide) (ya_t (n := 8) hk (by omega) (br_f (by decide) (br_f (by decide) (br_f (by decide) (ya_f (n := 16) hn ⟨rfl, h⟩))))))
        · refine ⟨1, Or.inr ⟨rfl, 7, k, by omega, rfl, hk, rfl, fun y => absurd y (by decide), fun y => absurd y (by decide)⟩, fun post h => br_f (by decide) (br_f (by decide) (xk_t hk (br_f (by decide) (br_f (by decide) (br_f (by decide) (br_f (by decide) (br_f (by decide) (br_f (by decide) (br_f (by decide) (br_t (by decide) (br_f (nI_pos (by omega)) (br_f (nI_ge (b := 16) ha (by omega)) h)))))))))))), fun post h => ?_⟩
          unfold wpY_fits
          exact ya_t (j := 7) (n := 12) (by omega) (by omega) (br_f (by decide) (ya_t (n := 8) hk (by omega) (br_f (by decide) (br_f (by decide) (br_f (by decide) (ya_t (n := 16) ha (by omega) ⟨rfl, h⟩))))))
      · rcases rl_cs a 16 (by omega) with hn | ⟨a', ha, rfl⟩
        · refine ⟨0, Or.inl rfl, fun post h => br_f (by decide) (br_f (by decide) (xk_t hk (br_f (by decide) (br_f (by decide) (br_f (by decide) (br_f (by decide) (br_f (by decide) (br_f (by decide) (br_f (by decide) (br_f (by decide) (br_t (by decide) (br_c (fun _ => h) (fun y => br_t (hn.resolve_left y) h))))))))))))), fun post h => ?_⟩
          unfold wpY_fits
          exact ya_t (j := 8) (n := 12) (by omega) (by omega) (br_f (by decide) (ya_t (n := 8) hk (by omega) (br_f (by decide) (br_f (by decide) (br_f (by decide) (ya_f (n := 16) hn ⟨rfl, h⟩))))))
        · refine ⟨1, Or.inr ⟨rfl, 8, k, by omega, rfl, hk, rfl, fun y => absurd y (by decide), fun y => absurd y (by decide)⟩, fun post h => br_f (by decide) (br_f (by decide) (xk_t hk (br_f (by decide) (br_f (by decide) (br_f (by decide) (br_f (by decide) (br_f (by decide) (br_f (by decide) (br_f (by decide) (br_f (by decide) (br_t (by decide) (br_f (nI_pos (by omega)) (br_f (nI_ge (b := 16) ha (by omega)) h))))))))))))), fun post h => ?_⟩
          unfold wpY_fits
          exact ya_t (j := 8) (n := 12) (by omega) (by omega) (br_f (by decide) (ya_t (n := 8) hk (by omega) (br_f (by decide) (br_f (by decide) (br_f (by decide) (ya_t (n := 16) ha (by omega) ⟨rfl, h⟩))))))
      · rcases rl_cs a 16 (by omega) with hn | ⟨a', ha, rfl⟩
        · refine ⟨0, Or.inl rfl, fun post h => br_f (by decide) (br_f (by decide) (xk_t hk (br_f (by decide) (br_f (by decide) (br_f (by decide) (br_f (by decide) (br_f (by decide) (br_f (by decide) (br_f (by decide) (br_f (by decide) (br_f (by decide) (br_t (by decide) (br_c (fun _ => h) (fun y => br_t (hn.resolve_left y) h)))))))))))))), fun post h => ?_⟩
          unfold wpY_fits
          exact ya_t (j := 9) (n := 12) (by omega) (by omega) (br_f (by decide) (ya_t (n := 8) hk (by omega) (br_f (by decide) (br_f (by decide) (br_f (by decide) (ya_f (n := 16) hn ⟨rfl, h⟩))))))
        · refine ⟨1, Or.inr ⟨rfl, 9, k, by omega, rfl, hk, rfl, fun y => absurd y (by decide), fun y => absurd y (by decide)⟩, fun post h => br_f (by decide) (br_f (by decide) (xk_t hk (br_f (by decide) (br_f (by decide) (br_f (by decide) (br_f (by decide) (br_f (by decide) (br_f (by decide) (br_f (by decide) (br_f (by decide) (br_f (by decide) (br_t (by decide) (br_f (nI_pos (by omega)) (br_f (nI_ge (b := 16) ha (by omega)) h)))))))))))))), fun post h => ?_⟩
          unfold wpY_fits
          exact ya_t (j := 9) (n := 12) (by omega) (by omega) (br_f (by decide) (ya_t (n := 8) hk (by omega) (br_f (by decide) (br_f (by decide) (br_f (by decide) (ya_t (n := 16) ha (by omega) ⟨rfl, h⟩))))))
      · refine ⟨1, Or.inr ⟨rfl, 10, k, by omega, rfl, hk, rfl, fun y => absurd y (by decide), fun y => absurd y (by decide)⟩, fun post h => br_f (by decide) (br_f (by decide) (xk_t hk (br_f (by decide) (br_f (by decide) (br_f (by decide) (br_f (by decide) (br_f (by decide) (br_f (by decide) (br_f (by decide) (br_f (by decide) (br_f (by decide) (br_f (by decide) (br_t (by decide) (h)))))))))))))), fun post h => ?_⟩
        unfold wpY_fits
        exact ya_t (j := 10) (n := 12) (by omega) (by omega) (br_f (by decide) (ya_t (n := 8) hk (by omega) (br_f (by decide) (br_f (by decide) (br_t (by decide) (br_f (by decide) (br_f (by decide) (h))))))))
      · rcases rl_cs a 8 (by omega) with hn | ⟨t, ht, rfl⟩
        · refine ⟨0, Or.inl rfl, fun post h => br_f (by decide) (br_f (by decide) (xk_t hk (br_f (by decide) (br_f (by decide) (br_f (by decide) (br_f (by decide) (br_f (by decide) (br_f (by decide) (br_f (by decide) (br_f (by decide) (br_f (by decide) (br_f (by decide) (br_f (by decide) (br_t (by decide) (xk_f hn (br_t rfl h)))))))))))))))), fun post h => ?_⟩
          unfold wpY_fits
          exact ya_t (j := 11) (n := 12) (by omega) (by omega) (br_f (by decide) (ya_t (n := 8) hk (by omega) (br_f (by decide) (br_f (by decide) (br_t (by decide) (br_t (by decide) (ya_f (n := 8) hn (br_t rfl h))))))))
        · by_cases z : t = k
          · refine ⟨0, Or.inl rfl, fun post h => br_f (by decide) (br_f (by decide) (xk_t hk (br_f (by decide) (br_f (by decide) (br_f (by decide) (br_f (by decide) (br_f (by decide) (br_f (by decide) (br_f (by decide) (br_f (by decide) (br_f (by decide) (br_f (by decide) (br_f (by decide) (br_t (by decide) (xk_t ht (br_f (by decide) (br_t (by rw [z]) h))))))))))))))))), fun post h => ?_⟩
            unfold wpY_fits
            exact ya_t (j := 11) (n := 12) (by omega) (by omega) (br_f (by decide) (ya_t (n := 8) hk (by omega) (br_f (by decide) (br_f (by decide) (br_t (by decide) (br_t (by decide) (ya_t (n := 8) ht (by omega) (br_f (by decide) (br_t (by rw [z]) h)))))))))
          · refine ⟨1, Or.inr ⟨rfl, 11, k, by omega, rfl, hk, rfl, fun y => absurd y (by decide), fun _ => ⟨t, ht, z, rfl⟩⟩, fun post h => br_f (by decide) (br_f (by decide) (xk_t hk (br_f (by decide) (br_f (by decide) (br_f (by decide) (br_f (by decide) (br_f (by decide) (br_f (by decide) (br_f (by decide) (br_f (by decide) (br_f (by decide) (br_f (by decide) (br_f (by decide) (br_t (by decide) (xk_t ht (br_f (by decide) (br_f (nu_ne z (by omega) (by omega)) h))))))))))))))))), fun post h => ?_⟩
            unfold wpY_fits
            exact ya_t (j := 11) (n := 12) (by omega) (by omega) (br_f (by decide) (ya_t (n := 8) hk (by omega) (br_f (by decide) (br_f (by decide) (br_t (by decide) (br_t (by decide) (ya_t (n := 8) ht (by omega) (br_f (by decide) (br_f (nu_ne z (by omega) (by omega)) h)))))))))
theorem i_vc_command {k : Nat} {u : SX} {v : SY} (I : i_Rel k u v) (hk : k + 6 ≤ 3072) (v1 : Int32) (v2 : Int32) (v3 : Int32) (v4 : Int32) (v5 : Int32) : wpX_command (fun r u' => wpY_command (fun r' v' => r' = r ∧ i_Rel (k + 6) u' v') v v1 v2 v3 v4 v5) u v1 v2 v3 v4 v5 := by
  have I6 := i_up I
  obtain ⟨tm, tn, kd, nu, sz, dl, ix, sx, iy, sy, st, wk, wo, we, w, wd, d, q, qo, qk, qa, qb, rc, wt, te, tk, rs, rfl, rfl, hT, hS, hW, hC⟩ := I
  rcases rl_cs v1 4 (by omega) with hn | ⟨c, hc, rfl⟩
  · unfold wpX_command
    refine xc_f hn (br_t rfl ?_)
    unfold wpY_command
    exact ya_f (n := 4) hn (br_t rfl ⟨rfl, I6⟩)
  · have e : (nI c).toNatClampNeg = c := nI_clamp (by omega)
    have i : vp_in (nI c) 4 := vp_in_nI hc (by omega)
    obtain ⟨hs, _, _, n, hn8, eq, hq0, _⟩ := hC c hc
    unfold wpX_command
    rw [e]
    refine xc_t hc (br_f (by decide) ⟨i, ?_⟩)
    by_cases s1 : st c = 1
    · refine br_t s1 ?_
      unfold wpY_command
      rw [e]
      exact ya_t (n := 4) hc (by omega) (br_f (by decide) ⟨i, br_t s1 ⟨rfl, I6⟩⟩)
    · refine br_f s1 ?_
      obtain ⟨r, hr, fx, fy⟩ := lk_fit (o := v2) (key := v3) (a := v4) (tm := tm) (tn := tn) (wk := wk) (wo := wo) (we := we) (wt := wt) (q := q) (qo := qo) (qk := qk) (qa := qa) (qb := qb) (rc := rc) (rs := rs) (kd := kd) (nu := nu) (sz := sz) (iy := iy) (sy := sy) (dl := dl) (st := st) (wd := wd) (d := d) (te := te) (tk := tk)
      refine fx _ ?_
      rcases hr with rfl | ⟨rfl, hm⟩
      · refine br_t rfl ?_
        unfold wpY_command
        rw [e]
        exact ya_t (n := 4) hc (by omega) (br_f (by decide) ⟨i, br_f s1 (fy _ (br_t rfl ⟨rfl, I6⟩))⟩)
      · refine br_f (by decide) ⟨i, ?_⟩
        by_cases s2 : st c = 2
        · have s0 : ¬ st c = 0 := by rw [s2]; decide
          refine br_t s2 ?_
          unfold wpX_enqueue
          rw [e]
          show _ ∧ _
          rw [eq]
          by_cases n8 : n < 8
          · have e3 : (nI (8 * c + n)).toNatClampNeg = 8 * c + n := nI_clamp (by omega)
            have x3 : vp_in (nI (8 * c + n)) 32 := vp_in_nI (by omega) (by omega)
            have R : i_Rel (k + 6) (tm, tn, kd, nu, sz, dl, ix, sx, st, wk, wo, we, wt, te, tk, w, upd q c (nI (n + 1)), upd qo (8 * c + n) v2, upd qk (8 * c + n) v3, upd qa (8 * c + n) v4, upd qb (8 * c + n) v5, rc, rs) (tm, tn, kd, nu, sz, iy, sy, dl, st, wk, wo, we, wt, wd, d, upd qo (8 * c + n) v2, upd qk (8 * c + n) v3, upd qa (8 * c + n) v4, upd qb (8 * c + n) v5, upd q c (nI (n + 1)), rs, rc, te, tk) := rl_i ⟨hT, hS, hW, cl_enq hC eq n8 s2 hm⟩
            rw [nu_x8, nI_1]
            refine ⟨i, br_t (nI_lt (b := 8) n8 (by omega)) ⟨i, nm_e ?_⟩⟩
            rw [e3]
            refine ⟨x3, nm_e ⟨x3, nm_e ⟨x3, nm_e ⟨x3, nm_e ⟨i, i, nm_e ?_⟩⟩⟩⟩⟩
            unfold wpY_command
            rw [e]
            refine ya_t (n := 4) hc (by omega) (br_f (by decide) ⟨i, br_f s1 (fy _ (br_f (by decide) ⟨i, br_f s0 ⟨i, ?_⟩⟩))⟩)
            rw [eq, nu_y8, nI_1]
            refine br_f (nu_ne (b := 8) (by omega) (by omega) (by omega)) ⟨i, i, nm_e (nm_e ?_)⟩
            rw [e3]
            exact ⟨x3, nm_e ⟨x3, nm_e ⟨x3, nm_e ⟨x3, nm_e ⟨rfl, R⟩⟩⟩⟩⟩
          · obtain rfl : n = 8 := by omega
            refine ⟨i, br_f (nI_nlt (a := 8) (b := 8) (by omega) (by omega)) ?_⟩
            unfold wpY_command
            rw [e]
            refine ya_t (n := 4) hc (by omega) (br_f (by decide) ⟨i, br_f s1 (fy _ (br_f (by decide) ⟨i, br_f s0 ⟨i, ?_⟩⟩))⟩)
            rw [eq]
            exact br_t rfl ⟨rfl, I6⟩
        · have s0 : st c = 0 := by
            rcases hs with y | y | y
            · exact y
            · exact absurd y s1
            · exact absurd y s2
          obtain ⟨t, ht, et⟩ := hT
          obtain ⟨r, kd1, nu1, sz1, dl1, ix1, sx1, iy1, sy1, w1, d1, a1, a2, ax, ay⟩ := pf_all (b := v5) (tm := tm) (tn := tn) (wk := wk) (wo := wo) (we := we) (wt := wt) (q := q) (qo := qo) (qk := qk) (qa := qa) (qb := qb) (rc := rc) (rs := rs) (ra := rc) (nu := nu) (st := st) (te := te) (tk := tk) hS hW hm et ht
          obtain ⟨st', kd', nu', sz', dl', ix', sx', iy', sy', w', d', te', tk', b1, b2, b3, bx, N, bn⟩ := lk_serve (tm := tm) (tn := tn) (wk := wk) (wo := wo) (we := we) (wt := wt) (q := q) (qo := qo) (qk := qk) (qa := qa) (qb := qb) (rc := rc) (rs := rs) (nu := nu1) (te := te) (tk := tk) hC a1 a2 4 0 rfl (sv_n_le st)
          have R : i_Rel (k + 6) (tm, tn, kd', nu', sz', dl', ix', sx', st', wk, wo, we, wt, te', tk', w', q, qo, qk, qa, qb, rc, rs) (tm, tn, kd', nu', sz', iy', sy', dl', st', wk, wo, we, wt, wd, d', qo, qk, qa, qb, q, rs, rc, te', tk') := rl_i ⟨⟨t, ht, et⟩, b1, b2, b3⟩
          refine br_f s2 (ax _ ⟨5, bx _ ?_⟩)
          unfold wpY_command
          rw [e]
          exact ya_t (n := 4) hc (by omega) (br_f (by decide) ⟨i, br_f s1 (fy _ (br_f (by decide) ⟨i, br_t s0 (ay _ ⟨N, bn _ ⟨rfl, R⟩⟩)⟩))⟩)
/-! CC: listen -/
theorem wx_start {post : SX → Prop} {c : Nat} {p1 p2 l x : Int32} (hc : c < 4) (hx : (l = 0 ∧ x = 0) ∨ (l ≠ 0 ∧ x = tm + l)) (h : post (tm, tn + 1, kd, nu, sz, dl, ix, sx, upd st c 1, upd wk c p1, upd wo c p2, upd we c x, vp_updL wt c tn, vp_updL te c 10000000006, vp_updL tk c 10000000006, w, q, qo, qk, qa, qb, rc, rs)) : wpX_startWaiting post (tm, tn, kd, nu, sz, dl, ix, sx, st, wk, wo, we, wt, te, tk, w, q, qo, qk, qa, qb, rc, rs) (nI c) p1 p2 l := by
  have e : (nI c).toNatClampNeg = c := nI_clamp (by omega)
  have i : vp_in (nI c) 4 := vp_in_nI hc (by omega)
  unfold wpX_startWaiting
  rw [e]
  refine wx_forget hc ⟨i, nm_e ⟨i, nm_e ⟨i, nm_e ?_⟩⟩⟩
  rcases hx with ⟨z, rfl⟩ | ⟨z, rfl⟩
  · exact br_t z ⟨i, nm_r (e' := upd we c 0) (by rw [e]) ⟨i, nm_r (e' := vp_updL wt c tn) (by rw [e]) (nm_e h)⟩⟩
  · exact br_f z ⟨i, nm_r (e' := upd we c (tm + l)) (by rw [e]) ⟨i, nm_r (e' := vp_updL wt c tn) (by rw [e]) (nm_e h)⟩⟩
theorem xn_t {post : Int32 → Prop} {k : Nat} (hk : k < 8) (hx : kd k = 1 ∨ kd k = 3) (h : post 1) : wpX_isNoPlaceToListen post (tm, tn, kd, nu, sz, dl, ix, sx, st, wk, wo, we, wt, te, tk, w, q, qo, qk, qa, qb, rc, rs) (nI k) := by
  have e : (nI k).toNatClampNeg = k := nI_clamp (by omega)
  have i : vp_in (nI k) 16 := vp_in_nI (by omega) (by omega)
  unfold wpX_isNoPlaceToListen
  rw [e]
  refine ⟨i, ?_⟩
  by_cases z : kd k = 1
  · exact br_t z h
  · exact br_f z ⟨i, br_t (hx.resolve_left z) h⟩
theorem xn_f {post : Int32 → Prop} {k : Nat} (hk : k < 8) (h1 : kd k ≠ 1) (h3 : kd k ≠ 3) (h : post 0) : wpX_isNoPlaceToListen post (tm, tn, kd, nu, sz, dl, ix, sx, st, wk, wo, we, wt, te, tk, w, q, qo, qk, qa, qb, rc, rs) (nI k) := by
  have e : (nI k).toNatClampNeg = k := nI_clamp (by omega)
  have i : vp_in (nI k) 16 := vp_in_nI (by omega) (by omega)
  unfold wpX_isNoPlaceToListen
  rw [e]
  exact ⟨i, br_f h1 ⟨i, br_f h3 h⟩⟩
theorem i_vc_listen {k : Nat} {u : SX} {v : SY} (I : i_Rel k u v) (hk : k + 6 ≤ 3072) (v1 : Int32) (v2 : Int32) (v3 : Int32) (v4 : Int32) : wpX_listen (fun r u' => wpY_listen (fun r' v' => r' = r ∧ i_Rel (k + 6) u' v') v v1 v2 v3 v4) u v1 v2 v3 v4 := by
  have I6 := i_up I
  obtain ⟨tm, tn, kd, nu, sz, dl, ix, sx, iy, sy, st, wk, wo, we, w, wd, d, q, qo, qk, qa, qb, rc, wt, te, tk, rs, rfl, rfl, hT, hS, hW, hC⟩ := I
  rcases rl_rd st v1 with hn | ⟨c, hc, rfl, h0⟩
  · unfold wpX_listen
    refine xr_f hn (br_t rfl ?_)
    unfold wpY_listen
    exact yr_f hn (br_t rfl ⟨rfl, I6⟩)
  rcases rl_cs v2 8 (by omega) with hn | ⟨a, ha, rfl⟩
  · unfold wpX_listen
    refine xr_t hc h0 (br_f (by decide) (xk_f hn (br_t rfl ?_)))
    unfold wpY_listen
    exact yr_t hc h0 (br_f (by decide) (ya_f (n := 8) hn (br_t rfl ⟨rfl, I6⟩)))
  rcases rl_cs v3 8 (by omega) with hn | ⟨b, hb, rfl⟩
  · unfold wpX_listen
    refine xr_t hc h0 (br_f (by decide) (xk_t ha (br_f (by decide) (xk_f hn (br_t rfl ?_)))))
    unfold wpY_listen
    exact yr_t hc h0 (br_f (by decide) (ya_t (n := 8) ha (by omega) (br_f (by decide) (ya_f (n := 8) hn (br_t rfl ⟨rfl, I6⟩)))))
  rcases rl_cs v4 51 (by omega) with hn | ⟨l, hl, rfl⟩
  · have g : wpY_listen (fun r' v' => r' = 10000000004 ∧ i_Rel (k + 6) (tm, tn, kd, nu, sz, dl, ix, sx, st, wk, wo, we, wt, te, tk, w, q, qo, qk, qa, qb, rc, rs) v') (tm, tn, kd, nu, sz, iy, sy, dl, st, wk, wo, we, wt, wd, d, qo, qk, qa, qb, q, rs, rc, te, tk) (nI c) (nI a) (nI b) v4 := by
      unfold wpY_listen
      exact yr_t hc h0 (br_f (by decide) (ya_t (n := 8) ha (by omega) (br_f (by decide) (ya_t (n := 8) hb (by omega) (br_f (by decide) (ya_f (n := 51) hn (br_t rfl ⟨rfl, I6⟩)))))))
    unfold wpX_listen
    refine xr_t hc h0 (br_f (by decide) (xk_t ha (br_f (by decide) (xk_t hb (br_f (by decide) (br_c (fun _ => g) (fun y => br_f ?_ g)))))))
    have h4 := hn.resolve_left y
    rw [Int32.le_iff_toInt_le, nI_toInt (by omega)] at h4
    rw [Int32.le_iff_toInt_le, show (50 : Int32).toInt = 50 from by decide]
    omega
  have ec : (nI c).toNatClampNeg = c := nI_clamp (by omega)
  have ic : vp_in (nI c) 4 := vp_in_nI hc (by omega)
  have ea : (nI a).toNatClampNeg = a := nI_clamp (by omega)
  have ia : vp_in (nI a) 16 := vp_in_nI (by omega) (by omega)
  have eb : (nI b).toNatClampNeg = b := nI_clamp (by omega)
  have ib : vp_in (nI b) 16 := vp_in_nI (by omega) (by omega)
  have xx : ∀ {P : Int64 → SX → Prop}, wpX_isNoPlaceToListen (fun r_32 => (((r_32 = 0 → (wpX_isNoPlaceToListen (fun r_57 => (((r_57 = 0 → (vp_in (nI a) 16 ∧ ((((kd a) = 2 → (wpX_takeFirst P (tm, tn, kd, nu, sz, dl, ix, sx, st, wk, wo, we, wt, te, tk, w, q, qo, qk, qa, qb, rc, rs) (nI c) (nI a))) ∧ (¬ (kd a) = 2 → (vp_in (nI b) 16 ∧ ((((kd b) = 2 → (wpX_takeFirst P (tm, tn, kd, nu, sz, dl, ix, sx, st, wk, wo, we, wt, te, tk, w, q, qo, qk, qa, qb, rc, rs) (nI c) (nI b))) ∧ (¬ (kd b) = 2 → (wpX_startWaiting (fun u => P 10000000006 u) (tm, tn, kd, nu, sz, dl, ix, sx, st, wk, wo, we, wt, te, tk, w, q, qo, qk, qa, qb, rc, rs) (nI c) (nI a) (nI b) (nI l))))))))))) ∧ (¬ r_57 = 0 → (P 10000000001 (tm, tn, kd, nu, sz, dl, ix, sx, st, wk, wo, we, wt, te, tk, w, q, qo, qk, qa, qb, rc, rs)))))) (tm, tn, kd, nu, sz, dl, ix, sx, st, wk, wo, we, wt, te, tk, w, q, qo, qk, qa, qb, rc, rs) (nI b))) ∧ (¬ r_32 = 0 → (P 10000000001 (tm, tn, kd, nu, sz, dl, ix, sx, st, wk, wo, we, wt, te, tk, w, q, qo, qk, qa, qb, rc, rs)))))) (tm, tn, kd, nu, sz, dl, ix, sx, st, wk, wo, we, wt, te, tk, w, q, qo, qk, qa, qb, rc, rs) (nI a) → wpX_listen P (tm, tn, kd, nu, sz, dl, ix, sx, st, wk, wo, we, wt, te, tk, w, q, qo, qk, qa, qb, rc, rs) (nI c) (nI a) (nI b) (nI l) := by
    intro P h
    unfold wpX_listen
    rw [ea, eb]
    exact xr_t hc h0 (br_f (by decide) (xk_t ha (br_f (by decide) (xk_t hb (br_f (by decide) (br_f (nI_pos (by omega)) (br_t (nI_le (b := 50) (by omega) (by omega)) h)))))))
  by_cases a1 : kd a = 1
  · refine xx (xn_t ha (Or.inl a1) (br_f (by decide) ?_))
    unfold wpY_listen
    rw [ea, eb]
    exact yr_t hc h0 (br_f (by decide) (ya_t (n := 8) ha (by omega) (br_f (by decide) (ya_t (n := 8) hb (by omega) (br_f (by decide) (ya_t (n := 51) hl (by omega) (br_f (by decide) ⟨ia, br_t a1 ⟨rfl, I6⟩⟩)))))))
  by_cases a3 : kd a = 3
  · refine xx (xn_t ha (Or.inr a3) (br_f (by decide) ?_))
    unfold wpY_listen
    rw [ea, eb]
    exact yr_t hc h0 (br_f (by decide) (ya_t (n := 8) ha (by omega) (br_f (by decide) (ya_t (n := 8) hb (by omega) (br_f (by decide) (ya_t (n := 51) hl (by omega) (br_f (by decide) ⟨ia, br_f a1 ⟨ia, br_t a3 ⟨rfl, I6⟩⟩⟩)))))))
  by_cases b1 : kd b = 1
  · refine xx (xn_f ha a1 a3 (br_t rfl (xn_t hb (Or.inl b1) (br_f (by decide) ?_))))
    unfold wpY_listen
    rw [ea, eb]
    exact yr_t hc h0 (br_f (by decide) (ya_t (n := 8) ha (by omega) (br_f (by decide) (ya_t (n := 8) hb (by omega) (br_f (by decide) (ya_t (n := 51) hl (by omega) (br_f (by decide) ⟨ia, br_f a1 ⟨ia, br_f a3 ⟨ib, br_t b1 ⟨rfl, I6⟩⟩⟩⟩)))))))
  by_cases b3 : kd b = 3
  · refine xx (xn_f ha a1 a3 (br_t rfl (xn_t hb (Or.inr b3) (br_f (by decide) ?_))))
    unfold wpY_listen
    rw [ea, eb]
    exact yr_t hc h0 (br_f (by decide) (ya_t (n := 8) ha (by omega) (br_f (by decide) (ya_t (n := 8) hb (by omega) (br_f (by decide) (ya_t (n := 51) hl (by omega) (br_f (by decide) ⟨ia, br_f a1 ⟨ia, br_f a3 ⟨ib, br_f b1 ⟨ib, br_t b3 ⟨rfl, I6⟩⟩⟩⟩⟩)))))))
  by_cases a2 : kd a = 2
  · obtain ⟨r, kd', nu', sz', dl', ix', sx', iy', sy', w', d', s1, s2, tx, ty⟩ := lk_take (c := c) (tm := tm) (tn := tn) (wk := wk) (wo := wo) (we := we) (wt := wt) (q := q) (qo := qo) (qk := qk) (qa := qa) (qb := qb) (rc := rc) (rs := rs) (ra := rc) (nu := nu) (st := st) (te := te) (tk := tk) (tf := vp_updL te c 10000000006) (tg := vp_updL tk c 10000000006) hS hW ha hc a2
    have R : i_Rel (k + 6) (tm, tn, kd', nu', sz', dl', ix', sx', upd st c 0, wk, wo, we, wt, vp_updL te c r.toInt64, vp_updL tk c (nI a).toInt64, w', q, qo, qk, qa, qb, rc, rs) (tm, tn, kd', nu', sz', iy', sy', dl', upd st c 0, wk, wo, we, wt, wd, d', qo, qk, qa, qb, q, rs, rc, vp_updL te c r.toInt64, vp_updL tk c (nI a).toInt64) := rl_i ⟨hT, s1, s2, cl_free hC (fun _ => by rw [h0]; decide)⟩
    refine xx (xn_f ha a1 a3 (br_t rfl (xn_f hb b1 b3 (br_t rfl ⟨ia, br_t a2 (tx _ ?_)⟩))))
    unfold wpY_listen
    rw [ea, eb]
    refine yr_t hc h0 (br_f (by decide) (ya_t (n := 8) ha (by omega) (br_f (by decide) (ya_t (n := 8) hb (by omega) (br_f (by decide) (ya_t (n := 51) hl (by omega) (br_f (by decide) ⟨ia, br_f a1 ⟨ia, br_f a3 ⟨ib, br_f b1 ⟨ib, br_f b3 (wy_forget hc ⟨ia, br_t a2 ?_⟩)⟩⟩⟩⟩)))))))
    unfold wY_listen_107
    rw [ea, ec]
    refine ⟨ia, br_t a2 (ty _ ⟨ic, ?_⟩)⟩
    rw [ws_uuL, ws_uuL, pk_uLs]
    exact ⟨rfl, R⟩
  by_cases b2 : kd b = 2
  · obtain ⟨r, kd', nu', sz', dl', ix', sx', iy', sy', w', d', s1, s2, tx, ty⟩ := lk_take (c := c) (tm := tm) (tn := tn) (wk := wk) (wo := wo) (we := we) (wt := wt) (q := q) (qo := qo) (qk := qk) (qa := qa) (qb := qb) (rc := rc) (rs := rs) (ra := rc) (nu := nu) (st := st) (te := te) (tk := tk) (tf := vp_updL te c 10000000006) (tg := vp_updL tk c 10000000006) hS hW hb hc b2
    have R : i_Rel (k + 6) (tm, tn, kd', nu', sz', dl', ix', sx', upd st c 0, wk, wo, we, wt, vp_updL te c r.toInt64, vp_updL tk c (nI b).toInt64, w', q, qo, qk, qa, qb, rc, rs) (tm, tn, kd', nu', sz', iy', sy', dl', upd st c 0, wk, wo, we, wt, wd, d', qo, qk, qa, qb, q, rs, rc, vp_updL te c r.toInt64, vp_updL tk c (nI b).toInt64) := rl_i ⟨hT, s1, s2, cl_free hC (fun _ => by rw [h0]; decide)⟩
    refine xx (xn_f ha a1 a3 (br_t rfl (xn_f hb b1 b3 (br_t rfl ⟨ia, br_f a2 ⟨ib, br_t b2 (tx _ ?_)⟩⟩))))
    unfold wpY_listen
    rw [ea, eb]
    refine yr_t hc h0 (br_f (by decide) (ya_t (n := 8) ha (by omega) (br_f (by decide) (ya_t (n := 8) hb (by omega) (br_f (by decide) (ya_t (n := 51) hl (by omega) (br_f (by decide) ⟨ia, br_f a1 ⟨ia, br_f a3 ⟨ib, br_f b1 ⟨ib, br_f b3 (wy_forget hc ⟨ia, br_f a2 ?_⟩)⟩⟩⟩⟩)))))))
    unfold wY_listen_107
    rw [eb, ec]
    refine ⟨ib, br_t b2 (ty _ ⟨ic, ?_⟩)⟩
    rw [ws_uuL, ws_uuL, pk_uLs]
    exact ⟨rfl, R⟩
  obtain ⟨t, ht, et⟩ := hT
  obtain ⟨x, hx0, hx⟩ : ∃ x : Int32, 0 ≤ x ∧ ((nI l = 0 ∧ x = 0) ∨ (nI l ≠ 0 ∧ x = tm + nI l)) := by
    by_cases z : l = 0
    · exact ⟨0, by decide, Or.inl ⟨by rw [z]; rfl, rfl⟩⟩
    · exact ⟨nI (t + l), nI_pos' (by omega), Or.inr ⟨nI_ne0 (by omega) (by omega), by rw [et, nI_add]⟩⟩
  have R : i_Rel (k + 6) (tm, tn + 1, kd, nu, sz, dl, ix, sx, upd st c 1, upd wk c (nI a), upd wo c (nI b), upd we c x, vp_updL wt c tn, vp_updL te c 10000000006, vp_updL tk c 10000000006, w, q, qo, qk, qa, qb, rc, rs) (tm, tn + 1, kd, nu, sz, iy, sy, dl, upd st c 1, upd wk c (nI a), upd wo c (nI b), upd we c x, vp_updL wt c tn, wd, d, qo, qk, qa, qb, q, rs, rc, vp_updL te c 10000000006, vp_updL tk c 10000000006) := rl_i ⟨⟨t, ht, et⟩, hS, hW, cl_wait hC hx0 (by rw [h0]; decide)⟩
  refine xx (xn_f ha a1 a3 (br_t rfl (xn_f hb b1 b3 (br_t rfl ⟨ia, br_f a2 ⟨ib, br_f b2 (wx_start hc hx ?_)⟩⟩))))
  unfold wpY_listen
  rw [ea, eb]
  refine yr_t hc h0 (br_f (by decide) (ya_t (n := 8) ha (by omega) (br_f (by decide) (ya_t (n := 8) hb (by omega) (br_f (by decide) (ya_t (n := 51) hl (by omega) (br_f (by decide) ⟨ia, br_f a1 ⟨ia, br_f a3 ⟨ib, br_f b1 ⟨ib, br_f b3 (wy_forget hc ⟨ia, br_f a2 ?_⟩)⟩⟩⟩⟩)))))))
  unfold wY_listen_107
  rw [eb, ec]
  refine ⟨ib, br_f b2 ⟨ic, nm_e ⟨ic, nm_e ⟨ic, nm_e ?_⟩⟩⟩⟩
  rcases hx with ⟨z, rfl⟩ | ⟨z, rfl⟩
  · refine br_t z ⟨ic, ?_⟩
    rw [ec]
    exact nm_e (nm_e ⟨ic, nm_e ⟨rfl, R⟩⟩)
  · refine br_f z ⟨ic, ?_⟩
    rw [ec]
    exact nm_e (nm_e ⟨ic, nm_e ⟨rfl, R⟩⟩)
/-! DD: commit -/
theorem wx_dec_l {post : Int32 → Prop} {c : Nat} {r : Int32} (hc : c < 4) (h1 : (∃ j, j < 8 ∧ w (8 * c + j) = 2) → r = 1) (h0 : (¬ ∃ j, j < 8 ∧ w (8 * c + j) = 2) → r = 0) (h : post r) : ∀ m i, i + m = 8 → (∀ a, a < i → w (8 * c + a) ≠ 2) → wX_isDeceived_2 post (nI c) tm tn kd nu sz dl ix sx st wk wo we wt te tk w q qo qk qa qb rc rs (m + 1) (nI i) := by
  intro m
  induction m with
  | zero =>
    intro i hi hlo
    obtain rfl : i = 8 := by omega
    rw [h0 (fun ⟨j, hj, y⟩ => hlo j hj y)] at h
    exact br_t (nI_le (a := 8) (b := 8) (by omega) (by omega)) h
  | succ m ih =>
    intro i hi hlo
    have c1 : ¬ (8 : Int32) ≤ nI i := nI_ge (b := 8) (by omega) (by decide)
    have e2 : (nI (8 * c + i)).toNatClampNeg = 8 * c + i := nI_clamp (by omega)
    have v : vp_in (nI (8 * c + i)) 32 := vp_in_nI (by omega) (by omega)
    refine br_f c1 ?_
    rw [nu_x8, e2]
    refine ⟨v, ?_⟩
    by_cases z : w (8 * c + i) = 2
    · rw [h1 ⟨i, by omega, z⟩] at h
      exact br_t z h
    · refine br_f z (nm_r (nI_1 i) (ih (i + 1) (by omega) (fun a ha => ?_)))
      by_cases y : a = i
      · rw [y]; exact z
      · exact hlo a (by omega)
theorem wx_dec {post : Int32 → Prop} {c : Nat} (hc : c < 4) (hW : wa_R w wd d) (h : post (d c)) : wpX_isDeceived post (tm, tn, kd, nu, sz, dl, ix, sx, st, wk, wo, we, wt, te, tk, w, q, qo, qk, qa, qb, rc, rs) (nI c) := by
  obtain ⟨_, _, h3, h4⟩ := hW c hc
  refine ⟨9, wx_dec_l hc (fun y => h4.mpr y) (fun y => ?_) h 8 0 rfl (fun a ha => absurd ha (by omega))⟩
  rcases h3 with z | z
  · exact z
  · exact absurd (h4.mp z) y
theorem lk_com {c n t : Nat} (hc : c < 4) (hn : n ≤ 8) (hm : ∀ i, i < n → cm_R (qo (8 * c + i)) (qk (8 * c + i)) (qa (8 * c + i))) (et : tm = nI t) (ht : t ≤ 1000000000) : ∀ m i, i + m = n → ∀ (kd nu sz dl ix sx iy sy w d : Nat → Int32) (rs : Nat → Int64), st_R kd sz dl ix sx iy sy → wa_R w wd d →
    ∃ (kd' nu' sz' dl' ix' sx' iy' sy' w' d' : Nat → Int32) (rs' : Nat → Int64), st_R kd' sz' dl' ix' sx' iy' sy' ∧ wa_R w' wd d' ∧
    (∀ post : Int32 → SX → Prop, wX_commit_47 post (nI c) (nI n) 1 (nI n) tm tn kd' nu' sz' dl' ix' sx' st wk wo we wt te tk w' q qo qk qa qb rc rs' → wX_commit_47 post (nI c) (nI n) (m + 1) (nI i) tm tn kd nu sz dl ix sx st wk wo we wt te tk w q qo qk qa qb rc rs) ∧
    (∀ post : Int32 → SY → Prop, wY_commit_60 post (nI c) (nI n) 1 (nI (8 * c + n)) tm tn kd' nu' sz' iy' sy' dl' st wk wo we wt wd d' qo qk qa qb q rs' ra te tk → wY_commit_60 post (nI c) (nI n) (m + 1) (nI (8 * c + i)) tm tn kd nu sz iy sy dl st wk wo we wt wd d qo qk qa qb q rs ra te tk) := by
  intro m
  induction m with
  | zero =>
    intro i hi kd nu sz dl ix sx iy sy w d rs hS hW
    obtain rfl : i = n := by omega
    exact ⟨kd, nu, sz, dl, ix, sx, iy, sy, w, d, rs, hS, hW, fun post h => h, fun post h => h⟩
  | succ m ih =>
    intro i hi kd nu sz dl ix sx iy sy w d rs hS hW
    have e2 : (nI (8 * c + i)).toNatClampNeg = 8 * c + i := nI_clamp (by omega)
    have v : vp_in (nI (8 * c + i)) 32 := vp_in_nI (by omega) (by omega)
    obtain ⟨r, kd1, nu1, sz1, dl1, ix1, sx1, iy1, sy1, w1, d1, a1, a2, ax, ay⟩ := pf_all (b := qb (8 * c + i)) (tm := tm) (tn := tn) (wk := wk) (wo := wo) (we := we) (wt := wt) (q := q) (qo := qo) (qk := qk) (qa := qa) (qb := qb) (rc := rc) (rs := rs) (ra := ra) (nu := nu) (st := st) (te := te) (tk := tk) hS hW (hm i (by omega)) et ht
    obtain ⟨kd', nu', sz', dl', ix', sx', iy', sy', w', d', rs', b1, b2, bx, bn⟩ := ih (i + 1) (by omega) kd1 nu1 sz1 dl1 ix1 sx1 iy1 sy1 w1 d1 (vp_updL rs (8 * c + i) r) a1 a2
    refine ⟨kd', nu', sz', dl', ix', sx', iy', sy', w', d', rs', b1, b2, fun post h => ?_, fun post h => ?_⟩
    · refine br_f (nI_ge (by omega) (by omega)) (nm_r (nu_x8 c i) ?_)
      rw [e2]
      exact ⟨v, v, v, v, ax _ ⟨v, nm_e (nm_r (nI_1 i) (bx post h))⟩⟩
    · have c1 : ¬ 8 * nI c + nI n ≤ nI (8 * c + i) := by
        rw [nu_y8]
        exact nI_ge (by omega) (by omega)
      refine br_f c1 ?_
      rw [e2]
      exact ⟨v, v, v, v, ay _ ⟨v, nm_e (nm_r (nI_1 (8 * c + i)) (bn post h))⟩⟩
theorem i_vc_commit {k : Nat} {u : SX} {v : SY} (I : i_Rel k u v) (hk : k + 6 ≤ 3072) (v1 : Int32) : wpX_commit (fun r u' => wpY_commit (fun r' v' => r' = r ∧ i_Rel (k + 6) u' v') v v1) u v1 := by
  have I6 := i_up I
  obtain ⟨tm, tn, kd, nu, sz, dl, ix, sx, iy, sy, st, wk, wo, we, w, wd, d, q, qo, qk, qa, qb, rc, wt, te, tk, rs, rfl, rfl, hT, hS, hW, hC⟩ := I
  rcases rl_cs v1 4 (by omega) with hn | ⟨c, hc, rfl⟩
  · unfold wpX_commit
    refine xc_f hn (br_t rfl ?_)
    unfold wpY_commit
    exact ya_f (n := 4) hn (br_t rfl ⟨rfl, I6⟩)
  have e : (nI c).toNatClampNeg = c := nI_clamp (by omega)
  have i : vp_in (nI c) 4 := vp_in_nI hc (by omega)
  unfold wpX_commit
  rw [e]
  refine xc_t hc (br_f (by decide) ⟨i, ?_⟩)
  by_cases s2 : st c = 2
  · obtain ⟨_, _, _, n, hn8, eq, _, hcm⟩ := hC c hc
    have yy : ∀ {P : Int32 → SY → Prop}, (((d c = 0 → (vp_in (nI c) 4 ∧ ∀ z : Nat → Int32, z = upd rc c (nI n) → ∀ x : Int32, x = 8 * nI c → ∃ m, wY_commit_60 P (nI c) (nI n) m x tm tn kd nu sz iy sy dl (upd st c 0) wk wo we wt (upd wd c 0) (upd d c 0) qo qk qa qb (upd q c 0) rs z te tk)) ∧ (¬ d c = 0 → P (-2) (tm, tn, kd, nu, sz, iy, sy, dl, upd st c 0, wk, wo, we, wt, upd wd c 0, upd d c 0, qo, qk, qa, qb, upd q c 0, rs, rc, te, tk)))) → wpY_commit P (tm, tn, kd, nu, sz, iy, sy, dl, st, wk, wo, we, wt, wd, d, qo, qk, qa, qb, q, rs, rc, te, tk) (nI c) := by
      intro P h
      unfold wpY_commit
      rw [e]
      refine ya_t (n := 4) hc (by omega) (br_f (by decide) ⟨i, br_t s2 ⟨i, nm_e ⟨i, nm_r eq (wy_unwatch hc h)⟩⟩⟩)
    refine br_t s2 ⟨i, nm_r eq (wx_dec hc hW (wx_rel hc ?_))⟩
    by_cases d0 : d c = 0
    · obtain ⟨t, ht, et⟩ := hT
      obtain ⟨kd1, nu1, sz1, dl1, ix1, sx1, iy1, sy1, w1, d1, rs1, b1, b2, bx, bn⟩ := lk_com (c := c) (n := n) (wd := upd wd c 0) (tn := tn) (st := upd st c 0) (wk := wk) (wo := wo) (we := we) (wt := wt) (te := te) (tk := tk) (q := upd q c 0) (qb := qb) (rc := rc) (ra := upd rc c (nI n)) hc hn8 hcm et ht n 0 (by omega) kd nu sz dl ix sx iy sy (ws_zr w c 8) (upd d c 0) rs hS (wa_free hW)
      obtain ⟨st', kd', nu', sz', dl', ix', sx', iy', sy', w', d', te', tk', g1, g2, g3, gx, N, gn⟩ := lk_serve (tm := tm) (tn := tn) (wk := wk) (wo := wo) (wt := wt) (qb := qb) (rs := rs1) (nu := nu1) (te := te) (tk := tk) (cl_rc (c := c) (n := n) (cl_rel (c := c) hC) hn8) b1 b2 4 0 rfl (sv_n_le _)
      have R : i_Rel (k + 6) (tm, tn, kd', nu', sz', dl', ix', sx', st', wk, wo, we, wt, te', tk', w', upd q c 0, qo, qk, qa, qb, upd rc c (nI n), rs1) (tm, tn, kd', nu', sz', iy', sy', dl', st', wk, wo, we, wt, upd wd c 0, d', qo, qk, qa, qb, upd q c 0, rs1, upd rc c (nI n), te', tk') := rl_i ⟨⟨t, ht, et⟩, g1, g2, g3⟩
      refine br_t d0 ⟨n + 1, bx _ (br_t (nI_le (by omega) (by omega)) ⟨i, nm_r (e' := upd rc c (nI n)) (by rw [e]) ⟨5, gx _ ?_⟩⟩)⟩
      refine yy (br_t d0 ⟨i, nm_e (nm_r (nu_m8 c) ⟨n + 1, bn _ (br_t ?_ ⟨N, gn _ ⟨rfl, R⟩⟩)⟩)⟩)
      rw [nu_y8]
      exact nI_le (by omega) (by omega)
    · have R : i_Rel (k + 6) (tm, tn, kd, nu, sz, dl, ix, sx, upd st c 0, wk, wo, we, wt, te, tk, ws_zr w c 8, upd q c 0, qo, qk, qa, qb, rc, rs) (tm, tn, kd, nu, sz, iy, sy, dl, upd st c 0, wk, wo, we, wt, upd wd c 0, upd d c 0, qo, qk, qa, qb, upd q c 0, rs, rc, te, tk) := rl_i ⟨hT, hS, wa_free hW, cl_rel hC⟩
      exact br_f d0 (yy (br_f d0 ⟨rfl, R⟩))
  · refine br_f s2 ?_
    unfold wpY_commit
    rw [e]
    exact ya_t (n := 4) hc (by omega) (br_f (by decide) ⟨i, br_f s2 ⟨rfl, I6⟩⟩)
end CM
end
