/-! J: places -/
theorem nu_x8 (c i : Nat) : nI c * 8 + nI i = nI (8 * c + i) := by
  rw [show nI c * 8 = nI (c * 8) from pk_mul c 8, nI_add, Nat.mul_comm]
theorem nu_x12 (c i : Nat) : nI c * 12 + nI i = nI (12 * c + i) := by
  rw [show nI c * 12 = nI (c * 12) from pk_mul c 12, nI_add, Nat.mul_comm]
theorem nu_y8 (c i : Nat) : 8 * nI c + nI i = nI (8 * c + i) := by
  rw [show 8 * nI c = nI (8 * c) from pk_mul 8 c, nI_add]
theorem nu_y12 (c i : Nat) : 12 * nI c + nI i = nI (12 * c + i) := by
  rw [show 12 * nI c = nI (12 * c) from pk_mul 12 c, nI_add]
theorem nu_m8 (c : Nat) : 8 * nI c = nI (8 * c) := pk_mul 8 c
theorem nu_m12 (c : Nat) : 12 * nI c = nI (12 * c) := pk_mul 12 c
theorem nu_8p (c : Nat) : 8 + nI c = nI (8 + c) := nI_add 8 c
theorem nu_m1 {n : Nat} (h : 0 < n) : nI n - 1 = nI (n - 1) := by
  obtain ⟨m, rfl⟩ : ∃ m, n = m + 1 := ⟨n - 1, by omega⟩
  exact nI_pred m
theorem nu_p1 {n : Nat} (h : 0 < n) : nI n + (-1) = nI (n - 1) := by
  obtain ⟨m, rfl⟩ : ∃ m, n = m + 1 := ⟨n - 1, by omega⟩
  exact pk_m1 m
theorem nu_ne {a b : Nat} (h : a ≠ b) (ha : a < 2 ^ 31) (hb : b < 2 ^ 31) : ¬ nI a = nI b := fun z => h ((nI_eq ha hb).mp z)
theorem nu_neg1 {n : Nat} (h : n < 2 ^ 31) : ¬ nI n = -1 := by
  intro e
  have := nI_pos (n := n) h
  rw [e] at this
  exact this (by decide)
