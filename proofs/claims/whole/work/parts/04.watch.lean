/-! G: watching: X marks each pair, Y keeps a mask and a flag a client -/
theorem wa_1 : ∀ i, i < 32 → bt 1 i = decide (i = 0) := by decide +kernel
theorem wa_and1 (x : Int32) : x &&& 1 = 1 ↔ bt x 0 = true := by
  constructor
  · intro h
    have h2 : bt (x &&& 1) 0 = bt 1 0 := by rw [h]
    rw [b_and, wa_1 0 (by omega)] at h2
    simpa using h2
  · intro h
    apply b_ext
    intro i hi
    rw [b_and, wa_1 i hi]
    by_cases e : i = 0
    · subst e
      rw [h]
      rfl
    · rw [decide_eq_false e, Bool.and_false]
theorem wa_bit (m : Int32) {k : Nat} (hk : k < 8) : (m >>> (nI k &&& 31)) &&& 1 = 1 ↔ bt m k = true := by
  rw [wa_and1, b_sshr k (by omega) m (i := 0) (by omega), Nat.add_zero, if_pos (by omega)]
theorem wa_or (m : Int32) {k i : Nat} (hk : k < 8) (hi : i < 8) : bt (m ||| ((1 : Int32) <<< (nI k &&& 31))) i = (bt m i || decide (i = k)) := by
  rw [b_or, b_shl k (by omega) 1 (by omega), wa_1 _ (by omega)]
  congr 1
  by_cases e : i = k
  · subst e
    simp
  · rw [decide_eq_false e]
    by_cases e2 : k ≤ i
    · rw [decide_eq_false (show ¬ i - k = 0 by omega), Bool.and_false]
    · rw [decide_eq_false e2, Bool.false_and]
def wa_R (w wd d : Nat → Int32) : Prop := ∀ c, c < 4 →
  (∀ k, k < 8 → w (8 * c + k) = 0 ∨ w (8 * c + k) = 1 ∨ w (8 * c + k) = 2) ∧
  (∀ k, k < 8 → (bt (wd c) k = true ↔ w (8 * c + k) ≠ 0)) ∧
  (d c = 0 ∨ d c = 1) ∧ (d c = 1 ↔ ∃ k, k < 8 ∧ w (8 * c + k) = 2)
def ws_mk (w : Nat → Int32) (k i : Nat) : Nat → Int32 := fun j => if j % 8 = k ∧ j / 8 < i ∧ w j = 1 then 2 else w j
def ws_dc (wd d : Nat → Int32) (k i : Nat) : Nat → Int32 := fun c => if c < i ∧ bt (wd c) k = true then 1 else d c
def ws_zr (w : Nat → Int32) (c i : Nat) : Nat → Int32 := fun j => if 8 * c ≤ j ∧ j < 8 * c + i then 0 else w j
theorem ws_mk0 (w : Nat → Int32) (k : Nat) : ws_mk w k 0 = w := by
  funext j
  unfold ws_mk
  rw [if_neg (by omega)]
theorem ws_mk_same (w : Nat → Int32) {k i : Nat} (hk : k < 8) : ws_mk w k i (8 * i + k) = w (8 * i + k) := by
  unfold ws_mk
  rw [if_neg (by omega)]
theorem ws_mks (w : Nat → Int32) {k i : Nat} (hk : k < 8) (h : w (8 * i + k) = 1) : upd (ws_mk w k i) (8 * i + k) 2 = ws_mk w k (i + 1) := by
  funext j
  unfold upd ws_mk
  by_cases e : j = 8 * i + k
  · subst e
    rw [if_pos rfl, if_pos ⟨by omega, by omega, h⟩]
  · rw [if_neg e]
    by_cases e2 : j % 8 = k ∧ j / 8 < i ∧ w j = 1
    · rw [if_pos e2, if_pos ⟨e2.1, by omega, e2.2.2⟩]
    · rw [if_neg e2, if_neg (fun z => e2 ⟨z.1, by omega, z.2.2⟩)]
theorem ws_mkn (w : Nat → Int32) {k i : Nat} (h : w (8 * i + k) ≠ 1) : ws_mk w k i = ws_mk w k (i + 1) := by
  funext j
  unfold ws_mk
  by_cases e : j % 8 = k ∧ j / 8 < i ∧ w j = 1
  · rw [if_pos e, if_pos ⟨e.1, by omega, e.2.2⟩]
  · rw [if_neg e, if_neg ?_]
    intro z
    by_cases e2 : j / 8 < i
    · exact e ⟨z.1, e2, z.2.2⟩
    · exact h (by rw [show 8 * i + k = j by omega]; exact z.2.2)
theorem ws_dc0 (wd d : Nat → Int32) (k : Nat) : ws_dc wd d k 0 = d := by
  funext j
  unfold ws_dc
  rw [if_neg (by omega)]
theorem ws_dcs (wd d : Nat → Int32) {k i : Nat} (h : bt (wd i) k = true) : upd (ws_dc wd d k i) i 1 = ws_dc wd d k (i + 1) := by
  funext j
  unfold upd ws_dc
  by_cases e : j = i
  · subst e
    rw [if_pos rfl, if_pos ⟨by omega, h⟩]
  · rw [if_neg e]
    by_cases e2 : j < i ∧ bt (wd j) k = true
    · rw [if_pos e2, if_pos ⟨by omega, e2.2⟩]
    · rw [if_neg e2, if_neg (fun z => e2 ⟨by omega, z.2⟩)]
theorem ws_dcn (wd d : Nat → Int32) {k i : Nat} (h : ¬ bt (wd i) k = true) : ws_dc wd d k i = ws_dc wd d k (i + 1) := by
  funext j
  unfold ws_dc
  by_cases e2 : j < i ∧ bt (wd j) k = true
  · rw [if_pos e2, if_pos ⟨by omega, e2.2⟩]
  · rw [if_neg e2, if_neg ?_]
    intro z
    by_cases e : j = i
    · subst e
      exact h z.2
    · exact e2 ⟨by omega, z.2⟩
theorem ws_zr0 (w : Nat → Int32) (c : Nat) : ws_zr w c 0 = w := by
  funext j
  unfold ws_zr
  rw [if_neg (by omega)]
theorem ws_zrs (w : Nat → Int32) (c i : Nat) : upd (ws_zr w c i) (8 * c + i) 0 = ws_zr w c (i + 1) := by
  funext j
  unfold upd ws_zr
  by_cases e : j = 8 * c + i
  · rw [if_pos e, if_pos (by omega)]
  · rw [if_neg e]
    by_cases e2 : 8 * c ≤ j ∧ j < 8 * c + i
    · rw [if_pos e2, if_pos (by omega)]
    · rw [if_neg e2, if_neg (by omega)]
theorem ws_mk_at (w : Nat → Int32) {k c j : Nat} (hc : c < 4) (hj : j < 8) : ws_mk w k 4 (8 * c + j) = if j = k ∧ w (8 * c + j) = 1 then 2 else w (8 * c + j) := by
  unfold ws_mk
  by_cases e : j = k ∧ w (8 * c + j) = 1
  · rw [if_pos e, if_pos ⟨by omega, by omega, e.2⟩]
  · rw [if_neg e, if_neg (fun z => e ⟨by omega, z.2.2⟩)]
theorem wa_mark {w wd d : Nat → Int32} {k : Nat} (h : wa_R w wd d) (hk : k < 8) : wa_R (ws_mk w k 4) wd (ws_dc wd d k 4) := by
  intro c hc
  obtain ⟨h1, h2, h3, h4⟩ := h c hc
  refine ⟨fun j hj => ?_, fun j hj => ?_, ?_, ?_⟩
  · rw [ws_mk_at w hc hj]
    by_cases e : j = k ∧ w (8 * c + j) = 1
    · rw [if_pos e]; exact Or.inr (Or.inr rfl)
    · rw [if_neg e]; exact h1 j hj
  · rw [ws_mk_at w hc hj, h2 j hj]
    by_cases e : j = k ∧ w (8 * c + j) = 1
    · rw [if_pos e, e.2]; decide
    · rw [if_neg e]
  · unfold ws_dc
    by_cases e : c < 4 ∧ bt (wd c) k = true
    · rw [if_pos e]; exact Or.inr rfl
    · rw [if_neg e]; exact h3
  · unfold ws_dc
    by_cases e : bt (wd c) k = true
    · rw [if_pos ⟨hc, e⟩]
      refine ⟨fun _ => ⟨k, hk, ?_⟩, fun _ => rfl⟩
      rw [ws_mk_at w hc hk]
      rcases h1 k hk with z | z | z
      · exact absurd z ((h2 k hk).mp e)
      · rw [if_pos ⟨rfl, z⟩]
      · rw [if_neg (fun y => by rw [z] at y; exact absurd y.2 (by decide)), z]
    · rw [if_neg (fun z => e z.2), h4]
      have e0 : w (8 * c + k) = 0 := by
        rcases h1 k hk with z | z | z
        · exact z
        · exact absurd ((h2 k hk).mpr (by rw [z]; decide)) e
        · exact absurd ((h2 k hk).mpr (by rw [z]; decide)) e
      have e1 : ∀ j, j < 8 → ws_mk w k 4 (8 * c + j) = w (8 * c + j) := by
        intro j hj
        rw [ws_mk_at w hc hj, if_neg ?_]
        intro y
        have y2 := y.2
        rw [y.1, e0] at y2
        exact absurd y2 (by decide)
      constructor
      · intro ⟨j, hj, ej⟩
        exact ⟨j, hj, by rw [e1 j hj]; exact ej⟩
      · intro ⟨j, hj, ej⟩
        exact ⟨j, hj, by rw [e1 j hj] at ej; exact ej⟩
theorem wa_free {w wd d : Nat → Int32} {c : Nat} (h : wa_R w wd d) : wa_R (ws_zr w c 8) (upd wd c 0) (upd d c 0) := by
  intro c' hc
  obtain ⟨h1, h2, h3, h4⟩ := h c' hc
  by_cases e : c' = c
  · subst e
    have z : ∀ j, j < 8 → ws_zr w c' 8 (8 * c' + j) = 0 := fun j hj => if_pos (by omega)
    rw [pk_us, pk_us]
    refine ⟨fun j hj => Or.inl (z j hj), fun j hj => ?_, Or.inl rfl, ?_⟩
    · rw [z j hj, b_0]
      exact ⟨fun y => absurd y (by decide), fun y => absurd rfl y⟩
    · refine ⟨fun y => absurd y (by decide), fun ⟨j, hj, y⟩ => ?_⟩
      rw [z j hj] at y
      exact absurd y (by decide)
  · have z : ∀ j, j < 8 → ws_zr w c 8 (8 * c' + j) = w (8 * c' + j) := fun j hj => if_neg (by omega)
    rw [pk_un e, pk_un e]
    refine ⟨fun j hj => by rw [z j hj]; exact h1 j hj, fun j hj => by rw [z j hj]; exact h2 j hj, h3, ?_⟩
    rw [h4]
    constructor
    · intro ⟨j, hj, ej⟩
      exact ⟨j, hj, by rw [z j hj]; exact ej⟩
    · intro ⟨j, hj, ej⟩
      exact ⟨j, hj, by rw [z j hj] at ej; exact ej⟩
theorem wa_watch {w w' wd d : Nat → Int32} {c k : Nat} (h : wa_R w wd d) (hk : k < 8) (hw : (w (8 * c + k) = 0 ∧ w' = upd w (8 * c + k) 1) ∨ (w (8 * c + k) ≠ 0 ∧ w' = w)) :
    wa_R w' (upd wd c (wd c ||| ((1 : Int32) <<< (nI k &&& 31)))) d := by
  have a : ∀ c' j, c' < 4 → j < 8 → ¬ (c' = c ∧ j = k) → w' (8 * c' + j) = w (8 * c' + j) := by
    intro c' j hc hj hn
    rcases hw with ⟨_, rfl⟩ | ⟨_, rfl⟩
    · exact pk_un (by omega)
    · rfl
  have b : w' (8 * c + k) ≠ 0 ∧ (w' (8 * c + k) = 2 ↔ w (8 * c + k) = 2) := by
    rcases hw with ⟨e, rfl⟩ | ⟨e, rfl⟩
    · rw [pk_us, e]; decide
    · exact ⟨e, Iff.rfl⟩
  intro c' hc
  obtain ⟨h1, h2, h3, h4⟩ := h c' hc
  have b2 : ∀ j, j < 8 → (w' (8 * c' + j) = 2 ↔ w (8 * c' + j) = 2) := by
    intro j hj
    by_cases e : c' = c ∧ j = k
    · rw [e.1, e.2]; exact b.2
    · rw [a c' j hc hj e]
  refine ⟨fun j hj => ?_, fun j hj => ?_, h3, ?_⟩
  · by_cases e : c' = c ∧ j = k
    · obtain ⟨rfl, rfl⟩ := e
      rcases hw with ⟨_, rfl⟩ | ⟨_, rfl⟩
      · rw [pk_us]; exact Or.inr (Or.inl rfl)
      · exact h1 j hj
    · rw [a c' j hc hj e]; exact h1 j hj
  · by_cases e : c' = c
    · subst e
      rw [pk_us, wa_or _ hk hj]
      by_cases e2 : j = k
      · subst e2
        rw [decide_eq_true rfl, Bool.or_true]
        exact ⟨fun _ => b.1, fun _ => rfl⟩
      · rw [decide_eq_false e2, Bool.or_false, a c' j hc hj (fun z => e2 z.2)]
        exact h2 j hj
    · rw [pk_un e, a c' j hc hj (fun z => e z.1)]
      exact h2 j hj
  · rw [h4]
    constructor
    · intro ⟨j, hj, ej⟩
      exact ⟨j, hj, (b2 j hj).mpr ej⟩
    · intro ⟨j, hj, ej⟩
      exact ⟨j, hj, (b2 j hj).mp ej⟩
/-! H: the clients -/
def cm_R (o k a : Int32) : Prop := ∃ o' k' : Nat, o' < 12 ∧ o = nI o' ∧ k' < 8 ∧ k = nI k' ∧ (o' = 3 → ∃ a' : Nat, a' ≤ 100 ∧ a = nI a') ∧ (o' = 11 → ∃ a' : Nat, a' < 8 ∧ a' ≠ k' ∧ a = nI a')
def ct_R (st q qo qk qa rc we : Nat → Int32) (c : Nat) : Prop := (st c = 0 ∨ st c = 1 ∨ st c = 2) ∧ (0 : Int32) ≤ we c ∧ (∃ n : Nat, n ≤ 8 ∧ rc c = nI n) ∧
  ∃ n : Nat, n ≤ 8 ∧ q c = nI n ∧ (st c ≠ 2 → n = 0) ∧ ∀ i, i < n → cm_R (qo (8 * c + i)) (qk (8 * c + i)) (qa (8 * c + i))
def cl_R (st q qo qk qa rc we : Nat → Int32) : Prop := ∀ c, c < 4 → ct_R st q qo qk qa rc we c
theorem cl_up {st q qo qk qa rc we st' q' qo' qk' qa' rc' we' : Nat → Int32} (h : cl_R st q qo qk qa rc we) (c : Nat)
    (hk : ∀ s, s ≠ c → st' s = st s ∧ q' s = q s ∧ rc' s = rc s ∧ we' s = we s)
    (ha : ∀ j, (j < 8 * c ∨ 8 * c + 8 ≤ j) → qo' j = qo j ∧ qk' j = qk j ∧ qa' j = qa j)
    (hn : c < 4 → ct_R st' q' qo' qk' qa' rc' we' c) : cl_R st' q' qo' qk' qa' rc' we' := by
  intro s hs
  by_cases e : s = c
  · subst e
    exact hn hs
  · obtain ⟨e1, e2, e3, e4⟩ := hk s e
    obtain ⟨h1, h2, h3, n, h4, h5, h6, h7⟩ := h s hs
    unfold ct_R
    rw [e1, e2, e3, e4]
    refine ⟨h1, h2, h3, n, h4, h5, h6, fun i hi => ?_⟩
    obtain ⟨a1, a2, a3⟩ := ha (8 * s + i) (by omega)
    rw [a1, a2, a3]
    exact h7 i hi
