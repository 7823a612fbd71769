section WY
variable {tm : Int32} {tn : Int64} {kd nu sz dl ix sx iy sy st wk wo we w wd d q qo qk qa qb rc ra : Nat → Int32} {wt te tk tf tg rs : Nat → Int64}
/-! O: Y's small methods -/
theorem wy_b0 : vp_nar .boolean 0 = 0 := by decide
theorem wy_b1 : vp_nar .boolean 1 = 1 := by decide
theorem wy_clear {post : SY → Prop} {k : Nat} (hk : k < 16) (h : post (tm, tn, upd kd k 0, upd nu k 0, upd sz k 0, iy, sy, upd dl k 0, st, wk, wo, we, wt, wd, d, qo, qk, qa, qb, q, rs, rc, te, tk)) : wpY_nothing post (tm, tn, kd, nu, sz, iy, sy, dl, st, wk, wo, we, wt, wd, d, qo, qk, qa, qb, q, rs, rc, te, tk) (nI k) := by
  have e : (nI k).toNatClampNeg = k := nI_clamp (by omega)
  have i : vp_in (nI k) 16 := vp_in_nI hk (by omega)
  unfold wpY_nothing
  dsimp only
  rw [e]
  exact ⟨i, nm_e ⟨i, nm_e ⟨i, nm_e ⟨i, nm_e h⟩⟩⟩⟩
theorem wy_forget {post : SY → Prop} {c : Nat} (hc : c < 4) (h : post (tm, tn, kd, nu, sz, iy, sy, dl, st, wk, wo, we, wt, wd, d, qo, qk, qa, qb, q, rs, rc, vp_updL te c 10000000006, vp_updL tk c 10000000006)) : wpY_forgetTaken post (tm, tn, kd, nu, sz, iy, sy, dl, st, wk, wo, we, wt, wd, d, qo, qk, qa, qb, q, rs, rc, te, tk) (nI c) := by
  have e : (nI c).toNatClampNeg = c := nI_clamp (by omega)
  have i : vp_in (nI c) 4 := vp_in_nI hc (by omega)
  unfold wpY_forgetTaken
  dsimp only
  rw [e]
  exact ⟨i, nm_e ⟨i, nm_e h⟩⟩
theorem wy_unwatch {post : SY → Prop} {c : Nat} (hc : c < 4) (h : post (tm, tn, kd, nu, sz, iy, sy, dl, upd st c 0, wk, wo, we, wt, upd wd c 0, upd d c 0, qo, qk, qa, qb, upd q c 0, rs, rc, te, tk)) : wpY_unwatch post (tm, tn, kd, nu, sz, iy, sy, dl, st, wk, wo, we, wt, wd, d, qo, qk, qa, qb, q, rs, rc, te, tk) (nI c) := by
  have e : (nI c).toNatClampNeg = c := nI_clamp (by omega)
  have i : vp_in (nI c) 4 := vp_in_nI hc (by omega)
  unfold wpY_unwatch
  dsimp only
  rw [e, wy_b0]
  exact ⟨i, nm_e ⟨i, nm_e ⟨i, nm_e ⟨i, nm_e h⟩⟩⟩⟩
theorem wy_mark_l {post : SY → Prop} {k : Nat} (hk : k < 8) (h : post (tm, tn, kd, nu, sz, iy, sy, dl, st, wk, wo, we, wt, wd, ws_dc wd d k 4, qo, qk, qa, qb, q, rs, rc, te, tk)) : ∀ m i, i + m = 4 → wY_changes_2 post (nI k) tm tn (m + 1) (nI i) kd nu sz iy sy dl st wk wo we wt wd (ws_dc wd d k i) qo qk qa qb q rs rc te tk := by
  intro m
  induction m with
  | zero =>
    intro i hi
    obtain rfl : i = 4 := by omega
    exact br_t (nI_le (a := 4) (b := 4) (by omega) (by omega)) h
  | succ m ih =>
    intro i hi
    have c1 : ¬ (4 : Int32) ≤ nI i := nI_ge (b := 4) (by omega) (by decide)
    have e2 : (nI i).toNatClampNeg = i := nI_clamp (by omega)
    have v : vp_in (nI i) 4 := vp_in_nI (by omega) (by omega)
    refine br_f c1 ?_
    rw [e2, wy_b1]
    refine ⟨v, ?_⟩
    by_cases z : bt (wd i) k = true
    · exact br_t ((wa_bit _ hk).mpr z) ⟨v, nm_r (ws_dcs wd d z) (nm_r (nI_1 i) (ih (i + 1) (by omega)))⟩
    · refine br_f (fun y => z ((wa_bit _ hk).mp y)) (nm_r (nI_1 i) ?_)
      rw [ws_dcn wd d z]
      exact ih (i + 1) (by omega)
theorem wy_mark {post : SY → Prop} {k : Nat} (hk : k < 8) (h : post (tm, tn, kd, nu, sz, iy, sy, dl, st, wk, wo, we, wt, wd, ws_dc wd d k 4, qo, qk, qa, qb, q, rs, rc, te, tk)) : wpY_changes post (tm, tn, kd, nu, sz, iy, sy, dl, st, wk, wo, we, wt, wd, d, qo, qk, qa, qb, q, rs, rc, te, tk) (nI k) := by
  have g := wy_mark_l hk h 4 0 rfl
  rw [ws_dc0] at g
  exact ⟨5, g⟩
theorem wy_cpy_l {post : SY → Prop} {s t : Nat} (hs : s < 16) (ht : t < 16) (hst : s ≠ t) (h : post (tm, tn, kd, nu, sz, ws_cp iy (12 * s) (12 * t) 12, ws_cp sy (12 * s) (12 * t) 12, dl, st, wk, wo, we, wt, wd, d, qo, qk, qa, qb, q, rs, rc, te, tk)) : ∀ m i, i + m = 12 → wY_copy_50 post (nI s) (nI t) tm tn (m + 1) (nI i) kd nu sz (ws_cp iy (12 * s) (12 * t) i) (ws_cp sy (12 * s) (12 * t) i) dl st wk wo we wt wd d qo qk qa qb q rs rc te tk := by
  intro m
  induction m with
  | zero =>
    intro i hi
    obtain rfl : i = 12 := by omega
    exact br_t (nI_le (a := 12) (b := 12) (by omega) (by omega)) h
  | succ m ih =>
    intro i hi
    have c1 : ¬ (12 : Int32) ≤ nI i := nI_ge (b := 12) (by omega) (by decide)
    have e2 : (nI (12 * s + i)).toNatClampNeg = 12 * s + i := nI_clamp (by omega)
    have e3 : (nI (12 * t + i)).toNatClampNeg = 12 * t + i := nI_clamp (by omega)
    have v : vp_in (nI (12 * s + i)) 192 := vp_in_nI (by omega) (by omega)
    have v1 : vp_in (nI (12 * t + i)) 192 := vp_in_nI (by omega) (by omega)
    refine br_f c1 ?_
    rw [nu_y12, nu_y12, e2, e3]
    exact ⟨v, v1, nm_r (ws_cps iy (by omega)) ⟨v, v1, nm_r (ws_cps sy (by omega)) (nm_r (nI_1 i) (ih (i + 1) (by omega)))⟩⟩
theorem wy_cpy {post : SY → Prop} {s t : Nat} (hs : s < 16) (ht : t < 16) (hst : s ≠ t) (h : post (tm, tn, upd kd t (kd s), upd nu t (nu s), upd sz t (sz s), ws_cp iy (12 * s) (12 * t) 12, ws_cp sy (12 * s) (12 * t) 12, upd dl t (dl s), st, wk, wo, we, wt, wd, d, qo, qk, qa, qb, q, rs, rc, te, tk)) : wpY_copy post (tm, tn, kd, nu, sz, iy, sy, dl, st, wk, wo, we, wt, wd, d, qo, qk, qa, qb, q, rs, rc, te, tk) (nI s) (nI t) := by
  have es : (nI s).toNatClampNeg = s := nI_clamp (by omega)
  have vs : vp_in (nI s) 16 := vp_in_nI hs (by omega)
  have et : (nI t).toNatClampNeg = t := nI_clamp (by omega)
  have vt : vp_in (nI t) 16 := vp_in_nI ht (by omega)
  have g := wy_cpy_l hs ht hst h 12 0 rfl
  rw [ws_cp0, ws_cp0] at g
  unfold wpY_copy
  dsimp only
  rw [es, et]
  exact ⟨vs, vt, nm_e ⟨vs, vt, nm_e ⟨vs, vt, nm_e ⟨vs, vt, nm_e ⟨13, g⟩⟩⟩⟩⟩
theorem wy_fnd_l {post : Int32 → Prop} {k n : Nat} {m r : Int32} (hk : k < 16) (hz : sz k = nI n) (hn : n ≤ 12) (hF : ws_F iy (12 * k) n m r) (h : post r) : ∀ j i, i + j = n → (∀ a, a < i → iy (12 * k + a) ≠ m) → wY_find_2 post (nI k) m tm tn kd nu sz iy sy dl st wk wo we wt wd d qo qk qa qb q rs rc te tk (j + 1) (nI i) := by
  have ek : (nI k).toNatClampNeg = k := nI_clamp (by omega)
  have vk : vp_in (nI k) 16 := vp_in_nI hk (by omega)
  intro j
  induction j with
  | zero =>
    intro i hi hlo
    obtain rfl : i = n := by omega
    unfold wY_find_2
    rw [ek, hz]
    refine ⟨vk, br_t (nI_le (by omega) (by omega)) ?_⟩
    rcases hF with ⟨rfl, _⟩ | ⟨p, hp, e, _, _⟩
    · exact h
    · exact absurd e (hlo p hp)
  | succ j ih =>
    intro i hi hlo
    have c1 : ¬ nI n ≤ nI i := nI_ge (by omega) (by omega)
    have e2 : (nI (12 * k + i)).toNatClampNeg = 12 * k + i := nI_clamp (by omega)
    have v : vp_in (nI (12 * k + i)) 192 := vp_in_nI (by omega) (by omega)
    unfold wY_find_2
    rw [ek, hz, nu_y12, e2]
    refine ⟨vk, br_f c1 ⟨v, ?_⟩⟩
    by_cases z : iy (12 * k + i) = m
    · refine br_t z ?_
      rcases hF with ⟨_, hno⟩ | ⟨p, hp, e, hl, rfl⟩
      · exact absurd z (hno i (by omega))
      · have : p = i := by
          rcases Nat.lt_trichotomy p i with c | c | c
          · exact absurd e (hlo p c)
          · exact c
          · exact absurd z (hl i c)
        rw [← this]
        exact h
    · refine br_f z (nm_r (nI_1 i) (ih (i + 1) (by omega) (fun a ha => ?_)))
      by_cases c : a = i
      · rw [c]; exact z
      · exact hlo a (by omega)
theorem wy_fnd {post : Int32 → Prop} {k n : Nat} {m r : Int32} (hk : k < 16) (hz : sz k = nI n) (hn : n ≤ 12) (hF : ws_F iy (12 * k) n m r) (h : post r) : wpY_find post (tm, tn, kd, nu, sz, iy, sy, dl, st, wk, wo, we, wt, wd, d, qo, qk, qa, qb, q, rs, rc, te, tk) (nI k) m :=
  ⟨n + 1, wy_fnd_l hk hz hn hF h n 0 (by omega) (fun a ha => absurd ha (by omega))⟩
/-- the count of a rank -/
def wy_P (iy sy : Nat → Int32) (b p : Nat) : Nat → Bool := fun j => decide (ws_lt (sy (b + j)) (iy (b + j)) (sy (b + p)) (iy (b + p)))
theorem wy_rnk_l {post : Int32 → Prop} {k n p : Nat} (hk : k < 16) (hz : sz k = nI n) (hn : n ≤ 12) (hp : p < 12) (h : post (nI (ws_c (wy_P iy sy (12 * k) p) n))) : ∀ j i, i + j = n → wY_rank_16 post (nI k) (nI (12 * k + p)) tm tn kd nu sz iy sy dl st wk wo we wt wd d qo qk qa qb q rs rc te tk (j + 1) (nI (ws_c (wy_P iy sy (12 * k) p) i)) (nI (12 * k + i)) := by
  have ek : (nI k).toNatClampNeg = k := nI_clamp (by omega)
  have vk : vp_in (nI k) 16 := vp_in_nI hk (by omega)
  have ep : (nI (12 * k + p)).toNatClampNeg = 12 * k + p := nI_clamp (by omega)
  have vp : vp_in (nI (12 * k + p)) 192 := vp_in_nI (by omega) (by omega)
  intro j
  induction j with
  | zero =>
    intro i hi
    obtain rfl : i = n := by omega
    unfold wY_rank_16
    rw [ek, hz, nu_y12]
    exact ⟨vk, br_t (nI_le (by omega) (by omega)) h⟩
  | succ j ih =>
    intro i hi
    have c1 : ¬ nI (12 * k + n) ≤ nI (12 * k + i) := nI_ge (by omega) (by omega)
    have e2 : (nI (12 * k + i)).toNatClampNeg = 12 * k + i := nI_clamp (by omega)
    have v : vp_in (nI (12 * k + i)) 192 := vp_in_nI (by omega) (by omega)
    have g := ih (i + 1) (by omega)
    have ys : ws_lt (sy (12 * k + i)) (iy (12 * k + i)) (sy (12 * k + p)) (iy (12 * k + p)) → ws_c (wy_P iy sy (12 * k) p) (i + 1) = ws_c (wy_P iy sy (12 * k) p) i + 1 := by
      intro hl
      show ws_c _ i + (if decide (ws_lt (sy (12 * k + i)) (iy (12 * k + i)) (sy (12 * k + p)) (iy (12 * k + p))) = true then 1 else 0) = _
      rw [if_pos (decide_eq_true hl)]
    have no : ¬ ws_lt (sy (12 * k + i)) (iy (12 * k + i)) (sy (12 * k + p)) (iy (12 * k + p)) → ws_c (wy_P iy sy (12 * k) p) (i + 1) = ws_c (wy_P iy sy (12 * k) p) i := by
      intro hl
      show ws_c _ i + (if decide (ws_lt (sy (12 * k + i)) (iy (12 * k + i)) (sy (12 * k + p)) (iy (12 * k + p))) = true then 1 else 0) = _
      rw [if_neg (fun y => hl (of_decide_eq_true y)), Nat.add_zero]
    unfold wY_rank_16
    rw [ek, hz, nu_y12, e2, ep]
    refine ⟨vk, br_f c1 ⟨v, vp, ?_⟩⟩
    by_cases a : sy (12 * k + i) < sy (12 * k + p)
    · rw [ys (Or.inl a)] at g
      exact br_t a (nm_r (nI_1 _) (nm_r (nI_1 (12 * k + i)) g))
    · refine br_f a ⟨v, vp, ?_⟩
      by_cases b : sy (12 * k + i) = sy (12 * k + p)
      · refine br_t b ⟨v, vp, ?_⟩
        by_cases c : iy (12 * k + p) ≤ iy (12 * k + i)
        · rw [no (by
            rintro (z | z)
            · exact a z
            · exact Int32.not_lt.mpr c z.2)] at g
          exact br_t c (nm_r (nI_1 (12 * k + i)) g)
        · rw [ys (Or.inr ⟨b, Int32.not_le.mp c⟩)] at g
          exact br_f c (nm_r (nI_1 _) (nm_r (nI_1 (12 * k + i)) g))
      · rw [no (by
          rintro (z | z)
          · exact a z
          · exact b z.1)] at g
        exact br_f b (nm_r (nI_1 (12 * k + i)) g)
theorem wy_rnk {post : Int32 → Prop} {k n p : Nat} (hk : k < 16) (hz : sz k = nI n) (hn : n ≤ 12) (hp : p < 12) (h : post (nI (ws_c (wy_P iy sy (12 * k) p) n))) : wpY_rank post (tm, tn, kd, nu, sz, iy, sy, dl, st, wk, wo, we, wt, wd, d, qo, qk, qa, qb, q, rs, rc, te, tk) (nI k) (nI p) :=
  nm_r (nu_y12 k p) (nm_r (nu_m12 k) ⟨n + 1, wy_rnk_l hk hz hn hp h n 0 (by omega)⟩)
/-- the place of rank i: X's i-th -/
theorem wy_plc {k n i : Nat} (hk : k < 16) (hz : sz k = nI n) (hn : n ≤ 12) (hR : ws_R ix sx iy sy (12 * k) n) (hi : i < n) : ∃ p, p < n ∧ sx (12 * k + i) = sy (12 * k + p) ∧ ix (12 * k + i) = iy (12 * k + p) ∧ ∀ post : Int32 → Prop, post (nI p) → wpY_placeOf post (tm, tn, kd, nu, sz, iy, sy, dl, st, wk, wo, we, wt, wd, d, qo, qk, qa, qb, q, rs, rc, te, tk) (nI k) (nI i) := by
  have hex : ∃ p, p < n ∧ ws_c (wy_P iy sy (12 * k) p) n = i := by
    obtain ⟨p, hp, e1, e2⟩ := ws_toY hR hi
    exact ⟨p, hp, ws_rkY hR hi e1.symm e2.symm⟩
  obtain ⟨p, ⟨hp, er⟩, hl⟩ := pk_least _ hex
  obtain ⟨i', hi', e1, e2⟩ := ws_toX hR hp
  have ei : ws_c (wy_P iy sy (12 * k) p) n = i' := ws_rkY hR hi' e1 e2
  obtain rfl : i' = i := by omega
  refine ⟨p, hp, e1, e2, fun post h => ⟨p + 1, ?_⟩⟩
  have g : ∀ j a, a + j = p → wY_placeOf_2 post (nI k) (nI i') tm tn kd nu sz iy sy dl st wk wo we wt wd d qo qk qa qb q rs rc te tk (j + 1) (nI a) := by
    intro j
    induction j with
    | zero =>
      intro a ha
      obtain rfl : a = p := by omega
      exact wy_rnk hk hz hn (by omega) (br_t (by rw [er]) h)
    | succ j ih =>
      intro a ha
      have hb := ws_c_le (wy_P iy sy (12 * k) a) n
      refine wy_rnk hk hz hn (by omega) (br_f (nu_ne (fun y => hl a (by omega) ⟨by omega, y⟩) (by omega) (by omega)) (nm_r (nI_1 a) (ih (a + 1) (by omega))))
  exact g p 0 (by omega)
theorem wy_out_l {post : Int32 → SY → Prop} {k n p : Nat} {r : Int32} (hk : k < 8) (hz : sz k = nI n) (hn : n < 12)
    (h0 : n ≠ 0 → post r (tm, tn, kd, nu, sz, ws_cl iy (12 * k + p) (12 * k + n), ws_cl sy (12 * k + p) (12 * k + n), dl, st, wk, wo, we, wt, wd, ws_dc wd d k 4, qo, qk, qa, qb, q, rs, rc, te, tk))
    (h1 : n = 0 → post r (tm, tn, upd kd k 0, upd nu k 0, upd sz k 0, ws_cl iy (12 * k + p) (12 * k + n), ws_cl sy (12 * k + p) (12 * k + n), upd dl k 0, st, wk, wo, we, wt, wd, ws_dc wd d k 4, qo, qk, qa, qb, q, rs, rc, te, tk)) :
    ∀ m i, p ≤ i → i + m = n → wY_out_28 post (nI k) r tm tn (m + 1) (nI (12 * k + i)) kd nu sz (ws_cl iy (12 * k + p) (12 * k + i)) (ws_cl sy (12 * k + p) (12 * k + i)) dl st wk wo we wt wd d qo qk qa qb q rs rc te tk := by
  have ek : (nI k).toNatClampNeg = k := nI_clamp (by omega)
  have vk : vp_in (nI k) 16 := vp_in_nI (by omega) (by omega)
  intro m
  induction m with
  | zero =>
    intro i hi hin
    obtain rfl : i = n := by omega
    unfold wY_out_28
    rw [ek, hz, nu_y12]
    refine ⟨vk, br_t (nI_le (by omega) (by omega)) ⟨vk, ?_⟩⟩
    by_cases z : i = 0
    · exact br_t (by rw [z]; rfl) (wy_clear (by omega) (wy_mark hk (h1 z)))
    · exact br_f (nI_ne0 (by omega) (by omega)) (wy_mark hk (h0 z))
  | succ m ih =>
    intro i hi hin
    have c1 : ¬ nI (12 * k + n) ≤ nI (12 * k + i) := nI_ge (by omega) (by omega)
    have e1 : nI (12 * k + i) + 1 = nI (12 * k + i + 1) := nI_1 _
    have e2 : (nI (12 * k + i + 1)).toNatClampNeg = 12 * k + i + 1 := nI_clamp (by omega)
    have e3 : (nI (12 * k + i)).toNatClampNeg = 12 * k + i := nI_clamp (by omega)
    have v : vp_in (nI (12 * k + i + 1)) 192 := vp_in_nI (by omega) (by omega)
    have v1 : vp_in (nI (12 * k + i)) 192 := vp_in_nI (by omega) (by omega)
    unfold wY_out_28
    rw [ek, hz, nu_y12, e1, e2, e3]
    exact ⟨vk, br_f c1 ⟨v, v1, nm_r (ws_cls iy (i := 12 * k + i) (by omega)) ⟨v, v1, nm_r (ws_cls sy (i := 12 * k + i) (by omega)) (nm_e (ih (i + 1) (by omega) (by omega)))⟩⟩⟩
theorem wy_out {post : Int32 → SY → Prop} {k n p : Nat} (hk : k < 8) (hz : sz k = nI (n + 1)) (hn : n < 12) (hp : p ≤ n)
    (h0 : n ≠ 0 → post (iy (12 * k + p)) (tm, tn, kd, nu, upd sz k (nI n), ws_cl iy (12 * k + p) (12 * k + n), ws_cl sy (12 * k + p) (12 * k + n), dl, st, wk, wo, we, wt, wd, ws_dc wd d k 4, qo, qk, qa, qb, q, rs, rc, te, tk))
    (h1 : n = 0 → post (iy (12 * k + p)) (tm, tn, upd kd k 0, upd nu k 0, upd (upd sz k (nI n)) k 0, ws_cl iy (12 * k + p) (12 * k + n), ws_cl sy (12 * k + p) (12 * k + n), upd dl k 0, st, wk, wo, we, wt, wd, ws_dc wd d k 4, qo, qk, qa, qb, q, rs, rc, te, tk)) :
    wpY_out post (tm, tn, kd, nu, sz, iy, sy, dl, st, wk, wo, we, wt, wd, d, qo, qk, qa, qb, q, rs, rc, te, tk) (nI k) (nI p) := by
  have ek : (nI k).toNatClampNeg = k := nI_clamp (by omega)
  have vk : vp_in (nI k) 16 := vp_in_nI (by omega) (by omega)
  have e3 : (nI (12 * k + p)).toNatClampNeg = 12 * k + p := nI_clamp (by omega)
  have v1 : vp_in (nI (12 * k + p)) 192 := vp_in_nI (by omega) (by omega)
  have g := wy_out_l (sz := upd sz k (nI n)) (p := p) hk pk_us hn h0 h1 (n - p) p (by omega) (by omega)
  rw [ws_cl0, ws_cl0] at g
  unfold wpY_out
  dsimp only
  rw [ek, hz]
  refine nm_r (nu_y12 k p) ⟨v1, nm_r (by rw [e3]) ⟨vk, vk, nm_r (by rw [nI_pred]) ⟨_, g⟩⟩⟩
end WY
