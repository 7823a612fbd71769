section WX
variable {tm : Int32} {tn : Int64} {kd nu sz dl ix sx iy sy st wk wo we w wd d q qo qk qa qb rc ra : Nat → Int32} {wt te tk tf tg rs : Nat → Int64}
/-! N: X's small methods -/
theorem wx_clear {post : SX → Prop} {k : Nat} (hk : k < 16) (h : post (tm, tn, upd kd k 0, upd nu k 0, upd sz k 0, upd dl k 0, ix, sx, st, wk, wo, we, wt, te, tk, w, q, qo, qk, qa, qb, rc, rs)) : wpX_clearSlot post (tm, tn, kd, nu, sz, dl, ix, sx, st, wk, wo, we, wt, te, tk, w, q, qo, qk, qa, qb, rc, rs) (nI k) := by
  have e : (nI k).toNatClampNeg = k := nI_clamp (by omega)
  have i : vp_in (nI k) 16 := vp_in_nI hk (by omega)
  unfold wpX_clearSlot
  dsimp only
  rw [e]
  exact ⟨i, nm_e ⟨i, nm_e ⟨i, nm_e ⟨i, nm_e h⟩⟩⟩⟩
theorem wx_forget {post : SX → Prop} {c : Nat} (hc : c < 4) (h : post (tm, tn, kd, nu, sz, dl, ix, sx, st, wk, wo, we, wt, vp_updL te c 10000000006, vp_updL tk c 10000000006, w, q, qo, qk, qa, qb, rc, rs)) : wpX_forgetTaken post (tm, tn, kd, nu, sz, dl, ix, sx, st, wk, wo, we, wt, te, tk, w, q, qo, qk, qa, qb, rc, rs) (nI c) := by
  have e : (nI c).toNatClampNeg = c := nI_clamp (by omega)
  have i : vp_in (nI c) 4 := vp_in_nI hc (by omega)
  unfold wpX_forgetTaken
  dsimp only
  rw [e]
  exact ⟨i, nm_e ⟨i, nm_e h⟩⟩
theorem wx_mark_l {post : SX → Prop} {k : Nat} (hk : k < 8) (h : post (tm, tn, kd, nu, sz, dl, ix, sx, st, wk, wo, we, wt, te, tk, ws_mk w k 4, q, qo, qk, qa, qb, rc, rs)) : ∀ m i, i + m = 4 → wX_markChanged_2 post (nI k) tm tn (m + 1) (nI i) kd nu sz dl ix sx st wk wo we wt te tk (ws_mk w k i) q qo qk qa qb rc rs := by
  intro m
  induction m with
  | zero =>
    intro i hi
    obtain rfl : i = 4 := by omega
    exact br_t (nI_le (a := 4) (b := 4) (by omega) (by omega)) h
  | succ m ih =>
    intro i hi
    have c1 : ¬ (4 : Int32) ≤ nI i := nI_ge (b := 4) (by omega) (by decide)
    have e2 : (nI (8 * i + k)).toNatClampNeg = 8 * i + k := nI_clamp (by omega)
    have v : vp_in (nI (8 * i + k)) 32 := vp_in_nI (by omega) (by omega)
    refine br_f c1 (nm_r (nu_x8 i k) ⟨v, ?_⟩)
    rw [e2, ws_mk_same w hk]
    by_cases z : w (8 * i + k) = 1
    · exact br_t z ⟨v, nm_r (ws_mks w hk z) (nm_r (nI_1 i) (ih (i + 1) (by omega)))⟩
    · refine br_f z (nm_r (nI_1 i) ?_)
      rw [ws_mkn w z]
      exact ih (i + 1) (by omega)
theorem wx_mark {post : SX → Prop} {k : Nat} (hk : k < 8) (h : post (tm, tn, kd, nu, sz, dl, ix, sx, st, wk, wo, we, wt, te, tk, ws_mk w k 4, q, qo, qk, qa, qb, rc, rs)) : wpX_markChanged post (tm, tn, kd, nu, sz, dl, ix, sx, st, wk, wo, we, wt, te, tk, w, q, qo, qk, qa, qb, rc, rs) (nI k) := by
  have g := wx_mark_l hk h 4 0 rfl
  rw [ws_mk0] at g
  exact ⟨5, g⟩
theorem wx_rel_l {post : SX → Prop} {c : Nat} (hc : c < 4) (h : post (tm, tn, kd, nu, sz, dl, ix, sx, st, wk, wo, we, wt, te, tk, ws_zr w c 8, q, qo, qk, qa, qb, rc, rs)) : ∀ m i, i + m = 8 → wX_release_16 post (nI c) tm tn (m + 1) (nI i) kd nu sz dl ix sx st wk wo we wt te tk (ws_zr w c i) q qo qk qa qb rc rs := by
  intro m
  induction m with
  | zero =>
    intro i hi
    obtain rfl : i = 8 := by omega
    exact br_t (nI_le (a := 8) (b := 8) (by omega) (by omega)) h
  | succ m ih =>
    intro i hi
    have c1 : ¬ (8 : Int32) ≤ nI i := nI_ge (b := 8) (by omega) (by decide)
    have e2 : (nI (8 * c + i)).toNatClampNeg = 8 * c + i := nI_clamp (by omega)
    have v : vp_in (nI (8 * c + i)) 32 := vp_in_nI (by omega) (by omega)
    refine br_f c1 ?_
    rw [nu_x8, e2, ws_zrs]
    exact ⟨v, nm_e (nm_r (nI_1 i) (ih (i + 1) (by omega)))⟩
theorem wx_rel {post : SX → Prop} {c : Nat} (hc : c < 4) (h : post (tm, tn, kd, nu, sz, dl, ix, sx, upd st c 0, wk, wo, we, wt, te, tk, ws_zr w c 8, upd q c 0, qo, qk, qa, qb, rc, rs)) : wpX_release post (tm, tn, kd, nu, sz, dl, ix, sx, st, wk, wo, we, wt, te, tk, w, q, qo, qk, qa, qb, rc, rs) (nI c) := by
  have e : (nI c).toNatClampNeg = c := nI_clamp (by omega)
  have i : vp_in (nI c) 4 := vp_in_nI hc (by omega)
  have g := wx_rel_l hc h 8 0 rfl
  rw [ws_zr0] at g
  unfold wpX_release
  dsimp only
  rw [e]
  exact ⟨i, nm_e ⟨i, nm_e ⟨9, g⟩⟩⟩
theorem wx_reset_l {post : SX → Prop} (h : post (tm, tn, kd, nu, sz, dl, ix, sx, ws_z st 4, wk, wo, we, wt, ws_zL te 10000000006 4, ws_zL tk 10000000006 4, ws_z w (8 * 4), ws_z q 4, qo, qk, qa, qb, ws_z rc 4, rs)) : ∀ m i, i + m = 4 → wX_resetClients_2 post (m + 1) (nI i) tm tn kd nu sz dl ix sx (ws_z st i) wk wo we wt (ws_zL te 10000000006 i) (ws_zL tk 10000000006 i) (ws_z w (8 * i)) (ws_z q i) qo qk qa qb (ws_z rc i) rs := by
  intro m
  induction m with
  | zero =>
    intro i hi
    obtain rfl : i = 4 := by omega
    exact br_t (nI_le (a := 4) (b := 4) (by omega) (by omega)) h
  | succ m ih =>
    intro i hi
    have c1 : ¬ (4 : Int32) ≤ nI i := nI_ge (b := 4) (by omega) (by decide)
    have e2 : (nI i).toNatClampNeg = i := nI_clamp (by omega)
    have v : vp_in (nI i) 4 := vp_in_nI (by omega) (by omega)
    refine br_f c1 (wx_rel (by omega) ⟨v, ?_⟩)
    rw [e2, ws_zs, ws_zs, ws_zz, ws_zs]
    refine nm_e (wx_forget (by omega) ?_)
    rw [ws_zLs, ws_zLs]
    exact nm_r (nI_1 i) (ih (i + 1) (by omega))
theorem wx_reset {post : SX → Prop} (h : post (tm, tn, kd, nu, sz, dl, ix, sx, ws_z st 4, wk, wo, we, wt, ws_zL te 10000000006 4, ws_zL tk 10000000006 4, ws_z w (8 * 4), ws_z q 4, qo, qk, qa, qb, ws_z rc 4, rs)) : wpX_resetClients post (tm, tn, kd, nu, sz, dl, ix, sx, st, wk, wo, we, wt, te, tk, w, q, qo, qk, qa, qb, rc, rs) := by
  have g := wx_reset_l h 4 0 rfl
  rw [Nat.mul_zero, ws_z0, ws_z0, ws_z0, ws_z0, ws_zL0, ws_zL0] at g
  exact ⟨5, g⟩
theorem wx_opn_l {post : SX → Prop} {k n p : Nat} (hk : k < 16) (hz : sz k = nI n) (hn : n < 12) (h : post (tm, tn, kd, nu, upd sz k (nI (n + 1)), dl, ws_op ix (12 * k + p) (12 * k + n), ws_op sx (12 * k + p) (12 * k + n), st, wk, wo, we, wt, te, tk, w, q, qo, qk, qa, qb, rc, rs)) : ∀ m i, i = p + m → i ≤ n → wX_openPlace_7 post (nI k) (nI p) tm tn (m + 1) (nI i) kd nu sz dl (ws_op ix (12 * k + i) (12 * k + n)) (ws_op sx (12 * k + i) (12 * k + n)) st wk wo we wt te tk w q qo qk qa qb rc rs := by
  have ek : (nI k).toNatClampNeg = k := nI_clamp (by omega)
  have vk : vp_in (nI k) 16 := vp_in_nI hk (by omega)
  intro m
  induction m with
  | zero =>
    intro i hi hin
    obtain rfl : i = p := by omega
    refine br_t (nI_le (by omega) (by omega)) ?_
    rw [ek, hz]
    exact ⟨vk, vk, nm_r (by rw [nI_1]) h⟩
  | succ m ih =>
    intro i hi hin
    obtain ⟨j, rfl⟩ : ∃ j, i = j + 1 := ⟨i - 1, by omega⟩
    have c1 : ¬ nI (j + 1) ≤ nI p := nI_ge (by omega) (by omega)
    have e0 : nI k * 12 + nI (j + 1) = nI (12 * k + j + 1) := nu_x12 k (j + 1)
    have e1 : nI (12 * k + j + 1) - 1 = nI (12 * k + j) := nI_pred _
    have e2 : (nI (12 * k + j + 1)).toNatClampNeg = 12 * k + j + 1 := nI_clamp (by omega)
    have e3 : (nI (12 * k + j)).toNatClampNeg = 12 * k + j := nI_clamp (by omega)
    have v : vp_in (nI (12 * k + j + 1)) 192 := vp_in_nI (by omega) (by omega)
    have v1 : vp_in (nI (12 * k + j)) 192 := vp_in_nI (by omega) (by omega)
    refine br_f c1 (nm_r e0 ?_)
    rw [e1, e2, e3]
    refine ⟨v1, v, nm_r (ws_ops ix (i := 12 * k + j) (by omega)) ⟨v1, v, nm_r (ws_ops sx (i := 12 * k + j) (by omega)) (nm_r (pk_m1 j) (ih j (by omega) (by omega)))⟩⟩
theorem wx_opn {post : SX → Prop} {k n p : Nat} (hk : k < 16) (hz : sz k = nI n) (hn : n < 12) (hp : p ≤ n) (h : post (tm, tn, kd, nu, upd sz k (nI (n + 1)), dl, ws_op ix (12 * k + p) (12 * k + n), ws_op sx (12 * k + p) (12 * k + n), st, wk, wo, we, wt, te, tk, w, q, qo, qk, qa, qb, rc, rs)) : wpX_openPlace post (tm, tn, kd, nu, sz, dl, ix, sx, st, wk, wo, we, wt, te, tk, w, q, qo, qk, qa, qb, rc, rs) (nI k) (nI p) := by
  have ek : (nI k).toNatClampNeg = k := nI_clamp (by omega)
  have vk : vp_in (nI k) 16 := vp_in_nI hk (by omega)
  have g := wx_opn_l hk hz hn h (n - p) n (by omega) (by omega)
  rw [ws_op0, ws_op0] at g
  unfold wpX_openPlace
  dsimp only
  rw [ek, hz]
  exact ⟨vk, nm_e ⟨_, g⟩⟩
theorem wx_cls_l {post : SX → Prop} {k n p : Nat} (hk : k < 16) (hn : n < 12) (h : post (tm, tn, kd, nu, upd sz k (nI n), dl, ws_cl ix (12 * k + p) (12 * k + n), ws_cl sx (12 * k + p) (12 * k + n), st, wk, wo, we, wt, te, tk, w, q, qo, qk, qa, qb, rc, rs)) : ∀ m i, p ≤ i → i + m = n → wX_closePlace_12 post (nI k) (nI n) tm tn (m + 1) (nI i) kd nu sz dl (ws_cl ix (12 * k + p) (12 * k + i)) (ws_cl sx (12 * k + p) (12 * k + i)) st wk wo we wt te tk w q qo qk qa qb rc rs := by
  have ek : (nI k).toNatClampNeg = k := nI_clamp (by omega)
  have vk : vp_in (nI k) 16 := vp_in_nI hk (by omega)
  intro m
  induction m with
  | zero =>
    intro i hi hin
    obtain rfl : i = n := by omega
    refine br_t (nI_le (by omega) (by omega)) ?_
    rw [ek]
    exact ⟨vk, nm_e h⟩
  | succ m ih =>
    intro i hi hin
    have c1 : ¬ nI n ≤ nI i := nI_ge (by omega) (by omega)
    have e1 : nI (12 * k + i) + 1 = nI (12 * k + i + 1) := nI_1 _
    have e2 : (nI (12 * k + i + 1)).toNatClampNeg = 12 * k + i + 1 := nI_clamp (by omega)
    have e3 : (nI (12 * k + i)).toNatClampNeg = 12 * k + i := nI_clamp (by omega)
    have v : vp_in (nI (12 * k + i + 1)) 192 := vp_in_nI (by omega) (by omega)
    have v1 : vp_in (nI (12 * k + i)) 192 := vp_in_nI (by omega) (by omega)
    refine br_f c1 (nm_r (nu_x12 k i) ?_)
    rw [e1, e2, e3]
    exact ⟨v, v1, nm_r (ws_cls ix (i := 12 * k + i) (by omega)) ⟨v, v1, nm_r (ws_cls sx (i := 12 * k + i) (by omega)) (nm_r (nI_1 i) (ih (i + 1) (by omega) (by omega)))⟩⟩
theorem wx_cls {post : SX → Prop} {k n p : Nat} (hk : k < 16) (hz : sz k = nI (n + 1)) (hn : n < 12) (hp : p ≤ n) (h : post (tm, tn, kd, nu, upd sz k (nI n), dl, ws_cl ix (12 * k + p) (12 * k + n), ws_cl sx (12 * k + p) (12 * k + n), st, wk, wo, we, wt, te, tk, w, q, qo, qk, qa, qb, rc, rs)) : wpX_closePlace post (tm, tn, kd, nu, sz, dl, ix, sx, st, wk, wo, we, wt, te, tk, w, q, qo, qk, qa, qb, rc, rs) (nI k) (nI p) := by
  have ek : (nI k).toNatClampNeg = k := nI_clamp (by omega)
  have vk : vp_in (nI k) 16 := vp_in_nI hk (by omega)
  have g := wx_cls_l hk hn h (n - p) p (by omega) (by omega)
  rw [ws_cl0, ws_cl0] at g
  unfold wpX_closePlace
  dsimp only
  rw [ek, hz]
  exact ⟨vk, nm_r (nI_pred n) ⟨_, g⟩⟩
theorem wx_cpy_l {post : SX → Prop} {s t : Nat} (hs : s < 16) (ht : t < 16) (hst : s ≠ t) (h : post (tm, tn, kd, nu, sz, dl, ws_cp ix (12 * s) (12 * t) 12, ws_cp sx (12 * s) (12 * t) 12, st, wk, wo, we, wt, te, tk, w, q, qo, qk, qa, qb, rc, rs)) : ∀ m i, i + m = 12 → wX_copySlot_50 post (nI s) (nI t) tm tn (m + 1) (nI i) kd nu sz dl (ws_cp ix (12 * s) (12 * t) i) (ws_cp sx (12 * s) (12 * t) i) st wk wo we wt te tk w q qo qk qa qb rc rs := by
  intro m
  induction m with
  | zero =>
    intro i hi
    obtain rfl : i = 12 := by omega
    exact br_t (nI_le (a := 12) (b := 12) (by omega) (by omega)) h
  | succ m ih =>
    intro i hi
    have c1 : ¬ (12 : Int32) ≤ nI i := nI_ge (b := 12) (by omega) (by decide)
    have e2 : (nI (12 * s + i)).toNatClampNeg = 12 * s + i := nI_clamp (by omega)
    have e3 : (nI (12 * t + i)).toNatClampNeg = 12 * t + i := nI_clamp (by omega)
    have v : vp_in (nI (12 * s + i)) 192 := vp_in_nI (by omega) (by omega)
    have v1 : vp_in (nI (12 * t + i)) 192 := vp_in_nI (by omega) (by omega)
    refine br_f c1 ?_
    rw [nu_x12, nu_x12, e2, e3]
    exact ⟨v, v1, nm_r (ws_cps ix (by omega)) ⟨v, v1, nm_r (ws_cps sx (by omega)) (nm_r (nI_1 i) (ih (i + 1) (by omega)))⟩⟩
theorem wx_cpy {post : SX → Prop} {s t : Nat} (hs : s < 16) (ht : t < 16) (hst : s ≠ t) (h : post (tm, tn, upd kd t (kd s), upd nu t (nu s), upd sz t (sz s), upd dl t (dl s), ws_cp ix (12 * s) (12 * t) 12, ws_cp sx (12 * s) (12 * t) 12, st, wk, wo, we, wt, te, tk, w, q, qo, qk, qa, qb, rc, rs)) : wpX_copySlot post (tm, tn, kd, nu, sz, dl, ix, sx, st, wk, wo, we, wt, te, tk, w, q, qo, qk, qa, qb, rc, rs) (nI s) (nI t) := by
  have es : (nI s).toNatClampNeg = s := nI_clamp (by omega)
  have vs : vp_in (nI s) 16 := vp_in_nI hs (by omega)
  have et : (nI t).toNatClampNeg = t := nI_clamp (by omega)
  have vt : vp_in (nI t) 16 := vp_in_nI ht (by omega)
  have g := wx_cpy_l hs ht hst h 12 0 rfl
  rw [ws_cp0, ws_cp0] at g
  unfold wpX_copySlot
  dsimp only
  rw [es, et]
  exact ⟨vs, vt, nm_e ⟨vs, vt, nm_e ⟨vs, vt, nm_e ⟨vs, vt, nm_e ⟨13, g⟩⟩⟩⟩⟩
theorem wx_fnd_l {post : Int32 → Prop} {k n : Nat} {m r : Int32} (hk : k < 16) (hn : n ≤ 12) (hF : ws_F ix (12 * k) n m r) (h : post r) : ∀ j i, i + j = n → (∀ a, a < i → ix (12 * k + a) ≠ m) → wX_placeOf_10 post (nI k) m (nI n) tm tn kd nu sz dl ix sx st wk wo we wt te tk w q qo qk qa qb rc rs (j + 1) (nI i) := by
  intro j
  induction j with
  | zero =>
    intro i hi hlo
    obtain rfl : i = n := by omega
    refine br_t (nI_le (by omega) (by omega)) ?_
    rcases hF with ⟨rfl, _⟩ | ⟨p, hp, e, _, _⟩
    · exact h
    · exact absurd e (hlo p hp)
  | succ j ih =>
    intro i hi hlo
    have c1 : ¬ nI n ≤ nI i := nI_ge (by omega) (by omega)
    have e2 : (nI (12 * k + i)).toNatClampNeg = 12 * k + i := nI_clamp (by omega)
    have v : vp_in (nI (12 * k + i)) 192 := vp_in_nI (by omega) (by omega)
    refine br_f c1 ?_
    rw [nu_x12, e2]
    refine ⟨v, ?_⟩
    by_cases z : ix (12 * k + i) = m
    · refine br_t z ?_
      rcases hF with ⟨_, hno⟩ | ⟨p, hp, e, hl, rfl⟩
      · exact absurd z (hno i (by omega))
      · have : p = i := by
          rcases Nat.lt_trichotomy p i with c | c | c
          · exact absurd e (hlo p c)
          · exact c
          · exact absurd z (hl i c)
        rw [← this]
        exact h
    · refine br_f z (nm_r (nI_1 i) (ih (i + 1) (by omega) (fun a ha => ?_)))
      by_cases c : a = i
      · rw [c]; exact z
      · exact hlo a (by omega)
theorem wx_fnd {post : Int32 → Prop} {k n : Nat} {m r : Int32} (hk : k < 16) (hz : sz k = nI n) (hn : n ≤ 12) (hF : ws_F ix (12 * k) n m r) (h : post r) : wpX_placeOf post (tm, tn, kd, nu, sz, dl, ix, sx, st, wk, wo, we, wt, te, tk, w, q, qo, qk, qa, qb, rc, rs) (nI k) m := by
  have ek : (nI k).toNatClampNeg = k := nI_clamp (by omega)
  have vk : vp_in (nI k) 16 := vp_in_nI hk (by omega)
  unfold wpX_placeOf
  dsimp only
  rw [ek, hz]
  exact ⟨vk, nm_e ⟨n + 1, wx_fnd_l hk hn hF h n 0 (by omega) (fun a ha => absurd ha (by omega))⟩⟩
theorem wx_for_l {post : Int32 → Prop} {k n p : Nat} {m v : Int32} (hk : k < 16) (hn : n ≤ 12) (hG : ws_G sx ix (12 * k) n m v p) (h : post (nI p)) : ∀ j i, i + j = n → i ≤ p → wX_placeFor_11 post (nI k) m v (nI n) tm tn kd nu sz dl ix sx st wk wo we wt te tk w q qo qk qa qb rc rs (j + 1) (nI i) := by
  obtain ⟨hp, hlo, hhi⟩ := hG
  intro j
  induction j with
  | zero =>
    intro i hi hip
    obtain rfl : i = n := by omega
    obtain rfl : i = p := by omega
    exact br_t (nI_le (by omega) (by omega)) h
  | succ j ih =>
    intro i hi hip
    have c1 : ¬ nI n ≤ nI i := nI_ge (by omega) (by omega)
    have e2 : (nI (12 * k + i)).toNatClampNeg = 12 * k + i := nI_clamp (by omega)
    have vi : vp_in (nI (12 * k + i)) 192 := vp_in_nI (by omega) (by omega)
    refine br_f c1 (nm_r (nu_x12 k i) ?_)
    rw [e2]
    have hit : ∀ {A : Prop}, ws_lt v m (sx (12 * k + i)) (ix (12 * k + i)) → (post (nI i) → A) → A := by
      intro A hl f
      have : p = i := by
        by_cases c : i < p
        · exact absurd hl (hlo i c)
        · omega
      rw [← this] at f
      exact f h
    have nx : ¬ ws_lt v m (sx (12 * k + i)) (ix (12 * k + i)) → wX_placeFor_11 post (nI k) m v (nI n) tm tn kd nu sz dl ix sx st wk wo we wt te tk w q qo qk qa qb rc rs (j + 1) (nI (i + 1)) := by
      intro hl
      refine ih (i + 1) (by omega) ?_
      by_cases c : i = p
      · rw [c] at hl
        exact absurd (hhi (by omega)) hl
      · omega
    refine ⟨vi, ?_⟩
    by_cases a : v < sx (12 * k + i)
    · exact br_t a (hit (Or.inl a) id)
    · refine br_f a ⟨vi, ?_⟩
      by_cases b : sx (12 * k + i) = v
      · refine br_t b ⟨vi, ?_⟩
        by_cases c : ix (12 * k + i) ≤ m
        · refine br_t c (nm_r (nI_1 i) (nx ?_))
          rintro (z | z)
          · exact a z
          · exact Int32.not_lt.mpr c z.2
        · refine br_f c (hit (Or.inr ⟨b.symm, Int32.not_le.mp c⟩) id)
      · refine br_f b (nm_r (nI_1 i) (nx ?_))
        rintro (z | z)
        · exact a z
        · exact b z.1.symm
theorem wx_for {post : Int32 → Prop} {k n p : Nat} {m v : Int32} (hk : k < 16) (hz : sz k = nI n) (hn : n ≤ 12) (hG : ws_G sx ix (12 * k) n m v p) (h : post (nI p)) : wpX_placeFor post (tm, tn, kd, nu, sz, dl, ix, sx, st, wk, wo, we, wt, te, tk, w, q, qo, qk, qa, qb, rc, rs) (nI k) m v := by
  have ek : (nI k).toNatClampNeg = k := nI_clamp (by omega)
  have vk : vp_in (nI k) 16 := vp_in_nI hk (by omega)
  unfold wpX_placeFor
  dsimp only
  rw [ek, hz]
  exact ⟨vk, nm_e ⟨n + 1, wx_for_l hk hn hG h n 0 (by omega) (by omega)⟩⟩
end WX
