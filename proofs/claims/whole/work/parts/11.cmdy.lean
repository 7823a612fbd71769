section CY
variable {tm : Int32} {tn : Int64} {kd nu sz dl ix sx iy sy st wk wo we w wd d q qo qk qa qb rc ra : Nat → Int32} {wt te tk tf tg rs : Nat → Int64}
variable {k : Nat} {a b : Int32}
/-! Q: Y's commands -/
theorem wy_put75 {post : Int64 → SY → Prop} {p : Nat} (hk : k < 8) (hp : p < 12) (h : post (sz k).toInt64 (tm, tn, kd, nu, sz, upd iy (12 * k + p) a, sy, dl, st, wk, wo, we, wt, wd, ws_dc wd d k 4, qo, qk, qa, qb, q, rs, rc, te, tk)) : wY_put_75 post (nI k) a (nI (12 * k + p)) tm tn kd nu sz iy sy dl st wk wo we wt wd d qo qk qa qb q rs rc te tk := by
  have e : (nI k).toNatClampNeg = k := nI_clamp (by omega)
  have i : vp_in (nI k) 16 := vp_in_nI (by omega) (by omega)
  have e3 : (nI (12 * k + p)).toNatClampNeg = 12 * k + p := nI_clamp (by omega)
  have v1 : vp_in (nI (12 * k + p)) 192 := vp_in_nI (by omega) (by omega)
  unfold wY_put_75
  rw [e3, e]
  exact ⟨v1, nm_e (wy_mark hk ⟨i, h⟩)⟩
theorem wy_putL {post : Int64 → SY → Prop} {n : Nat} (hk : k < 8) (hn : n < 12) (h : post (sz k).toInt64 (tm, tn, kd, nu, sz, upd (ws_op iy (12 * k + 0) (12 * k + n)) (12 * k + 0) a, sy, dl, st, wk, wo, we, wt, wd, ws_dc wd d k 4, qo, qk, qa, qb, q, rs, rc, te, tk)) : ∀ m, m ≤ n → wY_put_40 post (nI k) 1 a tm tn (m + 1) (nI (12 * k + m)) kd nu sz (ws_op iy (12 * k + m) (12 * k + n)) sy dl st wk wo we wt wd d qo qk qa qb q rs rc te tk := by
  intro m
  induction m with
  | zero =>
    intro hm
    refine br_f (by decide) (br_t ?_ (wy_put75 hk (by omega) h))
    rw [nu_m12]
    exact nI_le (by omega) (by omega)
  | succ m ih =>
    intro hm
    have c1 : ¬ nI (12 * k + (m + 1)) ≤ 12 * nI k := by
      rw [nu_m12]
      exact nI_ge (by omega) (by omega)
    have e1 : nI (12 * k + (m + 1)) - 1 = nI (12 * k + m) := nI_pred _
    have e2 : (nI (12 * k + (m + 1))).toNatClampNeg = 12 * k + m + 1 := nI_clamp (by omega)
    have e3 : (nI (12 * k + m)).toNatClampNeg = 12 * k + m := nI_clamp (by omega)
    have v : vp_in (nI (12 * k + (m + 1))) 192 := vp_in_nI (by omega) (by omega)
    have v1 : vp_in (nI (12 * k + m)) 192 := vp_in_nI (by omega) (by omega)
    refine br_f (by decide) (br_f c1 ?_)
    rw [e1, e2, e3]
    exact ⟨v1, v, nm_r (ws_ops iy (i := 12 * k + m) (by omega)) (nm_r (pk_m1 (12 * k + m)) (ih (by omega)))⟩
theorem wy_put0 {post : Int64 → SY → Prop} {f : Int32} (hk : k < 8) (hz : sz k = nI 12) (h : post 10000000003 (tm, tn, kd, nu, sz, iy, sy, dl, st, wk, wo, we, wt, wd, d, qo, qk, qa, qb, q, rs, rc, te, tk)) : wpY_put post (tm, tn, kd, nu, sz, iy, sy, dl, st, wk, wo, we, wt, wd, d, qo, qk, qa, qb, q, rs, rc, te, tk) (nI k) f a := by
  have e : (nI k).toNatClampNeg = k := nI_clamp (by omega)
  have i : vp_in (nI k) 16 := vp_in_nI (by omega) (by omega)
  unfold wpY_put
  show _ ∧ _
  rw [e, hz]
  exact ⟨i, br_t rfl h⟩
theorem wy_putF {post : Int64 → SY → Prop} {n : Nat} (hk : k < 8) (hz : sz k = nI n) (hn : n < 12) (h : post (nI (n + 1)).toInt64 (tm, tn, upd kd k 2, nu, upd sz k (nI (n + 1)), upd (ws_op iy (12 * k + 0) (12 * k + n)) (12 * k + 0) a, sy, dl, st, wk, wo, we, wt, wd, ws_dc wd d k 4, qo, qk, qa, qb, q, rs, rc, te, tk)) : wpY_put post (tm, tn, kd, nu, sz, iy, sy, dl, st, wk, wo, we, wt, wd, d, qo, qk, qa, qb, q, rs, rc, te, tk) (nI k) 1 a := by
  have e : (nI k).toNatClampNeg = k := nI_clamp (by omega)
  have i : vp_in (nI k) 16 := vp_in_nI (by omega) (by omega)
  have g := wy_putL (kd := upd kd k 2) (sz := upd sz k (nI (n + 1))) hk hn (by rw [pk_us]; exact h) n (by omega)
  rw [ws_op0] at g
  unfold wpY_put
  show _ ∧ _
  rw [e, hz, nu_y12, nI_1]
  exact ⟨i, br_f (nu_ne (b := 12) (by omega) (by omega) (by omega)) ⟨i, nm_e ⟨i, i, nm_e (nm_e ⟨_, g⟩)⟩⟩⟩
theorem wy_putB {post : Int64 → SY → Prop} {n : Nat} (hk : k < 8) (hz : sz k = nI n) (hn : n < 12) (h : post (nI (n + 1)).toInt64 (tm, tn, upd kd k 2, nu, upd sz k (nI (n + 1)), upd iy (12 * k + n) a, sy, dl, st, wk, wo, we, wt, wd, ws_dc wd d k 4, qo, qk, qa, qb, q, rs, rc, te, tk)) : wpY_put post (tm, tn, kd, nu, sz, iy, sy, dl, st, wk, wo, we, wt, wd, d, qo, qk, qa, qb, q, rs, rc, te, tk) (nI k) 0 a := by
  have e : (nI k).toNatClampNeg = k := nI_clamp (by omega)
  have i : vp_in (nI k) 16 := vp_in_nI (by omega) (by omega)
  have g := wy_put75 (kd := upd kd k 2) (sz := upd sz k (nI (n + 1))) (a := a) (p := n) hk hn (by rw [pk_us]; exact h)
  unfold wpY_put
  show _ ∧ _
  rw [e, hz, nu_y12, nI_1]
  exact ⟨i, br_f (nu_ne (b := 12) (by omega) (by omega) (by omega)) ⟨i, nm_e ⟨i, i, nm_e (nm_e ⟨1, br_t rfl g⟩)⟩⟩⟩
theorem wy_wh0 {post : Int64 → SY → Prop} {o : Int32} (hk : k < 8) (h0 : kd k = 0) (h : post 0 (tm, tn, kd, nu, sz, iy, sy, dl, st, wk, wo, we, wt, wd, d, qo, qk, qa, qb, q, rs, rc, te, tk)) : wpY_whole post (tm, tn, kd, nu, sz, iy, sy, dl, st, wk, wo, we, wt, wd, d, qo, qk, qa, qb, q, rs, rc, te, tk) o (nI k) a := by
  have e : (nI k).toNatClampNeg = k := nI_clamp (by omega)
  have i : vp_in (nI k) 16 := vp_in_nI (by omega) (by omega)
  unfold wpY_whole
  rw [e]
  exact ⟨i, br_t h0 h⟩
theorem wy_drop1 {post : Int64 → SY → Prop} (hk : k < 8) (h0 : kd k ≠ 0) (h : post 1 (tm, tn, upd kd k 0, upd nu k 0, upd sz k 0, iy, sy, upd dl k 0, st, wk, wo, we, wt, wd, ws_dc wd d k 4, qo, qk, qa, qb, q, rs, rc, te, tk)) : wpY_whole post (tm, tn, kd, nu, sz, iy, sy, dl, st, wk, wo, we, wt, wd, d, qo, qk, qa, qb, q, rs, rc, te, tk) 2 (nI k) a := by
  have e : (nI k).toNatClampNeg = k := nI_clamp (by omega)
  have i : vp_in (nI k) 16 := vp_in_nI (by omega) (by omega)
  unfold wpY_whole
  rw [e]
  exact ⟨i, br_f h0 (br_f (by decide) (br_f (by decide) (wy_clear (by omega) (wy_mark hk h))))⟩
theorem wy_dl1 {post : Int64 → SY → Prop} {x : Int32} (hk : k < 8) (h0 : kd k ≠ 0) (hx : (a = 0 ∧ x = 0) ∨ (a ≠ 0 ∧ x = tm + a)) (h : post 1 (tm, tn, kd, nu, sz, iy, sy, upd dl k x, st, wk, wo, we, wt, wd, ws_dc wd d k 4, qo, qk, qa, qb, q, rs, rc, te, tk)) : wpY_whole post (tm, tn, kd, nu, sz, iy, sy, dl, st, wk, wo, we, wt, wd, d, qo, qk, qa, qb, q, rs, rc, te, tk) 3 (nI k) a := by
  have e : (nI k).toNatClampNeg = k := nI_clamp (by omega)
  have i : vp_in (nI k) 16 := vp_in_nI (by omega) (by omega)
  unfold wpY_whole
  rw [e]
  refine ⟨i, br_f h0 (br_f (by decide) (br_t rfl ?_))⟩
  rcases hx with ⟨ha, rfl⟩ | ⟨ha, rfl⟩
  · exact br_t ha ⟨i, nm_r (e' := upd dl k 0) (by rw [e]) (wy_mark hk h)⟩
  · exact br_f ha ⟨i, nm_r (e' := upd dl k (tm + a)) (by rw [e]) (wy_mark hk h)⟩
theorem wy_ren1 {post : Int64 → SY → Prop} {t : Nat} (hk : k < 8) (ht : t < 8) (hkt : k ≠ t) (h0 : kd k ≠ 0)
    (h : post 1 (tm, tn, upd (upd kd t (kd k)) k 0, upd (upd nu t (nu k)) k 0, upd (upd sz t (sz k)) k 0, ws_cp iy (12 * k) (12 * t) 12, ws_cp sy (12 * k) (12 * t) 12, upd (upd dl t (dl k)) k 0, st, wk, wo, we, wt, wd, ws_dc wd (ws_dc wd d t 4) k 4, qo, qk, qa, qb, q, rs, rc, te, tk)) : wpY_whole post (tm, tn, kd, nu, sz, iy, sy, dl, st, wk, wo, we, wt, wd, d, qo, qk, qa, qb, q, rs, rc, te, tk) 11 (nI k) (nI t) := by
  have e : (nI k).toNatClampNeg = k := nI_clamp (by omega)
  have i : vp_in (nI k) 16 := vp_in_nI (by omega) (by omega)
  unfold wpY_whole
  rw [e]
  exact ⟨i, br_f h0 (br_t rfl (wy_cpy (by omega) (by omega) hkt (wy_mark ht (br_f (by decide) (wy_clear (by omega) (wy_mark hk h))))))⟩
theorem wy_scA {post : Int64 → SY → Prop} {m f : Int32} (hk : k < 8) (hz : sz k = nI 12) (hF : ws_F iy (12 * k) 12 m (-1)) (h : post 10000000003 (tm, tn, kd, nu, sz, iy, sy, dl, st, wk, wo, we, wt, wd, d, qo, qk, qa, qb, q, rs, rc, te, tk)) : wpY_scored post (tm, tn, kd, nu, sz, iy, sy, dl, st, wk, wo, we, wt, wd, d, qo, qk, qa, qb, q, rs, rc, te, tk) (nI k) m b f := by
  have e : (nI k).toNatClampNeg = k := nI_clamp (by omega)
  have i : vp_in (nI k) 16 := vp_in_nI (by omega) (by omega)
  refine wy_fnd (by omega) hz (by omega) hF (br_f (by decide) (br_f (by decide) ⟨i, ?_⟩))
  rw [e, hz]
  exact br_t rfl h
theorem wy_sc147 {post : Int64 → SY → Prop} {p : Nat} {f g v : Int32} {r : Int64} (hk : k < 8) (hp : p < 12) (hr : (f = 0 ∧ g = 0 ∧ r = 0) ∨ (f = 0 ∧ g = 1 ∧ r = 1) ∨ (f = 1 ∧ r = v.toInt64))
    (h : post r (tm, tn, kd, nu, sz, iy, upd sy (12 * k + p) v, dl, st, wk, wo, we, wt, wd, ws_dc wd d k 4, qo, qk, qa, qb, q, rs, rc, te, tk)) : wY_scored_147 post (nI k) f g (nI (12 * k + p)) v 1 tm tn kd nu sz iy sy dl st wk wo we wt wd d qo qk qa qb q rs rc te tk := by
  have e3 : (nI (12 * k + p)).toNatClampNeg = 12 * k + p := nI_clamp (by omega)
  have v1 : vp_in (nI (12 * k + p)) 192 := vp_in_nI (by omega) (by omega)
  unfold wY_scored_147
  rw [e3]
  refine ⟨v1, nm_e (br_f (by decide) (wy_mark hk ?_))⟩
  rcases hr with ⟨rfl, rfl, rfl⟩ | ⟨rfl, rfl, rfl⟩ | ⟨rfl, rfl⟩
  · exact br_t rfl (br_t rfl h)
  · exact br_t rfl (br_f (by decide) h)
  · exact br_f (by decide) h
theorem wy_scB {post : Int64 → SY → Prop} {n : Nat} {m f v : Int32} {r : Int64} (hk : k < 8) (hz : sz k = nI n) (hn : n < 12) (hF : ws_F iy (12 * k) n m (-1)) (hr : (f = 0 ∧ v = b ∧ r = 1) ∨ (f = 1 ∧ v = 0 + b ∧ r = v.toInt64))
    (h : post r (tm, tn, upd kd k 3, nu, upd sz k (nI (n + 1)), upd iy (12 * k + n) m, upd sy (12 * k + n) v, dl, st, wk, wo, we, wt, wd, ws_dc wd d k 4, qo, qk, qa, qb, q, rs, rc, te, tk)) : wpY_scored post (tm, tn, kd, nu, sz, iy, sy, dl, st, wk, wo, we, wt, wd, d, qo, qk, qa, qb, q, rs, rc, te, tk) (nI k) m b f := by
  have e : (nI k).toNatClampNeg = k := nI_clamp (by omega)
  have i : vp_in (nI k) 16 := vp_in_nI (by omega) (by omega)
  have e3 : (nI (12 * k + n)).toNatClampNeg = 12 * k + n := nI_clamp (by omega)
  have v1 : vp_in (nI (12 * k + n)) 192 := vp_in_nI (by omega) (by omega)
  have g : wY_scored_147 post (nI k) f 1 (nI (12 * k + n)) v 1 tm tn (upd kd k 3) nu (upd sz k (nI (n + 1))) (upd iy (12 * k + n) m) (upd sy (12 * k + n) 0) dl st wk wo we wt wd d qo qk qa qb q rs rc te tk := by
    refine wy_sc147 hk hn ?_ (by rw [ws_uu]; exact h)
    rcases hr with ⟨rfl, rfl, rfl⟩ | ⟨rfl, _, rfl⟩
    · exact Or.inr (Or.inl ⟨rfl, rfl, rfl⟩)
    · exact Or.inr (Or.inr ⟨rfl, rfl⟩)
  refine wy_fnd (by omega) hz (by omega) hF (br_f (by decide) (br_f (by decide) ⟨i, ?_⟩))
  rw [e, hz]
  refine br_f (nu_ne (b := 12) (by omega) (by omega) (by omega)) (br_f (by decide) ⟨i, nm_r (e' := upd kd k 3) (by rw [e]) ⟨i, i, nm_r (e' := upd sz k (nI (n + 1))) (by rw [e, hz, nI_1]) (nm_r (e' := nI n) (by rw [e, hz]) ?_)⟩⟩)
  rw [nu_y12, e3]
  refine ⟨v1, nm_e ⟨v1, nm_e (nm_r (nu_y12 k n) ?_)⟩⟩
  rcases hr with ⟨rfl, rfl, rfl⟩ | ⟨rfl, rfl, rfl⟩
  · exact br_t rfl (br_f (by decide) g)
  · refine br_f (by decide) ⟨v1, ?_⟩
    rw [e3, pk_us]
    exact br_f (by decide) g
theorem wy_scC {post : Int64 → SY → Prop} {n p : Nat} {m f v : Int32} {r : Int64} (hk : k < 8) (hz : sz k = nI n) (hn : n ≤ 12) (hF : ws_F iy (12 * k) n m (nI p)) (hp : p < 12) (hr : (f = 0 ∧ v = b ∧ v ≠ sy (12 * k + p) ∧ r = 0) ∨ (f = 1 ∧ v = sy (12 * k + p) + b ∧ r = v.toInt64))
    (h : post r (tm, tn, kd, nu, sz, iy, upd sy (12 * k + p) v, dl, st, wk, wo, we, wt, wd, ws_dc wd d k 4, qo, qk, qa, qb, q, rs, rc, te, tk)) : wpY_scored post (tm, tn, kd, nu, sz, iy, sy, dl, st, wk, wo, we, wt, wd, d, qo, qk, qa, qb, q, rs, rc, te, tk) (nI k) m b f := by
  have e3 : (nI (12 * k + p)).toNatClampNeg = 12 * k + p := nI_clamp (by omega)
  have v1 : vp_in (nI (12 * k + p)) 192 := vp_in_nI (by omega) (by omega)
  have g : wY_scored_147 post (nI k) f 0 (nI (12 * k + p)) v 1 tm tn kd nu sz iy sy dl st wk wo we wt wd d qo qk qa qb q rs rc te tk := by
    refine wy_sc147 hk hp ?_ h
    rcases hr with ⟨rfl, rfl, _, rfl⟩ | ⟨rfl, _, rfl⟩
    · exact Or.inl ⟨rfl, rfl, rfl⟩
    · exact Or.inr (Or.inr ⟨rfl, rfl⟩)
  refine wy_fnd (by omega) hz hn hF (br_t (nI_pos' (by omega)) (br_t rfl (br_t rfl (nm_r (nu_y12 k p) ?_))))
  rcases hr with ⟨rfl, rfl, hne, rfl⟩ | ⟨rfl, rfl, rfl⟩
  · refine br_t rfl (br_t rfl (br_t rfl ⟨v1, ?_⟩))
    rw [e3]
    exact br_f hne g
  · refine br_f (by decide) ⟨v1, ?_⟩
    rw [e3]
    exact br_t rfl (br_f (by decide) g)
theorem wy_scD {post : Int64 → SY → Prop} {n p : Nat} {m : Int32} (hk : k < 8) (hz : sz k = nI n) (hn : n ≤ 12) (hF : ws_F iy (12 * k) n m (nI p)) (hp : p < 12) (hb : b = sy (12 * k + p))
    (h : post 0 (tm, tn, kd, nu, sz, iy, sy, dl, st, wk, wo, we, wt, wd, d, qo, qk, qa, qb, q, rs, rc, te, tk)) : wpY_scored post (tm, tn, kd, nu, sz, iy, sy, dl, st, wk, wo, we, wt, wd, d, qo, qk, qa, qb, q, rs, rc, te, tk) (nI k) m b 0 := by
  have e3 : (nI (12 * k + p)).toNatClampNeg = 12 * k + p := nI_clamp (by omega)
  have v1 : vp_in (nI (12 * k + p)) 192 := vp_in_nI (by omega) (by omega)
  refine wy_fnd (by omega) hz hn hF (br_t (nI_pos' (by omega)) (br_t rfl (br_t rfl (nm_r (nu_y12 k p) (br_t rfl (br_t rfl (br_t rfl ⟨v1, ?_⟩)))))))
  rw [e3]
  refine br_t hb ⟨v1, ?_⟩
  rw [e3, ws_same sy hb.symm]
  exact nm_e (br_t rfl (br_t rfl (br_t rfl h)))
end CY
