section PG
variable {tm : Int32} {tn : Int64} {kd nu sz dl ix sx iy sy st wk wo we w wd d q qo qk qa qb rc ra : Nat → Int32} {wt te tk tf tg rs : Nat → Int64}
variable {k : Nat} {a b : Int32}
theorem pf_w1 (hS : st_R kd sz dl ix sx iy sy) (hW : wa_R w wd d) (hk : k < 8) (h1 : kd k ≠ 0) (h2 : kd k ≠ 1) : lk_R wd (fun post => wpX_perform post (tm, tn, kd, nu, sz, dl, ix, sx, st, wk, wo, we, wt, te, tk, w, q, qo, qk, qa, qb, rc, rs) 1 (nI k) a b) (fun post => wpY_carryOut post (tm, tn, kd, nu, sz, iy, sy, dl, st, wk, wo, we, wt, wd, d, qo, qk, qa, qb, q, rs, ra, te, tk) 1 (nI k) a b) (fun kd nu sz dl ix sx w => (tm, tn, kd, nu, sz, dl, ix, sx, st, wk, wo, we, wt, te, tk, w, q, qo, qk, qa, qb, rc, rs)) (fun kd nu sz dl iy sy d => (tm, tn, kd, nu, sz, iy, sy, dl, st, wk, wo, we, wt, wd, d, qo, qk, qa, qb, q, rs, ra, te, tk)) := by
  have e : (nI k).toNatClampNeg = k := nI_clamp (by omega)
  have i : vp_in (nI k) 16 := vp_in_nI (by omega) (by omega)
  refine ⟨10000000001, kd, nu, sz, dl, ix, sx, iy, sy, w, d, hS, hW, fun post h => ?_, fun post h => ?_⟩
  · unfold wpX_perform
    exact sx_f kf_1 hk (by decide) h1 h2 (br_t rfl h)
  · unfold wpY_carryOut
    exact sy_f1 hk h1 h2 (br_f (by decide) h)
theorem pf_w4 (hS : st_R kd sz dl ix sx iy sy) (hW : wa_R w wd d) (hk : k < 8) (h1 : kd k ≠ 0) (h2 : kd k ≠ 2) : lk_R wd (fun post => wpX_perform post (tm, tn, kd, nu, sz, dl, ix, sx, st, wk, wo, we, wt, te, tk, w, q, qo, qk, qa, qb, rc, rs) 4 (nI k) a b) (fun post => wpY_carryOut post (tm, tn, kd, nu, sz, iy, sy, dl, st, wk, wo, we, wt, wd, d, qo, qk, qa, qb, q, rs, ra, te, tk) 4 (nI k) a b) (fun kd nu sz dl ix sx w => (tm, tn, kd, nu, sz, dl, ix, sx, st, wk, wo, we, wt, te, tk, w, q, qo, qk, qa, qb, rc, rs)) (fun kd nu sz dl iy sy d => (tm, tn, kd, nu, sz, iy, sy, dl, st, wk, wo, we, wt, wd, d, qo, qk, qa, qb, q, rs, ra, te, tk)) := by
  have e : (nI k).toNatClampNeg = k := nI_clamp (by omega)
  have i : vp_in (nI k) 16 := vp_in_nI (by omega) (by omega)
  refine ⟨10000000001, kd, nu, sz, dl, ix, sx, iy, sy, w, d, hS, hW, fun post h => ?_, fun post h => ?_⟩
  · unfold wpX_perform
    exact sx_f kf_4 hk (by decide) h1 h2 (br_t rfl h)
  · unfold wpY_carryOut
    exact sy_f4 hk h1 h2 (br_f (by decide) h)
theorem pf_w5 (hS : st_R kd sz dl ix sx iy sy) (hW : wa_R w wd d) (hk : k < 8) (h1 : kd k ≠ 0) (h2 : kd k ≠ 2) : lk_R wd (fun post => wpX_perform post (tm, tn, kd, nu, sz, dl, ix, sx, st, wk, wo, we, wt, te, tk, w, q, qo, qk, qa, qb, rc, rs) 5 (nI k) a b) (fun post => wpY_carryOut post (tm, tn, kd, nu, sz, iy, sy, dl, st, wk, wo, we, wt, wd, d, qo, qk, qa, qb, q, rs, ra, te, tk) 5 (nI k) a b) (fun kd nu sz dl ix sx w => (tm, tn, kd, nu, sz, dl, ix, sx, st, wk, wo, we, wt, te, tk, w, q, qo, qk, qa, qb, rc, rs)) (fun kd nu sz dl iy sy d => (tm, tn, kd, nu, sz, iy, sy, dl, st, wk, wo, we, wt, wd, d, qo, qk, qa, qb, q, rs, ra, te, tk)) := by
  have e : (nI k).toNatClampNeg = k := nI_clamp (by omega)
  have i : vp_in (nI k) 16 := vp_in_nI (by omega) (by omega)
  refine ⟨10000000001, kd, nu, sz, dl, ix, sx, iy, sy, w, d, hS, hW, fun post h => ?_, fun post h => ?_⟩
  · unfold wpX_perform
    exact sx_f kf_5 hk (by decide) h1 h2 (br_t rfl h)
  · unfold wpY_carryOut
    exact sy_f5 hk h1 h2 (br_f (by decide) h)
theorem pf_w6 (hS : st_R kd sz dl ix sx iy sy) (hW : wa_R w wd d) (hk : k < 8) (h1 : kd k ≠ 0) (h2 : kd k ≠ 2) : lk_R wd (fun post => wpX_perform post (tm, tn, kd, nu, sz, dl, ix, sx, st, wk, wo, we, wt, te, tk, w, q, qo, qk, qa, qb, rc, rs) 6 (nI k) a b) (fun post => wpY_carryOut post (tm, tn, kd, nu, sz, iy, sy, dl, st, wk, wo, we, wt, wd, d, qo, qk, qa, qb, q, rs, ra, te, tk) 6 (nI k) a b) (fun kd nu sz dl ix sx w => (tm, tn, kd, nu, sz, dl, ix, sx, st, wk, wo, we, wt, te, tk, w, q, qo, qk, qa, qb, rc, rs)) (fun kd nu sz dl iy sy d => (tm, tn, kd, nu, sz, iy, sy, dl, st, wk, wo, we, wt, wd, d, qo, qk, qa, qb, q, rs, ra, te, tk)) := by
  have e : (nI k).toNatClampNeg = k := nI_clamp (by omega)
  have i : vp_in (nI k) 16 := vp_in_nI (by omega) (by omega)
  refine ⟨10000000001, kd, nu, sz, dl, ix, sx, iy, sy, w, d, hS, hW, fun post h => ?_, fun post h => ?_⟩
  · unfold wpX_perform
    exact sx_f kf_6 hk (by decide) h1 h2 (br_t rfl h)
  · unfold wpY_carryOut
    exact sy_f6 hk h1 h2 (br_f (by decide) h)
theorem pf_w7 (hS : st_R kd sz dl ix sx iy sy) (hW : wa_R w wd d) (hk : k < 8) (h1 : kd k ≠ 0) (h2 : kd k ≠ 3) : lk_R wd (fun post => wpX_perform post (tm, tn, kd, nu, sz, dl, ix, sx, st, wk, wo, we, wt, te, tk, w, q, qo, qk, qa, qb, rc, rs) 7 (nI k) a b) (fun post => wpY_carryOut post (tm, tn, kd, nu, sz, iy, sy, dl, st, wk, wo, we, wt, wd, d, qo, qk, qa, qb, q, rs, ra, te, tk) 7 (nI k) a b) (fun kd nu sz dl ix sx w => (tm, tn, kd, nu, sz, dl, ix, sx, st, wk, wo, we, wt, te, tk, w, q, qo, qk, qa, qb, rc, rs)) (fun kd nu sz dl iy sy d => (tm, tn, kd, nu, sz, iy, sy, dl, st, wk, wo, we, wt, wd, d, qo, qk, qa, qb, q, rs, ra, te, tk)) := by
  have e : (nI k).toNatClampNeg = k := nI_clamp (by omega)
  have i : vp_in (nI k) 16 := vp_in_nI (by omega) (by omega)
  refine ⟨10000000001, kd, nu, sz, dl, ix, sx, iy, sy, w, d, hS, hW, fun post h => ?_, fun post h => ?_⟩
  · unfold wpX_perform
    exact sx_f kf_7 hk (by decide) h1 h2 (br_t rfl h)
  · unfold wpY_carryOut
    exact sy_f7 hk h1 h2 (br_f (by decide) h)
theorem pf_w8 (hS : st_R kd sz dl ix sx iy sy) (hW : wa_R w wd d) (hk : k < 8) (h1 : kd k ≠ 0) (h2 : kd k ≠ 3) : lk_R wd (fun post => wpX_perform post (tm, tn, kd, nu, sz, dl, ix, sx, st, wk, wo, we, wt, te, tk, w, q, qo, qk, qa, qb, rc, rs) 8 (nI k) a b) (fun post => wpY_carryOut post (tm, tn, kd, nu, sz, iy, sy, dl, st, wk, wo, we, wt, wd, d, qo, qk, qa, qb, q, rs, ra, te, tk) 8 (nI k) a b) (fun kd nu sz dl ix sx w => (tm, tn, kd, nu, sz, dl, ix, sx, st, wk, wo, we, wt, te, tk, w, q, qo, qk, qa, qb, rc, rs)) (fun kd nu sz dl iy sy d => (tm, tn, kd, nu, sz, iy, sy, dl, st, wk, wo, we, wt, wd, d, qo, qk, qa, qb, q, rs, ra, te, tk)) := by
  have e : (nI k).toNatClampNeg = k := nI_clamp (by omega)
  have i : vp_in (nI k) 16 := vp_in_nI (by omega) (by omega)
  refine ⟨10000000001, kd, nu, sz, dl, ix, sx, iy, sy, w, d, hS, hW, fun post h => ?_, fun post h => ?_⟩
  · unfold wpX_perform
    exact sx_f kf_8 hk (by decide) h1 h2 (br_t rfl h)
  · unfold wpY_carryOut
    exact sy_f8 hk h1 h2 (br_f (by decide) h)
theorem pf_w9 (hS : st_R kd sz dl ix sx iy sy) (hW : wa_R w wd d) (hk : k < 8) (h1 : kd k ≠ 0) (h2 : kd k ≠ 3) : lk_R wd (fun post => wpX_perform post (tm, tn, kd, nu, sz, dl, ix, sx, st, wk, wo, we, wt, te, tk, w, q, qo, qk, qa, qb, rc, rs) 9 (nI k) a b) (fun post => wpY_carryOut post (tm, tn, kd, nu, sz, iy, sy, dl, st, wk, wo, we, wt, wd, d, qo, qk, qa, qb, q, rs, ra, te, tk) 9 (nI k) a b) (fun kd nu sz dl ix sx w => (tm, tn, kd, nu, sz, dl, ix, sx, st, wk, wo, we, wt, te, tk, w, q, qo, qk, qa, qb, rc, rs)) (fun kd nu sz dl iy sy d => (tm, tn, kd, nu, sz, iy, sy, dl, st, wk, wo, we, wt, wd, d, qo, qk, qa, qb, q, rs, ra, te, tk)) := by
  have e : (nI k).toNatClampNeg = k := nI_clamp (by omega)
  have i : vp_in (nI k) 16 := vp_in_nI (by omega) (by omega)
  refine ⟨10000000001, kd, nu, sz, dl, ix, sx, iy, sy, w, d, hS, hW, fun post h => ?_, fun post h => ?_⟩
  · unfold wpX_perform
    exact sx_f kf_9 hk (by decide) h1 h2 (br_t rfl h)
  · unfold wpY_carryOut
    exact sy_f9 hk h1 h2 (br_f (by decide) h)
theorem pf_w10 (hS : st_R kd sz dl ix sx iy sy) (hW : wa_R w wd d) (hk : k < 8) (h1 : kd k ≠ 0) (h2 : kd k ≠ 3) : lk_R wd (fun post => wpX_perform post (tm, tn, kd, nu, sz, dl, ix, sx, st, wk, wo, we, wt, te, tk, w, q, qo, qk, qa, qb, rc, rs) 10 (nI k) a b) (fun post => wpY_carryOut post (tm, tn, kd, nu, sz, iy, sy, dl, st, wk, wo, we, wt, wd, d, qo, qk, qa, qb, q, rs, ra, te, tk) 10 (nI k) a b) (fun kd nu sz dl ix sx w => (tm, tn, kd, nu, sz, dl, ix, sx, st, wk, wo, we, wt, te, tk, w, q, qo, qk, qa, qb, rc, rs)) (fun kd nu sz dl iy sy d => (tm, tn, kd, nu, sz, iy, sy, dl, st, wk, wo, we, wt, wd, d, qo, qk, qa, qb, q, rs, ra, te, tk)) := by
  have e : (nI k).toNatClampNeg = k := nI_clamp (by omega)
  have i : vp_in (nI k) 16 := vp_in_nI (by omega) (by omega)
  refine ⟨10000000001, kd, nu, sz, dl, ix, sx, iy, sy, w, d, hS, hW, fun post h => ?_, fun post h => ?_⟩
  · unfold wpX_perform
    exact sx_f kf_10 hk (by decide) h1 h2 (br_t rfl h)
  · unfold wpY_carryOut
    exact sy_f10 hk h1 h2 (br_f (by decide) h)
theorem pf_0 (hS : st_R kd sz dl ix sx iy sy) (hW : wa_R w wd d) (hk : k < 8) : lk_R wd (fun post => wpX_perform post (tm, tn, kd, nu, sz, dl, ix, sx, st, wk, wo, we, wt, te, tk, w, q, qo, qk, qa, qb, rc, rs) 0 (nI k) a b) (fun post => wpY_carryOut post (tm, tn, kd, nu, sz, iy, sy, dl, st, wk, wo, we, wt, wd, d, qo, qk, qa, qb, q, rs, ra, te, tk) 0 (nI k) a b) (fun kd nu sz dl ix sx w => (tm, tn, kd, nu, sz, dl, ix, sx, st, wk, wo, we, wt, te, tk, w, q, qo, qk, qa, qb, rc, rs)) (fun kd nu sz dl iy sy d => (tm, tn, kd, nu, sz, iy, sy, dl, st, wk, wo, we, wt, wd, d, qo, qk, qa, qb, q, rs, ra, te, tk)) := by
  have e : (nI k).toNatClampNeg = k := nI_clamp (by omega)
  have i : vp_in (nI k) 16 := vp_in_nI (by omega) (by omega)
  refine ⟨0, upd (upd kd k 0) k 1, upd (upd nu k 0) k a, upd sz k 0, upd dl k 0, ix, sx, iy, sy, ws_mk w k 4, ws_dc wd d k 4, st_num hS k, wa_mark hW hk, fun post h => ?_, fun post h => ?_⟩
  · unfold wpX_perform
    exact sx_t kf_0 hk (Or.inl rfl) (br_f (by decide) (br_f (by decide) (br_f (by decide) (br_t (by decide) (wx_put hk h)))))
  · unfold wpY_carryOut
    exact sy_t0 hk  (br_t (by decide) (br_t (by decide) (br_f (by decide) (br_f (by decide) (br_f (by decide) (br_f (by decide) (br_t (by decide) (wy_clear (by omega) ⟨i, nm_r (e' := upd (upd kd k 0) k 1) (by rw [e]) ⟨i, nm_r (e' := upd (upd nu k 0) k a) (by rw [e]) (wy_mark hk h)⟩⟩))))))))
theorem pf_1 (hS : st_R kd sz dl ix sx iy sy) (hW : wa_R w wd d) (hk : k < 8) (hok : kd k = 0 ∨ kd k = 1) : lk_R wd (fun post => wpX_perform post (tm, tn, kd, nu, sz, dl, ix, sx, st, wk, wo, we, wt, te, tk, w, q, qo, qk, qa, qb, rc, rs) 1 (nI k) a b) (fun post => wpY_carryOut post (tm, tn, kd, nu, sz, iy, sy, dl, st, wk, wo, we, wt, wd, d, qo, qk, qa, qb, q, rs, ra, te, tk) 1 (nI k) a b) (fun kd nu sz dl ix sx w => (tm, tn, kd, nu, sz, dl, ix, sx, st, wk, wo, we, wt, te, tk, w, q, qo, qk, qa, qb, rc, rs)) (fun kd nu sz dl iy sy d => (tm, tn, kd, nu, sz, iy, sy, dl, st, wk, wo, we, wt, wd, d, qo, qk, qa, qb, q, rs, ra, te, tk)) := by
  have e : (nI k).toNatClampNeg = k := nI_clamp (by omega)
  have i : vp_in (nI k) 16 := vp_in_nI (by omega) (by omega)
  refine ⟨(nu k + a).toInt64, upd kd k 1, upd nu k (nu k + a), sz, dl, ix, sx, iy, sy, ws_mk w k 4, ws_dc wd d k 4, st_add hS (by omega) hok, wa_mark hW hk, fun post h => ?_, fun post h => ?_⟩
  · unfold wpX_perform
    exact sx_t kf_1 hk (Or.inr hok) (br_f (by decide) (br_f (by decide) (br_f (by decide) (br_f (by decide) (br_t (by decide) (wx_add hk h))))))
  · unfold wpY_carryOut
    exact sy_t1 hk hok (br_t (by decide) (br_t (by decide) (br_f (by decide) (br_f (by decide) (br_f (by decide) (br_f (by decide) (br_f (by decide) (br_t (by decide) (⟨i, nm_r (e' := upd kd k 1) (by rw [e]) ⟨i, i, nm_r (e' := upd nu k (nu k + a)) (by rw [e]) (wy_mark hk ⟨i, by rw [e, pk_us]; exact h⟩)⟩⟩)))))))))
theorem pf_2 (hS : st_R kd sz dl ix sx iy sy) (hW : wa_R w wd d) (hk : k < 8) : lk_R wd (fun post => wpX_perform post (tm, tn, kd, nu, sz, dl, ix, sx, st, wk, wo, we, wt, te, tk, w, q, qo, qk, qa, qb, rc, rs) 2 (nI k) a b) (fun post => wpY_carryOut post (tm, tn, kd, nu, sz, iy, sy, dl, st, wk, wo, we, wt, wd, d, qo, qk, qa, qb, q, rs, ra, te, tk) 2 (nI k) a b) (fun kd nu sz dl ix sx w => (tm, tn, kd, nu, sz, dl, ix, sx, st, wk, wo, we, wt, te, tk, w, q, qo, qk, qa, qb, rc, rs)) (fun kd nu sz dl iy sy d => (tm, tn, kd, nu, sz, iy, sy, dl, st, wk, wo, we, wt, wd, d, qo, qk, qa, qb, q, rs, ra, te, tk)) := by
  have e : (nI k).toNatClampNeg = k := nI_clamp (by omega)
  have i : vp_in (nI k) 16 := vp_in_nI (by omega) (by omega)
  by_cases z : kd k = 0
  · refine ⟨0, kd, nu, sz, dl, ix, sx, iy, sy, w, d, hS, hW, fun post h => ?_, fun post h => ?_⟩
    · unfold wpX_perform
      exact sx_t kf_2 hk (Or.inl rfl) (br_f (by decide) (br_f (by decide) (br_f (by decide) (br_f (by decide) (br_f (by decide) (br_t (by decide) (wx_drop0 hk z h)))))))
    · unfold wpY_carryOut
      exact sy_t2 hk  (br_t (by decide) (br_t (by decide) (br_f (by decide) (br_f (by decide) (br_f (by decide) (br_f (by decide) (br_f (by decide) (br_f (by decide) (br_t (by decide) (wy_wh0 hk z h))))))))))
  · refine ⟨1, upd kd k 0, upd nu k 0, upd sz k 0, upd dl k 0, ix, sx, iy, sy, ws_mk w k 4, ws_dc wd d k 4, st_clear hS k, wa_mark hW hk, fun post h => ?_, fun post h => ?_⟩
    · unfold wpX_perform
      exact sx_t kf_2 hk (Or.inl rfl) (br_f (by decide) (br_f (by decide) (br_f (by decide) (br_f (by decide) (br_f (by decide) (br_t (by decide) (wx_drop1 hk z h)))))))
    · unfold wpY_carryOut
      exact sy_t2 hk  (br_t (by decide) (br_t (by decide) (br_f (by decide) (br_f (by decide) (br_f (by decide) (br_f (by decide) (br_f (by decide) (br_f (by decide) (br_t (by decide) (wy_drop1 hk z h))))))))))
theorem pf_3 (hS : st_R kd sz dl ix sx iy sy) (hW : wa_R w wd d) (hk : k < 8) (hx : ∃ x : Int32, 0 ≤ x ∧ ((a = 0 ∧ x = 0) ∨ (a ≠ 0 ∧ x = tm + a))) : lk_R wd (fun post => wpX_perform post (tm, tn, kd, nu, sz, dl, ix, sx, st, wk, wo, we, wt, te, tk, w, q, qo, qk, qa, qb, rc, rs) 3 (nI k) a b) (fun post => wpY_carryOut post (tm, tn, kd, nu, sz, iy, sy, dl, st, wk, wo, we, wt, wd, d, qo, qk, qa, qb, q, rs, ra, te, tk) 3 (nI k) a b) (fun kd nu sz dl ix sx w => (tm, tn, kd, nu, sz, dl, ix, sx, st, wk, wo, we, wt, te, tk, w, q, qo, qk, qa, qb, rc, rs)) (fun kd nu sz dl iy sy d => (tm, tn, kd, nu, sz, iy, sy, dl, st, wk, wo, we, wt, wd, d, qo, qk, qa, qb, q, rs, ra, te, tk)) := by
  have e : (nI k).toNatClampNeg = k := nI_clamp (by omega)
  have i : vp_in (nI k) 16 := vp_in_nI (by omega) (by omega)
  obtain ⟨x, hx0, hx⟩ := hx
  by_cases z : kd k = 0
  · refine ⟨0, kd, nu, sz, dl, ix, sx, iy, sy, w, d, hS, hW, fun post h => ?_, fun post h => ?_⟩
    · unfold wpX_perform
      exact sx_t kf_3 hk (Or.inl rfl) (br_f (by decide) (br_f (by decide) (br_f (by decide) (br_f (by decide) (br_f (by decide) (br_f (by decide) (br_t (by decide) (wx_dl0 hk z h))))))))
    · unfold wpY_carryOut
      exact sy_t3 hk  (br_t (by decide) (br_t (by decide) (br_f (by decide) (br_f (by decide) (br_f (by decide) (br_f (by decide) (br_f (by decide) (br_f (by decide) (br_f (by decide) (br_t (by decide) (wy_wh0 hk z h)))))))))))
  · refine ⟨1, kd, nu, sz, upd dl k x, ix, sx, iy, sy, ws_mk w k 4, ws_dc wd d k 4, st_dl hS (by omega) hx0, wa_mark hW hk, fun post h => ?_, fun post h => ?_⟩
    · unfold wpX_perform
      exact sx_t kf_3 hk (Or.inl rfl) (br_f (by decide) (br_f (by decide) (br_f (by decide) (br_f (by decide) (br_f (by decide) (br_f (by decide) (br_t (by decide) (wx_dl1 hk z hx h))))))))
    · unfold wpY_carryOut
      exact sy_t3 hk  (br_t (by decide) (br_t (by decide) (br_f (by decide) (br_f (by decide) (br_f (by decide) (br_f (by decide) (br_f (by decide) (br_f (by decide) (br_f (by decide) (br_t (by decide) (wy_dl1 hk z hx h)))))))))))
theorem pf_4 (hS : st_R kd sz dl ix sx iy sy) (hW : wa_R w wd d) (hk : k < 8) (hok : kd k = 0 ∨ kd k = 2) : lk_R wd (fun post => wpX_perform post (tm, tn, kd, nu, sz, dl, ix, sx, st, wk, wo, we, wt, te, tk, w, q, qo, qk, qa, qb, rc, rs) 4 (nI k) a b) (fun post => wpY_carryOut post (tm, tn, kd, nu, sz, iy, sy, dl, st, wk, wo, we, wt, wd, d, qo, qk, qa, qb, q, rs, ra, te, tk) 4 (nI k) a b) (fun kd nu sz dl ix sx w => (tm, tn, kd, nu, sz, dl, ix, sx, st, wk, wo, we, wt, te, tk, w, q, qo, qk, qa, qb, rc, rs)) (fun kd nu sz dl iy sy d => (tm, tn, kd, nu, sz, iy, sy, dl, st, wk, wo, we, wt, wd, d, qo, qk, qa, qb, q, rs, ra, te, tk)) := by
  have e : (nI k).toNatClampNeg = k := nI_clamp (by omega)
  have i : vp_in (nI k) 16 := vp_in_nI (by omega) (by omega)
  obtain ⟨n, hn, hz, _⟩ := st_n hS (k := k) (by omega)
  by_cases hn1 : n < 12
  · have g := st_push (p := 0) (a := a) hS (by omega) hz hn1 (by omega) hok
    refine ⟨(nI (n + 1)).toInt64, upd kd k 2, nu, upd sz k (nI (n + 1)), dl, upd (ws_op ix (12 * k + 0) (12 * k + n)) (12 * k + 0) a, ws_op sx (12 * k + 0) (12 * k + n), upd (ws_op iy (12 * k + 0) (12 * k + n)) (12 * k + 0) a, sy, ws_mk w k 4, ws_dc wd d k 4, g, wa_mark hW hk, fun post h => ?_, fun post h => ?_⟩
    · unfold wpX_perform
      exact sx_t kf_4 hk (Or.inr hok) (br_f (by decide) (br_f (by decide) (br_f (by decide) (br_f (by decide) (br_f (by decide) (br_f (by decide) (br_f (by decide) (br_t (by decide) (wx_elem1 (p := 0) hk hz hn1 (Nat.zero_le n) h)))))))))
    · unfold wpY_carryOut
      exact sy_t4 hk hok (br_t (by decide) (br_f (by decide) (br_f (by decide) (br_t (by decide) (wy_putF hk hz hn1 h)))))
  · obtain rfl : n = 12 := by omega
    refine ⟨10000000003, kd, nu, sz, dl, ix, sx, iy, sy, w, d, hS, hW, fun post h => ?_, fun post h => ?_⟩
    · unfold wpX_perform
      exact sx_t kf_4 hk (Or.inr hok) (br_f (by decide) (br_f (by decide) (br_f (by decide) (br_f (by decide) (br_f (by decide) (br_f (by decide) (br_f (by decide) (br_t (by decide) (wx_elem0 hk hz h)))))))))
    · unfold wpY_carryOut
      exact sy_t4 hk hok (br_t (by decide) (br_f (by decide) (br_f (by decide) (br_t (by decide) (wy_put0 hk hz h)))))
theorem pf_5 (hS : st_R kd sz dl ix sx iy sy) (hW : wa_R w wd d) (hk : k < 8) (hok : kd k = 0 ∨ kd k = 2) : lk_R wd (fun post => wpX_perform post (tm, tn, kd, nu, sz, dl, ix, sx, st, wk, wo, we, wt, te, tk, w, q, qo, qk, qa, qb, rc, rs) 5 (nI k) a b) (fun post => wpY_carryOut post (tm, tn, kd, nu, sz, iy, sy, dl, st, wk, wo, we, wt, wd, d, qo, qk, qa, qb, q, rs, ra, te, tk) 5 (nI k) a b) (fun kd nu sz dl ix sx w => (tm, tn, kd, nu, sz, dl, ix, sx, st, wk, wo, we, wt, te, tk, w, q, qo, qk, qa, qb, rc, rs)) (fun kd nu sz dl iy sy d => (tm, tn, kd, nu, sz, iy, sy, dl, st, wk, wo, we, wt, wd, d, qo, qk, qa, qb, q, rs, ra, te, tk)) := by
  have e : (nI k).toNatClampNeg = k := nI_clamp (by omega)
  have i : vp_in (nI k) 16 := vp_in_nI (by omega) (by omega)
  obtain ⟨n, hn, hz, _⟩ := st_n hS (k := k) (by omega)
  by_cases hn1 : n < 12
  · have g := st_push (p := n) (a := a) hS (by omega) hz hn1 (by omega) hok
    rw [ws_op0, ws_op0, ws_op0] at g
    refine ⟨(nI (n + 1)).toInt64, upd kd k 2, nu, upd sz k (nI (n + 1)), dl, upd ix (12 * k + n) a, sx, upd iy (12 * k + n) a, sy, ws_mk w k 4, ws_dc wd d k 4, g, wa_mark hW hk, fun post h => ?_, fun post h => ?_⟩
    · unfold wpX_perform
      exact sx_t kf_5 hk (Or.inr hok) (br_f (by decide) (br_f (by decide) (br_f (by decide) (br_f (by decide) (br_f (by decide) (br_f (by decide) (br_f (by decide) (br_f (by decide) (br_t (by decide) (⟨i, by rw [e, hz]; exact wx_elem1 (p := n) hk hz hn1 (Nat.le_refl n) (by rw [ws_op0, ws_op0]; exact h)⟩))))))))))
    · unfold wpY_carryOut
      exact sy_t5 hk hok (br_t (by decide) (br_f (by decide) (br_f (by decide) (br_f (by decide) (wy_putB hk hz hn1 h)))))
  · obtain rfl : n = 12 := by omega
    refine ⟨10000000003, kd, nu, sz, dl, ix, sx, iy, sy, w, d, hS, hW, fun post h => ?_, fun post h => ?_⟩
    · unfold wpX_perform
      exact sx_t kf_5 hk (Or.inr hok) (br_f (by decide) (br_f (by decide) (br_f (by decide) (br_f (by decide) (br_f (by decide) (br_f (by decide) (br_f (by decide) (br_f (by decide) (br_t (by decide) (⟨i, wx_elem0 hk hz h⟩))))))))))
    · unfold wpY_carryOut
      exact sy_t5 hk hok (br_t (by decide) (br_f (by decide) (br_f (by decide) (br_f (by decide) (wy_put0 hk hz h)))))
theorem pf_6 (hS : st_R kd sz dl ix sx iy sy) (hW : wa_R w wd d) (hk : k < 8) (hok : kd k = 0 ∨ kd k = 2) : lk_R wd (fun post => wpX_perform post (tm, tn, kd, nu, sz, dl, ix, sx, st, wk, wo, we, wt, te, tk, w, q, qo, qk, qa, qb, rc, rs) 6 (nI k) a b) (fun post => wpY_carryOut post (tm, tn, kd, nu, sz, iy, sy, dl, st, wk, wo, we, wt, wd, d, qo, qk, qa, qb, q, rs, ra, te, tk) 6 (nI k) a b) (fun kd nu sz dl ix sx w => (tm, tn, kd, nu, sz, dl, ix, sx, st, wk, wo, we, wt, te, tk, w, q, qo, qk, qa, qb, rc, rs)) (fun kd nu sz dl iy sy d => (tm, tn, kd, nu, sz, iy, sy, dl, st, wk, wo, we, wt, wd, d, qo, qk, qa, qb, q, rs, ra, te, tk)) := by
  have e : (nI k).toNatClampNeg = k := nI_clamp (by omega)
  have i : vp_in (nI k) 16 := vp_in_nI (by omega) (by omega)
  obtain ⟨n, hn, hz, hc⟩ := st_n hS (k := k) (by omega)
  by_cases z : kd k = 0
  · have n0 : sz k = 0 := by
      rcases hc with c | c | c | c
      · rw [hz, c.2]; rfl
      · rw [z] at c; exact absurd c.1 (by decide)
      · rw [z] at c; exact absurd c.1 (by decide)
      · rw [z] at c; exact absurd c.1 (by decide)
    refine ⟨10000000002, kd, nu, sz, dl, ix, sx, iy, sy, w, d, hS, hW, fun post h => ?_, fun post h => ?_⟩
    · unfold wpX_perform
      refine sx_t kf_6 hk (Or.inr hok) (br_f (by decide) (br_f (by decide) (br_f (by decide) (br_f (by decide) (br_f (by decide) (br_f (by decide) (br_f (by decide) (br_f (by decide) (br_f (by decide) (br_t (by decide) (br_c (fun _ => ⟨i, ?_⟩) (fun _ => ⟨i, ?_⟩))))))))))))
      · rw [e]; exact br_t z h
      · rw [e]; exact br_t z h
    · unfold wpY_carryOut
      refine sy_t6 hk hok (br_t (by decide) (br_f (by decide) (br_t (by decide) (br_f (by decide) (br_f (by decide) (br_f (by decide) (br_f (by decide) (br_f (by decide) (br_f (by decide) (br_f (by decide) (br_f (by decide) (br_f (by decide) (br_f (by decide) (br_t (by decide) (⟨i, ?_⟩)))))))))))))))
      rw [e]
      exact br_t n0 h
  · have h2 : kd k = 2 := hok.resolve_left z
    obtain ⟨n', rfl⟩ : ∃ n', n = n' + 1 := by
      rcases hc with c | c | c | c
      · exact absurd c.1 z
      · rw [h2] at c; exact absurd c.1 (by decide)
      · exact ⟨n - 1, by omega⟩
      · exact ⟨n - 1, by omega⟩
    have ne : ¬ sz k = 0 := by
      rw [hz]
      exact nI_ne0 (by omega) (by omega)
    by_cases a0 : a = 0
    · obtain ⟨r, kd', nu', sz', dl', ix', sx', iy', sy', w', d', r1, r2, rx, ry⟩ := lk_out (nu := nu) (tm := tm) (tn := tn) (st := st) (wk := wk) (wo := wo) (we := we) (wt := wt) (te := te) (tk := tk) (tf := te) (tg := tk) (q := q) (qo := qo) (qk := qk) (qa := qa) (qb := qb) (rc := rc) (ra := ra) (rs := rs) (p := 0) (p' := 0) hS hW hk hz (by omega) (by omega) (by omega) (Or.inl ⟨h2, rfl⟩)
      refine ⟨r.toInt64, kd', nu', sz', dl', ix', sx', iy', sy', w', d', r1, r2, fun post h => ?_, fun post h => ?_⟩
      · unfold wpX_perform
        refine sx_t kf_6 hk (Or.inr hok) (br_f (by decide) (br_f (by decide) (br_f (by decide) (br_f (by decide) (br_f (by decide) (br_f (by decide) (br_f (by decide) (br_f (by decide) (br_f (by decide) (br_t (by decide) (br_t a0 ⟨i, ?_⟩)))))))))))
        rw [e]
        exact br_f z (rx _ h)
      · unfold wpY_carryOut
        refine sy_t6 hk hok (br_t (by decide) (br_f (by decide) (br_t (by decide) (br_f (by decide) (br_f (by decide) (br_f (by decide) (br_f (by decide) (br_f (by decide) (br_f (by decide) (br_f (by decide) (br_f (by decide) (br_f (by decide) (br_f (by decide) (br_t (by decide) (⟨i, ?_⟩)))))))))))))))
        rw [e]
        exact br_f ne (br_t a0 (ry _ h))
    · obtain ⟨r, kd', nu', sz', dl', ix', sx', iy', sy', w', d', r1, r2, rx, ry⟩ := lk_out (nu := nu) (tm := tm) (tn := tn) (st := st) (wk := wk) (wo := wo) (we := we) (wt := wt) (te := te) (tk := tk) (tf := te) (tg := tk) (q := q) (qo := qo) (qk := qk) (qa := qa) (qb := qb) (rc := rc) (ra := ra) (rs := rs) (p := n') (p' := n') hS hW hk hz (by omega) (by omega) (by omega) (Or.inl ⟨h2, rfl⟩)
      refine ⟨r.toInt64, kd', nu', sz', dl', ix', sx', iy', sy', w', d', r1, r2, fun post h => ?_, fun post h => ?_⟩
      · unfold wpX_perform
        refine sx_t kf_6 hk (Or.inr hok) (br_f (by decide) (br_f (by decide) (br_f (by decide) (br_f (by decide) (br_f (by decide) (br_f (by decide) (br_f (by decide) (br_f (by decide) (br_f (by decide) (br_t (by decide) (br_f a0 ⟨i, ?_⟩)))))))))))
        rw [e, hz, nI_pred]
        exact br_f z ⟨i, rx _ h⟩
      · unfold wpY_carryOut
        refine sy_t6 hk hok (br_t (by decide) (br_f (by decide) (br_t (by decide) (br_f (by decide) (br_f (by decide) (br_f (by decide) (br_f (by decide) (br_f (by decide) (br_f (by decide) (br_f (by decide) (br_f (by decide) (br_f (by decide) (br_f (by decide) (br_t (by decide) (⟨i, ?_⟩)))))))))))))))
        rw [e]
        refine br_f ne (br_f a0 ⟨i, ?_⟩)
        rw [hz, nI_pred]
        exact ry _ h
end PG
