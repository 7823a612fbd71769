section PH
variable {tm : Int32} {tn : Int64} {kd nu sz dl ix sx iy sy st wk wo we w wd d q qo qk qa qb rc ra : Nat → Int32} {wt te tk tf tg rs : Nat → Int64}
variable {k : Nat} {a b : Int32}
theorem ws_Fxy {n b0 : Nat} {m : Int32} (h : n = 0 ∨ ws_R ix sx iy sy b0 n) : (ws_F ix b0 n m (-1) ∧ ws_F iy b0 n m (-1) ∧ ∀ j, j < n → ix (b0 + j) ≠ m) ∨ (∃ p p', p < n ∧ p' < n ∧ ws_F ix b0 n m (nI p) ∧ ws_F iy b0 n m (nI p') ∧ sx (b0 + p) = sy (b0 + p') ∧ ix (b0 + p) = iy (b0 + p') ∧ iy (b0 + p') = m ∧ ws_R ix sx iy sy b0 n) := by
  by_cases hx : ∃ p, p < n ∧ ix (b0 + p) = m
  · have hR : ws_R ix sx iy sy b0 n := by
      rcases h with h | h
      · obtain ⟨p, hp, _⟩ := hx
        omega
      · exact h
    obtain ⟨p, ⟨hp, ep⟩, hl⟩ := pk_least _ hx
    obtain ⟨p2, hp2, _, e2⟩ := ws_toY hR hp
    obtain ⟨p', ⟨hp', ep'⟩, hl'⟩ := pk_least (fun j => j < n ∧ iy (b0 + j) = m) ⟨p2, hp2, e2.trans ep⟩
    obtain ⟨j, hj, e3, e4⟩ := ws_toX hR hp'
    have jp : j = p := by
      rcases Nat.lt_trichotomy j p with c | c | c
      · exact absurd (e4.trans (ep'.trans ep.symm)) (hR.2.1 j p c hp)
      · exact c
      · exact absurd (e4.trans (ep'.trans ep.symm)).symm (hR.2.1 p j c hj)
    rw [jp] at e3 e4
    exact Or.inr ⟨p, p', hp, hp', Or.inr ⟨p, hp, ep, fun y hy z => hl y hy ⟨by omega, z⟩, rfl⟩, Or.inr ⟨p', hp', ep', fun y hy z => hl' y hy ⟨by omega, z⟩, rfl⟩, e3, e4, ep', hR⟩
  · refine Or.inl ⟨Or.inl ⟨rfl, fun y hy z => hx ⟨y, hy, z⟩⟩, Or.inl ⟨rfl, fun y hy z => ?_⟩, fun y hy z => hx ⟨y, hy, z⟩⟩
    rcases h with h | h
    · omega
    · obtain ⟨j, hj, _, e4⟩ := ws_toX h hy
      exact hx ⟨j, hj, e4.trans z⟩
theorem pf_7 (hS : st_R kd sz dl ix sx iy sy) (hW : wa_R w wd d) (hk : k < 8) (hok : kd k = 0 ∨ kd k = 3) : lk_R wd (fun post => wpX_perform post (tm, tn, kd, nu, sz, dl, ix, sx, st, wk, wo, we, wt, te, tk, w, q, qo, qk, qa, qb, rc, rs) 7 (nI k) a b) (fun post => wpY_carryOut post (tm, tn, kd, nu, sz, iy, sy, dl, st, wk, wo, we, wt, wd, d, qo, qk, qa, qb, q, rs, ra, te, tk) 7 (nI k) a b) (fun kd nu sz dl ix sx w => (tm, tn, kd, nu, sz, dl, ix, sx, st, wk, wo, we, wt, te, tk, w, q, qo, qk, qa, qb, rc, rs)) (fun kd nu sz dl iy sy d => (tm, tn, kd, nu, sz, iy, sy, dl, st, wk, wo, we, wt, wd, d, qo, qk, qa, qb, q, rs, ra, te, tk)) := by
  have e : (nI k).toNatClampNeg = k := nI_clamp (by omega)
  have i : vp_in (nI k) 16 := vp_in_nI (by omega) (by omega)
  have vv : ∀ p, p < 12 → vp_in (nI k * 12 + nI p) 192 := by
    intro p hp
    rw [nu_x12]
    exact vp_in_nI (by omega) (by omega)
  have ee : ∀ p, p < 12 → (nI k * 12 + nI p).toNatClampNeg = 12 * k + p := by
    intro p hp
    rw [nu_x12]
    exact nI_clamp (by omega)
  obtain ⟨n, hn, hz, hc⟩ := st_n hS (k := k) (by omega)
  have hR : n = 0 ∨ ws_R ix sx iy sy (12 * k) n := by
    rcases hc with c | c | c | c
    · exact Or.inl c.2
    · exact Or.inl c.2
    · rcases hok with y | y <;> rw [y] at c <;> exact absurd c.1 (by decide)
    · exact Or.inr c.2.2
  have h3 : n ≠ 0 → kd k = 3 := by
    intro y
    rcases hc with c | c | c | c
    · exact absurd c.2 y
    · exact absurd c.2 y
    · rcases hok with y | y <;> rw [y] at c <;> exact absurd c.1 (by decide)
    · exact c.1
  rcases ws_Fxy (m := a) hR with ⟨fx, fy, hno⟩ | ⟨p, p', hp, hp', fx, fy, e1, e2, em, hRR⟩
  · by_cases hn1 : n < 12
    · obtain ⟨p, hG⟩ := ws_Gex sx ix (12 * k) n a b
      refine ⟨1, upd kd k 3, nu, upd sz k (nI (n + 1)), dl, _, _, _, _, ws_mk w k 4, ws_dc wd d k 4, st_new hS (by omega) hz hn1 hG.1 hok hno hG.2.1 hG.2.2, wa_mark hW hk, fun post h => ?_, fun post h => ?_⟩
      · unfold wpX_perform
        refine sx_t kf_7 hk (Or.inr hok) (br_f (by decide) (br_f (by decide) (br_f (by decide) (br_f (by decide) (br_f (by decide) (br_f (by decide) (br_f (by decide) (br_f (by decide) (br_f (by decide) (br_f (by decide) (br_t (by decide) (wx_fnd (by omega) hz hn fx (br_f (by decide) ⟨i, ?_⟩)))))))))))))
        rw [e, hz]
        exact br_t (nI_lt (b := 12) hn1 (by omega)) (br_f (by decide) (wx_seatN hk hz hn1 hG h))
      · unfold wpY_carryOut
        exact sy_t7 hk hok (br_t (by decide) (br_f (by decide) (br_t (by decide) (br_t (by decide) (br_f (by decide) (wy_scB hk hz hn1 fy (Or.inl ⟨rfl, rfl, rfl⟩) h))))))
    · obtain rfl : n = 12 := by omega
      refine ⟨10000000003, kd, nu, sz, dl, ix, sx, iy, sy, w, d, hS, hW, fun post h => ?_, fun post h => ?_⟩
      · unfold wpX_perform
        refine sx_t kf_7 hk (Or.inr hok) (br_f (by decide) (br_f (by decide) (br_f (by decide) (br_f (by decide) (br_f (by decide) (br_f (by decide) (br_f (by decide) (br_f (by decide) (br_f (by decide) (br_f (by decide) (br_t (by decide) (wx_fnd (by omega) hz hn fx (br_f (by decide) ⟨i, ?_⟩)))))))))))))
        rw [e, hz]
        exact br_f (nI_nlt (a := 12) (b := 12) (by omega) (by omega)) h
      · unfold wpY_carryOut
        exact sy_t7 hk hok (br_t (by decide) (br_f (by decide) (br_t (by decide) (br_t (by decide) (br_f (by decide) (wy_scA hk hz fy h))))))
  · by_cases zz : sx (12 * k + p) = b
    · refine ⟨0, kd, nu, sz, dl, ix, sx, iy, sy, w, d, hS, hW, fun post h => ?_, fun post h => ?_⟩
      · unfold wpX_perform
        refine sx_t kf_7 hk (Or.inr hok) (br_f (by decide) (br_f (by decide) (br_f (by decide) (br_f (by decide) (br_f (by decide) (br_f (by decide) (br_f (by decide) (br_f (by decide) (br_f (by decide) (br_f (by decide) (br_t (by decide) (wx_fnd (by omega) hz hn fx (br_t (nI_pos' (by omega)) (br_t (nI_pos' (by omega)) ⟨vv p (by omega), ?_⟩))))))))))))))
        rw [ee p (by omega)]
        exact br_t zz h
      · unfold wpY_carryOut
        exact sy_t7 hk hok (br_t (by decide) (br_f (by decide) (br_t (by decide) (br_t (by decide) (br_f (by decide) (wy_scD hk hz hn fy (by omega) (zz.symm.trans e1) h))))))
    · obtain ⟨n', rfl⟩ : ∃ n', n = n' + 1 := ⟨n - 1, by omega⟩
      have h3 : kd k = 3 := h3 (by omega)
      obtain ⟨s, hG⟩ := ws_Gex (ws_cl sx (12 * k + p) (12 * k + n')) (ws_cl ix (12 * k + p) (12 * k + n')) (12 * k) n' a b
      refine ⟨0, kd, nu, sz, dl, _, _, _, _, ws_mk w k 4, ws_dc wd d k 4, st_old hS (by omega) hz (by omega) (by omega) (by omega) e1 e2 em hG.1 h3 hG.2.1 hG.2.2, wa_mark hW hk, fun post h => ?_, fun post h => ?_⟩
      · unfold wpX_perform
        refine sx_t kf_7 hk (Or.inr hok) (br_f (by decide) (br_f (by decide) (br_f (by decide) (br_f (by decide) (br_f (by decide) (br_f (by decide) (br_f (by decide) (br_f (by decide) (br_f (by decide) (br_f (by decide) (br_t (by decide) (wx_fnd (by omega) hz hn fx (br_t (nI_pos' (by omega)) (br_t (nI_pos' (by omega)) ⟨vv p (by omega), ?_⟩))))))))))))))
        rw [ee p (by omega)]
        exact br_f zz (wx_seatO hk hz h3 (by omega) (by omega) hG h)
      · unfold wpY_carryOut
        exact sy_t7 hk hok (br_t (by decide) (br_f (by decide) (br_t (by decide) (br_t (by decide) (br_f (by decide) (wy_scC hk hz hn fy (by omega) (Or.inl ⟨rfl, rfl, fun y => zz (e1.trans y.symm), rfl⟩) h))))))
theorem pf_8 (hS : st_R kd sz dl ix sx iy sy) (hW : wa_R w wd d) (hk : k < 8) (hok : kd k = 0 ∨ kd k = 3) : lk_R wd (fun post => wpX_perform post (tm, tn, kd, nu, sz, dl, ix, sx, st, wk, wo, we, wt, te, tk, w, q, qo, qk, qa, qb, rc, rs) 8 (nI k) a b) (fun post => wpY_carryOut post (tm, tn, kd, nu, sz, iy, sy, dl, st, wk, wo, we, wt, wd, d, qo, qk, qa, qb, q, rs, ra, te, tk) 8 (nI k) a b) (fun kd nu sz dl ix sx w => (tm, tn, kd, nu, sz, dl, ix, sx, st, wk, wo, we, wt, te, tk, w, q, qo, qk, qa, qb, rc, rs)) (fun kd nu sz dl iy sy d => (tm, tn, kd, nu, sz, iy, sy, dl, st, wk, wo, we, wt, wd, d, qo, qk, qa, qb, q, rs, ra, te, tk)) := by
  have e : (nI k).toNatClampNeg = k := nI_clamp (by omega)
  have i : vp_in (nI k) 16 := vp_in_nI (by omega) (by omega)
  have vv : ∀ p, p < 12 → vp_in (nI k * 12 + nI p) 192 := by
    intro p hp
    rw [nu_x12]
    exact vp_in_nI (by omega) (by omega)
  have ee : ∀ p, p < 12 → (nI k * 12 + nI p).toNatClampNeg = 12 * k + p := by
    intro p hp
    rw [nu_x12]
    exact nI_clamp (by omega)
  obtain ⟨n, hn, hz, hc⟩ := st_n hS (k := k) (by omega)
  have hR : n = 0 ∨ ws_R ix sx iy sy (12 * k) n := by
    rcases hc with c | c | c | c
    · exact Or.inl c.2
    · exact Or.inl c.2
    · rcases hok with y | y <;> rw [y] at c <;> exact absurd c.1 (by decide)
    · exact Or.inr c.2.2
  have h3 : n ≠ 0 → kd k = 3 := by
    intro y
    rcases hc with c | c | c | c
    · exact absurd c.2 y
    · exact absurd c.2 y
    · rcases hok with y | y <;> rw [y] at c <;> exact absurd c.1 (by decide)
    · exact c.1
  rcases ws_Fxy (m := a) hR with ⟨fx, fy, hno⟩ | ⟨p, p', hp, hp', fx, fy, e1, e2, em, hRR⟩
  · by_cases hn1 : n < 12
    · obtain ⟨p, hG⟩ := ws_Gex sx ix (12 * k) n a b
      refine ⟨b.toInt64, upd kd k 3, nu, upd sz k (nI (n + 1)), dl, _, _, _, _, ws_mk w k 4, ws_dc wd d k 4, st_new hS (by omega) hz hn1 hG.1 hok hno hG.2.1 hG.2.2, wa_mark hW hk, fun post h => ?_, fun post h => ?_⟩
      · unfold wpX_perform
        refine sx_t kf_8 hk (Or.inr hok) (br_f (by decide) (br_f (by decide) (br_f (by decide) (br_f (by decide) (br_f (by decide) (br_f (by decide) (br_f (by decide) (br_f (by decide) (br_f (by decide) (br_f (by decide) (br_f (by decide) (br_t (by decide) (wx_fnd (by omega) hz hn fx (br_f (by decide) ⟨i, ?_⟩))))))))))))))
        rw [e, hz]
        exact br_t (nI_lt (b := 12) hn1 (by omega)) (br_f (by decide) (wx_seatN hk hz hn1 hG h))
      · unfold wpY_carryOut
        exact sy_t8 hk hok (br_t (by decide) (br_f (by decide) (br_t (by decide) (br_f (by decide) (br_t (by decide) (br_t (by decide) (wy_scB hk hz hn1 fy (Or.inr ⟨rfl, (Int32.zero_add b).symm, rfl⟩) h)))))))
    · obtain rfl : n = 12 := by omega
      refine ⟨10000000003, kd, nu, sz, dl, ix, sx, iy, sy, w, d, hS, hW, fun post h => ?_, fun post h => ?_⟩
      · unfold wpX_perform
        refine sx_t kf_8 hk (Or.inr hok) (br_f (by decide) (br_f (by decide) (br_f (by decide) (br_f (by decide) (br_f (by decide) (br_f (by decide) (br_f (by decide) (br_f (by decide) (br_f (by decide) (br_f (by decide) (br_f (by decide) (br_t (by decide) (wx_fnd (by omega) hz hn fx (br_f (by decide) ⟨i, ?_⟩))))))))))))))
        rw [e, hz]
        exact br_f (nI_nlt (a := 12) (b := 12) (by omega) (by omega)) h
      · unfold wpY_carryOut
        exact sy_t8 hk hok (br_t (by decide) (br_f (by decide) (br_t (by decide) (br_f (by decide) (br_t (by decide) (br_t (by decide) (wy_scA hk hz fy h)))))))
  · obtain ⟨n', rfl⟩ : ∃ n', n = n' + 1 := ⟨n - 1, by omega⟩
    have h3 : kd k = 3 := h3 (by omega)
    obtain ⟨s, hG⟩ := ws_Gex (ws_cl sx (12 * k + p) (12 * k + n')) (ws_cl ix (12 * k + p) (12 * k + n')) (12 * k) n' a (sx (12 * k + p) + b)
    refine ⟨(sx (12 * k + p) + b).toInt64, kd, nu, sz, dl, _, _, _, _, ws_mk w k 4, ws_dc wd d k 4, st_old hS (by omega) hz (by omega) (by omega) (by omega) e1 e2 em hG.1 h3 hG.2.1 hG.2.2, wa_mark hW hk, fun post h => ?_, fun post h => ?_⟩
    · unfold wpX_perform
      refine sx_t kf_8 hk (Or.inr hok) (br_f (by decide) (br_f (by decide) (br_f (by decide) (br_f (by decide) (br_f (by decide) (br_f (by decide) (br_f (by decide) (br_f (by decide) (br_f (by decide) (br_f (by decide) (br_f (by decide) (br_t (by decide) (wx_fnd (by omega) hz hn fx (br_t (nI_pos' (by omega)) (br_t (nI_pos' (by omega)) ⟨vv p (by omega), ?_⟩)))))))))))))))
      rw [ee p (by omega)]
      exact wx_seatO hk hz h3 (by omega) (by omega) hG h
    · unfold wpY_carryOut
      exact sy_t8 hk hok (br_t (by decide) (br_f (by decide) (br_t (by decide) (br_f (by decide) (br_t (by decide) (br_t (by decide) (wy_scC hk hz hn fy (by omega) (Or.inr ⟨rfl, by rw [e1], rfl⟩) h)))))))
theorem pf_9 (hS : st_R kd sz dl ix sx iy sy) (hW : wa_R w wd d) (hk : k < 8) (hok : kd k = 0 ∨ kd k = 3) : lk_R wd (fun post => wpX_perform post (tm, tn, kd, nu, sz, dl, ix, sx, st, wk, wo, we, wt, te, tk, w, q, qo, qk, qa, qb, rc, rs) 9 (nI k) a b) (fun post => wpY_carryOut post (tm, tn, kd, nu, sz, iy, sy, dl, st, wk, wo, we, wt, wd, d, qo, qk, qa, qb, q, rs, ra, te, tk) 9 (nI k) a b) (fun kd nu sz dl ix sx w => (tm, tn, kd, nu, sz, dl, ix, sx, st, wk, wo, we, wt, te, tk, w, q, qo, qk, qa, qb, rc, rs)) (fun kd nu sz dl iy sy d => (tm, tn, kd, nu, sz, iy, sy, dl, st, wk, wo, we, wt, wd, d, qo, qk, qa, qb, q, rs, ra, te, tk)) := by
  have e : (nI k).toNatClampNeg = k := nI_clamp (by omega)
  have i : vp_in (nI k) 16 := vp_in_nI (by omega) (by omega)
  obtain ⟨n, hn, hz, hc⟩ := st_n hS (k := k) (by omega)
  have hR : n = 0 ∨ ws_R ix sx iy sy (12 * k) n := by
    rcases hc with c | c | c | c
    · exact Or.inl c.2
    · exact Or.inl c.2
    · rcases hok with y | y <;> rw [y] at c <;> exact absurd c.1 (by decide)
    · exact Or.inr c.2.2
  have h3 : n ≠ 0 → kd k = 3 := by
    intro y
    rcases hc with c | c | c | c
    · exact absurd c.2 y
    · exact absurd c.2 y
    · rcases hok with y | y <;> rw [y] at c <;> exact absurd c.1 (by decide)
    · exact c.1
  rcases ws_Fxy (m := a) hR with ⟨fx, fy, hno⟩ | ⟨p, p', hp, hp', fx, fy, e1, e2, em, hRR⟩
  · refine ⟨0, kd, nu, sz, dl, ix, sx, iy, sy, w, d, hS, hW, fun post h => ?_, fun post h => ?_⟩
    · unfold wpX_perform
      exact sx_t kf_9 hk (Or.inr hok) (br_f (by decide) (br_f (by decide) (br_f (by decide) (br_f (by decide) (br_f (by decide) (br_f (by decide) (br_f (by decide) (br_f (by decide) (br_f (by decide) (br_f (by decide) (br_f (by decide) (br_f (by decide) (br_t (by decide) (wx_fnd (by omega) hz hn fx (br_f (by decide) h)))))))))))))))
    · unfold wpY_carryOut
      exact sy_t9 hk hok (br_t (by decide) (br_f (by decide) (br_t (by decide) (br_f (by decide) (br_f (by decide) (br_f (by decide) (br_f (by decide) (br_f (by decide) (br_f (by decide) (br_f (by decide) (br_f (by decide) (br_f (by decide) (br_f (by decide) (br_f (by decide) (br_f (by decide) (br_f (by decide) (br_t (by decide) (wy_fnd (by omega) hz hn fy (br_t (by decide) (br_f (by decide) h))))))))))))))))))))
  · obtain ⟨n', rfl⟩ : ∃ n', n = n' + 1 := ⟨n - 1, by omega⟩
    obtain ⟨r, kd', nu', sz', dl', ix', sx', iy', sy', w', d', r1, r2, rx, ry⟩ := lk_out (nu := nu) (tf := te) (tg := tk) (ra := ra) (tm := tm) (tn := tn) (st := st) (wk := wk) (wo := wo) (we := we) (wt := wt) (te := te) (tk := tk) (q := q) (qo := qo) (qk := qk) (qa := qa) (qb := qb) (rc := rc) (rs := rs) (p := p) (p' := p') hS hW hk hz (by omega) (by omega) (by omega) (Or.inr ⟨h3 (by omega), e1, e2⟩)
    refine ⟨1, kd', nu', sz', dl', ix', sx', iy', sy', w', d', r1, r2, fun post h => ?_, fun post h => ?_⟩
    · unfold wpX_perform
      exact sx_t kf_9 hk (Or.inr hok) (br_f (by decide) (br_f (by decide) (br_f (by decide) (br_f (by decide) (br_f (by decide) (br_f (by decide) (br_f (by decide) (br_f (by decide) (br_f (by decide) (br_f (by decide) (br_f (by decide) (br_f (by decide) (br_t (by decide) (wx_fnd (by omega) hz hn fx (br_t (nI_pos' (by omega)) (rx _ h))))))))))))))))
    · unfold wpY_carryOut
      exact sy_t9 hk hok (br_t (by decide) (br_f (by decide) (br_t (by decide) (br_f (by decide) (br_f (by decide) (br_f (by decide) (br_f (by decide) (br_f (by decide) (br_f (by decide) (br_f (by decide) (br_f (by decide) (br_f (by decide) (br_f (by decide) (br_f (by decide) (br_f (by decide) (br_f (by decide) (br_t (by decide) (wy_fnd (by omega) hz hn fy (br_f (nI_pos (by omega)) (ry _ (br_t (nI_pos' (by omega)) h)))))))))))))))))))))
theorem pf_10 (hS : st_R kd sz dl ix sx iy sy) (hW : wa_R w wd d) (hk : k < 8) (hok : kd k = 0 ∨ kd k = 3) : lk_R wd (fun post => wpX_perform post (tm, tn, kd, nu, sz, dl, ix, sx, st, wk, wo, we, wt, te, tk, w, q, qo, qk, qa, qb, rc, rs) 10 (nI k) a b) (fun post => wpY_carryOut post (tm, tn, kd, nu, sz, iy, sy, dl, st, wk, wo, we, wt, wd, d, qo, qk, qa, qb, q, rs, ra, te, tk) 10 (nI k) a b) (fun kd nu sz dl ix sx w => (tm, tn, kd, nu, sz, dl, ix, sx, st, wk, wo, we, wt, te, tk, w, q, qo, qk, qa, qb, rc, rs)) (fun kd nu sz dl iy sy d => (tm, tn, kd, nu, sz, iy, sy, dl, st, wk, wo, we, wt, wd, d, qo, qk, qa, qb, q, rs, ra, te, tk)) := by
  have e : (nI k).toNatClampNeg = k := nI_clamp (by omega)
  have i : vp_in (nI k) 16 := vp_in_nI (by omega) (by omega)
  obtain ⟨n, hn, hz, hc⟩ := st_n hS (k := k) (by omega)
  have hR : n = 0 ∨ ws_R ix sx iy sy (12 * k) n := by
    rcases hc with c | c | c | c
    · exact Or.inl c.2
    · exact Or.inl c.2
    · rcases hok with y | y <;> rw [y] at c <;> exact absurd c.1 (by decide)
    · exact Or.inr c.2.2
  have h3 : n ≠ 0 → kd k = 3 := by
    intro y
    rcases hc with c | c | c | c
    · exact absurd c.2 y
    · exact absurd c.2 y
    · rcases hok with y | y <;> rw [y] at c <;> exact absurd c.1 (by decide)
    · exact c.1
  by_cases z : kd k = 0
  · have n0 : sz k = 0 := by
      by_cases y : n = 0
      · rw [hz, y]; rfl
      · rw [h3 y] at z
        exact absurd z (by decide)
    refine ⟨10000000002, kd, nu, sz, dl, ix, sx, iy, sy, w, d, hS, hW, fun post h => ?_, fun post h => ?_⟩
    · unfold wpX_perform
      refine sx_t kf_10 hk (Or.inr hok) (br_f (by decide) (br_f (by decide) (br_f (by decide) (br_f (by decide) (br_f (by decide) (br_f (by decide) (br_f (by decide) (br_f (by decide) (br_f (by decide) (br_f (by decide) (br_f (by decide) (br_f (by decide) (br_f (by decide) (br_t (by decide) (⟨i, ?_⟩)))))))))))))))
      rw [e]
      exact br_t z h
    · unfold wpY_carryOut
      refine sy_t10 hk hok (br_t (by decide) (br_f (by decide) (br_t (by decide) (br_f (by decide) (br_f (by decide) (br_f (by decide) (br_f (by decide) (br_f (by decide) (br_f (by decide) (br_f (by decide) (br_f (by decide) (br_f (by decide) (br_f (by decide) (br_f (by decide) (br_f (by decide) (br_f (by decide) (br_f (by decide) (br_t (by decide) (⟨i, ?_⟩)))))))))))))))))))
      rw [e]
      exact br_t n0 h
  · have k3 : kd k = 3 := hok.resolve_left z
    have n0 : n ≠ 0 := by
      rcases hc with c | c | c | c
      · exact absurd c.1 z
      · rw [k3] at c; exact absurd c.1 (by decide)
      · omega
      · omega
    obtain ⟨n', rfl⟩ : ∃ n', n = n' + 1 := ⟨n - 1, by omega⟩
    have hRR := hR.resolve_left n0
    have ne : ¬ sz k = 0 := by
      rw [hz]
      exact nI_ne0 (by omega) (by omega)
    obtain ⟨p', hp', e1, e2, hpl⟩ := wy_plc (tm := tm) (tn := tn) (st := st) (wk := wk) (wo := wo) (we := we) (wt := wt) (te := te) (tk := tk) (q := q) (qo := qo) (qk := qk) (qa := qa) (qb := qb) (rc := ra) (rs := rs) (nu := nu) (kd := kd) (dl := dl) (wd := wd) (d := d) (i := 0) (by omega) hz hn hRR (by omega)
    obtain ⟨r, kd', nu', sz', dl', ix', sx', iy', sy', w', d', r1, r2, rx, ry⟩ := lk_out (nu := nu) (tf := te) (tg := tk) (ra := ra) (tm := tm) (tn := tn) (st := st) (wk := wk) (wo := wo) (we := we) (wt := wt) (te := te) (tk := tk) (q := q) (qo := qo) (qk := qk) (qa := qa) (qb := qb) (rc := rc) (rs := rs) (p := 0) (p' := p') hS hW hk hz (by omega) (by omega) (by omega) (Or.inr ⟨k3, e1, e2⟩)
    refine ⟨r.toInt64, kd', nu', sz', dl', ix', sx', iy', sy', w', d', r1, r2, fun post h => ?_, fun post h => ?_⟩
    · unfold wpX_perform
      refine sx_t kf_10 hk (Or.inr hok) (br_f (by decide) (br_f (by decide) (br_f (by decide) (br_f (by decide) (br_f (by decide) (br_f (by decide) (br_f (by decide) (br_f (by decide) (br_f (by decide) (br_f (by decide) (br_f (by decide) (br_f (by decide) (br_f (by decide) (br_t (by decide) (⟨i, ?_⟩)))))))))))))))
      rw [e]
      exact br_f z (rx _ h)
    · unfold wpY_carryOut
      refine sy_t10 hk hok (br_t (by decide) (br_f (by decide) (br_t (by decide) (br_f (by decide) (br_f (by decide) (br_f (by decide) (br_f (by decide) (br_f (by decide) (br_f (by decide) (br_f (by decide) (br_f (by decide) (br_f (by decide) (br_f (by decide) (br_f (by decide) (br_f (by decide) (br_f (by decide) (br_f (by decide) (br_t (by decide) (⟨i, ?_⟩)))))))))))))))))))
      rw [e]
      exact br_f ne (hpl _ (ry _ h))
theorem pf_11 {t : Nat} (hS : st_R kd sz dl ix sx iy sy) (hW : wa_R w wd d) (hk : k < 8) (ht : t < 8) (hkt : k ≠ t) : lk_R wd (fun post => wpX_perform post (tm, tn, kd, nu, sz, dl, ix, sx, st, wk, wo, we, wt, te, tk, w, q, qo, qk, qa, qb, rc, rs) 11 (nI k) (nI t) b) (fun post => wpY_carryOut post (tm, tn, kd, nu, sz, iy, sy, dl, st, wk, wo, we, wt, wd, d, qo, qk, qa, qb, q, rs, ra, te, tk) 11 (nI k) (nI t) b) (fun kd nu sz dl ix sx w => (tm, tn, kd, nu, sz, dl, ix, sx, st, wk, wo, we, wt, te, tk, w, q, qo, qk, qa, qb, rc, rs)) (fun kd nu sz dl iy sy d => (tm, tn, kd, nu, sz, iy, sy, dl, st, wk, wo, we, wt, wd, d, qo, qk, qa, qb, q, rs, ra, te, tk)) := by
  have e : (nI k).toNatClampNeg = k := nI_clamp (by omega)
  have i : vp_in (nI k) 16 := vp_in_nI (by omega) (by omega)
  by_cases z : kd k = 0
  · refine ⟨0, kd, nu, sz, dl, ix, sx, iy, sy, w, d, hS, hW, fun post h => ?_, fun post h => ?_⟩
    · unfold wpX_perform
      exact sx_t kf_11 hk (Or.inl rfl) (br_f (by decide) (br_f (by decide) (br_t (by decide) (wx_ren0 hk z h))))
    · unfold wpY_carryOut
      exact sy_t11 hk  (br_t (by decide) (br_f (by decide) (br_t (by decide) (br_f (by decide) (br_f (by decide) (br_f (by decide) (br_f (by decide) (br_f (by decide) (br_f (by decide) (br_f (by decide) (br_f (by decide) (br_f (by decide) (br_f (by decide) (br_f (by decide) (br_f (by decide) (br_f (by decide) (br_f (by decide) (br_f (by decide) (br_t (by decide) (wy_wh0 hk z h))))))))))))))))))))
  · refine ⟨1, _, upd (upd nu t (nu k)) k 0, _, _, _, _, _, _, _, _, st_clear (st_copy hS (s := k) (t := t) (by omega)) k, wa_mark (wa_mark hW hk) ht, fun post h => ?_, fun post h => ?_⟩
    · unfold wpX_perform
      exact sx_t kf_11 hk (Or.inl rfl) (br_f (by decide) (br_f (by decide) (br_t (by decide) (wx_ren1 hk ht hkt z h))))
    · unfold wpY_carryOut
      exact sy_t11 hk  (br_t (by decide) (br_f (by decide) (br_t (by decide) (br_f (by decide) (br_f (by decide) (br_f (by decide) (br_f (by decide) (br_f (by decide) (br_f (by decide) (br_f (by decide) (br_f (by decide) (br_f (by decide) (br_f (by decide) (br_f (by decide) (br_f (by decide) (br_f (by decide) (br_f (by decide) (br_f (by decide) (br_t (by decide) (wy_ren1 hk ht hkt z (by rw [ws_dc_comm]; exact h)))))))))))))))))))))
theorem pf_all {o key : Int32} {t : Nat} (hS : st_R kd sz dl ix sx iy sy) (hW : wa_R w wd d) (hm : cm_R o key a) (ht : tm = nI t) (ht1 : t ≤ 1000000000) : lk_R wd (fun post => wpX_perform post (tm, tn, kd, nu, sz, dl, ix, sx, st, wk, wo, we, wt, te, tk, w, q, qo, qk, qa, qb, rc, rs) o key a b) (fun post => wpY_carryOut post (tm, tn, kd, nu, sz, iy, sy, dl, st, wk, wo, we, wt, wd, d, qo, qk, qa, qb, q, rs, ra, te, tk) o key a b) (fun kd nu sz dl ix sx w => (tm, tn, kd, nu, sz, dl, ix, sx, st, wk, wo, we, wt, te, tk, w, q, qo, qk, qa, qb, rc, rs)) (fun kd nu sz dl iy sy d => (tm, tn, kd, nu, sz, iy, sy, dl, st, wk, wo, we, wt, wd, d, qo, qk, qa, qb, q, rs, ra, te, tk)) := by
  obtain ⟨o', k, ho, rfl, hk, rfl, h3, h11⟩ := hm
  have cs : o' = 0 ∨ o' = 1 ∨ o' = 2 ∨ o' = 3 ∨ o' = 4 ∨ o' = 5 ∨ o' = 6 ∨ o' = 7 ∨ o' = 8 ∨ o' = 9 ∨ o' = 10 ∨ o' = 11 := by omega
  rcases cs with rfl | rfl | rfl | rfl | rfl | rfl | rfl | rfl | rfl | rfl | rfl | rfl
  · exact pf_0 hS hW hk
  · by_cases z0 : kd k = 0
    · exact pf_1 hS hW hk (Or.inl z0)
    · by_cases z1 : kd k = 1
      · exact pf_1 hS hW hk (Or.inr z1)
      · exact pf_w1 hS hW hk z0 z1
  · exact pf_2 hS hW hk
  · obtain ⟨a', ha, rfl⟩ := h3 rfl
    refine pf_3 hS hW hk ?_
    by_cases z : a' = 0
    · exact ⟨0, by decide, Or.inl ⟨by rw [z]; rfl, rfl⟩⟩
    · refine ⟨nI (t + a'), nI_pos' (by omega), Or.inr ⟨nI_ne0 (by omega) (by omega), ?_⟩⟩
      rw [ht, nI_add]
  · by_cases z0 : kd k = 0
    · exact pf_4 hS hW hk (Or.inl z0)
    · by_cases z1 : kd k = 2
      · exact pf_4 hS hW hk (Or.inr z1)
      · exact pf_w4 hS hW hk z0 z1
  · by_cases z0 : kd k = 0
    · exact pf_5 hS hW hk (Or.inl z0)
    · by_cases z1 : kd k = 2
      · exact pf_5 hS hW hk (Or.inr z1)
      · exact pf_w5 hS hW hk z0 z1
  · by_cases z0 : kd k = 0
    · exact pf_6 hS hW hk (Or.inl z0)
    · by_cases z1 : kd k = 2
      · exact pf_6 hS hW hk (Or.inr z1)
      · exact pf_w6 hS hW hk z0 z1
  · by_cases z0 : kd k = 0
    · exact pf_7 hS hW hk (Or.inl z0)
    · by_cases z1 : kd k = 3
      · exact pf_7 hS hW hk (Or.inr z1)
      · exact pf_w7 hS hW hk z0 z1
  · by_cases z0 : kd k = 0
    · exact pf_8 hS hW hk (Or.inl z0)
    · by_cases z1 : kd k = 3
      · exact pf_8 hS hW hk (Or.inr z1)
      · exact pf_w8 hS hW hk z0 z1
  · by_cases z0 : kd k = 0
    · exact pf_9 hS hW hk (Or.inl z0)
    · by_cases z1 : kd k = 3
      · exact pf_9 hS hW hk (Or.inr z1)
      · exact pf_w9 hS hW hk z0 z1
  · by_cases z0 : kd k = 0
    · exact pf_10 hS hW hk (Or.inl z0)
    · by_cases z1 : kd k = 3
      · exact pf_10 hS hW hk (Or.inr z1)
      · exact pf_w10 hS hW hk z0 z1
  · obtain ⟨t', ht', htk, rfl⟩ := h11 rfl
    exact pf_11 hS hW hk ht' (fun y => htk y.symm)
end PH
