section CM
variable {tm : Int32} {tn : Int64} {kd nu sz dl ix sx iy sy st wk wo we w wd d q qo qk qa qb rc ra : Nat → Int32} {wt te tk tf tg rs : Nat → Int64}
/-! BB: command -/
theorem lk_fit {o key a : Int32} : ∃ r : Int32, (r = 0 ∨ (r = 1 ∧ cm_R o key a)) ∧ (∀ post : Int32 → Prop, post r → wpX_isCommand post o key a) ∧ (∀ post : Int32 → Prop, post r → wpY_fits post (tm, tn, kd, nu, sz, iy, sy, dl, st, wk, wo, we, wt, wd, d, qo, qk, qa, qb, q, rs, rc, te, tk) o key a) := by
  rcases rl_cs o 12 (by omega) with hn | ⟨o', ho, rfl⟩
  · refine ⟨0, Or.inl rfl, fun post h => br_c (fun _ => h) (fun y => br_t ?_ h), fun post h => ?_⟩
    · have h4 := hn.resolve_left y
      rw [Int32.le_iff_toInt_le, nI_toInt (by omega)] at h4
      rw [Int32.lt_iff_toInt_lt, show (11 : Int32).toInt = 11 from by decide]
      omega
    · unfold wpY_fits
      exact ya_f (n := 12) hn (br_t rfl h)
  · rcases rl_cs key 8 (by omega) with hn | ⟨k, hk, rfl⟩
    · refine ⟨0, Or.inl rfl, fun post h => br_f (nI_pos (by omega)) (br_f (nI_nlt (a := 11) (b := o') (by omega) (by omega)) (xk_f hn (br_t rfl h))), fun post h => ?_⟩
      unfold wpY_fits
      exact ya_t (n := 12) ho (by omega) (br_f (by decide) (ya_f (n := 8) hn (br_t rfl h)))
    · have cs : o' = 0 ∨ o' = 1 ∨ o' = 2 ∨ o' = 3 ∨ o' = 4 ∨ o' = 5 ∨ o' = 6 ∨ o' = 7 ∨ o' = 8 ∨ o' = 9 ∨ o' = 10 ∨ o' = 11 := by omega
      rcases cs with rfl | rfl | rfl | rfl | rfl | rfl | rfl | rfl | rfl | rfl | rfl | rfl
      · refine ⟨1, Or.inr ⟨rfl, 0, k, by omega, rfl, hk, rfl, fun y => absurd y (by decide), fun y => absurd y (by decide)⟩, fun post h => br_f (by decide) (br_f (by decide) (xk_t hk (br_f (by decide) (br_t (by decide) (h))))), fun post h => ?_⟩
        unfold wpY_fits
        exact ya_t (j := 0) (n := 12) (by omega) (by omega) (br_f (by decide) (ya_t (n := 8) hk (by omega) (br_f (by decide) (br_t (by decide) (br_f (by decide) (br_f (by decide) (h)))))))
      · refine ⟨1, Or.inr ⟨rfl, 1, k, by omega, rfl, hk, rfl, fun y => absurd y (by decide), fun y => absurd y (by decide)⟩, fun post h => br_f (by decide) (br_f (by decide) (xk_t hk (br_f (by decide) (br_t (by decide) (h))))), fun post h => ?_⟩
        unfold wpY_fits
        exact ya_t (j := 1) (n := 12) (by omega) (by omega) (br_f (by decide) (ya_t (n := 8) hk (by omega) (br_f (by decide) (br_t (by decide) (br_f (by decide) (br_f (by decide) (h)))))))
      · refine ⟨1, Or.inr ⟨rfl, 2, k, by omega, rfl, hk, rfl, fun y => absurd y (by decide), fun y => absurd y (by decide)⟩, fun post h => br_f (by decide) (br_f (by decide) (xk_t hk (br_f (by decide) (br_t (by decide) (h))))), fun post h => ?_⟩
        unfold wpY_fits
        exact ya_t (j := 2) (n := 12) (by omega) (by omega) (br_f (by decide) (ya_t (n := 8) hk (by omega) (br_f (by decide) (br_t (by decide) (br_f (by decide) (br_f (by decide) (h)))))))
      · rcases rl_cs a 101 (by omega) with hn | ⟨a', ha, rfl⟩
        · refine ⟨0, Or.inl rfl, fun post h => br_f (by decide) (br_f (by decide) (xk_t hk (br_f (by decide) (br_f (by decide) (br_f (by decide) (br_t (by decide) (br_c (fun _ => h) (fun y => br_t ?_ h)))))))), fun post h => ?_⟩
          · have h4 := hn.resolve_left y
            rw [Int32.le_iff_toInt_le, nI_toInt (by omega)] at h4
            rw [Int32.lt_iff_toInt_lt, show (100 : Int32).toInt = 100 from by decide]
            omega
          · unfold wpY_fits
            exact ya_t (j := 3) (n := 12) (by omega) (by omega) (br_f (by decide) (ya_t (n := 8) hk (by omega) (br_f (by decide) (br_t (by decide) (br_f (by decide) (br_t (by decide) (ya_f (n := 101) hn (br_t rfl h))))))))
        · refine ⟨1, Or.inr ⟨rfl, 3, k, by omega, rfl, hk, rfl, fun _ => ⟨a', by omega, rfl⟩, fun y => absurd y (by decide)⟩, fun post h => br_f (by decide) (br_f (by decide) (xk_t hk (br_f (by decide) (br_f (by decide) (br_f (by decide) (br_t (by decide) (br_f (nI_pos (by omega)) (br_f (nI_nlt (a := 100) (b := a') (by omega) (by omega)) h)))))))), fun post h => ?_⟩
          unfold wpY_fits
          exact ya_t (j := 3) (n := 12) (by omega) (by omega) (br_f (by decide) (ya_t (n := 8) hk (by omega) (br_f (by decide) (br_t (by decide) (br_f (by decide) (br_t (by decide) (ya_t (n := 101) ha (by omega) (br_f (by decide) h))))))))
      · refine ⟨1, Or.inr ⟨rfl, 4, k, by omega, rfl, hk, rfl, fun y => absurd y (by decide), fun y => absurd y (by decide)⟩, fun post h => br_f (by decide) (br_f (by decide) (xk_t hk (br_f (by decide) (br_f (by decide) (br_f (by decide) (br_f (by decide) (br_t (by decide) (h)))))))), fun post h => ?_⟩
        unfold wpY_fits
        exact ya_t (j := 4) (n := 12) (by omega) (by omega) (br_f (by decide) (ya_t (n := 8) hk (by omega) (br_f (by decide) (br_t (by decide) (br_f (by decide) (br_f (by decide) (h)))))))
      · refine ⟨1, Or.inr ⟨rfl, 5, k, by omega, rfl, hk, rfl, fun y => absurd y (by decide), fun y => absurd y (by decide)⟩, fun post h => br_f (by decide) (br_f (by decide) (xk_t hk (br_f (by decide) (br_f (by decide) (br_f (by decide) (br_f (by decide) (br_f (by decide) (br_t (by decide) (h))))))))), fun post h => ?_⟩
        unfold wpY_fits
        exact ya_t (j := 5) (n := 12) (by omega) (by omega) (br_f (by decide) (ya_t (n := 8) hk (by omega) (br_f (by decide) (br_t (by decide) (br_f (by decide) (br_f (by decide) (h)))))))
      · refine ⟨1, Or.inr ⟨rfl, 6, k, by omega, rfl, hk, rfl, fun y => absurd y (by decide), fun y => absurd y (by decide)⟩, fun post h => br_f (by decide) (br_f (by decide) (xk_t hk (br_f (by decide) (br_f (by decide) (br_f (by decide) (br_f (by decide) (br_f (by decide) (br_f (by decide) (br_t (by decide) (h)))))))))), fun post h => ?_⟩
        unfold wpY_fits
        exact ya_t (j := 6) (n := 12) (by omega) (by omega) (br_f (by decide) (ya_t (n := 8) hk (by omega) (br_f (by decide) (br_t (by decide) (br_f (by decide) (br_f (by decide) (h)))))))
      · rcases rl_cs a 16 (by omega) with hn | ⟨a', ha, rfl⟩
        · refine ⟨0, Or.inl rfl, fun post h => br_f (by decide) (br_f (by decide) (xk_t hk (br_f (by decide) (br_f (by decide) (br_f (by decide) (br_f (by decide) (br_f (by decide) (br_f (by decide) (br_f (by decide) (br_t (by decide) (br_c (fun _ => h) (fun y => br_t (hn.resolve_left y) h)))))))))))), fun post h => ?_⟩
          unfold wpY_fits
          exact ya_t (j := 7) (n := 12) (by omega) (by omega) (br_f (by decide) (ya_t (n := 8) hk (by omega) (br_f (by decide) (br_f (by decide) (br_f (by decide) (ya_f (n := 16) hn ⟨rfl, h⟩))))))
        · refine ⟨1, Or.inr ⟨rfl, 7, k, by omega, rfl, hk, rfl, fun y => absurd y (by decide), fun y => absurd y (by decide)⟩, fun post h => br_f (by decide) (br_f (by decide) (xk_t hk (br_f (by decide) (br_f (by decide) (br_f (by decide) (br_f (by decide) (br_f (by decide) (br_f (by decide) (br_f (by decide) (br_t (by decide) (br_f (nI_pos (by omega)) (br_f (nI_ge (b := 16) ha (by omega)) h)))))))))))), fun post h => ?_⟩
          unfold wpY_fits
          exact ya_t (j := 7) (n := 12) (by omega) (by omega) (br_f (by decide) (ya_t (n := 8) hk (by omega) (br_f (by decide) (br_f (by decide) (br_f (by decide) (ya_t (n := 16) ha (by omega) ⟨rfl, h⟩))))))
      · rcases rl_cs a 16 (by omega) with hn | ⟨a', ha, rfl⟩
        · refine ⟨0, Or.inl rfl, fun post h => br_f (by decide) (br_f (by decide) (xk_t hk (br_f (by decide) (br_f (by decide) (br_f (by decide) (br_f (by decide) (br_f (by decide) (br_f (by decide) (br_f (by decide) (br_f (by decide) (br_t (by decide) (br_c (fun _ => h) (fun y => br_t (hn.resolve_left y) h))))))))))))), fun post h => ?_⟩
          unfold wpY_fits
          exact ya_t (j := 8) (n := 12) (by omega) (by omega) (br_f (by decide) (ya_t (n := 8) hk (by omega) (br_f (by decide) (br_f (by decide) (br_f (by decide) (ya_f (n := 16) hn ⟨rfl, h⟩))))))
        · refine ⟨1, Or.inr ⟨rfl, 8, k, by omega, rfl, hk, rfl, fun y => absurd y (by decide), fun y => absurd y (by decide)⟩, fun post h => br_f (by decide) (br_f (by decide) (xk_t hk (br_f (by decide) (br_f (by decide) (br_f (by decide) (br_f (by decide) (br_f (by decide) (br_f (by decide) (br_f (by decide) (br_f (by decide) (br_t (by decide) (br_f (nI_pos (by omega)) (br_f (nI_ge (b := 16) ha (by omega)) h))))))))))))), fun post h => ?_⟩
          unfold wpY_fits
          exact ya_t (j := 8) (n := 12) (by omega) (by omega) (br_f (by decide) (ya_t (n := 8) hk (by omega) (br_f (by decide) (br_f (by decide) (br_f (by decide) (ya_t (n := 16) ha (by omega) ⟨rfl, h⟩))))))
      · rcases rl_cs a 16 (by omega) with hn | ⟨a', ha, rfl⟩
        · refine ⟨0, Or.inl rfl, fun post h => br_f (by decide) (br_f (by decide) (xk_t hk (br_f (by decide) (br_f (by decide) (br_f (by decide) (br_f (by decide) (br_f (by decide) (br_f (by decide) (br_f (by decide) (br_f (by decide) (br_f (by decide) (br_t (by decide) (br_c (fun _ => h) (fun y => br_t (hn.resolve_left y) h)))))))))))))), fun post h => ?_⟩
          unfold wpY_fits
          exact ya_t (j := 9) (n := 12) (by omega) (by omega) (br_f (by decide) (ya_t (n := 8) hk (by omega) (br_f (by decide) (br_f (by decide) (br_f (by decide) (ya_f (n := 16) hn ⟨rfl, h⟩))))))
        · refine ⟨1, Or.inr ⟨rfl, 9, k, by omega, rfl, hk, rfl, fun y => absurd y (by decide), fun y => absurd y (by decide)⟩, fun post h => br_f (by decide) (br_f (by decide) (xk_t hk (br_f (by decide) (br_f (by decide) (br_f (by decide) (br_f (by decide) (br_f (by decide) (br_f (by decide) (br_f (by decide) (br_f (by decide) (br_f (by decide) (br_t (by decide) (br_f (nI_pos (by omega)) (br_f (nI_ge (b := 16) ha (by omega)) h)))))))))))))), fun post h => ?_⟩
          unfold wpY_fits
          exact ya_t (j := 9) (n := 12) (by omega) (by omega) (br_f (by decide) (ya_t (n := 8) hk (by omega) (br_f (by decide) (br_f (by decide) (br_f (by decide) (ya_t (n := 16) ha (by omega) ⟨rfl, h⟩))))))
      · refine ⟨1, Or.inr ⟨rfl, 10, k, by omega, rfl, hk, rfl, fun y => absurd y (by decide), fun y => absurd y (by decide)⟩, fun post h => br_f (by decide) (br_f (by decide) (xk_t hk (br_f (by decide) (br_f (by decide) (br_f (by decide) (br_f (by decide) (br_f (by decide) (br_f (by decide) (br_f (by decide) (br_f (by decide) (br_f (by decide) (br_f (by decide) (br_t (by decide) (h)))))))))))))), fun post h => ?_⟩
        unfold wpY_fits
        exact ya_t (j := 10) (n := 12) (by omega) (by omega) (br_f (by decide) (ya_t (n := 8) hk (by omega) (br_f (by decide) (br_f (by decide) (br_t (by decide) (br_f (by decide) (br_f (by decide) (h))))))))
      · rcases rl_cs a 8 (by omega) with hn | ⟨t, ht, rfl⟩
        · refine ⟨0, Or.inl rfl, fun post h => br_f (by decide) (br_f (by decide) (xk_t hk (br_f (by decide) (br_f (by decide) (br_f (by decide) (br_f (by decide) (br_f (by decide) (br_f (by decide) (br_f (by decide) (br_f (by decide) (br_f (by decide) (br_f (by decide) (br_f (by decide) (br_t (by decide) (xk_f hn (br_t rfl h)))))))))))))))), fun post h => ?_⟩
          unfold wpY_fits
          exact ya_t (j := 11) (n := 12) (by omega) (by omega) (br_f (by decide) (ya_t (n := 8) hk (by omega) (br_f (by decide) (br_f (by decide) (br_t (by decide) (br_t (by decide) (ya_f (n := 8) hn (br_t rfl h))))))))
        · by_cases z : t = k
          · refine ⟨0, Or.inl rfl, fun post h => br_f (by decide) (br_f (by decide) (xk_t hk (br_f (by decide) (br_f (by decide) (br_f (by decide) (br_f (by decide) (br_f (by decide) (br_f (by decide) (br_f (by decide) (br_f (by decide) (br_f (by decide) (br_f (by decide) (br_f (by decide) (br_t (by decide) (xk_t ht (br_f (by decide) (br_t (by rw [z]) h))))))))))))))))), fun post h => ?_⟩
            unfold wpY_fits
            exact ya_t (j := 11) (n := 12) (by omega) (by omega) (br_f (by decide) (ya_t (n := 8) hk (by omega) (br_f (by decide) (br_f (by decide) (br_t (by decide) (br_t (by decide) (ya_t (n := 8) ht (by omega) (br_f (by decide) (br_t (by rw [z]) h)))))))))
          · refine ⟨1, Or.inr ⟨rfl, 11, k, by omega, rfl, hk, rfl, fun y => absurd y (by decide), fun _ => ⟨t, ht, z, rfl⟩⟩, fun post h => br_f (by decide) (br_f (by decide) (xk_t hk (br_f (by decide) (br_f (by decide) (br_f (by decide) (br_f (by decide) (br_f (by decide) (br_f (by decide) (br_f (by decide) (br_f (by decide) (br_f (by decide) (br_f (by decide) (br_f (by decide) (br_t (by decide) (xk_t ht (br_f (by decide) (br_f (nu_ne z (by omega) (by omega)) h))))))))))))))))), fun post h => ?_⟩
            unfold wpY_fits
            exact ya_t (j := 11) (n := 12) (by omega) (by omega) (br_f (by decide) (ya_t (n := 8) hk (by omega) (br_f (by decide) (br_f (by decide) (br_t (by decide) (br_t (by decide) (ya_t (n := 8) ht (by omega) (br_f (by decide) (br_f (nu_ne z (by omega) (by omega)) h)))))))))
theorem i_vc_command {k : Nat} {u : SX} {v : SY} (I : i_Rel k u v) (hk : k + 6 ≤ 3072) (v1 : Int32) (v2 : Int32) (v3 : Int32) (v4 : Int32) (v5 : Int32) : wpX_command (fun r u' => wpY_command (fun r' v' => r' = r ∧ i_Rel (k + 6) u' v') v v1 v2 v3 v4 v5) u v1 v2 v3 v4 v5 := by
  have I6 := i_up I
  obtain ⟨tm, tn, kd, nu, sz, dl, ix, sx, iy, sy, st, wk, wo, we, w, wd, d, q, qo, qk, qa, qb, rc, wt, te, tk, rs, rfl, rfl, hT, hS, hW, hC⟩ := I
  rcases rl_cs v1 4 (by omega) with hn | ⟨c, hc, rfl⟩
  · unfold wpX_command
    refine xc_f hn (br_t rfl ?_)
    unfold wpY_command
    exact ya_f (n := 4) hn (br_t rfl ⟨rfl, I6⟩)
  · have e : (nI c).toNatClampNeg = c := nI_clamp (by omega)
    have i : vp_in (nI c) 4 := vp_in_nI hc (by omega)
    obtain ⟨hs, _, _, n, hn8, eq, hq0, _⟩ := hC c hc
    unfold wpX_command
    rw [e]
    refine xc_t hc (br_f (by decide) ⟨i, ?_⟩)
    by_cases s1 : st c = 1
    · refine br_t s1 ?_
      unfold wpY_command
      rw [e]
      exact ya_t (n := 4) hc (by omega) (br_f (by decide) ⟨i, br_t s1 ⟨rfl, I6⟩⟩)
    · refine br_f s1 ?_
      obtain ⟨r, hr, fx, fy⟩ := lk_fit (o := v2) (key := v3) (a := v4) (tm := tm) (tn := tn) (wk := wk) (wo := wo) (we := we) (wt := wt) (q := q) (qo := qo) (qk := qk) (qa := qa) (qb := qb) (rc := rc) (rs := rs) (kd := kd) (nu := nu) (sz := sz) (iy := iy) (sy := sy) (dl := dl) (st := st) (wd := wd) (d := d) (te := te) (tk := tk)
      refine fx _ ?_
      rcases hr with rfl | ⟨rfl, hm⟩
      · refine br_t rfl ?_
        unfold wpY_command
        rw [e]
        exact ya_t (n := 4) hc (by omega) (br_f (by decide) ⟨i, br_f s1 (fy _ (br_t rfl ⟨rfl, I6⟩))⟩)
      · refine br_f (by decide) ⟨i, ?_⟩
        by_cases s2 : st c = 2
        · have s0 : ¬ st c = 0 := by rw [s2]; decide
          refine br_t s2 ?_
          unfold wpX_enqueue
          rw [e]
          show _ ∧ _
          rw [eq]
          by_cases n8 : n < 8
          · have e3 : (nI (8 * c + n)).toNatClampNeg = 8 * c + n := nI_clamp (by omega)
            have x3 : vp_in (nI (8 * c + n)) 32 := vp_in_nI (by omega) (by omega)
            have R : i_Rel (k + 6) (tm, tn, kd, nu, sz, dl, ix, sx, st, wk, wo, we, wt, te, tk, w, upd q c (nI (n + 1)), upd qo (8 * c + n) v2, upd qk (8 * c + n) v3, upd qa (8 * c + n) v4, upd qb (8 * c + n) v5, rc, rs) (tm, tn, kd, nu, sz, iy, sy, dl, st, wk, wo, we, wt, wd, d, upd qo (8 * c + n) v2, upd qk (8 * c + n) v3, upd qa (8 * c + n) v4, upd qb (8 * c + n) v5, upd q c (nI (n + 1)), rs, rc, te, tk) := rl_i ⟨hT, hS, hW, cl_enq hC eq n8 s2 hm⟩
            rw [nu_x8, nI_1]
            refine ⟨i, br_t (nI_lt (b := 8) n8 (by omega)) ⟨i, nm_e ?_⟩⟩
            rw [e3]
            refine ⟨x3, nm_e ⟨x3, nm_e ⟨x3, nm_e ⟨x3, nm_e ⟨i, i, nm_e ?_⟩⟩⟩⟩⟩
            unfold wpY_command
            rw [e]
            refine ya_t (n := 4) hc (by omega) (br_f (by decide) ⟨i, br_f s1 (fy _ (br_f (by decide) ⟨i, br_f s0 ⟨i, ?_⟩⟩))⟩)
            rw [eq, nu_y8, nI_1]
            refine br_f (nu_ne (b := 8) (by omega) (by omega) (by omega)) ⟨i, i, nm_e (nm_e ?_)⟩
            rw [e3]
            exact ⟨x3, nm_e ⟨x3, nm_e ⟨x3, nm_e ⟨x3, nm_e ⟨rfl, R⟩⟩⟩⟩⟩
          · obtain rfl : n = 8 := by omega
            refine ⟨i, br_f (nI_nlt (a := 8) (b := 8) (by omega) (by omega)) ?_⟩
            unfold wpY_command
            rw [e]
            refine ya_t (n := 4) hc (by omega) (br_f (by decide) ⟨i, br_f s1 (fy _ (br_f (by decide) ⟨i, br_f s0 ⟨i, ?_⟩⟩))⟩)
            rw [eq]
            exact br_t rfl ⟨rfl, I6⟩
        · have s0 : st c = 0 := by
            rcases hs with y | y | y
            · exact y
            · exact absurd y s1
            · exact absurd y s2
          obtain ⟨t, ht, et⟩ := hT
          obtain ⟨r, kd1, nu1, sz1, dl1, ix1, sx1, iy1, sy1, w1, d1, a1, a2, ax, ay⟩ := pf_all (b := v5) (tm := tm) (tn := tn) (wk := wk) (wo := wo) (we := we) (wt := wt) (q := q) (qo := qo) (qk := qk) (qa := qa) (qb := qb) (rc := rc) (rs := rs) (ra := rc) (nu := nu) (st := st) (te := te) (tk := tk) hS hW hm et ht
          obtain ⟨st', kd', nu', sz', dl', ix', sx', iy', sy', w', d', te', tk', b1, b2, b3, bx, N, bn⟩ := lk_serve (tm := tm) (tn := tn) (wk := wk) (wo := wo) (we := we) (wt := wt) (q := q) (qo := qo) (qk := qk) (qa := qa) (qb := qb) (rc := rc) (rs := rs) (nu := nu1) (te := te) (tk := tk) hC a1 a2 4 0 rfl (sv_n_le st)
          have R : i_Rel (k + 6) (tm, tn, kd', nu', sz', dl', ix', sx', st', wk, wo, we, wt, te', tk', w', q, qo, qk, qa, qb, rc, rs) (tm, tn, kd', nu', sz', iy', sy', dl', st', wk, wo, we, wt, wd, d', qo, qk, qa, qb, q, rs, rc, te', tk') := rl_i ⟨⟨t, ht, et⟩, b1, b2, b3⟩
          refine br_f s2 (ax _ ⟨5, bx _ ?_⟩)
          unfold wpY_command
          rw [e]
          exact ya_t (n := 4) hc (by omega) (br_f (by decide) ⟨i, br_f s1 (fy _ (br_f (by decide) ⟨i, br_t s0 (ay _ ⟨N, bn _ ⟨rfl, R⟩⟩)⟩))⟩)
/-! CC: listen -/
theorem xn_t {post : Int32 → Prop} {k : Nat} (hk : k < 8) (hx : kd k = 1 ∨ kd k = 3) (h : post 1) : wpX_isNoPlaceToListen post (tm, tn, kd, nu, sz, dl, ix, sx, st, wk, wo, we, wt, te, tk, w, q, qo, qk, qa, qb, rc, rs) (nI k) := by
  have e : (nI k).toNatClampNeg = k := nI_clamp (by omega)
  have i : vp_in (nI k) 16 := vp_in_nI (by omega) (by omega)
  unfold wpX_isNoPlaceToListen
  rw [e]
  refine ⟨i, ?_⟩
  by_cases z : kd k = 1
  · exact br_t z h
  · exact br_f z ⟨i, br_t (hx.resolve_left z) h⟩
theorem xn_f {post : Int32 → Prop} {k : Nat} (hk : k < 8) (h1 : kd k ≠ 1) (h3 : kd k ≠ 3) (h : post 0) : wpX_isNoPlaceToListen post (tm, tn, kd, nu, sz, dl, ix, sx, st, wk, wo, we, wt, te, tk, w, q, qo, qk, qa, qb, rc, rs) (nI k) := by
  have e : (nI k).toNatClampNeg = k := nI_clamp (by omega)
  have i : vp_in (nI k) 16 := vp_in_nI (by omega) (by omega)
  unfold wpX_isNoPlaceToListen
  rw [e]
  exact ⟨i, br_f h1 ⟨i, br_f h3 h⟩⟩
theorem i_vc_listen {k : Nat} {u : SX} {v : SY} (I : i_Rel k u v) (hk : k + 6 ≤ 3072) (v1 : Int32) (v2 : Int32) (v3 : Int32) (v4 : Int32) : wpX_listen (fun r u' => wpY_listen (fun r' v' => r' = r ∧ i_Rel (k + 6) u' v') v v1 v2 v3 v4) u v1 v2 v3 v4 := by
  have I6 := i_up I
  obtain ⟨tm, tn, kd, nu, sz, dl, ix, sx, iy, sy, st, wk, wo, we, w, wd, d, q, qo, qk, qa, qb, rc, wt, te, tk, rs, rfl, rfl, hT, hS, hW, hC⟩ := I
  rcases rl_rd st v1 with hn | ⟨c, hc, rfl, h0⟩
  · unfold wpX_listen
    refine xr_f hn (br_t rfl ?_)
    unfold wpY_listen
    exact yr_f hn (br_t rfl ⟨rfl, I6⟩)
  rcases rl_cs v2 8 (by omega) with hn | ⟨a, ha, rfl⟩
  · unfold wpX_listen
    refine xr_t hc h0 (br_f (by decide) (xk_f hn (br_t rfl ?_)))
    unfold wpY_listen
    exact yr_t hc h0 (br_f (by decide) (ya_f (n := 8) hn (br_t rfl ⟨rfl, I6⟩)))
  rcases rl_cs v3 8 (by omega) with hn | ⟨b, hb, rfl⟩
  · unfold wpX_listen
    refine xr_t hc h0 (br_f (by decide) (xk_t ha (br_f (by decide) (xk_f hn (br_t rfl ?_)))))
    unfold wpY_listen
    exact yr_t hc h0 (br_f (by decide) (ya_t (n := 8) ha (by omega) (br_f (by decide) (ya_f (n := 8) hn (br_t rfl ⟨rfl, I6⟩)))))
  rcases rl_cs v4 51 (by omega) with hn | ⟨l, hl, rfl⟩
  · have g : wpY_listen (fun r' v' => r' = 10000000004 ∧ i_Rel (k + 6) (tm, tn, kd, nu, sz, dl, ix, sx, st, wk, wo, we, wt, te, tk, w, q, qo, qk, qa, qb, rc, rs) v') (tm, tn, kd, nu, sz, iy, sy, dl, st, wk, wo, we, wt, wd, d, qo, qk, qa, qb, q, rs, rc, te, tk) (nI c) (nI a) (nI b) v4 := by
      unfold wpY_listen
      exact yr_t hc h0 (br_f (by decide) (ya_t (n := 8) ha (by omega) (br_f (by decide) (ya_t (n := 8) hb (by omega) (br_f (by decide) (ya_f (n := 51) hn (br_t rfl ⟨rfl, I6⟩)))))))
    unfold wpX_listen
    refine xr_t hc h0 (br_f (by decide) (xk_t ha (br_f (by decide) (xk_t hb (br_f (by decide) (br_c (fun _ => g) (fun y => br_f ?_ g)))))))
    have h4 := hn.resolve_left y
    rw [Int32.le_iff_toInt_le, nI_toInt (by omega)] at h4
    rw [Int32.le_iff_toInt_le, show (50 : Int32).toInt = 50 from by decide]
    omega
  have ec : (nI c).toNatClampNeg = c := nI_clamp (by omega)
  have ic : vp_in (nI c) 4 := vp_in_nI hc (by omega)
  have ea : (nI a).toNatClampNeg = a := nI_clamp (by omega)
  have ia : vp_in (nI a) 16 := vp_in_nI (by omega) (by omega)
  have eb : (nI b).toNatClampNeg = b := nI_clamp (by omega)
  have ib : vp_in (nI b) 16 := vp_in_nI (by omega) (by omega)
  have xx : ∀ {P : Int64 → SX → Prop}, wpX_isNoPlaceToListen (fun r_32 => (((r_32 = 0 → (wpX_isNoPlaceToListen (fun r_57 => (((r_57 = 0 → (vp_in (nI a) 16 ∧ ((((kd a) = 2 → (wpX_takeFirst P (tm, tn, kd, nu, sz, dl, ix, sx, st, wk, wo, we, wt, te, tk, w, q, qo, qk, qa, qb, rc, rs) (nI c) (nI a))) ∧ (¬ (kd a) = 2 → (vp_in (nI b) 16 ∧ ((((kd b) = 2 → (wpX_takeFirst P (tm, tn, kd, nu, sz, dl, ix, sx, st, wk, wo, we, wt, te, tk, w, q, qo, qk, qa, qb, rc, rs) (nI c) (nI b))) ∧ (¬ (kd b) = 2 → (wpX_startWaiting (fun u => P 10000000006 u) (tm, tn, kd, nu, sz, dl, ix, sx, st, wk, wo, we, wt, te, tk, w, q, qo, qk, qa, qb, rc, rs) (nI c) (nI a) (nI b) (nI l))))))))))) ∧ (¬ r_57 = 0 → (P 10000000001 (tm, tn, kd, nu, sz, dl, ix, sx, st, wk, wo, we, wt, te, tk, w, q, qo, qk, qa, qb, rc, rs)))))) (tm, tn, kd, nu, sz, dl, ix, sx, st, wk, wo, we, wt, te, tk, w, q, qo, qk, qa, qb, rc, rs) (nI b))) ∧ (¬ r_32 = 0 → (P 10000000001 (tm, tn, kd, nu, sz, dl, ix, sx, st, wk, wo, we, wt, te, tk, w, q, qo, qk, qa, qb, rc, rs)))))) (tm, tn, kd, nu, sz, dl, ix, sx, st, wk, wo, we, wt, te, tk, w, q, qo, qk, qa, qb, rc, rs) (nI a) → wpX_listen P (tm, tn, kd, nu, sz, dl, ix, sx, st, wk, wo, we, wt, te, tk, w, q, qo, qk, qa, qb, rc, rs) (nI c) (nI a) (nI b) (nI l) := by
    intro P h
    unfold wpX_listen
    rw [ea, eb]
    exact xr_t hc h0 (br_f (by decide) (xk_t ha (br_f (by decide) (xk_t hb (br_f (by decide) (br_f (nI_pos (by omega)) (br_t (nI_le (b := 50) (by omega) (by omega)) h)))))))
  by_cases a1 : kd a = 1
  · refine xx (xn_t ha (Or.inl a1) (br_f (by decide) ?_))
    unfold wpY_listen
    rw [ea, eb]
    exact yr_t hc h0 (br_f (by decide) (ya_t (n := 8) ha (by omega) (br_f (by decide) (ya_t (n := 8) hb (by omega) (br_f (by decide) (ya_t (n := 51) hl (by omega) (br_f (by decide) ⟨ia, br_t a1 ⟨rfl, I6⟩⟩)))))))
  by_cases a3 : kd a = 3
  · refine xx (xn_t ha (Or.inr a3) (br_f (by decide) ?_))
    unfold wpY_listen
    rw [ea, eb]
    exact yr_t hc h0 (br_f (by decide) (ya_t (n := 8) ha (by omega) (br_f (by decide) (ya_t (n := 8) hb (by omega) (br_f (by decide) (ya_t (n := 51) hl (by omega) (br_f (by decide) ⟨ia, br_f a1 ⟨ia, br_t a3 ⟨rfl, I6⟩⟩⟩)))))))
  by_cases b1 : kd b = 1
  · refine xx (xn_f ha a1 a3 (br_t rfl (xn_t hb (Or.inl b1) (br_f (by decide) ?_))))
    unfold wpY_listen
    rw [ea, eb]
    exact yr_t hc h0 (br_f (by decide) (ya_t (n := 8) ha (by omega) (br_f (by decide) (ya_t (n := 8) hb (by omega) (br_f (by decide) (ya_t (n := 51) hl (by omega) (br_f (by decide) ⟨ia, br_f a1 ⟨ia, br_f a3 ⟨ib, br_t b1 ⟨rfl, I6⟩⟩⟩⟩)))))))
  by_cases b3 : kd b = 3
  · refine xx (xn_f ha a1 a3 (br_t rfl (xn_t hb (Or.inr b3) (br_f (by decide) ?_))))
    unfold wpY_listen
    rw [ea, eb]
    exact yr_t hc h0 (br_f (by decide) (ya_t (n := 8) ha (by omega) (br_f (by decide) (ya_t (n := 8) hb (by omega) (br_f (by decide) (ya_t (n := 51) hl (by omega) (br_f (by decide) ⟨ia, br_f a1 ⟨ia, br_f a3 ⟨ib, br_f b1 ⟨ib, br_t b3 ⟨rfl, I6⟩⟩⟩⟩⟩)))))))
  sorry
end CM
