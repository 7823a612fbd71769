section CM
variable {tm : Int32} {tn : Int64} {kd nu sz dl ix sx iy sy st wk wo we w wd d q qo qk qa qb rc ra : Nat → Int32} {wt te tk tf tg rs : Nat → Int64}
/-! BB: command -/
theorem lk_fit {o key a : Int32} : ∃ r : Int32, (r = 0 ∨ (r = 1 ∧ cm_R o key a)) ∧ (∀ post : Int32 → Prop, post r → wpX_isCommand post o key a) ∧ (∀ post : Int32 → Prop, post r → wpY_fits post (tm, tn, kd, nu, sz, iy, sy, dl, st, wk, wo, we, wt, wd, d, qo, qk, qa, qb, q, rs, rc, te, tk) o key a) := by
  rcases rl_cs o 12 (by omega) with hn | ⟨o', ho, rfl⟩
  · refine ⟨0, Or.inl rfl, fun post h => br_c (fun _ => h) (fun y => br_t ?_ h), fun post h => ?_⟩
    · have h4 := hn.resolve_left y
      rw [Int32.le_iff_toInt_le, nI_toInt (by omega)] at h4
      rw [Int32.lt_iff_toInt_lt, show (11 : Int32).toInt = 11 from by decide]
      omega
    · unfold wpY_fits
      exact ya_f (n := 12) hn (br_t rfl h)
  · rcases rl_cs key 8 (by omega) with hn | ⟨k, hk, rfl⟩
    · refine ⟨0, Or.inl rfl, fun post h => br_f (nI_pos (by omega)) (br_f (nI_nlt (a := 11) (b := o') (by omega) (by omega)) (xk_f hn (br_t rfl h))), fun post h => ?_⟩
      unfold wpY_fits
      exact ya_t (n := 12) ho (by omega) (br_f (by decide) (ya_f (n := 8) hn (br_t rfl h)))
    · have cs : o' = 0 ∨ o' = 1 ∨ o' = 2 ∨ o' = 3 ∨ o' = 4 ∨ o' = 5 ∨ o' = 6 ∨ o' = 7 ∨ o' = 8 ∨ o' = 9 ∨ o' = 10 ∨ o' = 11 := by omega
      rcases cs with rfl | rfl | rfl | rfl | rfl | rfl | rfl | rfl | rfl | rfl | rfl | rfl
      · refine ⟨1, Or.inr ⟨rfl, 0, k, by omega, rfl, hk, rfl, fun y => absurd y (by decide), fun y => absurd y (by decide)⟩, fun post h => br_f (by decide) (br_f (by decide) (xk_t hk (br_f (by decide) (br_t (by decide) (h))))), fun post h => ?_⟩
        unfold wpY_fits
        exact ya_t (j := 0) (n := 12) (by omega) (by omega) (br_f (by decide) (ya_t (n := 8) hk (by omega) (br_f (by decide) (br_t (by decide) (br_f (by decide) (br_f (by decide) (h)))))))
      · refine ⟨1, Or.inr ⟨rfl, 1, k, by omega, rfl, hk, rfl, fun y => absurd y (by decide), fun y => absurd y (by decide)⟩, fun post h => br_f (by decide) (br_f (by decide) (xk_t hk (br_f (by decide) (br_t (by decide) (h))))), fun post h => ?_⟩
        unfold wpY_fits
        exact ya_t (j := 1) (n := 12) (by omega) (by omega) (br_f (by decide) (ya_t (n := 8) hk (by omega) (br_f (by decide) (br_t (by decide) (br_f (by decide) (br_f (by decide) (h)))))))
      · refine ⟨1, Or.inr ⟨rfl, 2, k, by omega, rfl, hk, rfl, fun y => absurd y (by decide), fun y => absurd y (by decide)⟩, fun post h => br_f (by decide) (br_f (by decide) (xk_t hk (br_f (by decide) (br_t (by decide) (h))))), fun post h => ?_⟩
        unfold wpY_fits
        exact ya_t (j := 2) (n := 12) (by omega) (by omega) (br_f (by decide) (ya_t (n := 8) hk (by omega) (br_f (by decide) (br_t (by decide) (br_f (by decide) (br_f (by decide) (h)))))))
      · rcases rl_cs a 101 (by omega) with hn | ⟨a', ha, rfl⟩
        · refine ⟨0, Or.inl rfl, fun post h => br_f (by decide) (br_f (by decide) (xk_t hk (br_f (by decide) (br_f (by decide) (br_f (by decide) (br_t (by decide) (br_c (fun _ => h) (fun y => br_t ?_ h)))))))), fun post h => ?_⟩
          · have h4 := hn.resolve_left y
            rw [Int32.le_iff_toInt_le, nI_toInt (by omega)] at h4
            rw [Int32.lt_iff_toInt_lt, show (100 : Int32).toInt = 100 from by decide]
            omega
          · unfold wpY_fits
            exact ya_t (j := 3) (n := 12) (by omega) (by omega) (br_f (by decide) (ya_t (n := 8) hk (by omega) (br_f (by decide) (br_t (by decide) (br_f (by decide) (br_t (by decide) (ya_f (n := 101) hn (br_t rfl h))))))))
        · refine ⟨1, Or.inr ⟨rfl, 3, k, by omega, rfl, hk, rfl, fun _ => ⟨a', by omega, rfl⟩, fun y => absurd y (by decide)⟩, fun post h => br_f (by decide) (br_f (by decide) (xk_t hk (br_f (by decide) (br_f (by decide) (br_f (by decide) (br_t (by decide) (br_f (nI_pos (by omega)) (br_f (nI_nlt (a := 100) (b := a') (by omega) (by omega)) h)))))))), fun post h => ?_⟩
          unfold wpY_fits
          exact ya_t (j := 3) (n := 12) (by omega) (by omega) (br_f (by decide) (ya_t (n := 8) hk (by omega) (br_f (by decide) (br_t (by decide) (br_f (by decide) (br_t (by decide) (ya_t (n := 101) ha (by omega) (br_f (by decide) h))))))))
      · refine ⟨1, Or.inr ⟨rfl, 4, k, by omega, rfl, hk, rfl, fun y => absurd y (by decide), fun y => absurd y (by decide)⟩, fun post h => br_f (by decide) (br_f (by decide) (xk_t hk (br_f (by decide) (br_f (by decide) (br_f (by decide) (br_f (by decide) (br_t (by decide) (h)))))))), fun post h => ?_⟩
        unfold wpY_fits
        exact ya_t (j := 4) (n := 12) (by omega) (by omega) (br_f (by decide) (ya_t (n := 8) hk (by omega) (br_f (by decide) (br_t (by decide) (br_f (by decide) (br_f (by decide) (h)))))))
      · refine ⟨1, Or.inr ⟨rfl, 5, k, by omega, rfl, hk, rfl, fun y => absurd y (by decide), fun y => absurd y (by decide)⟩, fun post h => br_f (by decide) (br_f (by decide) (xk_t hk (br_f (by decide) (br_f (by decide) (br_f (by decide) (br_f (by decide) (br_f (by decide) (br_t (by decide) (h))))))))), fun post h => ?_⟩
        unfold wpY_fits
        exact ya_t (j := 5) (n := 12) (by omega) (by omega) (br_f (by decide) (ya_t (n := 8) hk (by omega) (br_f (by decide) (br_t (by decide) (br_f (by decide) (br_f (by decide) (h)))))))
      · refine ⟨1, Or.inr ⟨rfl, 6, k, by omega, rfl, hk, rfl, fun y => absurd y (by decide), fun y => absurd y (by decide)⟩, fun post h => br_f (by decide) (br_f (by decide) (xk_t hk (br_f (by decide) (br_f (by decide) (br_f (by decide) (br_f (by decide) (br_f (by decide) (br_f (by decide) (br_t (by decide) (h)))))))))), fun post h => ?_⟩
        unfold wpY_fits
        exact ya_t (j := 6) (n := 12) (by omega) (by omega) (br_f (by decide) (ya_t (n := 8) hk (by omega) (br_f (by decide) (br_t (by decide) (br_f (by decide) (br_f (by decide) (h)))))))
      · rcases rl_cs a 16 (by omega) with hn | ⟨a', ha, rfl⟩
        · refine ⟨0, Or.inl rfl, fun post h => br_f (by decide) (br_f (by decide) (xk_t hk (br_f (by decide) (br_f (by decide) (br_f (by decide) (br_f (by decide) (br_f (by decide) (br_f (by decide) (br_f (by decide) (br_t (by decide) (br_c (fun _ => h) (fun y => br_t (hn.resolve_left y) h)))))))))))), fun post h => ?_⟩
          unfold wpY_fits
          exact ya_t (j := 7) (n := 12) (by omega) (by omega) (br_f (by decide) (ya_t (n := 8) hk (by omega) (br_f (by decide) (br_f (by decide) (br_f (by decide) (ya_f (n := 16) hn ⟨rfl, h⟩))))))
        · refine ⟨1, Or.inr ⟨rfl, 7, k, by omega, rfl, hk, rfl, fun y => absurd y (by decide), fun y => absurd y (by decide)⟩, fun post h => br_f (by decide) (br_f (by decide) (xk_t hk (br_f (by decide) (br_f (by decide) (br_f (by decide) (br_f (by decide) (br_f (by decide) (br_f (by decide) (br_f (by decide) (br_t (by decide) (br_f (nI_pos (by omega)) (br_f (nI_ge (b := 16) ha (by omega)) h)))))))))))), fun post h => ?_⟩
          unfold wpY_fits
          exact ya_t (j := 7) (n := 12) (by omega) (by omega) (br_f (by decide) (ya_t (n := 8) hk (by omega) (br_f (by decide) (br_f (by decide) (br_f (by decide) (ya_t (n := 16) ha (by omega) ⟨rfl, h⟩))))))
      · rcases rl_cs a 16 (by omega) with hn | ⟨a', ha, rfl⟩
        · refine ⟨0, Or.inl rfl, fun post h => br_f (by decide) (br_f (by decide) (xk_t hk (br_f (by decide) (br_f (by decide) (br_f (by decide) (br_f (by decide) (br_f (by decide) (br_f (by decide) (br_f (by decide) (br_f (by decide) (br_t (by decide) (br_c (fun _ => h) (fun y => br_t (hn.resolve_left y) h))))))))))))), fun post h => ?_⟩
          unfold wpY_fits
          exact ya_t (j := 8) (n := 12) (by omega) (by omega) (br_f (by decide) (ya_t (n := 8) hk (by omega) (br_f (by decide) (br_f (by decide) (br_f (by decide) (ya_f (n := 16) hn ⟨rfl, h⟩))))))
        · refine ⟨1, Or.inr ⟨rfl, 8, k, by omega, rfl, hk, rfl, fun y => absurd y (by decide), fun y => absurd y (by decide)⟩, fun post h => br_f (by decide) (br_f (by decide) (xk_t hk (br_f (by decide) (br_f (by decide) (br_f (by decide) (br_f (by decide) (br_f (by decide) (br_f (by decide) (br_f (by decide) (br_f (by decide) (br_t (by decide) (br_f (nI_pos (by omega)) (br_f (nI_ge (b := 16) ha (by omega)) h))))))))))))), fun post h => ?_⟩
          unfold wpY_fits
          exact ya_t (j := 8) (n := 12) (by omega) (by omega) (br_f (by decide) (ya_t (n := 8) hk (by omega) (br_f (by decide) (br_f (by decide) (br_f (by decide) (ya_t (n := 16) ha (by omega) ⟨rfl, h⟩))))))
      · rcases rl_cs a 16 (by omega) with hn | ⟨a', ha, rfl⟩
        · refine ⟨0, Or.inl rfl, fun post h => br_f (by decide) (br_f (by decide) (xk_t hk (br_f (by decide) (br_f (by decide) (br_f (by decide) (br_f (by decide) (br_f (by decide) (br_f (by decide) (br_f (by decide) (br_f (by decide) (br_f (by decide) (br_t (by decide) (br_c (fun _ => h) (fun y => br_t (hn.resolve_left y) h)))))))))))))), fun post h => ?_⟩
          unfold wpY_fits
          exact ya_t (j := 9) (n := 12) (by omega) (by omega) (br_f (by decide) (ya_t (n := 8) hk (by omega) (br_f (by decide) (br_f (by decide) (br_f (by decide) (ya_f (n := 16) hn ⟨rfl, h⟩))))))
        · refine ⟨1, Or.inr ⟨rfl, 9, k, by omega, rfl, hk, rfl, fun y => absurd y (by decide), fun y => absurd y (by decide)⟩, fun post h => br_f (by decide) (br_f (by decide) (xk_t hk (br_f (by decide) (br_f (by decide) (br_f (by decide) (br_f (by decide) (br_f (by decide) (br_f (by decide) (br_f (by decide) (br_f (by decide) (br_f (by decide) (br_t (by decide) (br_f (nI_pos (by omega)) (br_f (nI_ge (b := 16) ha (by omega)) h)))))))))))))), fun post h => ?_⟩
          unfold wpY_fits
          exact ya_t (j := 9) (n := 12) (by omega) (by omega) (br_f (by decide) (ya_t (n := 8) hk (by omega) (br_f (by decide) (br_f (by decide) (br_f (by decide) (ya_t (n := 16) ha (by omega) ⟨rfl, h⟩))))))
      · refine ⟨1, Or.inr ⟨rfl, 10, k, by omega, rfl, hk, rfl, fun y => absurd y (by decide), fun y => absurd y (by decide)⟩, fun post h => br_f (by decide) (br_f (by decide) (xk_t hk (br_f (by decide) (br_f (by decide) (br_f (by decide) (br_f (by decide) (br_f (by decide) (br_f (by decide) (br_f (by decide) (br_f (by decide) (br_f (by decide) (br_f (by decide) (br_t (by decide) (h)))))))))))))), fun post h => ?_⟩
        unfold wpY_fits
        exact ya_t (j := 10) (n := 12) (by omega) (by omega) (br_f (by decide) (ya_t (n := 8) hk (by omega) (br_f (by decide) (br_f (by decide) (br_t (by decide) (br_f (by decide) (br_f (by decide) (h))))))))
      · rcases rl_cs a 8 (by omega) with hn | ⟨t, ht, rfl⟩
        · refine ⟨0, Or.inl rfl, fun post h => br_f (by decide) (br_f (by decide) (xk_t hk (br_f (by decide) (br_f (by decide) (br_f (by decide) (br_f (by decide) (br_f (by decide) (br_f (by decide) (br_f (by decide) (br_f (by decide) (br_f (by decide) (br_f (by decide) (br_f (by decide) (br_t (by decide) (xk_f hn (br_t rfl h)))))))))))))))), fun post h => ?_⟩
          unfold wpY_fits
          exact ya_t (j := 11) (n := 12) (by omega) (by omega) (br_f (by decide) (ya_t (n := 8) hk (by omega) (br_f (by decide) (br_f (by decide) (br_t (by decide) (br_t (by decide) (ya_f (n := 8) hn (br_t rfl h))))))))
        · by_cases z : t = k
          · refine ⟨0, Or.inl rfl, fun post h => br_f (by decide) (br_f (by decide) (xk_t hk (br_f (by decide) (br_f (by decide) (br_f (by decide) (br_f (by decide) (br_f (by decide) (br_f (by decide) (br_f (by decide) (br_f (by decide) (br_f (by decide) (br_f (by decide) (br_f (by decide) (br_t (by decide) (xk_t ht (br_f (by decide) (br_t (by rw [z]) h))))))))))))))))), fun post h => ?_⟩
            unfold wpY_fits
            exact ya_t (j := 11) (n := 12) (by omega) (by omega) (br_f (by decide) (ya_t (n := 8) hk (by omega) (br_f (by decide) (br_f (by decide) (br_t (by decide) (br_t (by decide) (ya_t (n := 8) ht (by omega) (br_f (by decide) (br_t (by rw [z]) h)))))))))
          · refine ⟨1, Or.inr ⟨rfl, 11, k, by omega, rfl, hk, rfl, fun y => absurd y (by decide), fun _ => ⟨t, ht, z, rfl⟩⟩, fun post h => br_f (by decide) (br_f (by decide) (xk_t hk (br_f (by decide) (br_f (by decide) (br_f (by decide) (br_f (by decide) (br_f (by decide) (br_f (by decide) (br_f (by decide) (br_f (by decide) (br_f (by decide) (br_f (by decide) (br_f (by decide) (br_t (by decide) (xk_t ht (br_f (by decide) (br_f (nu_ne z (by omega) (by omega)) h))))))))))))))))), fun post h => ?_⟩
            unfold wpY_fits
            exact ya_t (j := 11) (n := 12) (by omega) (by omega) (br_f (by decide) (ya_t (n := 8) hk (by omega) (br_f (by decide) (br_f (by decide) (br_t (by decide) (br_t (by decide) (ya_t (n := 8) ht (by omega) (br_f (by decide) (br_f (nu_ne z (by omega) (by omega)) h)))))))))
theorem i_vc_command {k : Nat} {u : SX} {v : SY} (I : i_Rel k u v) (hk : k + 6 ≤ 3072) (v1 : Int32) (v2 : Int32) (v3 : Int32) (v4 : Int32) (v5 : Int32) : wpX_command (fun r u' => wpY_command (fun r' v' => r' = r ∧ i_Rel (k + 6) u' v') v v1 v2 v3 v4 v5) u v1 v2 v3 v4 v5 := by
  have I6 := i_up I
  obtain ⟨tm, tn, kd, nu, sz, dl, ix, sx, iy, sy, st, wk, wo, we, w, wd, d, q, qo, qk, qa, qb, rc, wt, te, tk, rs, rfl, rfl, hT, hS, hW, hC⟩ := I
  rcases rl_cs v1 4 (by omega) with hn | ⟨c, hc, rfl⟩
  · unfold wpX_command
    refine xc_f hn (br_t rfl ?_)
    unfold wpY_command
    exact ya_f (n := 4) hn (br_t rfl ⟨rfl, I6⟩)
  · have e : (nI c).toNatClampNeg = c := nI_clamp (by omega)
    have i : vp_in (nI c) 4 := vp_in_nI hc (by omega)
    obtain ⟨hs, _, _, n, hn8, eq, hq0, _⟩ := hC c hc
    unfold wpX_command
    rw [e]
    refine xc_t hc (br_f (by decide) ⟨i, ?_⟩)
    by_cases s1 : st c = 1
    · refine br_t s1 ?_
      unfold wpY_command
      rw [e]
      exact ya_t (n := 4) hc (by omega) (br_f (by decide) ⟨i, br_t s1 ⟨rfl, I6⟩⟩)
    · refine br_f s1 ?_
      obtain ⟨r, hr, fx, fy⟩ := lk_fit (o := v2) (key := v3) (a := v4) (tm := tm) (tn := tn) (wk := wk) (wo := wo) (we := we) (wt := wt) (q := q) (qo := qo) (qk := qk) (qa := qa) (qb := qb) (rc := rc) (rs := rs) (kd := kd) (nu := nu) (sz := sz) (iy := iy) (sy := sy) (dl := dl) (st := st) (wd := wd) (d := d) (te := te) (tk := tk)
      refine fx _ ?_
      rcases hr with rfl | ⟨rfl, hm⟩
      · refine br_t rfl ?_
        unfold wpY_command
        rw [e]
        exact ya_t (n := 4) hc (by omega) (br_f (by decide) ⟨i, br_f s1 (fy _ (br_t rfl ⟨rfl, I6⟩))⟩)
      · refine br_f (by decide) ⟨i, ?_⟩
        by_cases s2 : st c = 2
        · have s0 : ¬ st c = 0 := by rw [s2]; decide
          refine br_t s2 ?_
          unfold wpX_enqueue
          rw [e]
          show _ ∧ _
          rw [eq]
          by_cases n8 : n < 8
          · have e3 : (nI (8 * c + n)).toNatClampNeg = 8 * c + n := nI_clamp (by omega)
            have x3 : vp_in (nI (8 * c + n)) 32 := vp_in_nI (by omega) (by omega)
            have R : i_Rel (k + 6) (tm, tn, kd, nu, sz, dl, ix, sx, st, wk, wo, we, wt, te, tk, w, upd q c (nI (n + 1)), upd qo (8 * c + n) v2, upd qk (8 * c + n) v3, upd qa (8 * c + n) v4, upd qb (8 * c + n) v5, rc, rs) (tm, tn, kd, nu, sz, iy, sy, dl, st, wk, wo, we, wt, wd, d, upd qo (8 * c + n) v2, upd qk (8 * c + n) v3, upd qa (8 * c + n) v4, upd qb (8 * c + n) v5, upd q c (nI (n + 1)), rs, rc, te, tk) := rl_i ⟨hT, hS, hW, cl_enq hC eq n8 s2 hm⟩
            rw [nu_x8, nI_1]
            refine ⟨i, br_t (nI_lt (b := 8) n8 (by omega)) ⟨i, nm_e ?_⟩⟩
            rw [e3]
            refine ⟨x3, nm_e ⟨x3, nm_e ⟨x3, nm_e ⟨x3, nm_e ⟨i, i, nm_e ?_⟩⟩⟩⟩⟩
            unfold wpY_command
            rw [e]
            refine ya_t (n := 4) hc (by omega) (br_f (by decide) ⟨i, br_f s1 (fy _ (br_f (by decide) ⟨i, br_f s0 ⟨i, ?_⟩⟩))⟩)
            rw [eq, nu_y8, nI_1]
            refine br_f (nu_ne (b := 8) (by omega) (by omega) (by omega)) ⟨i, i, nm_e (nm_e ?_)⟩
            rw [e3]
            exact ⟨x3, nm_e ⟨x3, nm_e ⟨x3, nm_e ⟨x3, nm_e ⟨rfl, R⟩⟩⟩⟩⟩
          · obtain rfl : n = 8 := by omega
            refine ⟨i, br_f (nI_nlt (a := 8) (b := 8) (by omega) (by omega)) ?_⟩
            unfold wpY_command
            rw [e]
            refine ya_t (n := 4) hc (by omega) (br_f (by decide) ⟨i, br_f s1 (fy _ (br_f (by decide) ⟨i, br_f s0 ⟨i, ?_⟩⟩))⟩)
            rw [eq]
            exact br_t rfl ⟨rfl, I6⟩
        · have s0 : st c = 0 := by
            rcases hs with y | y | y
            · exact y
            · exact absurd y s1
            · exact absurd y s2
          obtain ⟨t, ht, et⟩ := hT
          obtain ⟨r, kd1, nu1, sz1, dl1, ix1, sx1, iy1, sy1, w1, d1, a1, a2, ax, ay⟩ := pf_all (b := v5) (tm := tm) (tn := tn) (wk := wk) (wo := wo) (we := we) (wt := wt) (q := q) (qo := qo) (qk := qk) (qa := qa) (qb := qb) (rc := rc) (rs := rs) (ra := rc) (nu := nu) (st := st) (te := te) (tk := tk) hS hW hm et ht
          obtain ⟨st', kd', nu', sz', dl', ix', sx', iy', sy', w', d', te', tk', b1, b2, b3, bx, N, bn⟩ := lk_serve (tm := tm) (tn := tn) (wk := wk) (wo := wo) (we := we) (wt := wt) (q := q) (qo := qo) (qk := qk) (qa := qa) (qb := qb) (rc := rc) (rs := rs) (nu := nu1) (te := te) (tk := tk) hC a1 a2 4 0 rfl (sv_n_le st)
          have R : i_Rel (k + 6) (tm, tn, kd', nu', sz', dl', ix', sx', st', wk, wo, we, wt, te', tk', w', q, qo, qk, qa, qb, rc, rs) (tm, tn, kd', nu', sz', iy', sy', dl', st', wk, wo, we, wt, wd, d', qo, qk, qa, qb, q, rs, rc, te', tk') := rl_i ⟨⟨t, ht, et⟩, b1, b2, b3⟩
          refine br_f s2 (ax _ ⟨5, bx _ ?_⟩)
          unfold wpY_command
          rw [e]
          exact ya_t (n := 4) hc (by omega) (br_f (by decide) ⟨i, br_f s1 (fy _ (br_f (by decide) ⟨i, br_t s0 (ay _ ⟨N, bn _ ⟨rfl, R⟩⟩)⟩))⟩)
/-! CC: listen -/
theorem wx_start {post : SX → Prop} {c : Nat} {p1 p2 l x : Int32} (hc : c < 4) (hx : (l = 0 ∧ x = 0) ∨ (l ≠ 0 ∧ x = tm + l)) (h : post (tm, tn + 1, kd, nu, sz, dl, ix, sx, upd st c 1, upd wk c p1, upd wo c p2, upd we c x, vp_updL wt c tn, vp_updL te c 10000000006, vp_updL tk c 10000000006, w, q, qo, qk, qa, qb, rc, rs)) : wpX_startWaiting post (tm, tn, kd, nu, sz, dl, ix, sx, st, wk, wo, we, wt, te, tk, w, q, qo, qk, qa, qb, rc, rs) (nI c) p1 p2 l := by
  have e : (nI c).toNatClampNeg = c := nI_clamp (by omega)
  have i : vp_in (nI c) 4 := vp_in_nI hc (by omega)
  unfold wpX_startWaiting
  rw [e]
  refine wx_forget hc ⟨i, nm_e ⟨i, nm_e ⟨i, nm_e ?_⟩⟩⟩
  rcases hx with ⟨z, rfl⟩ | ⟨z, rfl⟩
  · exact br_t z ⟨i, nm_r (e' := upd we c 0) (by rw [e]) ⟨i, nm_r (e' := vp_updL wt c tn) (by rw [e]) (nm_e h)⟩⟩
  · exact br_f z ⟨i, nm_r (e' := upd we c (tm + l)) (by rw [e]) ⟨i, nm_r (e' := vp_updL wt c tn) (by rw [e]) (nm_e h)⟩⟩
theorem xn_t {post : Int32 → Prop} {k : Nat} (hk : k < 8) (hx : kd k = 1 ∨ kd k = 3) (h : post 1) : wpX_isNoPlaceToListen post (tm, tn, kd, nu, sz, dl, ix, sx, st, wk, wo, we, wt, te, tk, w, q, qo, qk, qa, qb, rc, rs) (nI k) := by
  have e : (nI k).toNatClampNeg = k := nI_clamp (by omega)
  have i : vp_in (nI k) 16 := vp_in_nI (by omega) (by omega)
  unfold wpX_isNoPlaceToListen
  rw [e]
  refine ⟨i, ?_⟩
  by_cases z : kd k = 1
  · exact br_t z h
  · exact br_f z ⟨i, br_t (hx.resolve_left z) h⟩
theorem xn_f {post : Int32 → Prop} {k : Nat} (hk : k < 8) (h1 : kd k ≠ 1) (h3 : kd k ≠ 3) (h : post 0) : wpX_isNoPlaceToListen post (tm, tn, kd, nu, sz, dl, ix, sx, st, wk, wo, we, wt, te, tk, w, q, qo, qk, qa, qb, rc, rs) (nI k) := by
  have e : (nI k).toNatClampNeg = k := nI_clamp (by omega)
  have i : vp_in (nI k) 16 := vp_in_nI (by omega) (by omega)
  unfold wpX_isNoPlaceToListen
  rw [e]
  exact ⟨i, br_f h1 ⟨i, br_f h3 h⟩⟩
theorem i_vc_listen {k : Nat} {u : SX} {v : SY} (I : i_Rel k u v) (hk : k + 6 ≤ 3072) (v1 : Int32) (v2 : Int32) (v3 : Int32) (v4 : Int32) : wpX_listen (fun r u' => wpY_listen (fun r' v' => r' = r ∧ i_Rel (k + 6) u' v') v v1 v2 v3 v4) u v1 v2 v3 v4 := by
  have I6 := i_up I
  obtain ⟨tm, tn, kd, nu, sz, dl, ix, sx, iy, sy, st, wk, wo, we, w, wd, d, q, qo, qk, qa, qb, rc, wt, te, tk, rs, rfl, rfl, hT, hS, hW, hC⟩ := I
  rcases rl_rd st v1 with hn | ⟨c, hc, rfl, h0⟩
  · unfold wpX_listen
    refine xr_f hn (br_t rfl ?_)
    unfold wpY_listen
    exact yr_f hn (br_t rfl ⟨rfl, I6⟩)
  rcases rl_cs v2 8 (by omega) with hn | ⟨a, ha, rfl⟩
  · unfold wpX_listen
    refine xr_t hc h0 (br_f (by decide) (xk_f hn (br_t rfl ?_)))
    unfold wpY_listen
    exact yr_t hc h0 (br_f (by decide) (ya_f (n := 8) hn (br_t rfl ⟨rfl, I6⟩)))
  rcases rl_cs v3 8 (by omega) with hn | ⟨b, hb, rfl⟩
  · unfold wpX_listen
    refine xr_t hc h0 (br_f (by decide) (xk_t ha (br_f (by decide) (xk_f hn (br_t rfl ?_)))))
    unfold wpY_listen
    exact yr_t hc h0 (br_f (by decide) (ya_t (n := 8) ha (by omega) (br_f (by decide) (ya_f (n := 8) hn (br_t rfl ⟨rfl, I6⟩)))))
  rcases rl_cs v4 51 (by omega) with hn | ⟨l, hl, rfl⟩
  · have g : wpY_listen (fun r' v' => r' = 10000000004 ∧ i_Rel (k + 6) (tm, tn, kd, nu, sz, dl, ix, sx, st, wk, wo, we, wt, te, tk, w, q, qo, qk, qa, qb, rc, rs) v') (tm, tn, kd, nu, sz, iy, sy, dl, st, wk, wo, we, wt, wd, d, qo, qk, qa, qb, q, rs, rc, te, tk) (nI c) (nI a) (nI b) v4 := by
      unfold wpY_listen
      exact yr_t hc h0 (br_f (by decide) (ya_t (n := 8) ha (by omega) (br_f (by decide) (ya_t (n := 8) hb (by omega) (br_f (by decide) (ya_f (n := 51) hn (br_t rfl ⟨rfl, I6⟩)))))))
    unfold wpX_listen
    refine xr_t hc h0 (br_f (by decide) (xk_t ha (br_f (by decide) (xk_t hb (br_f (by decide) (br_c (fun _ => g) (fun y => br_f ?_ g)))))))
    have h4 := hn.resolve_left y
    rw [Int32.le_iff_toInt_le, nI_toInt (by omega)] at h4
    rw [Int32.le_iff_toInt_le, show (50 : Int32).toInt = 50 from by decide]
    omega
  have ec : (nI c).toNatClampNeg = c := nI_clamp (by omega)
  have ic : vp_in (nI c) 4 := vp_in_nI hc (by omega)
  have ea : (nI a).toNatClampNeg = a := nI_clamp (by omega)
  have ia : vp_in (nI a) 16 := vp_in_nI (by omega) (by omega)
  have eb : (nI b).toNatClampNeg = b := nI_clamp (by omega)
  have ib : vp_in (nI b) 16 := vp_in_nI (by omega) (by omega)
  have xx : ∀ {P : Int64 → SX → Prop}, wpX_isNoPlaceToListen (fun r_32 => (((r_32 = 0 → (wpX_isNoPlaceToListen (fun r_57 => (((r_57 = 0 → (vp_in (nI a) 16 ∧ ((((kd a) = 2 → (wpX_takeFirst P (tm, tn, kd, nu, sz, dl, ix, sx, st, wk, wo, we, wt, te, tk, w, q, qo, qk, qa, qb, rc, rs) (nI c) (nI a))) ∧ (¬ (kd a) = 2 → (vp_in (nI b) 16 ∧ ((((kd b) = 2 → (wpX_takeFirst P (tm, tn, kd, nu, sz, dl, ix, sx, st, wk, wo, we, wt, te, tk, w, q, qo, qk, qa, qb, rc, rs) (nI c) (nI b))) ∧ (¬ (kd b) = 2 → (wpX_startWaiting (fun u => P 10000000006 u) (tm, tn, kd, nu, sz, dl, ix, sx, st, wk, wo, we, wt, te, tk, w, q, qo, qk, qa, qb, rc, rs) (nI c) (nI a) (nI b) (nI l))))))))))) ∧ (¬ r_57 = 0 → (P 10000000001 (tm, tn, kd, nu, sz, dl, ix, sx, st, wk, wo, we, wt, te, tk, w, q, qo, qk, qa, qb, rc, rs)))))) (tm, tn, kd, nu, sz, dl, ix, sx, st, wk, wo, we, wt, te, tk, w, q, qo, qk, qa, qb, rc, rs) (nI b))) ∧ (¬ r_32 = 0 → (P 10000000001 (tm, tn, kd, nu, sz, dl, ix, sx, st, wk, wo, we, wt, te, tk, w, q, qo, qk, qa, qb, rc, rs)))))) (tm, tn, kd, nu, sz, dl, ix, sx, st, wk, wo, we, wt, te, tk, w, q, qo, qk, qa, qb, rc, rs) (nI a) → wpX_listen P (tm, tn, kd, nu, sz, dl, ix, sx, st, wk, wo, we, wt, te, tk, w, q, qo, qk, qa, qb, rc, rs) (nI c) (nI a) (nI b) (nI l) := by
    intro P h
    unfold wpX_listen
    rw [ea, eb]
    exact xr_t hc h0 (br_f (by decide) (xk_t ha (br_f (by decide) (xk_t hb (br_f (by decide) (br_f (nI_pos (by omega)) (br_t (nI_le (b := 50) (by omega) (by omega)) h)))))))
  by_cases a1 : kd a = 1
  · refine xx (xn_t ha (Or.inl a1) (br_f (by decide) ?_))
    unfold wpY_listen
    rw [ea, eb]
    exact yr_t hc h0 (br_f (by decide) (ya_t (n := 8) ha (by omega) (br_f (by decide) (ya_t (n := 8) hb (by omega) (br_f (by decide) (ya_t (n := 51) hl (by omega) (br_f (by decide) ⟨ia, br_t a1 ⟨rfl, I6⟩⟩)))))))
  by_cases a3 : kd a = 3
  · refine xx (xn_t ha (Or.inr a3) (br_f (by decide) ?_))
    unfold wpY_listen
    rw [ea, eb]
    exact yr_t hc h0 (br_f (by decide) (ya_t (n := 8) ha (by omega) (br_f (by decide) (ya_t (n := 8) hb (by omega) (br_f (by decide) (ya_t (n := 51) hl (by omega) (br_f (by decide) ⟨ia, br_f a1 ⟨ia, br_t a3 ⟨rfl, I6⟩⟩⟩)))))))
  by_cases b1 : kd b = 1
  · refine xx (xn_f ha a1 a3 (br_t rfl (xn_t hb (Or.inl b1) (br_f (by decide) ?_))))
    unfold wpY_listen
    rw [ea, eb]
    exact yr_t hc h0 (br_f (by decide) (ya_t (n := 8) ha (by omega) (br_f (by decide) (ya_t (n := 8) hb (by omega) (br_f (by decide) (ya_t (n := 51) hl (by omega) (br_f (by decide) ⟨ia, br_f a1 ⟨ia, br_f a3 ⟨ib, br_t b1 ⟨rfl, I6⟩⟩⟩⟩)))))))
  by_cases b3 : kd b = 3
  · refine xx (xn_f ha a1 a3 (br_t rfl (xn_t hb (Or.inr b3) (br_f (by decide) ?_))))
    unfold wpY_listen
    rw [ea, eb]
    exact yr_t hc h0 (br_f (by decide) (ya_t (n := 8) ha (by omega) (br_f (by decide) (ya_t (n := 8) hb (by omega) (br_f (by decide) (ya_t (n := 51) hl (by omega) (br_f (by decide) ⟨ia, br_f a1 ⟨ia, br_f a3 ⟨ib, br_f b1 ⟨ib, br_t b3 ⟨rfl, I6⟩⟩⟩⟩⟩)))))))
  by_cases a2 : kd a = 2
  · obtain ⟨r, kd', nu', sz', dl', ix', sx', iy', sy', w', d', s1, s2, tx, ty⟩ := lk_take (c := c) (tm := tm) (tn := tn) (wk := wk) (wo := wo) (we := we) (wt := wt) (q := q) (qo := qo) (qk := qk) (qa := qa) (qb := qb) (rc := rc) (rs := rs) (ra := rc) (nu := nu) (st := st) (te := te) (tk := tk) (tf := vp_updL te c 10000000006) (tg := vp_updL tk c 10000000006) hS hW ha hc a2
    have R : i_Rel (k + 6) (tm, tn, kd', nu', sz', dl', ix', sx', upd st c 0, wk, wo, we, wt, vp_updL te c r.toInt64, vp_updL tk c (nI a).toInt64, w', q, qo, qk, qa, qb, rc, rs) (tm, tn, kd', nu', sz', iy', sy', dl', upd st c 0, wk, wo, we, wt, wd, d', qo, qk, qa, qb, q, rs, rc, vp_updL te c r.toInt64, vp_updL tk c (nI a).toInt64) := rl_i ⟨hT, s1, s2, cl_free hC (fun _ => by rw [h0]; decide)⟩
    refine xx (xn_f ha a1 a3 (br_t rfl (xn_f hb b1 b3 (br_t rfl ⟨ia, br_t a2 (tx _ ?_)⟩))))
    unfold wpY_listen
    rw [ea, eb]
    refine yr_t hc h0 (br_f (by decide) (ya_t (n := 8) ha (by omega) (br_f (by decide) (ya_t (n := 8) hb (by omega) (br_f (by decide) (ya_t (n := 51) hl (by omega) (br_f (by decide) ⟨ia, br_f a1 ⟨ia, br_f a3 ⟨ib, br_f b1 ⟨ib, br_f b3 (wy_forget hc ⟨ia, br_t a2 ?_⟩)⟩⟩⟩⟩)))))))
    unfold wY_listen_107
    rw [ea, ec]
    refine ⟨ia, br_t a2 (ty _ ⟨ic, ?_⟩)⟩
    rw [ws_uuL, ws_uuL, pk_uLs]
    exact ⟨rfl, R⟩
  by_cases b2 : kd b = 2
  · obtain ⟨r, kd', nu', sz', dl', ix', sx', iy', sy', w', d', s1, s2, tx, ty⟩ := lk_take (c := c) (tm := tm) (tn := tn) (wk := wk) (wo := wo) (we := we) (wt := wt) (q := q) (qo := qo) (qk := qk) (qa := qa) (qb := qb) (rc := rc) (rs := rs) (ra := rc) (nu := nu) (st := st) (te := te) (tk := tk) (tf := vp_updL te c 10000000006) (tg := vp_updL tk c 10000000006) hS hW hb hc b2
    have R : i_Rel (k + 6) (tm, tn, kd', nu', sz', dl', ix', sx', upd st c 0, wk, wo, we, wt, vp_updL te c r.toInt64, vp_updL tk c (nI b).toInt64, w', q, qo, qk, qa, qb, rc, rs) (tm, tn, kd', nu', sz', iy', sy', dl', upd st c 0, wk, wo, we, wt, wd, d', qo, qk, qa, qb, q, rs, rc, vp_updL te c r.toInt64, vp_updL tk c (nI b).toInt64) := rl_i ⟨hT, s1, s2, cl_free hC (fun _ => by rw [h0]; decide)⟩
    refine xx (xn_f ha a1 a3 (br_t rfl (xn_f hb b1 b3 (br_t rfl ⟨ia, br_f a2 ⟨ib, br_t b2 (tx _ ?_)⟩⟩))))
    unfold wpY_listen
    rw [ea, eb]
    refine yr_t hc h0 (br_f (by decide) (ya_t (n := 8) ha (by omega) (br_f (by decide) (ya_t (n := 8) hb (by omega) (br_f (by decide) (ya_t (n := 51) hl (by omega) (br_f (by decide) ⟨ia, br_f a1 ⟨ia, br_f a3 ⟨ib, br_f b1 ⟨ib, br_f b3 (wy_forget hc ⟨ia, br_f a2 ?_⟩)⟩⟩⟩⟩)))))))
    unfold wY_listen_107
    rw [eb, ec]
    refine ⟨ib, br_t b2 (ty _ ⟨ic, ?_⟩)⟩
    rw [ws_uuL, ws_uuL, pk_uLs]
    exact ⟨rfl, R⟩
  obtain ⟨t, ht, et⟩ := hT
  obtain ⟨x, hx0, hx⟩ : ∃ x : Int32, 0 ≤ x ∧ ((nI l = 0 ∧ x = 0) ∨ (nI l ≠ 0 ∧ x = tm + nI l)) := by
    by_cases z : l = 0
    · exact ⟨0, by decide, Or.inl ⟨by rw [z]; rfl, rfl⟩⟩
    · exact ⟨nI (t + l), nI_pos' (by omega), Or.inr ⟨nI_ne0 (by omega) (by omega), by rw [et, nI_add]⟩⟩
  have R : i_Rel (k + 6) (tm, tn + 1, kd, nu, sz, dl, ix, sx, upd st c 1, upd wk c (nI a), upd wo c (nI b), upd we c x, vp_updL wt c tn, vp_updL te c 10000000006, vp_updL tk c 10000000006, w, q, qo, qk, qa, qb, rc, rs) (tm, tn + 1, kd, nu, sz, iy, sy, dl, upd st c 1, upd wk c (nI a), upd wo c (nI b), upd we c x, vp_updL wt c tn, wd, d, qo, qk, qa, qb, q, rs, rc, vp_updL te c 10000000006, vp_updL tk c 10000000006) := rl_i ⟨⟨t, ht, et⟩, hS, hW, cl_wait hC hx0 (by rw [h0]; decide)⟩
  refine xx (xn_f ha a1 a3 (br_t rfl (xn_f hb b1 b3 (br_t rfl ⟨ia, br_f a2 ⟨ib, br_f b2 (wx_start hc hx ?_)⟩⟩))))
  unfold wpY_listen
  rw [ea, eb]
  refine yr_t hc h0 (br_f (by decide) (ya_t (n := 8) ha (by omega) (br_f (by decide) (ya_t (n := 8) hb (by omega) (br_f (by decide) (ya_t (n := 51) hl (by omega) (br_f (by decide) ⟨ia, br_f a1 ⟨ia, br_f a3 ⟨ib, br_f b1 ⟨ib, br_f b3 (wy_forget hc ⟨ia, br_f a2 ?_⟩)⟩⟩⟩⟩)))))))
  unfold wY_listen_107
  rw [eb, ec]
  refine ⟨ib, br_f b2 ⟨ic, nm_e ⟨ic, nm_e ⟨ic, nm_e ?_⟩⟩⟩⟩
  rcases hx with ⟨z, rfl⟩ | ⟨z, rfl⟩
  · refine br_t z ⟨ic, ?_⟩
    rw [ec]
    exact nm_e (nm_e ⟨ic, nm_e ⟨rfl, R⟩⟩)
  · refine br_f z ⟨ic, ?_⟩
    rw [ec]
    exact nm_e (nm_e ⟨ic, nm_e ⟨rfl, R⟩⟩)
/-! DD: commit -/
theorem wx_dec_l {post : Int32 → Prop} {c : Nat} {r : Int32} (hc : c < 4) (h1 : (∃ j, j < 8 ∧ w (8 * c + j) = 2) → r = 1) (h0 : (¬ ∃ j, j < 8 ∧ w (8 * c + j) = 2) → r = 0) (h : post r) : ∀ m i, i + m = 8 → (∀ a, a < i → w (8 * c + a) ≠ 2) → wX_isDeceived_2 post (nI c) tm tn kd nu sz dl ix sx st wk wo we wt te tk w q qo qk qa qb rc rs (m + 1) (nI i) := by
  intro m
  induction m with
  | zero =>
    intro i hi hlo
    obtain rfl : i = 8 := by omega
    rw [h0 (fun ⟨j, hj, y⟩ => hlo j hj y)] at h
    exact br_t (nI_le (a := 8) (b := 8) (by omega) (by omega)) h
  | succ m ih =>
    intro i hi hlo
    have c1 : ¬ (8 : Int32) ≤ nI i := nI_ge (b := 8) (by omega) (by decide)
    have e2 : (nI (8 * c + i)).toNatClampNeg = 8 * c + i := nI_clamp (by omega)
    have v : vp_in (nI (8 * c + i)) 32 := vp_in_nI (by omega) (by omega)
    refine br_f c1 ?_
    rw [nu_x8, e2]
    refine ⟨v, ?_⟩
    by_cases z : w (8 * c + i) = 2
    · rw [h1 ⟨i, by omega, z⟩] at h
      exact br_t z h
    · refine br_f z (nm_r (nI_1 i) (ih (i + 1) (by omega) (fun a ha => ?_)))
      by_cases y : a = i
      · rw [y]; exact z
      · exact hlo a (by omega)
theorem wx_dec {post : Int32 → Prop} {c : Nat} (hc : c < 4) (hW : wa_R w wd d) (h : post (d c)) : wpX_isDeceived post (tm, tn, kd, nu, sz, dl, ix, sx, st, wk, wo, we, wt, te, tk, w, q, qo, qk, qa, qb, rc, rs) (nI c) := by
  obtain ⟨_, _, h3, h4⟩ := hW c hc
  refine ⟨9, wx_dec_l hc (fun y => h4.mpr y) (fun y => ?_) h 8 0 rfl (fun a ha => absurd ha (by omega))⟩
  rcases h3 with z | z
  · exact z
  · exact absurd (h4.mp z) y
theorem lk_com {c n t : Nat} (hc : c < 4) (hn : n ≤ 8) (hm : ∀ i, i < n → cm_R (qo (8 * c + i)) (qk (8 * c + i)) (qa (8 * c + i))) (et : tm = nI t) (ht : t ≤ 1000000000) : ∀ m i, i + m = n → ∀ (kd nu sz dl ix sx iy sy w d : Nat → Int32) (rs : Nat → Int64), st_R kd sz dl ix sx iy sy → wa_R w wd d →
    ∃ (kd' nu' sz' dl' ix' sx' iy' sy' w' d' : Nat → Int32) (rs' : Nat → Int64), st_R kd' sz' dl' ix' sx' iy' sy' ∧ wa_R w' wd d' ∧
    (∀ post : Int32 → SX → Prop, wX_commit_47 post (nI c) (nI n) 1 (nI n) tm tn kd' nu' sz' dl' ix' sx' st wk wo we wt te tk w' q qo qk qa qb rc rs' → wX_commit_47 post (nI c) (nI n) (m + 1) (nI i) tm tn kd nu sz dl ix sx st wk wo we wt te tk w q qo qk qa qb rc rs) ∧
    (∀ post : Int32 → SY → Prop, wY_commit_60 post (nI c) (nI n) 1 (nI (8 * c + n)) tm tn kd' nu' sz' iy' sy' dl' st wk wo we wt wd d' qo qk qa qb q rs' ra te tk → wY_commit_60 post (nI c) (nI n) (m + 1) (nI (8 * c + i)) tm tn kd nu sz iy sy dl st wk wo we wt wd d qo qk qa qb q rs ra te tk) := by
  intro m
  induction m with
  | zero =>
    intro i hi kd nu sz dl ix sx iy sy w d rs hS hW
    obtain rfl : i = n := by omega
    exact ⟨kd, nu, sz, dl, ix, sx, iy, sy, w, d, rs, hS, hW, fun post h => h, fun post h => h⟩
  | succ m ih =>
    intro i hi kd nu sz dl ix sx iy sy w d rs hS hW
    have e2 : (nI (8 * c + i)).toNatClampNeg = 8 * c + i := nI_clamp (by omega)
    have v : vp_in (nI (8 * c + i)) 32 := vp_in_nI (by omega) (by omega)
    obtain ⟨r, kd1, nu1, sz1, dl1, ix1, sx1, iy1, sy1, w1, d1, a1, a2, ax, ay⟩ := pf_all (b := qb (8 * c + i)) (tm := tm) (tn := tn) (wk := wk) (wo := wo) (we := we) (wt := wt) (q := q) (qo := qo) (qk := qk) (qa := qa) (qb := qb) (rc := rc) (rs := rs) (ra := ra) (nu := nu) (st := st) (te := te) (tk := tk) hS hW (hm i (by omega)) et ht
    obtain ⟨kd', nu', sz', dl', ix', sx', iy', sy', w', d', rs', b1, b2, bx, bn⟩ := ih (i + 1) (by omega) kd1 nu1 sz1 dl1 ix1 sx1 iy1 sy1 w1 d1 (vp_updL rs (8 * c + i) r) a1 a2
    refine ⟨kd', nu', sz', dl', ix', sx', iy', sy', w', d', rs', b1, b2, fun post h => ?_, fun post h => ?_⟩
    · refine br_f (nI_ge (by omega) (by omega)) (nm_r (nu_x8 c i) ?_)
      rw [e2]
      exact ⟨v, v, v, v, ax _ ⟨v, nm_e (nm_r (nI_1 i) (bx post h))⟩⟩
    · have c1 : ¬ 8 * nI c + nI n ≤ nI (8 * c + i) := by
        rw [nu_y8]
        exact nI_ge (by omega) (by omega)
      refine br_f c1 ?_
      rw [e2]
      exact ⟨v, v, v, v, ay _ ⟨v, nm_e (nm_r (nI_1 (8 * c + i)) (bn post h))⟩⟩
theorem i_vc_commit {k : Nat} {u : SX} {v : SY} (I : i_Rel k u v) (hk : k + 6 ≤ 3072) (v1 : Int32) : wpX_commit (fun r u' => wpY_commit (fun r' v' => r' = r ∧ i_Rel (k + 6) u' v') v v1) u v1 := by
  have I6 := i_up I
  obtain ⟨tm, tn, kd, nu, sz, dl, ix, sx, iy, sy, st, wk, wo, we, w, wd, d, q, qo, qk, qa, qb, rc, wt, te, tk, rs, rfl, rfl, hT, hS, hW, hC⟩ := I
  rcases rl_cs v1 4 (by omega) with hn | ⟨c, hc, rfl⟩
  · unfold wpX_commit
    refine xc_f hn (br_t rfl ?_)
    unfold wpY_commit
    exact ya_f (n := 4) hn (br_t rfl ⟨rfl, I6⟩)
  have e : (nI c).toNatClampNeg = c := nI_clamp (by omega)
  have i : vp_in (nI c) 4 := vp_in_nI hc (by omega)
  unfold wpX_commit
  rw [e]
  refine xc_t hc (br_f (by decide) ⟨i, ?_⟩)
  by_cases s2 : st c = 2
  · obtain ⟨_, _, _, n, hn8, eq, _, hcm⟩ := hC c hc
    have yy : ∀ {P : Int32 → SY → Prop}, (((d c = 0 → (vp_in (nI c) 4 ∧ ∀ z : Nat → Int32, z = upd rc c (nI n) → ∀ x : Int32, x = 8 * nI c → ∃ m, wY_commit_60 P (nI c) (nI n) m x tm tn kd nu sz iy sy dl (upd st c 0) wk wo we wt (upd wd c 0) (upd d c 0) qo qk qa qb (upd q c 0) rs z te tk)) ∧ (¬ d c = 0 → P (-2) (tm, tn, kd, nu, sz, iy, sy, dl, upd st c 0, wk, wo, we, wt, upd wd c 0, upd d c 0, qo, qk, qa, qb, upd q c 0, rs, rc, te, tk)))) → wpY_commit P (tm, tn, kd, nu, sz, iy, sy, dl, st, wk, wo, we, wt, wd, d, qo, qk, qa, qb, q, rs, rc, te, tk) (nI c) := by
      intro P h
      unfold wpY_commit
      rw [e]
      refine ya_t (n := 4) hc (by omega) (br_f (by decide) ⟨i, br_t s2 ⟨i, nm_e ⟨i, nm_r eq (wy_unwatch hc h)⟩⟩⟩)
    refine br_t s2 ⟨i, nm_r eq (wx_dec hc hW (wx_rel hc ?_))⟩
    by_cases d0 : d c = 0
    · obtain ⟨t, ht, et⟩ := hT
      obtain ⟨kd1, nu1, sz1, dl1, ix1, sx1, iy1, sy1, w1, d1, rs1, b1, b2, bx, bn⟩ := lk_com (c := c) (n := n) (wd := upd wd c 0) (tn := tn) (st := upd st c 0) (wk := wk) (wo := wo) (we := we) (wt := wt) (te := te) (tk := tk) (q := upd q c 0) (qb := qb) (rc := rc) (ra := upd rc c (nI n)) hc hn8 hcm et ht n 0 (by omega) kd nu sz dl ix sx iy sy (ws_zr w c 8) (upd d c 0) rs hS (wa_free hW)
      obtain ⟨st', kd', nu', sz', dl', ix', sx', iy', sy', w', d', te', tk', g1, g2, g3, gx, N, gn⟩ := lk_serve (tm := tm) (tn := tn) (wk := wk) (wo := wo) (wt := wt) (qb := qb) (rs := rs1) (nu := nu1) (te := te) (tk := tk) (cl_rc (c := c) (n := n) (cl_rel (c := c) hC) hn8) b1 b2 4 0 rfl (sv_n_le _)
      have R : i_Rel (k + 6) (tm, tn, kd', nu', sz', dl', ix', sx', st', wk, wo, we, wt, te', tk', w', upd q c 0, qo, qk, qa, qb, upd rc c (nI n), rs1) (tm, tn, kd', nu', sz', iy', sy', dl', st', wk, wo, we, wt, upd wd c 0, d', qo, qk, qa, qb, upd q c 0, rs1, upd rc c (nI n), te', tk') := rl_i ⟨⟨t, ht, et⟩, g1, g2, g3⟩
      refine br_t d0 ⟨n + 1, bx _ (br_t (nI_le (by omega) (by omega)) ⟨i, nm_r (e' := upd rc c (nI n)) (by rw [e]) ⟨5, gx _ ?_⟩⟩)⟩
      refine yy (br_t d0 ⟨i, nm_e (nm_r (nu_m8 c) ⟨n + 1, bn _ (br_t ?_ ⟨N, gn _ ⟨rfl, R⟩⟩)⟩)⟩)
      rw [nu_y8]
      exact nI_le (by omega) (by omega)
    · have R : i_Rel (k + 6) (tm, tn, kd, nu, sz, dl, ix, sx, upd st c 0, wk, wo, we, wt, te, tk, ws_zr w c 8, upd q c 0, qo, qk, qa, qb, rc, rs) (tm, tn, kd, nu, sz, iy, sy, dl, upd st c 0, wk, wo, we, wt, upd wd c 0, upd d c 0, qo, qk, qa, qb, upd q c 0, rs, rc, te, tk) := rl_i ⟨hT, hS, wa_free hW, cl_rel hC⟩
      exact br_f d0 (yy (br_f d0 ⟨rfl, R⟩))
  · refine br_f s2 ?_
    unfold wpY_commit
    rw [e]
    exact ya_t (n := 4) hc (by omega) (br_f (by decide) ⟨i, br_f s2 ⟨rfl, I6⟩⟩)
end CM
