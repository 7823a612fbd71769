/-! V: begin, cancel, watch, result, got, ask, rewrite -/
theorem i_vc_begin {k : Nat} {u : SX} {v : SY} (I : i_Rel k u v) (hk : k + 6 ≤ 3072) (v1 : Int32) : wpX_begin (fun r u' => wpY_begin (fun r' v' => r' = r ∧ i_Rel (k + 6) u' v') v v1) u v1 := by
  obtain ⟨tm, tn, kd, nu, sz, dl, ix, sx, iy, sy, st, wk, wo, we, w, wd, d, q, qo, qk, qa, qb, rc, wt, te, tk, rs, rfl, rfl, hT, hS, hW, hC⟩ := I
  rcases rl_rd st v1 with hn | ⟨c, hc, rfl, h0⟩
  · unfold wpX_begin
    refine xr_f hn (br_t rfl ?_)
    unfold wpY_begin
    exact yr_f hn (br_t rfl ⟨rfl, rl_i ⟨hT, hS, hW, hC⟩⟩)
  · have e : (nI c).toNatClampNeg = c := nI_clamp (by omega)
    have i : vp_in (nI c) 4 := vp_in_nI hc (by omega)
    have eq : upd q c 0 = q := ws_same q (cl_idle hC hc (by rw [h0]; decide))
    have R : i_Rel (k + 6) (tm, tn, kd, nu, sz, dl, ix, sx, upd st c 2, wk, wo, we, wt, te, tk, w, q, qo, qk, qa, qb, rc, rs) (tm, tn, kd, nu, sz, iy, sy, dl, upd st c 2, wk, wo, we, wt, wd, d, qo, qk, qa, qb, q, rs, rc, te, tk) := rl_i ⟨hT, hS, hW, cl_begin hC⟩
    unfold wpX_begin
    refine xr_t hc h0 (br_f (by decide) ⟨i, nm_r (e' := upd st c 2) (by rw [e]) ?_⟩)
    unfold wpY_begin
    exact yr_t hc h0 (br_f (by decide) ⟨i, nm_r (e' := upd st c 2) (by rw [e]) ⟨i, nm_r (e' := q) (by rw [e, eq]) ⟨rfl, R⟩⟩⟩)
theorem i_vc_cancel {k : Nat} {u : SX} {v : SY} (I : i_Rel k u v) (hk : k + 6 ≤ 3072) (v1 : Int32) : wpX_cancel (fun r u' => wpY_cancel (fun r' v' => r' = r ∧ i_Rel (k + 6) u' v') v v1) u v1 := by
  obtain ⟨tm, tn, kd, nu, sz, dl, ix, sx, iy, sy, st, wk, wo, we, w, wd, d, q, qo, qk, qa, qb, rc, wt, te, tk, rs, rfl, rfl, hT, hS, hW, hC⟩ := I
  rcases rl_cs v1 4 (by omega) with hn | ⟨c, hc, rfl⟩
  · unfold wpX_cancel
    refine xc_f hn (br_t rfl ?_)
    unfold wpY_cancel
    exact ya_f (n := 4) hn (br_t rfl ⟨rfl, rl_i ⟨hT, hS, hW, hC⟩⟩)
  · have e : (nI c).toNatClampNeg = c := nI_clamp (by omega)
    have i : vp_in (nI c) 4 := vp_in_nI hc (by omega)
    unfold wpX_cancel
    rw [e]
    refine xc_t hc (br_f (by decide) ⟨i, ?_⟩)
    by_cases z : st c = 1
    · refine br_t z ?_
      unfold wpY_cancel
      rw [e]
      exact ya_t (n := 4) hc (by omega) (br_f (by decide) ⟨i, br_t z ⟨rfl, rl_i ⟨hT, hS, hW, hC⟩⟩⟩)
    · refine br_f z (wx_rel hc ?_)
      unfold wpY_cancel
      rw [e]
      exact ya_t (n := 4) hc (by omega) (br_f (by decide) ⟨i, br_f z (wy_unwatch hc ⟨rfl, rl_i ⟨hT, hS, wa_free hW, cl_rel hC⟩⟩)⟩)
theorem i_vc_watch {k : Nat} {u : SX} {v : SY} (I : i_Rel k u v) (hk : k + 6 ≤ 3072) (v1 : Int32) (v2 : Int32) : wpX_watch (fun r u' => wpY_watch (fun r' v' => r' = r ∧ i_Rel (k + 6) u' v') v v1 v2) u v1 v2 := by
  obtain ⟨tm, tn, kd, nu, sz, dl, ix, sx, iy, sy, st, wk, wo, we, w, wd, d, q, qo, qk, qa, qb, rc, wt, te, tk, rs, rfl, rfl, hT, hS, hW, hC⟩ := I
  rcases rl_rd st v1 with hn | ⟨c, hc, rfl, h0⟩
  · unfold wpX_watch
    refine xr_f hn (br_t rfl ?_)
    unfold wpY_watch
    exact yr_f hn (br_t rfl ⟨rfl, rl_i ⟨hT, hS, hW, hC⟩⟩)
  · rcases rl_cs v2 8 (by omega) with hn | ⟨j, hj, rfl⟩
    · unfold wpX_watch
      refine xr_t hc h0 (br_f (by decide) (xk_f hn (br_t rfl ?_)))
      unfold wpY_watch
      exact yr_t hc h0 (br_f (by decide) (ya_f (n := 8) hn (br_t rfl ⟨rfl, rl_i ⟨hT, hS, hW, hC⟩⟩)))
    · have e : (nI c).toNatClampNeg = c := nI_clamp (by omega)
      have i : vp_in (nI c) 4 := vp_in_nI hc (by omega)
      have e3 : (nI (8 * c + j)).toNatClampNeg = 8 * c + j := nI_clamp (by omega)
      have v3 : vp_in (nI (8 * c + j)) 32 := vp_in_nI (by omega) (by omega)
      unfold wpX_watch
      refine xr_t hc h0 (br_f (by decide) (xk_t hj (br_f (by decide) (nm_r (nu_x8 c j) ⟨v3, ?_⟩))))
      rw [e3]
      by_cases z : w (8 * c + j) = 0
      · have R : i_Rel (k + 6) (tm, tn, kd, nu, sz, dl, ix, sx, st, wk, wo, we, wt, te, tk, upd w (8 * c + j) 1, q, qo, qk, qa, qb, rc, rs) (tm, tn, kd, nu, sz, iy, sy, dl, st, wk, wo, we, wt, upd wd c (wd c ||| ((1 : Int32) <<< (nI j &&& 31))), d, qo, qk, qa, qb, q, rs, rc, te, tk) := rl_i ⟨hT, hS, wa_watch hW hj (Or.inl ⟨z, rfl⟩), hC⟩
        refine br_t z ⟨v3, nm_e ?_⟩
        unfold wpY_watch
        rw [e]
        exact yr_t hc h0 (br_f (by decide) (ya_t (n := 8) hj (by omega) (br_f (by decide) ⟨i, i, nm_e ⟨rfl, R⟩⟩)))
      · have R : i_Rel (k + 6) (tm, tn, kd, nu, sz, dl, ix, sx, st, wk, wo, we, wt, te, tk, w, q, qo, qk, qa, qb, rc, rs) (tm, tn, kd, nu, sz, iy, sy, dl, st, wk, wo, we, wt, upd wd c (wd c ||| ((1 : Int32) <<< (nI j &&& 31))), d, qo, qk, qa, qb, q, rs, rc, te, tk) := rl_i ⟨hT, hS, wa_watch hW hj (Or.inr ⟨z, rfl⟩), hC⟩
        refine br_f z ?_
        unfold wpY_watch
        rw [e]
        exact yr_t hc h0 (br_f (by decide) (ya_t (n := 8) hj (by omega) (br_f (by decide) ⟨i, i, nm_e ⟨rfl, R⟩⟩)))
theorem i_vc_result {k : Nat} {u : SX} {v : SY} (I : i_Rel k u v) (hk : k + 6 ≤ 3072) (v1 : Int32) (v2 : Int32) : wpX_result (fun r => wpY_result (fun r' => r' = r ∧ i_Rel (k + 6) u v) v v1 v2) u v1 v2 := by
  have I6 := i_up I
  obtain ⟨tm, tn, kd, nu, sz, dl, ix, sx, iy, sy, st, wk, wo, we, w, wd, d, q, qo, qk, qa, qb, rc, wt, te, tk, rs, rfl, rfl, hT, hS, hW, hC⟩ := I
  rcases rl_cs v1 4 (by omega) with hn | ⟨c, hc, rfl⟩
  · unfold wpX_result
    refine xc_f hn (br_t rfl ?_)
    unfold wpY_result
    exact ya_f (n := 4) hn (br_t rfl ⟨rfl, I6⟩)
  · have e : (nI c).toNatClampNeg = c := nI_clamp (by omega)
    have i : vp_in (nI c) 4 := vp_in_nI hc (by omega)
    obtain ⟨_, _, ⟨n, hn8, er⟩, _⟩ := hC c hc
    unfold wpX_result
    rw [e]
    refine xc_t hc (br_f (by decide) ?_)
    rcases rl_cs v2 n (by omega) with hn | ⟨j, hj, rfl⟩
    · have g : wpY_result (fun r' => r' = 10000000006 ∧ i_Rel (k + 6) (tm, tn, kd, nu, sz, dl, ix, sx, st, wk, wo, we, wt, te, tk, w, q, qo, qk, qa, qb, rc, rs) (tm, tn, kd, nu, sz, iy, sy, dl, st, wk, wo, we, wt, wd, d, qo, qk, qa, qb, q, rs, rc, te, tk)) (tm, tn, kd, nu, sz, iy, sy, dl, st, wk, wo, we, wt, wd, d, qo, qk, qa, qb, q, rs, rc, te, tk) (nI c) v2 := by
        unfold wpY_result
        rw [e]
        refine ya_t (n := 4) hc (by omega) (br_f (by decide) ⟨i, ?_⟩)
        rw [er]
        exact ya_f hn (br_t rfl ⟨rfl, I6⟩)
      refine br_c (fun _ => g) (fun y => ⟨i, br_f ?_ g⟩)
      rw [er]
      exact Int32.not_lt.mpr (hn.resolve_left y)
    · have e3 : (nI (8 * c + j)).toNatClampNeg = 8 * c + j := nI_clamp (by omega)
      have v3 : vp_in (nI (8 * c + j)) 32 := vp_in_nI (by omega) (by omega)
      refine br_f (nI_pos (by omega)) ⟨i, ?_⟩
      rw [er, nu_x8, e3]
      refine br_t (nI_lt hj (by omega)) ⟨v3, ?_⟩
      unfold wpY_result
      rw [e]
      refine ya_t (n := 4) hc (by omega) (br_f (by decide) ⟨i, ?_⟩)
      rw [er, nu_y8, e3]
      exact ya_t hj (by omega) (br_f (by decide) ⟨v3, rfl, I6⟩)
theorem i_vc_rewrite {k : Nat} {u : SX} {v : SY} (I : i_Rel k u v) (hk : k + 6 ≤ 3072) : wpX_rewrite (fun u' => wpY_rewrite (fun v' => i_Rel (k + 6) u' v') v) u := i_up I
theorem i_vc_got {k : Nat} {u : SX} {v : SY} (I : i_Rel k u v) (hk : k + 6 ≤ 3072) (v1 : Int32) (v2 : Int32) : wpX_got (fun r => wpY_got (fun r' => r' = r ∧ i_Rel (k + 6) u v) v v1 v2) u v1 v2 := by
  have I6 := i_up I
  obtain ⟨tm, tn, kd, nu, sz, dl, ix, sx, iy, sy, st, wk, wo, we, w, wd, d, q, qo, qk, qa, qb, rc, wt, te, tk, rs, rfl, rfl, hT, hS, hW, hC⟩ := I
  rcases rl_cs v1 4 (by omega) with hn | ⟨c, hc, rfl⟩
  · unfold wpX_got
    refine xc_f hn (br_t rfl ?_)
    unfold wpY_got
    exact ya_f (n := 4) hn (br_t rfl ⟨rfl, I6⟩)
  · have e : (nI c).toNatClampNeg = c := nI_clamp (by omega)
    have i : vp_in (nI c) 4 := vp_in_nI hc (by omega)
    obtain ⟨_, hw0, _⟩ := hC c hc
    unfold wpX_got
    rw [e]
    refine xc_t hc (br_f (by decide) ?_)
    have y : ∀ {P : Int64 → Prop}, ((v2 = 0 → (vp_in (nI c) 4 ∧ P (st c).toInt64)) ∧ (¬ v2 = 0 → ((v2 = 1 → (vp_in (nI c) 4 ∧ P (te c))) ∧ (¬ v2 = 1 → ((v2 = 2 → (vp_in (nI c) 4 ∧ P (tk c))) ∧ (¬ v2 = 2 → ((v2 = 3 → (vp_in (nI c) 4 ∧ ((st c = 1 → (vp_in (nI c) 4 ∧ ((we c ≤ 0 → P 10000000006) ∧ (¬ we c ≤ 0 → (vp_in (nI c) 4 ∧ P (we c - tm).toInt64))))) ∧ (¬ st c = 1 → P 10000000006)))) ∧ (¬ v2 = 3 → P 10000000006)))))))) → wpY_got P (tm, tn, kd, nu, sz, iy, sy, dl, st, wk, wo, we, wt, wd, d, qo, qk, qa, qb, q, rs, rc, te, tk) (nI c) v2 := by
      intro P h
      unfold wpY_got
      rw [e]
      exact ya_t (n := 4) hc (by omega) (br_f (by decide) h)
    by_cases z0 : v2 = 0
    · subst z0
      exact br_f (by decide) (br_f (by decide) (br_t rfl ⟨i, y (br_t rfl ⟨i, rfl, I6⟩)⟩))
    · by_cases z1 : v2 = 1
      · subst z1
        exact br_f (by decide) (br_f (by decide) (br_f (by decide) (br_t rfl ⟨i, y (br_f (by decide) (br_t rfl ⟨i, rfl, I6⟩))⟩)))
      · by_cases z2 : v2 = 2
        · subst z2
          exact br_f (by decide) (br_f (by decide) (br_f (by decide) (br_f (by decide) (br_t rfl ⟨i, y (br_f (by decide) (br_f (by decide) (br_t rfl ⟨i, rfl, I6⟩)))⟩))))
        · by_cases z3 : v2 = 3
          · subst z3
            refine br_f (by decide) (br_f (by decide) (br_f (by decide) (br_f (by decide) (br_f (by decide) (br_t rfl ?_)))))
            unfold wpX_hasEnd
            rw [e]
            refine ⟨i, ?_⟩
            by_cases s1 : st c = 1
            · refine br_t s1 ⟨i, ?_⟩
              by_cases w0 : we c = 0
              · exact br_t w0 (br_t rfl (y (br_f (by decide) (br_f (by decide) (br_f (by decide) (br_t rfl ⟨i, br_t s1 ⟨i, br_t (by rw [w0]; decide) ⟨rfl, I6⟩⟩⟩))))))
              · refine br_f w0 (br_f (by decide) ⟨i, y (br_f (by decide) (br_f (by decide) (br_f (by decide) (br_t rfl ⟨i, br_t s1 ⟨i, br_f ?_ ⟨i, rfl, I6⟩⟩⟩))))⟩)
                intro hle
                exact w0 (Int32.le_antisymm hle hw0)
            · exact br_f s1 (br_t rfl (y (br_f (by decide) (br_f (by decide) (br_f (by decide) (br_t rfl ⟨i, br_f s1 ⟨rfl, I6⟩⟩))))))
          · have g : wpY_got (fun r' => r' = 10000000006 ∧ i_Rel (k + 6) (tm, tn, kd, nu, sz, dl, ix, sx, st, wk, wo, we, wt, te, tk, w, q, qo, qk, qa, qb, rc, rs) (tm, tn, kd, nu, sz, iy, sy, dl, st, wk, wo, we, wt, wd, d, qo, qk, qa, qb, q, rs, rc, te, tk)) (tm, tn, kd, nu, sz, iy, sy, dl, st, wk, wo, we, wt, wd, d, qo, qk, qa, qb, q, rs, rc, te, tk) (nI c) v2 := y (br_f z0 (br_f z1 (br_f z2 (br_f z3 ⟨rfl, I6⟩))))
            exact br_c (fun _ => g) (fun _ => br_c (fun _ => g) (fun _ => br_f z0 (br_f z1 (br_f z2 (br_f z3 trivial)))))
theorem i_vc_ask {k : Nat} {u : SX} {v : SY} (I : i_Rel k u v) (hk : k + 6 ≤ 3072) (v1 : Int32) (v2 : Int32) : wpX_ask (fun r => wpY_ask (fun r' => r' = r ∧ i_Rel (k + 6) u v) v v1 v2) u v1 v2 := by
  have I6 := i_up I
  obtain ⟨tm, tn, kd, nu, sz, dl, ix, sx, iy, sy, st, wk, wo, we, w, wd, d, q, qo, qk, qa, qb, rc, wt, te, tk, rs, rfl, rfl, hT, hS, hW, hC⟩ := I
  rcases rl_cs v1 8 (by omega) with hn | ⟨c, hc, rfl⟩
  · unfold wpX_ask
    refine xk_f hn (br_t rfl ?_)
    unfold wpY_ask
    exact ya_f (n := 8) hn (br_t rfl ⟨rfl, I6⟩)
  · have e : (nI c).toNatClampNeg = c := nI_clamp (by omega)
    have i : vp_in (nI c) 16 := vp_in_nI (by omega) (by omega)
    unfold wpX_ask
    rw [e]
    refine xk_t hc (br_f (by decide) ?_)
    rcases rl_cs v2 4 (by omega) with hn | ⟨j, hj, rfl⟩
    · have g : wpY_ask (fun r' => r' = -1 ∧ i_Rel (k + 6) (tm, tn, kd, nu, sz, dl, ix, sx, st, wk, wo, we, wt, te, tk, w, q, qo, qk, qa, qb, rc, rs) (tm, tn, kd, nu, sz, iy, sy, dl, st, wk, wo, we, wt, wd, d, qo, qk, qa, qb, q, rs, rc, te, tk)) (tm, tn, kd, nu, sz, iy, sy, dl, st, wk, wo, we, wt, wd, d, qo, qk, qa, qb, q, rs, rc, te, tk) (nI c) v2 := by
        unfold wpY_ask
        exact ya_t (n := 8) hc (by omega) (br_f (by decide) (ya_f (n := 4) hn (br_t rfl ⟨rfl, I6⟩)))
      refine br_c (fun _ => g) (fun y => br_t ?_ g)
      have h4 := hn.resolve_left y
      rw [Int32.le_iff_toInt_le, nI_toInt (by omega)] at h4
      rw [Int32.lt_iff_toInt_lt, show (3 : Int32).toInt = 3 from by decide]
      omega
    · have y : ∀ {P : Int32 → Prop}, ((nI j = 3 → (vp_in (nI c) 16 ∧ ((dl c = 0 → P (-1)) ∧ (¬ dl c = 0 → (vp_in (nI c) 16 ∧ P (dl c - tm)))))) ∧ (¬ nI j = 3 → ((nI j = 0 → (vp_in (nI c) 16 ∧ P (kd c))) ∧ (¬ nI j = 0 → ((nI j = 1 → (vp_in (nI c) 16 ∧ P (nu c))) ∧ (¬ nI j = 1 → (vp_in (nI c) 16 ∧ P (sz c)))))))) → wpY_ask P (tm, tn, kd, nu, sz, iy, sy, dl, st, wk, wo, we, wt, wd, d, qo, qk, qa, qb, q, rs, rc, te, tk) (nI c) (nI j) := by
        intro P h
        unfold wpY_ask
        rw [e]
        exact ya_t (n := 8) hc (by omega) (br_f (by decide) (ya_t (n := 4) hj (by omega) (br_f (by decide) h)))
      have cs : j = 0 ∨ j = 1 ∨ j = 2 ∨ j = 3 := by omega
      rcases cs with rfl | rfl | rfl | rfl
      · exact br_f (by decide) (br_f (by decide) (br_t rfl ⟨i, y (br_f (by decide) (br_t rfl ⟨i, rfl, I6⟩))⟩))
      · exact br_f (by decide) (br_f (by decide) (br_f (by decide) (br_t rfl ⟨i, y (br_f (by decide) (br_f (by decide) (br_t rfl ⟨i, rfl, I6⟩)))⟩)))
      · exact br_f (by decide) (br_f (by decide) (br_f (by decide) (br_f (by decide) (br_t rfl ⟨i, y (br_f (by decide) (br_f (by decide) (br_f (by decide) ⟨i, rfl, I6⟩)))⟩))))
      · refine br_f (by decide) (br_f (by decide) (br_f (by decide) (br_f (by decide) (br_f (by decide) (br_t rfl ⟨i, ?_⟩)))))
        by_cases z : dl c = 0
        · exact br_t z (y (br_t rfl ⟨i, br_t z ⟨rfl, I6⟩⟩))
        · exact br_f z ⟨i, y (br_t rfl ⟨i, br_f z ⟨i, rfl, I6⟩⟩)⟩
