section RD
variable {tm : Int32} {tn : Int64} {kd nu sz dl ix sx iy sy st wk wo we w wd d q qo qk qa qb rc ra : Nat → Int32} {wt te tk tf tg rs : Nat → Int64}
/-! AA: element, member, between -/
theorem i_vc_element {k : Nat} {u : SX} {v : SY} (I : i_Rel k u v) (hk : k + 6 ≤ 3072) (v1 : Int32) (v2 : Int32) : wpX_element (fun r => wpY_element (fun r' => r' = r ∧ i_Rel (k + 6) u v) v v1 v2) u v1 v2 := by
  have I6 := i_up I
  obtain ⟨tm, tn, kd, nu, sz, dl, ix, sx, iy, sy, st, wk, wo, we, w, wd, d, q, qo, qk, qa, qb, rc, wt, te, tk, rs, rfl, rfl, hT, hS, hW, hC⟩ := I
  rcases rl_cs v1 8 (by omega) with hn | ⟨c, hc, rfl⟩
  · unfold wpX_element
    refine xk_f hn (br_t rfl ?_)
    unfold wpY_element
    exact ya_f (n := 8) hn (br_t rfl ⟨rfl, I6⟩)
  · have e : (nI c).toNatClampNeg = c := nI_clamp (by omega)
    have i : vp_in (nI c) 16 := vp_in_nI (by omega) (by omega)
    obtain ⟨n, hn12, hz, hq⟩ := st_n hS (k := c) (by omega)
    unfold wpX_element
    rw [e]
    refine xk_t hc (br_f (by decide) ?_)
    rcases rl_cs v2 n (by omega) with hn | ⟨j, hj, rfl⟩
    · have g : wpY_element (fun r' => r' = 10000000006 ∧ i_Rel (k + 6) (tm, tn, kd, nu, sz, dl, ix, sx, st, wk, wo, we, wt, te, tk, w, q, qo, qk, qa, qb, rc, rs) (tm, tn, kd, nu, sz, iy, sy, dl, st, wk, wo, we, wt, wd, d, qo, qk, qa, qb, q, rs, rc, te, tk)) (tm, tn, kd, nu, sz, iy, sy, dl, st, wk, wo, we, wt, wd, d, qo, qk, qa, qb, q, rs, rc, te, tk) (nI c) v2 := by
        unfold wpY_element
        rw [e]
        refine ya_t (n := 8) hc (by omega) (br_f (by decide) ⟨i, ?_⟩)
        rw [hz]
        exact ya_f hn (br_t rfl ⟨rfl, I6⟩)
      refine br_c (fun _ => g) (fun y => ⟨i, br_f ?_ g⟩)
      rw [hz]
      exact Int32.not_lt.mpr (hn.resolve_left y)
    · have e3 : (nI (12 * c + j)).toNatClampNeg = 12 * c + j := nI_clamp (by omega)
      have v3 : vp_in (nI (12 * c + j)) 192 := vp_in_nI (by omega) (by omega)
      refine br_f (nI_pos (by omega)) ⟨i, ?_⟩
      rw [hz, nu_x12, e3]
      refine br_t (nI_lt hj (by omega)) ⟨v3, ?_⟩
      unfold wpY_element
      rw [e]
      refine ya_t (n := 8) hc (by omega) (br_f (by decide) ⟨i, ?_⟩)
      rw [hz]
      refine ya_t hj (by omega) (br_f (by decide) ⟨i, ?_⟩)
      rcases hq with y | y | ⟨y, _, ys⟩ | ⟨y, _, hR⟩
      · omega
      · omega
      · refine br_t y ?_
        unfold wY_element_48
        rw [nu_y12, e3, ys j hj]
        exact ⟨v3, rfl, I6⟩
      · refine br_f (by rw [y]; decide) ?_
        obtain ⟨p, hp, e1, e2, hpl⟩ := wy_plc (tm := tm) (tn := tn) (kd := kd) (nu := nu) (dl := dl) (st := st) (wk := wk) (wo := wo) (we := we) (wt := wt) (te := te) (tk := tk) (wd := wd) (d := d) (q := q) (qo := qo) (qk := qk) (qa := qa) (qb := qb) (rc := rc) (rs := rs) (by omega) hz hn12 hR hj
        refine hpl _ ?_
        have e4 : (nI (12 * c + p)).toNatClampNeg = 12 * c + p := nI_clamp (by omega)
        have v4 : vp_in (nI (12 * c + p)) 192 := vp_in_nI (by omega) (by omega)
        unfold wY_element_48
        rw [nu_y12, e4, e2]
        exact ⟨v4, rfl, I6⟩
theorem i_vc_member {k : Nat} {u : SX} {v : SY} (I : i_Rel k u v) (hk : k + 6 ≤ 3072) (v1 : Int32) (v2 : Int32) (v3 : Int32) : wpX_member (fun r => wpY_member (fun r' => r' = r ∧ i_Rel (k + 6) u v) v v1 v2 v3) u v1 v2 v3 := by
  have I6 := i_up I
  obtain ⟨tm, tn, kd, nu, sz, dl, ix, sx, iy, sy, st, wk, wo, we, w, wd, d, q, qo, qk, qa, qb, rc, wt, te, tk, rs, rfl, rfl, hT, hS, hW, hC⟩ := I
  rcases rl_cs v1 8 (by omega) with hn | ⟨c, hc, rfl⟩
  · unfold wpX_member
    refine xk_f hn (br_t rfl ?_)
    unfold wpY_member
    exact ya_f (n := 8) hn (br_t rfl (br_t (by decide) ⟨rfl, I6⟩))
  · have e : (nI c).toNatClampNeg = c := nI_clamp (by omega)
    have i : vp_in (nI c) 16 := vp_in_nI (by omega) (by omega)
    obtain ⟨n, hn12, hz, hq⟩ := st_n hS (k := c) (by omega)
    unfold wpX_member
    rw [e]
    refine xk_t hc (br_f (by decide) ⟨i, ?_⟩)
    by_cases z : kd c = 3
    · have hR : ws_R ix sx iy sy (12 * c) n := by
        rcases hq with y | y | y | y
        · rw [z] at y; exact absurd y.1 (by decide)
        · rw [z] at y; exact absurd y.1 (by decide)
        · rw [z] at y; exact absurd y.1 (by decide)
        · exact y.2.2
      have y : ∀ {P : Int64 → Prop} {r : Int32}, ws_F iy (12 * c) n v2 r → wY_member_30 P (nI c) v3 r tm tn kd nu sz iy sy dl st wk wo we wt wd d qo qk qa qb q rs rc te tk → wpY_member P (tm, tn, kd, nu, sz, iy, sy, dl, st, wk, wo, we, wt, wd, d, qo, qk, qa, qb, q, rs, rc, te, tk) (nI c) v2 v3 := by
        intro P r hF h
        unfold wpY_member
        rw [e]
        exact ya_t (n := 8) hc (by omega) (br_f (by decide) ⟨i, br_t z (wy_fnd (by omega) hz hn12 hF h)⟩)
      refine br_t z ?_
      rcases ws_Fxy (m := v2) (Or.inr hR) with ⟨fx, fy, _⟩ | ⟨p, p', hp, hp', fx, fy, e1, e2, em, _⟩
      · exact wx_fnd (by omega) hz hn12 fx (br_f (by decide) (y fy (br_t (by decide) ⟨rfl, I6⟩)))
      · have e3 : (nI (12 * c + p)).toNatClampNeg = 12 * c + p := nI_clamp (by omega)
        have x3 : vp_in (nI (12 * c + p)) 192 := vp_in_nI (by omega) (by omega)
        have e4 : (nI (12 * c + p')).toNatClampNeg = 12 * c + p' := nI_clamp (by omega)
        have x4 : vp_in (nI (12 * c + p')) 192 := vp_in_nI (by omega) (by omega)
        refine wx_fnd (by omega) hz hn12 fx (br_t (nI_pos' (by omega)) ?_)
        rw [nu_x12, e3]
        by_cases z0 : v3 = 0
        · subst z0
          refine br_t rfl ⟨x3, y fy (br_f (nI_pos (by omega)) (ya_t (j := 0) (n := 2) (by omega) (by omega) (br_f (by decide) (br_t rfl ?_))))⟩
          rw [nu_y12, e4, e1]
          exact ⟨x4, rfl, I6⟩
        · by_cases z1 : v3 = 1
          · subst z1
            refine br_f (by decide) (br_t rfl (y fy (br_f (nI_pos (by omega)) (ya_t (j := 1) (n := 2) (by omega) (by omega) (br_f (by decide) (br_f (by decide) (wy_rnk (by omega) hz hn12 (by omega) ⟨?_, I6⟩)))))))
            rw [show ws_c (wy_P iy sy (12 * c) p') n = p from ws_rkY hR hp e1 e2]
          · refine br_f z0 (br_f z1 (y fy (br_f (nI_pos (by omega)) (ya_f (n := 2) ?_ (br_t rfl ⟨rfl, I6⟩)))))
            rcases rl_cs v3 2 (by omega) with y | ⟨j, hj, rfl⟩
            · exact y
            · have cs : j = 0 ∨ j = 1 := by omega
              rcases cs with rfl | rfl
              · exact absurd rfl z0
              · exact absurd rfl z1
    · refine br_f z ?_
      unfold wpY_member
      rw [e]
      exact ya_t (n := 8) hc (by omega) (br_f (by decide) ⟨i, br_f z (br_t (by decide) ⟨rfl, I6⟩)⟩)
def bw_P (sc : Nat → Int32) (b : Nat) (lo hi : Int32) : Nat → Bool := fun j => decide (¬ sc (b + j) < lo ∧ ¬ hi < sc (b + j))
theorem bw_y {sc : Nat → Int32} {b j : Nat} {lo hi : Int32} (h1 : ¬ sc (b + j) < lo) (h2 : ¬ hi < sc (b + j)) : ws_c (bw_P sc b lo hi) (j + 1) = ws_c (bw_P sc b lo hi) j + 1 := by
  show ws_c _ j + (if decide (¬ sc (b + j) < lo ∧ ¬ hi < sc (b + j)) = true then 1 else 0) = _
  rw [if_pos (decide_eq_true ⟨h1, h2⟩)]
theorem bw_n {sc : Nat → Int32} {b j : Nat} {lo hi : Int32} (h : ¬ (¬ sc (b + j) < lo ∧ ¬ hi < sc (b + j))) : ws_c (bw_P sc b lo hi) (j + 1) = ws_c (bw_P sc b lo hi) j := by
  show ws_c _ j + (if decide (¬ sc (b + j) < lo ∧ ¬ hi < sc (b + j)) = true then 1 else 0) = _
  rw [if_neg (fun y => h (of_decide_eq_true y)), Nat.add_zero]
theorem wx_btw {post : Int32 → Prop} {c n : Nat} {lo hi : Int32} (hc : c < 8) (hn : n ≤ 12) (h : post (nI (ws_c (bw_P sx (12 * c) lo hi) n))) : ∀ m i, i + m = n → wX_between_33 post (nI c) lo hi (nI n) tm tn kd nu sz dl ix sx st wk wo we wt te tk w q qo qk qa qb rc rs (m + 1) (nI (ws_c (bw_P sx (12 * c) lo hi) i)) (nI i) := by
  intro m
  induction m with
  | zero =>
    intro i hi
    obtain rfl : i = n := by omega
    exact br_t (nI_le (by omega) (by omega)) h
  | succ m ih =>
    intro i hi2
    have c1 : ¬ nI n ≤ nI i := nI_ge (by omega) (by omega)
    have e2 : (nI (12 * c + i)).toNatClampNeg = 12 * c + i := nI_clamp (by omega)
    have v : vp_in (nI (12 * c + i)) 192 := vp_in_nI (by omega) (by omega)
    have g := ih (i + 1) (by omega)
    refine br_f c1 ?_
    rw [nu_x12, e2]
    refine ⟨v, nm_e ?_⟩
    by_cases a : sx (12 * c + i) < lo
    · rw [bw_n (fun y => y.1 a)] at g
      exact br_t a (nm_r (nI_1 i) g)
    · refine br_f a ?_
      by_cases b : hi < sx (12 * c + i)
      · rw [bw_n (fun y => y.2 b)] at g
        exact br_t b (nm_r (nI_1 i) g)
      · rw [bw_y a b] at g
        exact br_f b (nm_r (nI_1 _) (nm_r (nI_1 i) g))
theorem wy_btw {post : Int32 → Prop} {c n : Nat} {lo hi : Int32} (hc : c < 8) (hz : sz c = nI n) (hn : n ≤ 12) (h : post (nI (ws_c (bw_P sy (12 * c) lo hi) n))) : ∀ m i, i + m = n → wY_between_31 post (nI c) lo hi tm tn kd nu sz iy sy dl st wk wo we wt wd d qo qk qa qb q rs rc te tk (m + 1) (nI (ws_c (bw_P sy (12 * c) lo hi) i)) (nI (12 * c + i)) := by
  have ek : (nI c).toNatClampNeg = c := nI_clamp (by omega)
  have vk : vp_in (nI c) 16 := vp_in_nI (by omega) (by omega)
  intro m
  induction m with
  | zero =>
    intro i hi
    obtain rfl : i = n := by omega
    unfold wY_between_31
    rw [ek, hz, nu_y12]
    exact ⟨vk, br_t (nI_le (by omega) (by omega)) h⟩
  | succ m ih =>
    intro i hi2
    have c1 : ¬ nI (12 * c + n) ≤ nI (12 * c + i) := nI_ge (by omega) (by omega)
    have e2 : (nI (12 * c + i)).toNatClampNeg = 12 * c + i := nI_clamp (by omega)
    have v : vp_in (nI (12 * c + i)) 192 := vp_in_nI (by omega) (by omega)
    have g := ih (i + 1) (by omega)
    unfold wY_between_31
    rw [ek, hz, nu_y12, e2]
    refine ⟨vk, br_f c1 ⟨v, ?_⟩⟩
    by_cases a : sy (12 * c + i) < lo
    · rw [bw_n (fun y => y.1 a)] at g
      exact br_t a (nm_r (nI_1 (12 * c + i)) g)
    · refine br_f a ⟨v, ?_⟩
      by_cases b : hi < sy (12 * c + i)
      · rw [bw_n (fun y => y.2 b)] at g
        exact br_t b (nm_r (nI_1 (12 * c + i)) g)
      · rw [bw_y a b] at g
        exact br_f b (nm_r (nI_1 _) (nm_r (nI_1 (12 * c + i)) g))
theorem i_vc_between {k : Nat} {u : SX} {v : SY} (I : i_Rel k u v) (hk : k + 6 ≤ 3072) (v1 : Int32) (v2 : Int32) (v3 : Int32) : wpX_between (fun r => wpY_between (fun r' => r' = r ∧ i_Rel (k + 6) u v) v v1 v2 v3) u v1 v2 v3 := by
  have I6 := i_up I
  obtain ⟨tm, tn, kd, nu, sz, dl, ix, sx, iy, sy, st, wk, wo, we, w, wd, d, q, qo, qk, qa, qb, rc, wt, te, tk, rs, rfl, rfl, hT, hS, hW, hC⟩ := I
  rcases rl_cs v1 8 (by omega) with hn | ⟨c, hc, rfl⟩
  · unfold wpX_between
    refine xk_f hn (br_t rfl ?_)
    unfold wpY_between
    exact ya_f (n := 8) hn (br_t rfl ⟨rfl, I6⟩)
  · have e : (nI c).toNatClampNeg = c := nI_clamp (by omega)
    have i : vp_in (nI c) 16 := vp_in_nI (by omega) (by omega)
    obtain ⟨n, hn12, hz, hq⟩ := st_n hS (k := c) (by omega)
    unfold wpX_between
    rw [e]
    refine xk_t hc (br_f (by decide) ⟨i, ?_⟩)
    by_cases z : kd c = 3
    · have hR : ws_R ix sx iy sy (12 * c) n := by
        rcases hq with y | y | y | y
        · rw [z] at y; exact absurd y.1 (by decide)
        · rw [z] at y; exact absurd y.1 (by decide)
        · rw [z] at y; exact absurd y.1 (by decide)
        · exact y.2.2
      have ec : ws_c (bw_P sx (12 * c) v2 v3) n = ws_c (bw_P sy (12 * c) v2 v3) n := by
        have g := hR.2.2.countP_eq (fun r => decide (¬ r.1 < v2 ∧ ¬ v3 < r.1))
        rw [ws_L_ct, ws_L_ct] at g
        exact g
      refine br_t z ⟨i, ?_⟩
      rw [hz]
      refine nm_e ⟨n + 1, wx_btw hc hn12 ?_ n 0 (by omega)⟩
      unfold wpY_between
      rw [e]
      refine ya_t (n := 8) hc (by omega) (br_f (by decide) ⟨i, br_t z (nm_r (nu_m12 c) ⟨n + 1, wy_btw hc hz hn12 ⟨?_, I6⟩ n 0 (by omega)⟩)⟩)
      rw [ec]
    · refine br_f z ?_
      unfold wpY_between
      rw [e]
      exact ya_t (n := 8) hc (by omega) (br_f (by decide) ⟨i, br_f z ⟨rfl, I6⟩⟩)
end RD
