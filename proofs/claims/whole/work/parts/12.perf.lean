section PF
variable {tm : Int32} {tn : Int64} {kd nu sz dl ix sx iy sy st wk wo we w wd d q qo qk qa qb rc ra : Nat → Int32} {wt te tk tf tg rs : Nat → Int64}
variable {k : Nat} {a b : Int32}
/-! R: a command is carried out: X and Y side by side -/
abbrev lk_F : Type := Nat → Int32
def lk_R (wd : Nat → Int32) (XW : (Int64 → SX → Prop) → Prop) (YW : (Int64 → SY → Prop) → Prop) (mx : lk_F → lk_F → lk_F → lk_F → lk_F → lk_F → lk_F → SX) (my : lk_F → lk_F → lk_F → lk_F → lk_F → lk_F → lk_F → SY) : Prop :=
  ∃ (r : Int64) (kd nu sz dl ix sx iy sy w d : Nat → Int32), st_R kd sz dl ix sx iy sy ∧ wa_R w wd d ∧ (∀ post : Int64 → SX → Prop, post r (mx kd nu sz dl ix sx w) → XW post) ∧ (∀ post : Int64 → SY → Prop, post r (my kd nu sz dl iy sy d) → YW post)
def lk_I (wd : Nat → Int32) (XW : (Int32 → SX → Prop) → Prop) (YW : (Int32 → SY → Prop) → Prop) (mx : lk_F → lk_F → lk_F → lk_F → lk_F → lk_F → lk_F → SX) (my : lk_F → lk_F → lk_F → lk_F → lk_F → lk_F → lk_F → SY) : Prop :=
  ∃ (r : Int32) (kd nu sz dl ix sx iy sy w d : Nat → Int32), st_R kd sz dl ix sx iy sy ∧ wa_R w wd d ∧ (∀ post : Int32 → SX → Prop, post r (mx kd nu sz dl ix sx w) → XW post) ∧ (∀ post : Int32 → SY → Prop, post r (my kd nu sz dl iy sy d) → YW post)
theorem ws_dc_comm (wd d : Nat → Int32) (k t : Nat) : ws_dc wd (ws_dc wd d t 4) k 4 = ws_dc wd (ws_dc wd d k 4) t 4 := by
  funext c
  unfold ws_dc
  by_cases e1 : c < 4 ∧ bt (wd c) k = true
  · by_cases e2 : c < 4 ∧ bt (wd c) t = true
    · rw [if_pos e1, if_pos e2]
    · rw [if_pos e1, if_neg e2, if_pos e1]
  · by_cases e2 : c < 4 ∧ bt (wd c) t = true
    · rw [if_neg e1, if_pos e2, if_pos e2]
    · rw [if_neg e1, if_neg e2, if_neg e2, if_neg e1]
theorem lk_out {n p p' : Nat} (hS : st_R kd sz dl ix sx iy sy) (hW : wa_R w wd d) (hk : k < 8) (hz : sz k = nI (n + 1)) (hn : n < 12) (hp : p ≤ n) (hq : p' ≤ n) (hm : st_mt kd ix sx iy sy k p p') :
    lk_I wd (fun post => wpX_takeOut post (tm, tn, kd, nu, sz, dl, ix, sx, st, wk, wo, we, wt, te, tk, w, q, qo, qk, qa, qb, rc, rs) (nI k) (nI p)) (fun post => wpY_out post (tm, tn, kd, nu, sz, iy, sy, dl, st, wk, wo, we, wt, wd, d, qo, qk, qa, qb, q, rs, ra, tf, tg) (nI k) (nI p')) (fun kd nu sz dl ix sx w => (tm, tn, kd, nu, sz, dl, ix, sx, st, wk, wo, we, wt, te, tk, w, q, qo, qk, qa, qb, rc, rs)) (fun kd nu sz dl iy sy d => (tm, tn, kd, nu, sz, iy, sy, dl, st, wk, wo, we, wt, wd, d, qo, qk, qa, qb, q, rs, ra, tf, tg)) := by
  obtain ⟨h0, h1, h2⟩ := st_er hS (by omega) hz hn hp hq hm
  by_cases z : n = 0
  · refine ⟨ix (12 * k + p), upd kd k 0, upd nu k 0, upd (upd sz k (nI n)) k 0, upd dl k 0, _, _, _, _, ws_mk w k 4, ws_dc wd d k 4, h1 z, wa_mark hW hk, fun post h => ?_, fun post h => ?_⟩
    · exact wx_tout hk hz hn hp (fun y => absurd z y) (fun _ => h)
    · rw [h2] at h
      exact wy_out hk hz hn hq (fun y => absurd z y) (fun _ => h)
  · refine ⟨ix (12 * k + p), kd, nu, upd sz k (nI n), dl, _, _, _, _, ws_mk w k 4, ws_dc wd d k 4, h0 z, wa_mark hW hk, fun post h => ?_, fun post h => ?_⟩
    · exact wx_tout hk hz hn hp (fun _ => h) (fun y => absurd y z)
    · rw [h2] at h
      exact wy_out hk hz hn hq (fun _ => h) (fun y => absurd y z)
theorem sx_t {post : Int32 → Prop} {K o : Int32} (hf : ∀ P : Int32 → Prop, P K → wpX_kindFor P o) (hk : k < 8) (hok : K = 0 ∨ kd k = 0 ∨ kd k = K) (h : post 1) : wpX_suits post (tm, tn, kd, nu, sz, dl, ix, sx, st, wk, wo, we, wt, te, tk, w, q, qo, qk, qa, qb, rc, rs) o (nI k) := by
  have e : (nI k).toNatClampNeg = k := nI_clamp (by omega)
  have i : vp_in (nI k) 16 := vp_in_nI (by omega) (by omega)
  unfold wpX_suits
  rw [e]
  show wpX_kindFor _ _
  apply hf
  by_cases z : K = 0
  · exact br_t z h
  · refine br_f z ⟨i, ?_⟩
    by_cases z1 : kd k = 0
    · exact br_t z1 h
    · refine br_f z1 ⟨i, br_t ?_ h⟩
      rcases hok with c | c | c
      · exact absurd c z
      · exact absurd c z1
      · exact c
theorem sx_f {post : Int32 → Prop} {K o : Int32} (hf : ∀ P : Int32 → Prop, P K → wpX_kindFor P o) (hk : k < 8) (h0 : K ≠ 0) (h1 : kd k ≠ 0) (h2 : kd k ≠ K) (h : post 0) : wpX_suits post (tm, tn, kd, nu, sz, dl, ix, sx, st, wk, wo, we, wt, te, tk, w, q, qo, qk, qa, qb, rc, rs) o (nI k) := by
  have e : (nI k).toNatClampNeg = k := nI_clamp (by omega)
  have i : vp_in (nI k) 16 := vp_in_nI (by omega) (by omega)
  unfold wpX_suits
  rw [e]
  show wpX_kindFor _ _
  apply hf
  exact br_f h0 ⟨i, br_f h1 ⟨i, br_f h2 h⟩⟩
theorem kf_0 (P : Int32 → Prop) (h : P 0) : wpX_kindFor P 0 := br_f (by decide) (br_t (by decide) (br_t (by decide) (h)))
theorem kf_1 (P : Int32 → Prop) (h : P 1) : wpX_kindFor P 1 := br_t rfl h
theorem kf_2 (P : Int32 → Prop) (h : P 0) : wpX_kindFor P 2 := br_f (by decide) (br_t (by decide) (br_t (by decide) (h)))
theorem kf_3 (P : Int32 → Prop) (h : P 0) : wpX_kindFor P 3 := br_f (by decide) (br_t (by decide) (br_t (by decide) (h)))
theorem kf_4 (P : Int32 → Prop) (h : P 2) : wpX_kindFor P 4 := br_f (by decide) (br_f (by decide) (br_f (by decide) (h)))
theorem kf_5 (P : Int32 → Prop) (h : P 2) : wpX_kindFor P 5 := br_f (by decide) (br_f (by decide) (br_f (by decide) (h)))
theorem kf_6 (P : Int32 → Prop) (h : P 2) : wpX_kindFor P 6 := br_f (by decide) (br_f (by decide) (br_f (by decide) (h)))
theorem kf_7 (P : Int32 → Prop) (h : P 3) : wpX_kindFor P 7 := br_f (by decide) (br_f (by decide) (br_t (by decide) (br_f (by decide) (br_f (by decide) (h)))))
theorem kf_8 (P : Int32 → Prop) (h : P 3) : wpX_kindFor P 8 := br_f (by decide) (br_f (by decide) (br_t (by decide) (br_f (by decide) (br_f (by decide) (h)))))
theorem kf_9 (P : Int32 → Prop) (h : P 3) : wpX_kindFor P 9 := br_f (by decide) (br_f (by decide) (br_t (by decide) (br_f (by decide) (br_f (by decide) (h)))))
theorem kf_10 (P : Int32 → Prop) (h : P 3) : wpX_kindFor P 10 := br_f (by decide) (br_f (by decide) (br_t (by decide) (br_f (by decide) (br_f (by decide) (h)))))
theorem kf_11 (P : Int32 → Prop) (h : P 0) : wpX_kindFor P 11 := br_f (by decide) (br_f (by decide) (br_t (by decide) (br_f (by decide) (br_t (by decide) (h)))))
theorem sy_t0 {post : Int32 → Prop} (hk : k < 8) (h : post 0) : wpY_wrong post (tm, tn, kd, nu, sz, iy, sy, dl, st, wk, wo, we, wt, wd, d, qo, qk, qa, qb, q, rs, rc, te, tk) 0 (nI k) := by
  have e : (nI k).toNatClampNeg = k := nI_clamp (by omega)
  have i : vp_in (nI k) 16 := vp_in_nI (by omega) (by omega)
  unfold wpY_wrong
  rw [e]
  exact ⟨i, nm_e (br_c (fun _ => h) (fun _ => br_f (by decide) (br_t (by decide) (br_t (by decide) (h)))))⟩
theorem sy_t1 {post : Int32 → Prop} (hk : k < 8) (hok : kd k = 0 ∨ kd k = 1) (h : post 0) : wpY_wrong post (tm, tn, kd, nu, sz, iy, sy, dl, st, wk, wo, we, wt, wd, d, qo, qk, qa, qb, q, rs, rc, te, tk) 1 (nI k) := by
  have e : (nI k).toNatClampNeg = k := nI_clamp (by omega)
  have i : vp_in (nI k) 16 := vp_in_nI (by omega) (by omega)
  unfold wpY_wrong
  rw [e]
  refine ⟨i, nm_e ?_⟩
  rcases hok with c | c
  · exact br_t c h
  · exact br_f (by rw [c]; decide) (br_t rfl (br_t c (br_t (by decide) (br_t (by decide) h))))
theorem sy_f1 {post : Int32 → Prop} (hk : k < 8) (h1 : kd k ≠ 0) (h2 : kd k ≠ 1) (h : post 1) : wpY_wrong post (tm, tn, kd, nu, sz, iy, sy, dl, st, wk, wo, we, wt, wd, d, qo, qk, qa, qb, q, rs, rc, te, tk) 1 (nI k) := by
  have e : (nI k).toNatClampNeg = k := nI_clamp (by omega)
  have i : vp_in (nI k) 16 := vp_in_nI (by omega) (by omega)
  unfold wpY_wrong
  rw [e]
  exact ⟨i, nm_e (br_f h1 (br_t rfl (br_f h2 h)))⟩
theorem sy_t2 {post : Int32 → Prop} (hk : k < 8) (h : post 0) : wpY_wrong post (tm, tn, kd, nu, sz, iy, sy, dl, st, wk, wo, we, wt, wd, d, qo, qk, qa, qb, q, rs, rc, te, tk) 2 (nI k) := by
  have e : (nI k).toNatClampNeg = k := nI_clamp (by omega)
  have i : vp_in (nI k) 16 := vp_in_nI (by omega) (by omega)
  unfold wpY_wrong
  rw [e]
  exact ⟨i, nm_e (br_c (fun _ => h) (fun _ => br_f (by decide) (br_t (by decide) (br_t (by decide) (h)))))⟩
theorem sy_t3 {post : Int32 → Prop} (hk : k < 8) (h : post 0) : wpY_wrong post (tm, tn, kd, nu, sz, iy, sy, dl, st, wk, wo, we, wt, wd, d, qo, qk, qa, qb, q, rs, rc, te, tk) 3 (nI k) := by
  have e : (nI k).toNatClampNeg = k := nI_clamp (by omega)
  have i : vp_in (nI k) 16 := vp_in_nI (by omega) (by omega)
  unfold wpY_wrong
  rw [e]
  exact ⟨i, nm_e (br_c (fun _ => h) (fun _ => br_f (by decide) (br_t (by decide) (br_t (by decide) (h)))))⟩
theorem sy_t4 {post : Int32 → Prop} (hk : k < 8) (hok : kd k = 0 ∨ kd k = 2) (h : post 0) : wpY_wrong post (tm, tn, kd, nu, sz, iy, sy, dl, st, wk, wo, we, wt, wd, d, qo, qk, qa, qb, q, rs, rc, te, tk) 4 (nI k) := by
  have e : (nI k).toNatClampNeg = k := nI_clamp (by omega)
  have i : vp_in (nI k) 16 := vp_in_nI (by omega) (by omega)
  unfold wpY_wrong
  rw [e]
  refine ⟨i, nm_e ?_⟩
  rcases hok with c | c
  · exact br_t c h
  · exact br_f (by rw [c]; decide) (br_f (by decide) (br_f (by decide) (br_f (by decide) (br_t c (br_t (by decide) h)))))
theorem sy_f4 {post : Int32 → Prop} (hk : k < 8) (h1 : kd k ≠ 0) (h2 : kd k ≠ 2) (h : post 1) : wpY_wrong post (tm, tn, kd, nu, sz, iy, sy, dl, st, wk, wo, we, wt, wd, d, qo, qk, qa, qb, q, rs, rc, te, tk) 4 (nI k) := by
  have e : (nI k).toNatClampNeg = k := nI_clamp (by omega)
  have i : vp_in (nI k) 16 := vp_in_nI (by omega) (by omega)
  unfold wpY_wrong
  rw [e]
  exact ⟨i, nm_e (br_f h1 (br_f (by decide) (br_f (by decide) (br_f (by decide) (br_f h2 h)))))⟩
theorem sy_t5 {post : Int32 → Prop} (hk : k < 8) (hok : kd k = 0 ∨ kd k = 2) (h : post 0) : wpY_wrong post (tm, tn, kd, nu, sz, iy, sy, dl, st, wk, wo, we, wt, wd, d, qo, qk, qa, qb, q, rs, rc, te, tk) 5 (nI k) := by
  have e : (nI k).toNatClampNeg = k := nI_clamp (by omega)
  have i : vp_in (nI k) 16 := vp_in_nI (by omega) (by omega)
  unfold wpY_wrong
  rw [e]
  refine ⟨i, nm_e ?_⟩
  rcases hok with c | c
  · exact br_t c h
  · exact br_f (by rw [c]; decide) (br_f (by decide) (br_f (by decide) (br_f (by decide) (br_t c (br_t (by decide) h)))))
theorem sy_f5 {post : Int32 → Prop} (hk : k < 8) (h1 : kd k ≠ 0) (h2 : kd k ≠ 2) (h : post 1) : wpY_wrong post (tm, tn, kd, nu, sz, iy, sy, dl, st, wk, wo, we, wt, wd, d, qo, qk, qa, qb, q, rs, rc, te, tk) 5 (nI k) := by
  have e : (nI k).toNatClampNeg = k := nI_clamp (by omega)
  have i : vp_in (nI k) 16 := vp_in_nI (by omega) (by omega)
  unfold wpY_wrong
  rw [e]
  exact ⟨i, nm_e (br_f h1 (br_f (by decide) (br_f (by decide) (br_f (by decide) (br_f h2 h)))))⟩
theorem sy_t6 {post : Int32 → Prop} (hk : k < 8) (hok : kd k = 0 ∨ kd k = 2) (h : post 0) : wpY_wrong post (tm, tn, kd, nu, sz, iy, sy, dl, st, wk, wo, we, wt, wd, d, qo, qk, qa, qb, q, rs, rc, te, tk) 6 (nI k) := by
  have e : (nI k).toNatClampNeg = k := nI_clamp (by omega)
  have i : vp_in (nI k) 16 := vp_in_nI (by omega) (by omega)
  unfold wpY_wrong
  rw [e]
  refine ⟨i, nm_e ?_⟩
  rcases hok with c | c
  · exact br_t c h
  · exact br_f (by rw [c]; decide) (br_f (by decide) (br_f (by decide) (br_f (by decide) (br_t c (br_t (by decide) h)))))
theorem sy_f6 {post : Int32 → Prop} (hk : k < 8) (h1 : kd k ≠ 0) (h2 : kd k ≠ 2) (h : post 1) : wpY_wrong post (tm, tn, kd, nu, sz, iy, sy, dl, st, wk, wo, we, wt, wd, d, qo, qk, qa, qb, q, rs, rc, te, tk) 6 (nI k) := by
  have e : (nI k).toNatClampNeg = k := nI_clamp (by omega)
  have i : vp_in (nI k) 16 := vp_in_nI (by omega) (by omega)
  unfold wpY_wrong
  rw [e]
  exact ⟨i, nm_e (br_f h1 (br_f (by decide) (br_f (by decide) (br_f (by decide) (br_f h2 h)))))⟩
theorem sy_t7 {post : Int32 → Prop} (hk : k < 8) (hok : kd k = 0 ∨ kd k = 3) (h : post 0) : wpY_wrong post (tm, tn, kd, nu, sz, iy, sy, dl, st, wk, wo, we, wt, wd, d, qo, qk, qa, qb, q, rs, rc, te, tk) 7 (nI k) := by
  have e : (nI k).toNatClampNeg = k := nI_clamp (by omega)
  have i : vp_in (nI k) 16 := vp_in_nI (by omega) (by omega)
  unfold wpY_wrong
  rw [e]
  refine ⟨i, nm_e ?_⟩
  rcases hok with c | c
  · exact br_t c h
  · exact br_f (by rw [c]; decide) (br_f (by decide) (br_f (by decide) (br_t (by decide) (br_f (by decide) (br_f (by decide) (br_t c h))))))
theorem sy_f7 {post : Int32 → Prop} (hk : k < 8) (h1 : kd k ≠ 0) (h2 : kd k ≠ 3) (h : post 1) : wpY_wrong post (tm, tn, kd, nu, sz, iy, sy, dl, st, wk, wo, we, wt, wd, d, qo, qk, qa, qb, q, rs, rc, te, tk) 7 (nI k) := by
  have e : (nI k).toNatClampNeg = k := nI_clamp (by omega)
  have i : vp_in (nI k) 16 := vp_in_nI (by omega) (by omega)
  unfold wpY_wrong
  rw [e]
  exact ⟨i, nm_e (br_f h1 (br_f (by decide) (br_f (by decide) (br_t (by decide) (br_f (by decide) (br_f (by decide) (br_f h2 h)))))))⟩
theorem sy_t8 {post : Int32 → Prop} (hk : k < 8) (hok : kd k = 0 ∨ kd k = 3) (h : post 0) : wpY_wrong post (tm, tn, kd, nu, sz, iy, sy, dl, st, wk, wo, we, wt, wd, d, qo, qk, qa, qb, q, rs, rc, te, tk) 8 (nI k) := by
  have e : (nI k).toNatClampNeg = k := nI_clamp (by omega)
  have i : vp_in (nI k) 16 := vp_in_nI (by omega) (by omega)
  unfold wpY_wrong
  rw [e]
  refine ⟨i, nm_e ?_⟩
  rcases hok with c | c
  · exact br_t c h
  · exact br_f (by rw [c]; decide) (br_f (by decide) (br_f (by decide) (br_t (by decide) (br_f (by decide) (br_f (by decide) (br_t c h))))))
theorem sy_f8 {post : Int32 → Prop} (hk : k < 8) (h1 : kd k ≠ 0) (h2 : kd k ≠ 3) (h : post 1) : wpY_wrong post (tm, tn, kd, nu, sz, iy, sy, dl, st, wk, wo, we, wt, wd, d, qo, qk, qa, qb, q, rs, rc, te, tk) 8 (nI k) := by
  have e : (nI k).toNatClampNeg = k := nI_clamp (by omega)
  have i : vp_in (nI k) 16 := vp_in_nI (by omega) (by omega)
  unfold wpY_wrong
  rw [e]
  exact ⟨i, nm_e (br_f h1 (br_f (by decide) (br_f (by decide) (br_t (by decide) (br_f (by decide) (br_f (by decide) (br_f h2 h)))))))⟩
theorem sy_t9 {post : Int32 → Prop} (hk : k < 8) (hok : kd k = 0 ∨ kd k = 3) (h : post 0) : wpY_wrong post (tm, tn, kd, nu, sz, iy, sy, dl, st, wk, wo, we, wt, wd, d, qo, qk, qa, qb, q, rs, rc, te, tk) 9 (nI k) := by
  have e : (nI k).toNatClampNeg = k := nI_clamp (by omega)
  have i : vp_in (nI k) 16 := vp_in_nI (by omega) (by omega)
  unfold wpY_wrong
  rw [e]
  refine ⟨i, nm_e ?_⟩
  rcases hok with c | c
  · exact br_t c h
  · exact br_f (by rw [c]; decide) (br_f (by decide) (br_f (by decide) (br_t (by decide) (br_f (by decide) (br_f (by decide) (br_t c h))))))
theorem sy_f9 {post : Int32 → Prop} (hk : k < 8) (h1 : kd k ≠ 0) (h2 : kd k ≠ 3) (h : post 1) : wpY_wrong post (tm, tn, kd, nu, sz, iy, sy, dl, st, wk, wo, we, wt, wd, d, qo, qk, qa, qb, q, rs, rc, te, tk) 9 (nI k) := by
  have e : (nI k).toNatClampNeg = k := nI_clamp (by omega)
  have i : vp_in (nI k) 16 := vp_in_nI (by omega) (by omega)
  unfold wpY_wrong
  rw [e]
  exact ⟨i, nm_e (br_f h1 (br_f (by decide) (br_f (by decide) (br_t (by decide) (br_f (by decide) (br_f (by decide) (br_f h2 h)))))))⟩
theorem sy_t10 {post : Int32 → Prop} (hk : k < 8) (hok : kd k = 0 ∨ kd k = 3) (h : post 0) : wpY_wrong post (tm, tn, kd, nu, sz, iy, sy, dl, st, wk, wo, we, wt, wd, d, qo, qk, qa, qb, q, rs, rc, te, tk) 10 (nI k) := by
  have e : (nI k).toNatClampNeg = k := nI_clamp (by omega)
  have i : vp_in (nI k) 16 := vp_in_nI (by omega) (by omega)
  unfold wpY_wrong
  rw [e]
  refine ⟨i, nm_e ?_⟩
  rcases hok with c | c
  · exact br_t c h
  · exact br_f (by rw [c]; decide) (br_f (by decide) (br_f (by decide) (br_t (by decide) (br_f (by decide) (br_f (by decide) (br_t c h))))))
theorem sy_f10 {post : Int32 → Prop} (hk : k < 8) (h1 : kd k ≠ 0) (h2 : kd k ≠ 3) (h : post 1) : wpY_wrong post (tm, tn, kd, nu, sz, iy, sy, dl, st, wk, wo, we, wt, wd, d, qo, qk, qa, qb, q, rs, rc, te, tk) 10 (nI k) := by
  have e : (nI k).toNatClampNeg = k := nI_clamp (by omega)
  have i : vp_in (nI k) 16 := vp_in_nI (by omega) (by omega)
  unfold wpY_wrong
  rw [e]
  exact ⟨i, nm_e (br_f h1 (br_f (by decide) (br_f (by decide) (br_t (by decide) (br_f (by decide) (br_f (by decide) (br_f h2 h)))))))⟩
theorem sy_t11 {post : Int32 → Prop} (hk : k < 8) (h : post 0) : wpY_wrong post (tm, tn, kd, nu, sz, iy, sy, dl, st, wk, wo, we, wt, wd, d, qo, qk, qa, qb, q, rs, rc, te, tk) 11 (nI k) := by
  have e : (nI k).toNatClampNeg = k := nI_clamp (by omega)
  have i : vp_in (nI k) 16 := vp_in_nI (by omega) (by omega)
  unfold wpY_wrong
  rw [e]
  exact ⟨i, nm_e (br_c (fun _ => h) (fun _ => br_f (by decide) (br_f (by decide) (br_t (by decide) (br_f (by decide) (br_t (by decide) (h)))))))⟩
end PF
