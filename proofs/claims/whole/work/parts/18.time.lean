section TM
variable {tm : Int32} {tn : Int64} {kd nu sz dl ix sx iy sy st wk wo we w wd d q qo qk qa qb rc ra : Nat → Int32} {wt te tk tf tg rs : Nat → Int64}
/-! W: tick -/
theorem xe_t {post : Int32 → Prop} {k : Nat} (hk : k < 16) (h1 : dl k ≠ 0) (h2 : ¬ tm < dl k) (h : post 1) : wpX_isExpired post (tm, tn, kd, nu, sz, dl, ix, sx, st, wk, wo, we, wt, te, tk, w, q, qo, qk, qa, qb, rc, rs) (nI k) := by
  have e : (nI k).toNatClampNeg = k := nI_clamp (by omega)
  have i : vp_in (nI k) 16 := vp_in_nI hk (by omega)
  unfold wpX_isExpired
  rw [e]
  exact ⟨i, br_f h1 ⟨i, br_f h2 h⟩⟩
theorem xe_f {post : Int32 → Prop} {k : Nat} (hk : k < 16) (h1 : dl k = 0 ∨ tm < dl k) (h : post 0) : wpX_isExpired post (tm, tn, kd, nu, sz, dl, ix, sx, st, wk, wo, we, wt, te, tk, w, q, qo, qk, qa, qb, rc, rs) (nI k) := by
  have e : (nI k).toNatClampNeg = k := nI_clamp (by omega)
  have i : vp_in (nI k) 16 := vp_in_nI hk (by omega)
  unfold wpX_isExpired
  rw [e]
  refine ⟨i, ?_⟩
  by_cases z : dl k = 0
  · exact br_t z h
  · exact br_f z ⟨i, br_t (h1.resolve_left z) h⟩
theorem lk_exp : ∀ m i, i + m = 8 → ∀ (kd nu sz dl ix sx iy sy w d : Nat → Int32) (x : Int32), st_R kd sz dl ix sx iy sy → wa_R w wd d →
    ∃ (x' : Int32) (kd' nu' sz' dl' ix' sx' iy' sy' w' d' : Nat → Int32), st_R kd' sz' dl' ix' sx' iy' sy' ∧ wa_R w' wd d' ∧
    (∀ post : Int32 → SX → Prop, post x' (tm, tn, kd', nu', sz', dl', ix', sx', st, wk, wo, we, wt, te, tk, w', q, qo, qk, qa, qb, rc, rs) → wX_expireKeys_4 post (m + 1) x (nI i) tm tn kd nu sz dl ix sx st wk wo we wt te tk w q qo qk qa qb rc rs) ∧
    (∀ post : Int32 → SY → Prop, (∃ n, wY_tick_89 post x' tm tn n 0 kd' nu' sz' iy' sy' dl' st wk wo we wt wd d' qo qk qa qb q rs rc te tk) → wY_tick_37 post (m + 1) x (nI i) tm tn kd nu sz iy sy dl st wk wo we wt wd d qo qk qa qb q rs rc te tk) := by
  intro m
  induction m with
  | zero =>
    intro i hi kd nu sz dl ix sx iy sy w d x hS hW
    obtain rfl : i = 8 := by omega
    exact ⟨x, kd, nu, sz, dl, ix, sx, iy, sy, w, d, hS, hW, fun post h => br_t (nI_le (a := 8) (b := 8) (by omega) (by omega)) h, fun post h => br_t (nI_le (a := 8) (b := 8) (by omega) (by omega)) h⟩
  | succ m ih =>
    intro i hi kd nu sz dl ix sx iy sy w d x hS hW
    have c1 : ¬ (8 : Int32) ≤ nI i := nI_ge (b := 8) (by omega) (by decide)
    have e : (nI i).toNatClampNeg = i := nI_clamp (by omega)
    have v : vp_in (nI i) 16 := vp_in_nI (by omega) (by omega)
    by_cases z : dl i = 0 ∨ tm < dl i
    · obtain ⟨x', kd', nu', sz', dl', ix', sx', iy', sy', w', d', r1, r2, rx, ry⟩ := ih (i + 1) (by omega) kd nu sz dl ix sx iy sy w d x hS hW
      refine ⟨x', kd', nu', sz', dl', ix', sx', iy', sy', w', d', r1, r2, fun post h => ?_, fun post h => ?_⟩
      · exact br_f c1 (xe_f (by omega) z (br_t rfl (nm_r (nI_1 i) (rx post h))))
      · refine br_f c1 ?_
        rw [e]
        refine ⟨v, ?_⟩
        by_cases z0 : dl i = 0
        · exact br_t z0 (nm_r (nI_1 i) (ry post h))
        · exact br_f z0 ⟨v, br_f (Int32.not_le.mpr (z.resolve_left z0)) (nm_r (nI_1 i) (ry post h))⟩
    · have z0 : dl i ≠ 0 := fun y => z (Or.inl y)
      have z1 : ¬ tm < dl i := fun y => z (Or.inr y)
      obtain ⟨x', kd', nu', sz', dl', ix', sx', iy', sy', w', d', r1, r2, rx, ry⟩ := ih (i + 1) (by omega) (upd kd i 0) (upd nu i 0) (upd sz i 0) (upd dl i 0) ix sx iy sy (ws_mk w i 4) (ws_dc wd d i 4) (x + 1) (st_clear hS i) (wa_mark hW (by omega))
      refine ⟨x', kd', nu', sz', dl', ix', sx', iy', sy', w', d', r1, r2, fun post h => ?_, fun post h => ?_⟩
      · exact br_f c1 (xe_t (by omega) z0 z1 (br_f (by decide) (wx_clear (by omega) (wx_mark (by omega) (nm_e (nm_r (nI_1 i) (rx post h)))))))
      · refine br_f c1 ?_
        rw [e]
        exact ⟨v, br_f z0 ⟨v, br_t (Int32.not_lt.mp z1) (wy_clear (by omega) (wy_mark (by omega) (nm_e (nm_r (nI_1 i) (ry post h)))))⟩⟩
theorem wx_end_l {post : SX → Prop} (h : post (tm, tn, kd, nu, sz, dl, ix, sx, ws_ew st we tm 4, wk, wo, we, wt, te, tk, w, q, qo, qk, qa, qb, rc, rs)) : ∀ m i, i + m = 4 → wX_endWaiting_2 post tm tn (m + 1) (nI i) kd nu sz dl ix sx (ws_ew st we tm i) wk wo we wt te tk w q qo qk qa qb rc rs := by
  intro m
  induction m with
  | zero =>
    intro i hi
    obtain rfl : i = 4 := by omega
    exact br_t (nI_le (a := 4) (b := 4) (by omega) (by omega)) h
  | succ m ih =>
    intro i hi
    have c1 : ¬ (4 : Int32) ≤ nI i := nI_ge (b := 4) (by omega) (by decide)
    have e : (nI i).toNatClampNeg = i := nI_clamp (by omega)
    have v : vp_in (nI i) 4 := vp_in_nI (by omega) (by omega)
    have g := ih (i + 1) (by omega)
    have no : ¬ (st i = 1 ∧ we i ≠ 0 ∧ we i ≤ tm) → wX_endWaiting_2 post tm tn (m + 1) (nI (i + 1)) kd nu sz dl ix sx (ws_ew st we tm i) wk wo we wt te tk w q qo qk qa qb rc rs := by
      intro z
      rw [ws_ewn z]
      exact g
    refine br_f c1 ?_
    unfold wpX_hasEnd
    rw [e]
    show _ ∧ _
    rw [ws_ew_at]
    refine ⟨v, ?_⟩
    by_cases a : st i = 1
    · refine br_t a ⟨v, ?_⟩
      by_cases b : we i = 0
      · exact br_t b (br_t rfl (nm_r (nI_1 i) (no (fun z => z.2.1 b))))
      · refine br_f b (br_f (by decide) ⟨v, ?_⟩)
        by_cases c : tm < we i
        · exact br_t c (nm_r (nI_1 i) (no (fun z => Int32.not_le.mpr c z.2.2)))
        · exact br_f c ⟨v, nm_r (ws_ews ⟨a, b, Int32.not_lt.mp c⟩) (nm_r (nI_1 i) g)⟩
    · exact br_f a (br_t rfl (nm_r (nI_1 i) (no (fun z => a z.1))))
theorem wx_end {post : SX → Prop} (h : post (tm, tn, kd, nu, sz, dl, ix, sx, ws_ew st we tm 4, wk, wo, we, wt, te, tk, w, q, qo, qk, qa, qb, rc, rs)) : wpX_endWaiting post (tm, tn, kd, nu, sz, dl, ix, sx, st, wk, wo, we, wt, te, tk, w, q, qo, qk, qa, qb, rc, rs) := by
  have g := wx_end_l h 4 0 rfl
  rw [ws_ew0] at g
  exact ⟨5, g⟩
theorem wy_end_l {post : Int32 → SY → Prop} {x : Int32} (hw : ∀ c, c < 4 → (0 : Int32) ≤ we c) (h : post x (tm, tn, kd, nu, sz, iy, sy, dl, ws_ew st we tm 4, wk, wo, we, wt, wd, d, qo, qk, qa, qb, q, rs, rc, te, tk)) : ∀ m i, i + m = 4 → wY_tick_89 post x tm tn (m + 1) (nI i) kd nu sz iy sy dl (ws_ew st we tm i) wk wo we wt wd d qo qk qa qb q rs rc te tk := by
  intro m
  induction m with
  | zero =>
    intro i hi
    obtain rfl : i = 4 := by omega
    exact br_t (nI_le (a := 4) (b := 4) (by omega) (by omega)) h
  | succ m ih =>
    intro i hi
    have c1 : ¬ (4 : Int32) ≤ nI i := nI_ge (b := 4) (by omega) (by decide)
    have e : (nI i).toNatClampNeg = i := nI_clamp (by omega)
    have v : vp_in (nI i) 4 := vp_in_nI (by omega) (by omega)
    have g := ih (i + 1) (by omega)
    have no : ¬ (st i = 1 ∧ we i ≠ 0 ∧ we i ≤ tm) → wY_tick_89 post x tm tn (m + 1) (nI (i + 1)) kd nu sz iy sy dl (ws_ew st we tm i) wk wo we wt wd d qo qk qa qb q rs rc te tk := by
      intro z
      rw [ws_ewn z]
      exact g
    refine br_f c1 ?_
    rw [e, ws_ew_at]
    refine ⟨v, ?_⟩
    by_cases a : st i = 1
    · refine br_t a ⟨v, ?_⟩
      by_cases b : we i ≤ 0
      · exact br_t b (nm_r (nI_1 i) (no (fun z => z.2.1 (Int32.le_antisymm b (hw i (by omega))))))
      · refine br_f b ⟨v, ?_⟩
        by_cases c : tm < we i
        · exact br_t c (nm_r (nI_1 i) (no (fun z => Int32.not_le.mpr c z.2.2)))
        · exact br_f c ⟨v, nm_r (ws_ews ⟨a, fun y => b (by rw [y]; decide), Int32.not_lt.mp c⟩) (nm_r (nI_1 i) g)⟩
    · exact br_f a (nm_r (nI_1 i) (no (fun z => a z.1)))
theorem wy_end {post : Int32 → SY → Prop} {x : Int32} (hw : ∀ c, c < 4 → (0 : Int32) ≤ we c) (h : post x (tm, tn, kd, nu, sz, iy, sy, dl, ws_ew st we tm 4, wk, wo, we, wt, wd, d, qo, qk, qa, qb, q, rs, rc, te, tk)) : ∃ n, wY_tick_89 post x tm tn n 0 kd nu sz iy sy dl st wk wo we wt wd d qo qk qa qb q rs rc te tk := by
  have g := wy_end_l hw h 4 0 rfl
  rw [ws_ew0] at g
  exact ⟨5, g⟩
theorem i_vc_tick {k : Nat} {u : SX} {v : SY} (I : i_Rel k u v) (hk : k + 6 ≤ 3072) (v1 : Int32) : wpX_tick (fun r u' => wpY_tick (fun r' v' => r' = r ∧ i_Rel (k + 6) u' v') v v1) u v1 := by
  have I6 := i_up I
  obtain ⟨tm, tn, kd, nu, sz, dl, ix, sx, iy, sy, st, wk, wo, we, w, wd, d, q, qo, qk, qa, qb, rc, wt, te, tk, rs, rfl, rfl, ⟨t, ht, rfl⟩, hS, hW, hC⟩ := I
  rcases rl_cs v1 51 (by omega) with hn | ⟨m, hm, rfl⟩
  · have g : wpY_tick (fun r' v' => r' = -1 ∧ i_Rel (k + 6) (nI t, tn, kd, nu, sz, dl, ix, sx, st, wk, wo, we, wt, te, tk, w, q, qo, qk, qa, qb, rc, rs) v') (nI t, tn, kd, nu, sz, iy, sy, dl, st, wk, wo, we, wt, wd, d, qo, qk, qa, qb, q, rs, rc, te, tk) v1 := by
      unfold wpY_tick
      exact ya_f (n := 51) hn (br_t rfl ⟨rfl, I6⟩)
    unfold wpX_tick
    refine br_c (fun _ => g) (fun y => br_t ?_ g)
    have h4 := hn.resolve_left y
    rw [Int32.le_iff_toInt_le, nI_toInt (by omega)] at h4
    rw [Int32.lt_iff_toInt_lt, show (50 : Int32).toInt = 50 from by decide]
    omega
  · have eL : (1000000000 : Int32) - nI m = nI (1000000000 - m) := pk_sub (a := 1000000000) (by omega)
    unfold wpX_tick
    refine br_f (nI_pos (by omega)) (br_f (nI_nlt (b := m) (a := 50) (by omega) (by omega)) ?_)
    rw [eL]
    by_cases z : t + m ≤ 1000000000
    · refine br_t (nI_le (by omega) (by omega)) (nm_r (nI_add t m) ?_)
      obtain ⟨x', kd', nu', sz', dl', ix', sx', iy', sy', w', d', r1, r2, rx, ry⟩ := lk_exp (tm := nI (t + m)) (tn := tn) (st := st) (wk := wk) (wo := wo) (we := we) (wt := wt) (te := te) (tk := tk) (q := q) (qo := qo) (qk := qk) (qa := qa) (qb := qb) (rc := rc) (rs := rs) 8 0 rfl kd nu sz dl ix sx iy sy w d 0 hS hW
      have R : i_Rel (k + 6) (nI (t + m), tn, kd', nu', sz', dl', ix', sx', ws_ew st we (nI (t + m)) 4, wk, wo, we, wt, te, tk, w', q, qo, qk, qa, qb, rc, rs) (nI (t + m), tn, kd', nu', sz', iy', sy', dl', ws_ew st we (nI (t + m)) 4, wk, wo, we, wt, wd, d', qo, qk, qa, qb, q, rs, rc, te, tk) := rl_i ⟨⟨t + m, z, rfl⟩, r1, r2, cl_ew hC _⟩
      refine ⟨9, rx _ (wx_end ?_)⟩
      unfold wpY_tick
      refine ya_t (n := 51) hm (by omega) (br_f (by decide) (br_t ?_ (nm_r (nI_add t m) ⟨9, ry _ (wy_end (fun c hc => (hC c hc).2.1) ⟨rfl, R⟩)⟩)))
      rw [nI_add]
      exact nI_le (b := 1000000000) z (by omega)
    · refine br_f (nI_ge (by omega) (by omega)) ?_
      unfold wpY_tick
      refine ya_t (n := 51) hm (by omega) (br_f (by decide) (br_f ?_ ⟨rfl, I6⟩))
      rw [nI_add]
      exact nI_ge (a := 1000000000) (by omega) (by omega)
/-! X: sync -/
theorem lk_sync : ∀ m i, i + m = 8 → ∀ (kd nu sz dl ix sx iy sy : Nat → Int32), st_R kd sz dl ix sx iy sy →
    ∃ (kd' nu' sz' dl' ix' sx' iy' sy' : Nat → Int32), st_R kd' sz' dl' ix' sx' iy' sy' ∧
    (∀ post : SX → Prop, post (tm, tn, kd', nu', sz', dl', ix', sx', st, wk, wo, we, wt, te, tk, w, q, qo, qk, qa, qb, rc, rs) → wX_sync_2 post (m + 1) (nI i) tm tn kd nu sz dl ix sx st wk wo we wt te tk w q qo qk qa qb rc rs) ∧
    (∀ post : SY → Prop, post (tm, tn, kd', nu', sz', iy', sy', dl', st, wk, wo, we, wt, wd, d, qo, qk, qa, qb, q, rs, rc, te, tk) → wY_sync_2 post (m + 1) (nI i) tm tn kd nu sz iy sy dl st wk wo we wt wd d qo qk qa qb q rs rc te tk) := by
  intro m
  induction m with
  | zero =>
    intro i hi kd nu sz dl ix sx iy sy hS
    obtain rfl : i = 8 := by omega
    exact ⟨kd, nu, sz, dl, ix, sx, iy, sy, hS, fun post h => br_t (nI_le (a := 8) (b := 8) (by omega) (by omega)) h, fun post h => br_t (nI_le (a := 8) (b := 8) (by omega) (by omega)) h⟩
  | succ m ih =>
    intro i hi kd nu sz dl ix sx iy sy hS
    have c1 : ¬ (8 : Int32) ≤ nI i := nI_ge (b := 8) (by omega) (by decide)
    obtain ⟨kd', nu', sz', dl', ix', sx', iy', sy', r1, rx, ry⟩ := ih (i + 1) (by omega) _ (upd nu (8 + i) (nu i)) _ _ _ _ _ _ (st_copy hS (s := i) (t := 8 + i) (by omega))
    refine ⟨kd', nu', sz', dl', ix', sx', iy', sy', r1, fun post h => ?_, fun post h => ?_⟩
    · refine br_f c1 ?_
      rw [nu_8p]
      exact wx_cpy (by omega) (by omega) (by omega) (nm_r (nI_1 i) (rx post h))
    · refine br_f c1 ?_
      rw [nu_8p]
      exact wy_cpy (by omega) (by omega) (by omega) (nm_r (nI_1 i) (ry post h))
theorem i_vc_sync {k : Nat} {u : SX} {v : SY} (I : i_Rel k u v) (hk : k + 6 ≤ 3072) : wpX_sync (fun u' => wpY_sync (fun v' => i_Rel (k + 6) u' v') v) u := by
  obtain ⟨tm, tn, kd, nu, sz, dl, ix, sx, iy, sy, st, wk, wo, we, w, wd, d, q, qo, qk, qa, qb, rc, wt, te, tk, rs, rfl, rfl, hT, hS, hW, hC⟩ := I
  obtain ⟨kd', nu', sz', dl', ix', sx', iy', sy', r1, rx, ry⟩ := lk_sync (tm := tm) (tn := tn) (st := st) (wk := wk) (wo := wo) (we := we) (wt := wt) (te := te) (tk := tk) (w := w) (wd := wd) (d := d) (q := q) (qo := qo) (qk := qk) (qa := qa) (qb := qb) (rc := rc) (rs := rs) 8 0 rfl kd nu sz dl ix sx iy sy hS
  have R : i_Rel (k + 6) (tm, tn, kd', nu', sz', dl', ix', sx', st, wk, wo, we, wt, te, tk, w, q, qo, qk, qa, qb, rc, rs) (tm, tn, kd', nu', sz', iy', sy', dl', st, wk, wo, we, wt, wd, d, qo, qk, qa, qb, q, rs, rc, te, tk) := rl_i ⟨hT, r1, hW, hC⟩
  exact ⟨9, rx _ ⟨9, ry _ R⟩⟩
/-! Y: crash -/
theorem wy_c66 {post : Int32 → SY → Prop} {x : Int32} (h : post x (tm, tn, kd, nu, sz, iy, sy, dl, ws_z st 4, wk, wo, we, wt, ws_z wd 4, ws_z d 4, qo, qk, qa, qb, ws_z q 4, rs, ws_z rc 4, ws_zL te 10000000006 4, ws_zL tk 10000000006 4)) : ∀ m i, i + m = 4 → wY_crash_66 post x (m + 1) (nI i) tm tn kd nu sz iy sy dl (ws_z st i) wk wo we wt (ws_z wd i) (ws_z d i) qo qk qa qb (ws_z q i) rs (ws_z rc i) (ws_zL te 10000000006 i) (ws_zL tk 10000000006 i) := by
  intro m
  induction m with
  | zero =>
    intro i hi
    obtain rfl : i = 4 := by omega
    exact br_t (nI_le (a := 4) (b := 4) (by omega) (by omega)) h
  | succ m ih =>
    intro i hi
    have c1 : ¬ (4 : Int32) ≤ nI i := nI_ge (b := 4) (by omega) (by decide)
    have e : (nI i).toNatClampNeg = i := nI_clamp (by omega)
    have v : vp_in (nI i) 4 := vp_in_nI (by omega) (by omega)
    refine br_f c1 (wy_unwatch (by omega) ⟨v, ?_⟩)
    rw [e, ws_zs, ws_zs, ws_zs, ws_zs, ws_zs]
    refine nm_e (wy_forget (by omega) ?_)
    rw [ws_zLs, ws_zLs]
    exact nm_r (nI_1 i) (ih (i + 1) (by omega))
theorem wy_c66' {post : Int32 → SY → Prop} {x : Int32} (h : post x (tm, tn, kd, nu, sz, iy, sy, dl, ws_z st 4, wk, wo, we, wt, ws_z wd 4, ws_z d 4, qo, qk, qa, qb, ws_z q 4, rs, ws_z rc 4, ws_zL te 10000000006 4, ws_zL tk 10000000006 4)) : ∃ n, wY_crash_66 post x n 0 tm tn kd nu sz iy sy dl st wk wo we wt wd d qo qk qa qb q rs rc te tk := by
  have g := wy_c66 h 4 0 rfl
  rw [ws_z0, ws_z0, ws_z0, ws_z0, ws_z0, ws_zL0, ws_zL0] at g
  exact ⟨5, g⟩
theorem lk_crash : ∀ m i, i + m = 8 → ∀ (kd nu sz dl ix sx iy sy : Nat → Int32) (x : Int32), st_R kd sz dl ix sx iy sy →
    ∃ (x' : Int32) (kd' nu' sz' dl' ix' sx' iy' sy' : Nat → Int32), st_R kd' sz' dl' ix' sx' iy' sy' ∧
    (∀ post : Int32 → SX → Prop, wpX_resetClients (fun u => post x' u) (tm, tn, kd', nu', sz', dl', ix', sx', st, wk, wo, we, wt, te, tk, w, q, qo, qk, qa, qb, rc, rs) → wX_crash_4 post (m + 1) x (nI i) tm tn kd nu sz dl ix sx st wk wo we wt te tk w q qo qk qa qb rc rs) ∧
    (∀ post : Int32 → SY → Prop, (∃ n, wY_crash_66 post x' n 0 tm tn kd' nu' sz' iy' sy' dl' st wk wo we wt wd d qo qk qa qb q rs rc te tk) → wY_crash_4 post (m + 1) x (nI i) tm tn kd nu sz iy sy dl st wk wo we wt wd d qo qk qa qb q rs rc te tk) := by
  intro m
  induction m with
  | zero =>
    intro i hi kd nu sz dl ix sx iy sy x hS
    obtain rfl : i = 8 := by omega
    exact ⟨x, kd, nu, sz, dl, ix, sx, iy, sy, hS, fun post h => br_t (nI_le (a := 8) (b := 8) (by omega) (by omega)) h, fun post h => br_t (nI_le (a := 8) (b := 8) (by omega) (by omega)) h⟩
  | succ m ih =>
    intro i hi kd nu sz dl ix sx iy sy x hS
    have c1 : ¬ (8 : Int32) ≤ nI i := nI_ge (b := 8) (by omega) (by decide)
    have e : (nI i).toNatClampNeg = i := nI_clamp (by omega)
    have v : vp_in (nI i) 16 := vp_in_nI (by omega) (by omega)
    have s32 : ∀ (kd nu sz dl ix sx iy sy : Nat → Int32), st_R kd sz dl ix sx iy sy →
        ∃ (x' : Int32) (kd' nu' sz' dl' ix' sx' iy' sy' : Nat → Int32), st_R kd' sz' dl' ix' sx' iy' sy' ∧
        (∀ post : Int32 → SX → Prop, wpX_resetClients (fun u => post x' u) (tm, tn, kd', nu', sz', dl', ix', sx', st, wk, wo, we, wt, te, tk, w, q, qo, qk, qa, qb, rc, rs) → wX_crash_32 post (wX_crash_4 post (m + 1)) x (nI i) tm tn kd nu sz dl ix sx st wk wo we wt te tk w q qo qk qa qb rc rs) ∧
        (∀ post : Int32 → SY → Prop, (∃ n, wY_crash_66 post x' n 0 tm tn kd' nu' sz' iy' sy' dl' st wk wo we wt wd d qo qk qa qb q rs rc te tk) → wY_crash_46 post (wY_crash_4 post (m + 1)) x (nI i) tm tn kd nu sz iy sy dl st wk wo we wt wd d qo qk qa qb q rs rc te tk) := by
      intro kd nu sz dl ix sx iy sy hS
      by_cases y : kd i = 0
      · obtain ⟨x', kd', nu', sz', dl', ix', sx', iy', sy', r1, rx, ry⟩ := ih (i + 1) (by omega) kd nu sz dl ix sx iy sy x hS
        refine ⟨x', kd', nu', sz', dl', ix', sx', iy', sy', r1, fun post h => ?_, fun post h => ?_⟩
        · unfold wX_crash_32
          rw [e]
          exact ⟨v, br_t y (nm_r (nI_1 i) (rx post h))⟩
        · unfold wY_crash_46
          rw [e]
          exact ⟨v, br_t (by rw [y]; decide) (nm_r (nI_1 i) (ry post h))⟩
      · obtain ⟨x', kd', nu', sz', dl', ix', sx', iy', sy', r1, rx, ry⟩ := ih (i + 1) (by omega) kd nu sz dl ix sx iy sy (x + 1) hS
        refine ⟨x', kd', nu', sz', dl', ix', sx', iy', sy', r1, fun post h => ?_, fun post h => ?_⟩
        · unfold wX_crash_32
          rw [e]
          exact ⟨v, br_f y (nm_e (nm_r (nI_1 i) (rx post h)))⟩
        · unfold wY_crash_46
          rw [e]
          refine ⟨v, br_f ?_ (nm_e (nm_r (nI_1 i) (ry post h)))⟩
          obtain ⟨n, _, _, hc⟩ := st_n hS (k := i) (by omega)
          rcases hc with c | c | c | c
          · exact absurd c.1 y
          · rw [c.1]; decide
          · rw [c.1]; decide
          · rw [c.1]; decide
    have S1 := st_copy hS (s := 8 + i) (t := i) (by omega)
    by_cases z : dl (8 + i) = 0 ∨ tm < dl (8 + i)
    · obtain ⟨x', kd', nu', sz', dl', ix', sx', iy', sy', r1, rx, ry⟩ := s32 _ (upd nu i (nu (8 + i))) _ _ _ _ _ _ S1
      refine ⟨x', kd', nu', sz', dl', ix', sx', iy', sy', r1, fun post h => ?_, fun post h => ?_⟩
      · refine br_f c1 ?_
        rw [nu_8p]
        exact wx_cpy (by omega) (by omega) (by omega) (xe_f (by omega) (by rw [pk_us]; exact z) (br_t rfl (rx post h)))
      · refine br_f c1 ?_
        rw [nu_8p]
        refine wy_cpy (by omega) (by omega) (by omega) ⟨v, ?_⟩
        rw [e, pk_us]
        by_cases z0 : dl (8 + i) ≤ 0
        · exact br_t z0 (ry post h)
        · exact br_f z0 ⟨v, br_t (z.resolve_left (fun y => z0 (by rw [y]; decide))) (ry post h)⟩
    · have z0 : dl (8 + i) ≠ 0 := fun y => z (Or.inl y)
      have z1 : ¬ tm < dl (8 + i) := fun y => z (Or.inr y)
      obtain ⟨x', kd', nu', sz', dl', ix', sx', iy', sy', r1, rx, ry⟩ := s32 _ (upd (upd nu i (nu (8 + i))) i 0) _ _ _ _ _ _ (st_clear S1 i)
      refine ⟨x', kd', nu', sz', dl', ix', sx', iy', sy', r1, fun post h => ?_, fun post h => ?_⟩
      · refine br_f c1 ?_
        rw [nu_8p]
        exact wx_cpy (by omega) (by omega) (by omega) (xe_t (by omega) (by rw [pk_us]; exact z0) (by rw [pk_us]; exact z1) (br_f (by decide) (wx_clear (by omega) (rx post h))))
      · refine br_f c1 ?_
        rw [nu_8p]
        refine wy_cpy (by omega) (by omega) (by omega) ⟨v, ?_⟩
        rw [e, pk_us]
        exact br_f (fun y => z0 (Int32.le_antisymm y (hS (8 + i) (by omega)).1)) ⟨v, br_f z1 (wy_clear (by omega) (ry post h))⟩
theorem i_vc_crash {k : Nat} {u : SX} {v : SY} (I : i_Rel k u v) (hk : k + 6 ≤ 3072) : wpX_crash (fun r u' => wpY_crash (fun r' v' => r' = r ∧ i_Rel (k + 6) u' v') v) u := by
  obtain ⟨tm, tn, kd, nu, sz, dl, ix, sx, iy, sy, st, wk, wo, we, w, wd, d, q, qo, qk, qa, qb, rc, wt, te, tk, rs, rfl, rfl, hT, hS, hW, hC⟩ := I
  obtain ⟨x', kd', nu', sz', dl', ix', sx', iy', sy', r1, rx, ry⟩ := lk_crash (tm := tm) (tn := tn) (st := st) (wk := wk) (wo := wo) (we := we) (wt := wt) (te := te) (tk := tk) (w := w) (wd := wd) (d := d) (q := q) (qo := qo) (qk := qk) (qa := qa) (qb := qb) (rc := rc) (rs := rs) 8 0 rfl kd nu sz dl ix sx iy sy 0 hS
  have R : i_Rel (k + 6) (tm, tn, kd', nu', sz', dl', ix', sx', ws_z st 4, wk, wo, we, wt, ws_zL te 10000000006 4, ws_zL tk 10000000006 4, ws_z w (8 * 4), ws_z q 4, qo, qk, qa, qb, ws_z rc 4, rs) (tm, tn, kd', nu', sz', iy', sy', dl', ws_z st 4, wk, wo, we, wt, ws_z wd 4, ws_z d 4, qo, qk, qa, qb, ws_z q 4, rs, ws_z rc 4, ws_zL te 10000000006 4, ws_zL tk 10000000006 4) := rl_i ⟨hT, r1, wa_zero w wd d, cl_zero (fun c hc => (hC c hc).2.1)⟩
  exact ⟨9, rx _ (wx_reset ⟨9, ry _ (wy_c66' ⟨rfl, R⟩)⟩)⟩
/-! Z: the constructors -/
theorem wy_i173 {post : SY → Prop} (h : post (tm, tn, kd, nu, sz, iy, sy, dl, st, wk, wo, we, wt, wd, d, qo, qk, qa, qb, q, rs, rc, ws_zL te 10000000006 4, ws_zL tk 10000000006 4)) : ∀ m i, i + m = 4 → wY_init_173 post (m + 1) (nI i) tm tn kd nu sz iy sy dl st wk wo we wt wd d qo qk qa qb q rs rc (ws_zL te 10000000006 i) (ws_zL tk 10000000006 i) := by
  intro m
  induction m with
  | zero =>
    intro i hi
    obtain rfl : i = 4 := by omega
    exact br_t (nI_le (a := 4) (b := 4) (by omega) (by omega)) h
  | succ m ih =>
    intro i hi
    have c1 : ¬ (4 : Int32) ≤ nI i := nI_ge (b := 4) (by omega) (by decide)
    refine br_f c1 (wy_forget (by omega) ?_)
    rw [ws_zLs, ws_zLs]
    exact nm_r (nI_1 i) (ih (i + 1) (by omega))
theorem ws_z00 (i : Nat) : ws_z (fun _ => 0) i = fun _ => 0 := by
  funext j
  unfold ws_z
  by_cases z : j < i
  · rw [if_pos z]
  · rw [if_neg z]
theorem i_vc0 : wpX_init (fun u => wpY_init (fun v => i_Rel 0 u v)) := by
  unfold wpX_init
  refine wx_reset ?_
  show ∃ n, _
  have hS : st_R (fun _ => 0) (fun _ => 0) (fun _ => 0) (fun _ => 0) (fun _ => 0) (fun _ => 0) (fun _ => 0) := fun s hs => ⟨show (0 : Int32) ≤ 0 by decide, 0, by omega, rfl, Or.inl ⟨rfl, rfl⟩⟩
  have hW : wa_R (fun _ => 0) (fun _ => 0) (fun _ => 0) := by
    have g := wa_zero (fun _ => 0) (fun _ => 0) (fun _ => 0)
    rw [ws_z00, ws_z00] at g
    exact g
  have hC : cl_R (fun _ => 0) (fun _ => 0) (fun _ => 0) (fun _ => 0) (fun _ => 0) (fun _ => 0) (fun _ => 0) := fun c hc => ⟨Or.inl rfl, show (0 : Int32) ≤ 0 by decide, ⟨0, by omega, rfl⟩, 0, by omega, rfl, fun _ => rfl, fun i hi => absurd hi (by omega)⟩
  rw [ws_z00, ws_z00]
  have g := wy_i173 (post := fun v => i_Rel 0 (0, 0, (fun _ => 0), (fun _ => 0), (fun _ => 0), (fun _ => 0), (fun _ => 0), (fun _ => 0), (fun _ => 0), (fun _ => 0), (fun _ => 0), (fun _ => 0), (fun _ => 0), ws_zL (fun _ => 0) 10000000006 4, ws_zL (fun _ => 0) 10000000006 4, (fun _ => 0), (fun _ => 0), (fun _ => 0), (fun _ => 0), (fun _ => 0), (fun _ => 0), (fun _ => 0), (fun _ => 0)) v) (te := fun _ => 0) (tk := fun _ => 0) (rl_i ⟨⟨0, by omega, rfl⟩, hS, hW, hC⟩) 4 0 rfl
  rw [ws_zL0] at g
  exact ⟨5, g⟩
end TM
