section SV
variable {tm : Int32} {tn : Int64} {kd nu sz dl ix sx iy sy st wk wo we w wd d q qo qk qa qb rc ra : Nat → Int32} {wt te tk tf tg rs : Nat → Int64}
/-! S: who waits longest; serving -/
theorem wx_lng_l {post : Int32 → Prop} {key : Int32} (h : post (sv_g st wk wo wt key 4)) : ∀ m i, i + m = 4 → wX_longestWaiting_4 post key tm tn kd nu sz dl ix sx st wk wo we wt te tk w q qo qk qa qb rc rs (m + 1) (sv_g st wk wo wt key i) (nI i) := by
  intro m
  induction m with
  | zero =>
    intro i hi
    obtain rfl : i = 4 := by omega
    exact br_t (nI_le (a := 4) (b := 4) (by omega) (by omega)) h
  | succ m ih =>
    intro i hi
    have c1 : ¬ (4 : Int32) ≤ nI i := nI_ge (b := 4) (by omega) (by decide)
    have e2 : (nI i).toNatClampNeg = i := nI_clamp (by omega)
    have v : vp_in (nI i) 4 := vp_in_nI (by omega) (by omega)
    have g := ih (i + 1) (by omega)
    have no : ¬ (st i = 1 ∧ (wk i = key ∨ wo i = key) ∧ (sv_g st wk wo wt key i < 0 ∨ wt i < wt (sv_g st wk wo wt key i).toNatClampNeg)) → wX_longestWaiting_4 post key tm tn kd nu sz dl ix sx st wk wo we wt te tk w q qo qk qa qb rc rs (m + 1) (sv_g st wk wo wt key i) (nI (i + 1)) := by
      intro z
      rw [show sv_g st wk wo wt key (i + 1) = sv_g st wk wo wt key i from if_neg z] at g
      exact g
    have ys : (st i = 1 ∧ (wk i = key ∨ wo i = key) ∧ (sv_g st wk wo wt key i < 0 ∨ wt i < wt (sv_g st wk wo wt key i).toNatClampNeg)) → wX_longestWaiting_4 post key tm tn kd nu sz dl ix sx st wk wo we wt te tk w q qo qk qa qb rc rs (m + 1) (nI i) (nI (i + 1)) := by
      intro z
      rw [show sv_g st wk wo wt key (i + 1) = nI i from if_pos z] at g
      exact g
    have tt : st i = 1 → (wk i = key ∨ wo i = key) → wX_longestWaiting_39 post (wX_longestWaiting_4 post key tm tn kd nu sz dl ix sx st wk wo we wt te tk w q qo qk qa qb rc rs (m + 1)) key (sv_g st wk wo wt key i) (nI i) tm tn kd nu sz dl ix sx st wk wo we wt te tk w q qo qk qa qb rc rs := by
      intro a b
      unfold wX_longestWaiting_39 wX_longestWaiting_44
      refine br_f (by decide) ?_
      by_cases c : sv_g st wk wo wt key i < 0
      · exact br_t c (nm_r (nI_1 i) (ys ⟨a, b, Or.inl c⟩))
      · have hj : ∃ j, j < i ∧ sv_g st wk wo wt key i = nI j ∧ st j = 1 := by
          rcases sv_g_cases st wk wo wt key i with y | y
          · exact absurd (by rw [y]; decide) c
          · exact y
        obtain ⟨j, hj, ej, _⟩ := hj
        refine br_f c ⟨v, by rw [ej]; exact vp_in_nI (by omega) (by omega), ?_⟩
        rw [e2]
        by_cases c2 : wt (sv_g st wk wo wt key i).toNatClampNeg ≤ wt i
        · refine br_t c2 (nm_r (nI_1 i) (no (fun z => ?_)))
          rcases z.2.2 with y | y
          · exact c y
          · exact Int64.not_lt.mpr c2 y
        · exact br_f c2 (nm_r (nI_1 i) (ys ⟨a, b, Or.inr (Int64.not_le.mp c2)⟩))
    have nn : ¬ (st i = 1 ∧ (wk i = key ∨ wo i = key)) → wX_longestWaiting_43 post (wX_longestWaiting_4 post key tm tn kd nu sz dl ix sx st wk wo we wt te tk w q qo qk qa qb rc rs (m + 1)) key (sv_g st wk wo wt key i) (nI i) tm tn kd nu sz dl ix sx st wk wo we wt te tk w q qo qk qa qb rc rs := by
      intro z
      unfold wX_longestWaiting_43 wX_longestWaiting_44
      exact br_t rfl (nm_r (nI_1 i) (no (fun y => z ⟨y.1, y.2.1⟩)))
    refine br_f c1 ?_
    rw [e2]
    refine ⟨v, ?_⟩
    by_cases a : st i = 1
    · refine br_t a ⟨v, ?_⟩
      by_cases b : wk i = key
      · exact br_t b (tt a (Or.inl b))
      · refine br_f b ⟨v, ?_⟩
        by_cases c : wo i = key
        · exact br_t c (tt a (Or.inr c))
        · exact br_f c (nn (fun y => y.2.elim b c))
    · exact br_f a (nn (fun y => a y.1))
theorem wx_lng {post : Int32 → Prop} {key : Int32} (h : post (sv_g st wk wo wt key 4)) : wpX_longestWaiting post (tm, tn, kd, nu, sz, dl, ix, sx, st, wk, wo, we, wt, te, tk, w, q, qo, qk, qa, qb, rc, rs) key := ⟨5, wx_lng_l h 4 0 rfl⟩
theorem wy_lng_l {post : Int32 → Prop} {key : Int32} (h : post (sv_g st wk wo wt key 4)) : ∀ m i, i + m = 4 → wY_longest_4 post key tm tn kd nu sz iy sy dl st wk wo we wt wd d qo qk qa qb q rs rc te tk (m + 1) (sv_g st wk wo wt key i) (nI i) := by
  intro m
  induction m with
  | zero =>
    intro i hi
    obtain rfl : i = 4 := by omega
    exact br_t (nI_le (a := 4) (b := 4) (by omega) (by omega)) h
  | succ m ih =>
    intro i hi
    have c1 : ¬ (4 : Int32) ≤ nI i := nI_ge (b := 4) (by omega) (by decide)
    have e2 : (nI i).toNatClampNeg = i := nI_clamp (by omega)
    have v : vp_in (nI i) 4 := vp_in_nI (by omega) (by omega)
    have g := ih (i + 1) (by omega)
    have no : ¬ (st i = 1 ∧ (wk i = key ∨ wo i = key) ∧ (sv_g st wk wo wt key i < 0 ∨ wt i < wt (sv_g st wk wo wt key i).toNatClampNeg)) → wY_longest_4 post key tm tn kd nu sz iy sy dl st wk wo we wt wd d qo qk qa qb q rs rc te tk (m + 1) (sv_g st wk wo wt key i) (nI (i + 1)) := by
      intro z
      rw [show sv_g st wk wo wt key (i + 1) = sv_g st wk wo wt key i from if_neg z] at g
      exact g
    have ys : (st i = 1 ∧ (wk i = key ∨ wo i = key) ∧ (sv_g st wk wo wt key i < 0 ∨ wt i < wt (sv_g st wk wo wt key i).toNatClampNeg)) → wY_longest_4 post key tm tn kd nu sz iy sy dl st wk wo we wt wd d qo qk qa qb q rs rc te tk (m + 1) (nI i) (nI (i + 1)) := by
      intro z
      rw [show sv_g st wk wo wt key (i + 1) = nI i from if_pos z] at g
      exact g
    have tt : st i = 1 → (wk i = key ∨ wo i = key) → wY_longest_39 post (wY_longest_4 post key tm tn kd nu sz iy sy dl st wk wo we wt wd d qo qk qa qb q rs rc te tk (m + 1)) key (sv_g st wk wo wt key i) (nI i) tm tn kd nu sz iy sy dl st wk wo we wt wd d qo qk qa qb q rs rc te tk := by
      intro a b
      unfold wY_longest_39
      by_cases c : sv_g st wk wo wt key i < 0
      · exact br_t c (nm_r (nI_1 i) (ys ⟨a, b, Or.inl c⟩))
      · have hj : ∃ j, j < i ∧ sv_g st wk wo wt key i = nI j ∧ st j = 1 := by
          rcases sv_g_cases st wk wo wt key i with y | y
          · exact absurd (by rw [y]; decide) c
          · exact y
        obtain ⟨j, hj, ej, _⟩ := hj
        refine br_f c ⟨v, by rw [ej]; exact vp_in_nI (by omega) (by omega), ?_⟩
        rw [e2]
        by_cases c2 : wt (sv_g st wk wo wt key i).toNatClampNeg ≤ wt i
        · refine br_t c2 (nm_r (nI_1 i) (no (fun z => ?_)))
          rcases z.2.2 with y | y
          · exact c y
          · exact Int64.not_lt.mpr c2 y
        · exact br_f c2 (nm_r (nI_1 i) (ys ⟨a, b, Or.inr (Int64.not_le.mp c2)⟩))
    refine br_f c1 ?_
    rw [e2]
    refine ⟨v, ?_⟩
    by_cases a : st i = 1
    · refine br_t a ⟨v, ?_⟩
      by_cases b : wk i = key
      · exact br_t b (tt a (Or.inl b))
      · refine br_f b ⟨v, ?_⟩
        by_cases c : wo i = key
        · exact br_t c (tt a (Or.inr c))
        · exact br_f c (nm_r (nI_1 i) (no (fun y => y.2.1.elim b c)))
    · exact br_f a (nm_r (nI_1 i) (no (fun y => a y.1)))
theorem wy_lng {post : Int32 → Prop} {key : Int32} (h : post (sv_g st wk wo wt key 4)) : wpY_longest post (tm, tn, kd, nu, sz, iy, sy, dl, st, wk, wo, we, wt, wd, d, qo, qk, qa, qb, q, rs, rc, te, tk) key := ⟨5, wy_lng_l h 4 0 rfl⟩
theorem wx_lst_l {post : Int32 → Prop} {r : Int32} (hF : sv_F kd st wk wo wt r) (h : post r) : ∀ m i, i + m = 8 → (∀ a, a < i → ¬ sv_ok kd st wk wo wt a) → wX_leastAwaitedList_2 post tm tn kd nu sz dl ix sx st wk wo we wt te tk w q qo qk qa qb rc rs (m + 1) (nI i) := by
  intro m
  induction m with
  | zero =>
    intro i hi hlo
    obtain rfl : i = 8 := by omega
    refine br_t (nI_le (a := 8) (b := 8) (by omega) (by omega)) ?_
    rcases hF with ⟨rfl, _⟩ | ⟨p, hp, e, _, _⟩
    · exact h
    · exact absurd e (hlo p hp)
  | succ m ih =>
    intro i hi hlo
    have c1 : ¬ (8 : Int32) ≤ nI i := nI_ge (b := 8) (by omega) (by decide)
    have e2 : (nI i).toNatClampNeg = i := nI_clamp (by omega)
    have v : vp_in (nI i) 16 := vp_in_nI (by omega) (by omega)
    have nx : ¬ sv_ok kd st wk wo wt i → wX_leastAwaitedList_2 post tm tn kd nu sz dl ix sx st wk wo we wt te tk w q qo qk qa qb rc rs (m + 1) (nI (i + 1)) := by
      intro z
      refine ih (i + 1) (by omega) (fun a ha => ?_)
      by_cases c : a = i
      · rw [c]; exact z
      · exact hlo a (by omega)
    refine br_f c1 ?_
    rw [e2]
    refine ⟨v, ?_⟩
    by_cases a : kd i = 2
    · refine br_t a (wx_lng ?_)
      by_cases b : sv_g st wk wo wt (nI i) 4 < 0
      · exact br_t b (nm_r (nI_1 i) (nx (fun z => z.2 b)))
      · refine br_f b ?_
        rcases hF with ⟨_, hno⟩ | ⟨p, hp, e, hl, rfl⟩
        · exact absurd ⟨a, b⟩ (hno i (by omega))
        · have : p = i := by
            rcases Nat.lt_trichotomy p i with c | c | c
            · exact absurd e (hlo p c)
            · exact c
            · exact absurd ⟨a, b⟩ (hl i c)
          rw [← this]
          exact h
    · exact br_f a (nm_r (nI_1 i) (nx (fun z => a z.1)))
theorem wx_lst {post : Int32 → Prop} {r : Int32} (hF : sv_F kd st wk wo wt r) (h : post r) : wpX_leastAwaitedList post (tm, tn, kd, nu, sz, dl, ix, sx, st, wk, wo, we, wt, te, tk, w, q, qo, qk, qa, qb, rc, rs) := ⟨9, wx_lst_l hF h 8 0 rfl (fun a ha => absurd ha (by omega))⟩
/-- client c takes the first element of the list at k -/
theorem lk_take {k c : Nat} (hS : st_R kd sz dl ix sx iy sy) (hW : wa_R w wd d) (hk : k < 8) (hc : c < 4) (h2 : kd k = 2) :
    ∃ (r : Int32) (kd' nu' sz' dl' ix' sx' iy' sy' w' d' : Nat → Int32), st_R kd' sz' dl' ix' sx' iy' sy' ∧ wa_R w' wd d' ∧
    (∀ post : Int64 → SX → Prop, post r.toInt64 (tm, tn, kd', nu', sz', dl', ix', sx', upd st c 0, wk, wo, we, wt, vp_updL te c r.toInt64, vp_updL tk c (nI k).toInt64, w', q, qo, qk, qa, qb, rc, rs) → wpX_takeFirst post (tm, tn, kd, nu, sz, dl, ix, sx, st, wk, wo, we, wt, te, tk, w, q, qo, qk, qa, qb, rc, rs) (nI c) (nI k)) ∧
    (∀ post : SY → Prop, post (tm, tn, kd', nu', sz', iy', sy', dl', upd st c 0, wk, wo, we, wt, wd, d', qo, qk, qa, qb, q, rs, ra, vp_updL tf c r.toInt64, vp_updL tg c (nI k).toInt64) → wpY_take post (tm, tn, kd, nu, sz, iy, sy, dl, st, wk, wo, we, wt, wd, d, qo, qk, qa, qb, q, rs, ra, tf, tg) (nI c) (nI k)) := by
  have ec : (nI c).toNatClampNeg = c := nI_clamp (by omega)
  have vc : vp_in (nI c) 4 := vp_in_nI hc (by omega)
  obtain ⟨n, hn, hz, hq⟩ := st_n hS (k := k) (by omega)
  obtain ⟨n', rfl⟩ : ∃ n', n = n' + 1 := by
    rcases hq with y | y | y | y
    · rw [h2] at y; exact absurd y.1 (by decide)
    · rw [h2] at y; exact absurd y.1 (by decide)
    · exact ⟨n - 1, by omega⟩
    · exact ⟨n - 1, by omega⟩
  obtain ⟨r, kd', nu', sz', dl', ix', sx', iy', sy', w', d', r1, r2, rx, ry⟩ := lk_out (nu := nu) (tf := tf) (tg := tg) (ra := ra) (tm := tm) (tn := tn) (st := st) (wk := wk) (wo := wo) (we := we) (wt := wt) (te := te) (tk := tk) (q := q) (qo := qo) (qk := qk) (qa := qa) (qb := qb) (rc := rc) (rs := rs) (p := 0) (p' := 0) hS hW hk hz (by omega) (by omega) (by omega) (Or.inl ⟨h2, rfl⟩)
  refine ⟨r, kd', nu', sz', dl', ix', sx', iy', sy', w', d', r1, r2, fun post h => ?_, fun post h => ?_⟩
  · unfold wpX_takeFirst
    rw [ec]
    exact rx _ ⟨vc, nm_e ⟨vc, nm_e ⟨vc, nm_e h⟩⟩⟩
  · unfold wpY_take
    rw [ec]
    exact ry _ ⟨vc, nm_e ⟨vc, nm_e ⟨vc, nm_e h⟩⟩⟩
theorem wy_scn {post : SY → Prop} {N p : Nat} (hp : p ≤ 8) (hno : ∀ a, a < p → ¬ sv_ok kd st wk wo wt a) (h : wY_serve_2 post (N + 1) (nI p) tm tn kd nu sz iy sy dl st wk wo we wt wd d qo qk qa qb q rs rc te tk) : ∀ j i, i + j = p → wY_serve_2 post (j + (N + 1)) (nI i) tm tn kd nu sz iy sy dl st wk wo we wt wd d qo qk qa qb q rs rc te tk := by
  intro j
  induction j with
  | zero =>
    intro i hi
    obtain rfl : i = p := by omega
    rw [Nat.zero_add]
    exact h
  | succ j ih =>
    intro i hi
    have c1 : ¬ (8 : Int32) ≤ nI i := nI_ge (b := 8) (by omega) (by decide)
    have e2 : (nI i).toNatClampNeg = i := nI_clamp (by omega)
    have v : vp_in (nI i) 16 := vp_in_nI (by omega) (by omega)
    have g := ih (i + 1) (by omega)
    rw [show j + 1 + (N + 1) = (j + (N + 1)) + 1 by omega]
    refine br_f c1 ?_
    rw [e2]
    refine ⟨v, ?_⟩
    by_cases a : kd i = 2
    · refine br_t a (wy_lng ?_)
      refine br_f ?_ (nm_r (nI_1 i) g)
      intro y
      exact hno i (by omega) ⟨a, Int32.not_lt.mpr y⟩
    · exact br_f a (br_f (by decide) (nm_r (nI_1 i) g))
theorem wy_non {post : SY → Prop} (hno : ∀ a, a < 8 → ¬ sv_ok kd st wk wo wt a) (h : post (tm, tn, kd, nu, sz, iy, sy, dl, st, wk, wo, we, wt, wd, d, qo, qk, qa, qb, q, rs, rc, te, tk)) : wY_serve_2 post (8 + (0 + 1)) 0 tm tn kd nu sz iy sy dl st wk wo we wt wd d qo qk qa qb q rs rc te tk :=
  wy_scn (N := 0) (p := 8) (by omega) hno (br_t (nI_le (a := 8) (b := 8) (by omega) (by omega)) h) 8 0 rfl
theorem lk_serve (hcr : cl_R st q qo qk qa rc we) (hS : st_R kd sz dl ix sx iy sy) (hW : wa_R w wd d) : ∀ m i, i + m = 4 → sv_n st ≤ m →
    ∃ (st' kd' nu' sz' dl' ix' sx' iy' sy' w' d' : Nat → Int32) (te' tk' : Nat → Int64), st_R kd' sz' dl' ix' sx' iy' sy' ∧ wa_R w' wd d' ∧ cl_R st' q qo qk qa rc we ∧
    (∀ post : SX → Prop, post (tm, tn, kd', nu', sz', dl', ix', sx', st', wk, wo, we, wt, te', tk', w', q, qo, qk, qa, qb, rc, rs) → wX_serveWaiting_2 post (m + 1) (nI i) tm tn kd nu sz dl ix sx st wk wo we wt te tk w q qo qk qa qb rc rs) ∧
    (∃ N, ∀ post : SY → Prop, post (tm, tn, kd', nu', sz', iy', sy', dl', st', wk, wo, we, wt, wd, d', qo, qk, qa, qb, q, rs, rc, te', tk') → wY_serve_2 post N 0 tm tn kd nu sz iy sy dl st wk wo we wt wd d qo qk qa qb q rs rc te tk) := by
  intro m
  induction m generalizing st kd nu sz dl ix sx iy sy w d te tk with
  | zero =>
    intro i hi hs
    obtain rfl : i = 4 := by omega
    refine ⟨st, kd, nu, sz, dl, ix, sx, iy, sy, w, d, te, tk, hS, hW, hcr, fun post h => ?_, _, fun post h => wy_non (fun a _ => sv_n0 (by omega)) h⟩
    exact br_t (nI_le (a := 4) (b := 4) (by omega) (by omega)) h
  | succ m ih =>
    intro i hi hs
    have c1 : ¬ (4 : Int32) ≤ nI i := nI_ge (b := 4) (by omega) (by decide)
    obtain ⟨r, hF⟩ := sv_Fex kd st wk wo wt
    rcases hF with ⟨hr, hno⟩ | ⟨p, hp, hok, hlo, hr⟩
    · refine ⟨st, kd, nu, sz, dl, ix, sx, iy, sy, w, d, te, tk, hS, hW, hcr, fun post h => ?_, _, fun post h => wy_non hno h⟩
      exact br_f c1 (wx_lst (r := -1) (Or.inl ⟨rfl, hno⟩) (br_f (by decide) (br_f (by decide) h)))
    · obtain ⟨c, hc, eg, hst⟩ := sv_c hok
      obtain ⟨r', kd1, nu1, sz1, dl1, ix1, sx1, iy1, sy1, w1, d1, s1, s2, tx, ty⟩ := lk_take (nu := nu) (tf := te) (tg := tk) (ra := rc) (tm := tm) (tn := tn) (st := st) (wk := wk) (wo := wo) (we := we) (wt := wt) (te := te) (tk := tk) (q := q) (qo := qo) (qk := qk) (qa := qa) (qb := qb) (rc := rc) (rs := rs) hS hW hp hc hok.1
      have hcr1 : cl_R (upd st c 0) q qo qk qa rc we := cl_free hcr (fun _ => by rw [hst]; decide)
      obtain ⟨st', kd', nu', sz', dl', ix', sx', iy', sy', w', d', te', tk', t1, t2, t3, ux, N, uy⟩ := ih (nu := nu1) (te := vp_updL te c r'.toInt64) (tk := vp_updL tk c (nI p).toInt64) hcr1 s1 s2 (i + 1) (by omega) (by have := sv_n_dn hc hst; omega)
      refine ⟨st', kd', nu', sz', dl', ix', sx', iy', sy', w', d', te', tk', t1, t2, t3, fun post h => ?_, p + (N + 1), fun post h => ?_⟩
      · refine br_f c1 (wx_lst (r := nI p) (Or.inr ⟨p, hp, hok, hlo, rfl⟩) (br_t (nI_pos' (by omega)) (wx_lng ?_)))
        rw [eg]
        exact br_t (nI_pos' (by omega)) (tx _ (nm_r (nI_1 i) (ux post h)))
      · refine wy_scn (N := N) (by omega) hlo ?_ p 0 (by omega)
        have e2 : (nI p).toNatClampNeg = p := nI_clamp (by omega)
        have v : vp_in (nI p) 16 := vp_in_nI (by omega) (by omega)
        refine br_f (nI_ge (b := 8) (by omega) (by decide)) ?_
        rw [e2]
        refine ⟨v, br_t hok.1 (wy_lng ?_)⟩
        rw [eg]
        exact br_t (nI_pos' (by omega)) (ty _ (uy post h))
end SV
