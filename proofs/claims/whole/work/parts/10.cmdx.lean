section CX
variable {tm : Int32} {tn : Int64} {kd nu sz dl ix sx iy sy st wk wo we w wd d q qo qk qa qb rc ra : Nat → Int32} {wt te tk tf tg rs : Nat → Int64}
variable {k : Nat} {a b : Int32}
/-! P: X's commands -/
theorem wx_put {post : Int64 → SX → Prop} (hk : k < 8) (h : post 0 (tm, tn, upd (upd kd k 0) k 1, upd (upd nu k 0) k a, upd sz k 0, upd dl k 0, ix, sx, st, wk, wo, we, wt, te, tk, ws_mk w k 4, q, qo, qk, qa, qb, rc, rs)) : wpX_putNumber post (tm, tn, kd, nu, sz, dl, ix, sx, st, wk, wo, we, wt, te, tk, w, q, qo, qk, qa, qb, rc, rs) (nI k) a := by
  have e : (nI k).toNatClampNeg = k := nI_clamp (by omega)
  have i : vp_in (nI k) 16 := vp_in_nI (by omega) (by omega)
  unfold wpX_putNumber
  rw [e]
  exact wx_clear (by omega) ⟨i, nm_e ⟨i, nm_e (wx_mark hk h)⟩⟩
theorem wx_add {post : Int64 → SX → Prop} (hk : k < 8) (h : post (nu k + a).toInt64 (tm, tn, upd kd k 1, upd nu k (nu k + a), sz, dl, ix, sx, st, wk, wo, we, wt, te, tk, ws_mk w k 4, q, qo, qk, qa, qb, rc, rs)) : wpX_addNumber post (tm, tn, kd, nu, sz, dl, ix, sx, st, wk, wo, we, wt, te, tk, w, q, qo, qk, qa, qb, rc, rs) (nI k) a := by
  have e : (nI k).toNatClampNeg = k := nI_clamp (by omega)
  have i : vp_in (nI k) 16 := vp_in_nI (by omega) (by omega)
  unfold wpX_addNumber
  rw [e]
  refine ⟨i, nm_e ⟨i, i, nm_e (wx_mark hk ⟨i, ?_⟩)⟩⟩
  rw [pk_us]
  exact h
theorem wx_drop0 {post : Int64 → SX → Prop} (hk : k < 8) (h0 : kd k = 0) (h : post 0 (tm, tn, kd, nu, sz, dl, ix, sx, st, wk, wo, we, wt, te, tk, w, q, qo, qk, qa, qb, rc, rs)) : wpX_dropKey post (tm, tn, kd, nu, sz, dl, ix, sx, st, wk, wo, we, wt, te, tk, w, q, qo, qk, qa, qb, rc, rs) (nI k) := by
  have e : (nI k).toNatClampNeg = k := nI_clamp (by omega)
  have i : vp_in (nI k) 16 := vp_in_nI (by omega) (by omega)
  unfold wpX_dropKey
  rw [e]
  exact ⟨i, br_t h0 h⟩
theorem wx_drop1 {post : Int64 → SX → Prop} (hk : k < 8) (h0 : kd k ≠ 0) (h : post 1 (tm, tn, upd kd k 0, upd nu k 0, upd sz k 0, upd dl k 0, ix, sx, st, wk, wo, we, wt, te, tk, ws_mk w k 4, q, qo, qk, qa, qb, rc, rs)) : wpX_dropKey post (tm, tn, kd, nu, sz, dl, ix, sx, st, wk, wo, we, wt, te, tk, w, q, qo, qk, qa, qb, rc, rs) (nI k) := by
  have e : (nI k).toNatClampNeg = k := nI_clamp (by omega)
  have i : vp_in (nI k) 16 := vp_in_nI (by omega) (by omega)
  unfold wpX_dropKey
  rw [e]
  exact ⟨i, br_f h0 (wx_clear (by omega) (wx_mark hk h))⟩
theorem wx_dl0 {post : Int64 → SX → Prop} (hk : k < 8) (h0 : kd k = 0) (h : post 0 (tm, tn, kd, nu, sz, dl, ix, sx, st, wk, wo, we, wt, te, tk, w, q, qo, qk, qa, qb, rc, rs)) : wpX_setDeadline post (tm, tn, kd, nu, sz, dl, ix, sx, st, wk, wo, we, wt, te, tk, w, q, qo, qk, qa, qb, rc, rs) (nI k) a := by
  have e : (nI k).toNatClampNeg = k := nI_clamp (by omega)
  have i : vp_in (nI k) 16 := vp_in_nI (by omega) (by omega)
  unfold wpX_setDeadline
  rw [e]
  exact ⟨i, br_t h0 h⟩
theorem wx_dl1 {post : Int64 → SX → Prop} {x : Int32} (hk : k < 8) (h0 : kd k ≠ 0) (hx : (a = 0 ∧ x = 0) ∨ (a ≠ 0 ∧ x = tm + a)) (h : post 1 (tm, tn, kd, nu, sz, upd dl k x, ix, sx, st, wk, wo, we, wt, te, tk, ws_mk w k 4, q, qo, qk, qa, qb, rc, rs)) : wpX_setDeadline post (tm, tn, kd, nu, sz, dl, ix, sx, st, wk, wo, we, wt, te, tk, w, q, qo, qk, qa, qb, rc, rs) (nI k) a := by
  have e : (nI k).toNatClampNeg = k := nI_clamp (by omega)
  have i : vp_in (nI k) 16 := vp_in_nI (by omega) (by omega)
  unfold wpX_setDeadline
  rw [e]
  refine ⟨i, br_f h0 ?_⟩
  rcases hx with ⟨ha, rfl⟩ | ⟨ha, rfl⟩
  · exact br_t ha ⟨i, nm_r (e' := upd dl k 0) (by rw [e]) (wx_mark hk h)⟩
  · exact br_f ha ⟨i, nm_r (e' := upd dl k (tm + a)) (by rw [e]) (wx_mark hk h)⟩
theorem wx_elem0 {post : Int64 → SX → Prop} {p1 : Int32} (hk : k < 8) (hz : sz k = nI 12) (h : post 10000000003 (tm, tn, kd, nu, sz, dl, ix, sx, st, wk, wo, we, wt, te, tk, w, q, qo, qk, qa, qb, rc, rs)) : wpX_putElement post (tm, tn, kd, nu, sz, dl, ix, sx, st, wk, wo, we, wt, te, tk, w, q, qo, qk, qa, qb, rc, rs) (nI k) p1 a := by
  have e : (nI k).toNatClampNeg = k := nI_clamp (by omega)
  have i : vp_in (nI k) 16 := vp_in_nI (by omega) (by omega)
  unfold wpX_putElement
  show _ ∧ _
  rw [e, hz]
  exact ⟨i, br_f (nI_nlt (a := 12) (b := 12) (by omega) (by omega)) h⟩
theorem wx_elem1 {post : Int64 → SX → Prop} {n p : Nat} (hk : k < 8) (hz : sz k = nI n) (hn : n < 12) (hp : p ≤ n) (h : post (nI (n + 1)).toInt64 (tm, tn, upd kd k 2, nu, upd sz k (nI (n + 1)), dl, upd (ws_op ix (12 * k + p) (12 * k + n)) (12 * k + p) a, ws_op sx (12 * k + p) (12 * k + n), st, wk, wo, we, wt, te, tk, ws_mk w k 4, q, qo, qk, qa, qb, rc, rs)) : wpX_putElement post (tm, tn, kd, nu, sz, dl, ix, sx, st, wk, wo, we, wt, te, tk, w, q, qo, qk, qa, qb, rc, rs) (nI k) (nI p) a := by
  have e : (nI k).toNatClampNeg = k := nI_clamp (by omega)
  have i : vp_in (nI k) 16 := vp_in_nI (by omega) (by omega)
  have e3 : (nI (12 * k + p)).toNatClampNeg = 12 * k + p := nI_clamp (by omega)
  have v1 : vp_in (nI (12 * k + p)) 192 := vp_in_nI (by omega) (by omega)
  unfold wpX_putElement
  show _ ∧ _
  rw [e, hz, nu_x12, e3]
  refine ⟨i, br_t (nI_lt (b := 12) hn (by omega)) ⟨i, nm_e (wx_opn (by omega) hz hn hp ⟨v1, nm_e (wx_mark hk ⟨i, ?_⟩)⟩)⟩⟩
  rw [pk_us]
  exact h
theorem wx_tout {post : Int32 → SX → Prop} {n p : Nat} (hk : k < 8) (hz : sz k = nI (n + 1)) (hn : n < 12) (hp : p ≤ n)
    (h0 : n ≠ 0 → post (ix (12 * k + p)) (tm, tn, kd, nu, upd sz k (nI n), dl, ws_cl ix (12 * k + p) (12 * k + n), ws_cl sx (12 * k + p) (12 * k + n), st, wk, wo, we, wt, te, tk, ws_mk w k 4, q, qo, qk, qa, qb, rc, rs))
    (h1 : n = 0 → post (ix (12 * k + p)) (tm, tn, upd kd k 0, upd nu k 0, upd (upd sz k (nI n)) k 0, upd dl k 0, ws_cl ix (12 * k + p) (12 * k + n), ws_cl sx (12 * k + p) (12 * k + n), st, wk, wo, we, wt, te, tk, ws_mk w k 4, q, qo, qk, qa, qb, rc, rs)) :
    wpX_takeOut post (tm, tn, kd, nu, sz, dl, ix, sx, st, wk, wo, we, wt, te, tk, w, q, qo, qk, qa, qb, rc, rs) (nI k) (nI p) := by
  have e : (nI k).toNatClampNeg = k := nI_clamp (by omega)
  have i : vp_in (nI k) 16 := vp_in_nI (by omega) (by omega)
  have e3 : (nI (12 * k + p)).toNatClampNeg = 12 * k + p := nI_clamp (by omega)
  have v1 : vp_in (nI (12 * k + p)) 192 := vp_in_nI (by omega) (by omega)
  unfold wpX_takeOut
  rw [nu_x12, e3, e]
  refine ⟨v1, nm_e (wx_cls (by omega) hz hn hp ⟨i, ?_⟩)⟩
  rw [pk_us]
  by_cases z : n = 0
  · exact br_t (by rw [z]; rfl) (wx_clear (by omega) (wx_mark hk (h1 z)))
  · exact br_f (nI_ne0 (by omega) (by omega)) (wx_mark hk (h0 z))
theorem wx_seat10 {post : SX → Prop} {n p : Nat} {m v : Int32} (hk : k < 8) (hz : sz k = nI n) (hn : n < 12) (hG : ws_G sx ix (12 * k) n m v p)
    (h : post (tm, tn, upd kd k 3, nu, upd sz k (nI (n + 1)), dl, upd (ws_op ix (12 * k + p) (12 * k + n)) (12 * k + p) m, upd (ws_op sx (12 * k + p) (12 * k + n)) (12 * k + p) v, st, wk, wo, we, wt, te, tk, ws_mk w k 4, q, qo, qk, qa, qb, rc, rs)) :
    wX_seatMember_10 post (nI k) m v tm tn kd nu sz dl ix sx st wk wo we wt te tk w q qo qk qa qb rc rs := by
  have hp : p ≤ n := hG.1
  have e : (nI k).toNatClampNeg = k := nI_clamp (by omega)
  have i : vp_in (nI k) 16 := vp_in_nI (by omega) (by omega)
  have vv : vp_in (nI k * 12 + nI p) 192 := by
    rw [nu_x12]
    exact vp_in_nI (by omega) (by omega)
  have ee : (nI k * 12 + nI p).toNatClampNeg = 12 * k + p := by
    rw [nu_x12]
    exact nI_clamp (by omega)
  unfold wX_seatMember_10
  rw [e]
  exact ⟨i, nm_e (wx_for (by omega) hz (by omega) hG (wx_opn (by omega) hz hn hp ⟨vv, nm_r (e' := upd (ws_op ix (12 * k + p) (12 * k + n)) (12 * k + p) m) (by rw [ee]) ⟨vv, nm_r (e' := upd (ws_op sx (12 * k + p) (12 * k + n)) (12 * k + p) v) (by rw [ee]) (wx_mark hk h)⟩⟩))⟩
theorem wx_seatN {post : SX → Prop} {n p : Nat} {m v : Int32} (hk : k < 8) (hz : sz k = nI n) (hn : n < 12) (hG : ws_G sx ix (12 * k) n m v p)
    (h : post (tm, tn, upd kd k 3, nu, upd sz k (nI (n + 1)), dl, upd (ws_op ix (12 * k + p) (12 * k + n)) (12 * k + p) m, upd (ws_op sx (12 * k + p) (12 * k + n)) (12 * k + p) v, st, wk, wo, we, wt, te, tk, ws_mk w k 4, q, qo, qk, qa, qb, rc, rs)) :
    wpX_seatMember post (tm, tn, kd, nu, sz, dl, ix, sx, st, wk, wo, we, wt, te, tk, w, q, qo, qk, qa, qb, rc, rs) (nI k) m (-1) v := br_t (by decide) (wx_seat10 hk hz hn hG h)
theorem wx_seatO {post : SX → Prop} {n p0 p : Nat} {m v : Int32} (hk : k < 8) (hz : sz k = nI (n + 1)) (h3 : kd k = 3) (hn : n < 12) (hp0 : p0 ≤ n) (hG : ws_G (ws_cl sx (12 * k + p0) (12 * k + n)) (ws_cl ix (12 * k + p0) (12 * k + n)) (12 * k) n m v p)
    (h : post (tm, tn, kd, nu, sz, dl, upd (ws_op (ws_cl ix (12 * k + p0) (12 * k + n)) (12 * k + p) (12 * k + n)) (12 * k + p) m, upd (ws_op (ws_cl sx (12 * k + p0) (12 * k + n)) (12 * k + p) (12 * k + n)) (12 * k + p) v, st, wk, wo, we, wt, te, tk, ws_mk w k 4, q, qo, qk, qa, qb, rc, rs)) :
    wpX_seatMember post (tm, tn, kd, nu, sz, dl, ix, sx, st, wk, wo, we, wt, te, tk, w, q, qo, qk, qa, qb, rc, rs) (nI k) m (nI p0) v := by
  refine br_f (nI_pos (by omega)) (wx_cls (by omega) hz hn hp0 (wx_seat10 hk pk_us hn hG ?_))
  rw [ws_uu, ws_same sz hz, ws_same kd h3]
  exact h
theorem wx_ren0 {post : Int64 → SX → Prop} (hk : k < 8) (h0 : kd k = 0) (h : post 0 (tm, tn, kd, nu, sz, dl, ix, sx, st, wk, wo, we, wt, te, tk, w, q, qo, qk, qa, qb, rc, rs)) : wpX_renameKey post (tm, tn, kd, nu, sz, dl, ix, sx, st, wk, wo, we, wt, te, tk, w, q, qo, qk, qa, qb, rc, rs) (nI k) a := by
  have e : (nI k).toNatClampNeg = k := nI_clamp (by omega)
  have i : vp_in (nI k) 16 := vp_in_nI (by omega) (by omega)
  unfold wpX_renameKey
  rw [e]
  exact ⟨i, br_t h0 h⟩
theorem wx_ren1 {post : Int64 → SX → Prop} {t : Nat} (hk : k < 8) (ht : t < 8) (hkt : k ≠ t) (h0 : kd k ≠ 0)
    (h : post 1 (tm, tn, upd (upd kd t (kd k)) k 0, upd (upd nu t (nu k)) k 0, upd (upd sz t (sz k)) k 0, upd (upd dl t (dl k)) k 0, ws_cp ix (12 * k) (12 * t) 12, ws_cp sx (12 * k) (12 * t) 12, st, wk, wo, we, wt, te, tk, ws_mk (ws_mk w k 4) t 4, q, qo, qk, qa, qb, rc, rs)) : wpX_renameKey post (tm, tn, kd, nu, sz, dl, ix, sx, st, wk, wo, we, wt, te, tk, w, q, qo, qk, qa, qb, rc, rs) (nI k) (nI t) := by
  have e : (nI k).toNatClampNeg = k := nI_clamp (by omega)
  have i : vp_in (nI k) 16 := vp_in_nI (by omega) (by omega)
  unfold wpX_renameKey
  rw [e]
  exact ⟨i, br_f h0 (wx_cpy (by omega) (by omega) hkt (wx_clear (by omega) (wx_mark hk (wx_mark ht h))))⟩
end CX
