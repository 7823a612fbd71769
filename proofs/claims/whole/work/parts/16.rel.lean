section RL
variable {tm : Int32} {tn : Int64} {kd nu sz dl ix sx iy sy st wk wo we w wd d q qo qk qa qb rc ra : Nat → Int32} {wt te tk tf tg rs : Nat → Int64}
/-! T: the relation -/
def rl_R (tm : Int32) (kd sz dl ix sx iy sy st w wd d q qo qk qa rc we : Nat → Int32) : Prop := (∃ t : Nat, t ≤ 1000000000 ∧ tm = nI t) ∧ st_R kd sz dl ix sx iy sy ∧ wa_R w wd d ∧ cl_R st q qo qk qa rc we
/-- the relation at the head of a turn: near equality; rankings are permuted, watching is kept otherwise -/
def i_Rel (k : Nat) (u : SX) (v : SY) : Prop := ∃ (tm : Int32) (tn : Int64) (kd nu sz dl ix sx iy sy st wk wo we w wd d q qo qk qa qb rc : Nat → Int32) (wt te tk rs : Nat → Int64), u = (tm, tn, kd, nu, sz, dl, ix, sx, st, wk, wo, we, wt, te, tk, w, q, qo, qk, qa, qb, rc, rs) ∧ v = (tm, tn, kd, nu, sz, iy, sy, dl, st, wk, wo, we, wt, wd, d, qo, qk, qa, qb, q, rs, rc, te, tk) ∧ rl_R tm kd sz dl ix sx iy sy st w wd d q qo qk qa rc we
theorem i_up {k : Nat} {u : SX} {v : SY} (h : i_Rel k u v) : i_Rel (k + 6) u v := h
theorem rl_i {k : Nat} (h : rl_R tm kd sz dl ix sx iy sy st w wd d q qo qk qa rc we) : i_Rel k (tm, tn, kd, nu, sz, dl, ix, sx, st, wk, wo, we, wt, te, tk, w, q, qo, qk, qa, qb, rc, rs) (tm, tn, kd, nu, sz, iy, sy, dl, st, wk, wo, we, wt, wd, d, qo, qk, qa, qb, q, rs, rc, te, tk) :=
  ⟨tm, tn, kd, nu, sz, dl, ix, sx, iy, sy, st, wk, wo, we, w, wd, d, q, qo, qk, qa, qb, rc, wt, te, tk, rs, rfl, rfl, h⟩
/-! U: arguments -/
def rl_O (x : Int32) (n : Nat) : Prop := x < 0 ∨ nI n ≤ x
theorem rl_cs (x : Int32) (n : Nat) (hn : n < 2 ^ 31) : rl_O x n ∨ ∃ j, j < n ∧ x = nI j := by
  rcases pk_ix x hn with h | h | h
  · exact Or.inl (Or.inl h)
  · exact Or.inl (Or.inr h)
  · exact Or.inr h
theorem xc_t {post : Int32 → Prop} {c : Nat} (hc : c < 4) (h : post 1) : wpX_isClient post (nI c) := br_f (nI_pos (by omega)) (br_f (nI_ge (b := 4) hc (by omega)) h)
theorem xc_f {post : Int32 → Prop} {x : Int32} (hx : rl_O x 4) (h : post 0) : wpX_isClient post x := br_c (fun _ => h) (fun y => br_t (hx.resolve_left y) h)
theorem xk_t {post : Int32 → Prop} {k : Nat} (hk : k < 8) (h : post 1) : wpX_isKey post (nI k) := br_f (nI_pos (by omega)) (br_f (nI_ge (b := 8) hk (by omega)) h)
theorem xk_f {post : Int32 → Prop} {x : Int32} (hx : rl_O x 8) (h : post 0) : wpX_isKey post x := br_c (fun _ => h) (fun y => br_t (hx.resolve_left y) h)
theorem ya_t {post : Int32 → Prop} {j n : Nat} (hj : j < n) (hn : n < 2 ^ 31) (h : post 1) : wpY_among post (tm, tn, kd, nu, sz, iy, sy, dl, st, wk, wo, we, wt, wd, d, qo, qk, qa, qb, q, rs, rc, te, tk) (nI j) (nI n) := br_f (nI_pos (by omega)) (br_f (nI_ge hj hn) h)
theorem ya_f {post : Int32 → Prop} {x : Int32} {n : Nat} (hx : rl_O x n) (h : post 0) : wpY_among post (tm, tn, kd, nu, sz, iy, sy, dl, st, wk, wo, we, wt, wd, d, qo, qk, qa, qb, q, rs, rc, te, tk) x (nI n) := br_c (fun _ => h) (fun y => br_t (hx.resolve_left y) h)
def rl_N (st : Nat → Int32) (x : Int32) : Prop := rl_O x 4 ∨ ∃ c, c < 4 ∧ x = nI c ∧ st c ≠ 0
theorem rl_rd (st : Nat → Int32) (x : Int32) : rl_N st x ∨ ∃ c, c < 4 ∧ x = nI c ∧ st c = 0 := by
  rcases rl_cs x 4 (by omega) with h | ⟨c, hc, rfl⟩
  · exact Or.inl (Or.inl h)
  · by_cases z : st c = 0
    · exact Or.inr ⟨c, hc, rfl, z⟩
    · exact Or.inl (Or.inr ⟨c, hc, rfl, z⟩)
theorem xr_t {post : Int32 → Prop} {c : Nat} (hc : c < 4) (h0 : st c = 0) (h : post 1) : wpX_isReady post (tm, tn, kd, nu, sz, dl, ix, sx, st, wk, wo, we, wt, te, tk, w, q, qo, qk, qa, qb, rc, rs) (nI c) := by
  have e : (nI c).toNatClampNeg = c := nI_clamp (by omega)
  have i : vp_in (nI c) 4 := vp_in_nI hc (by omega)
  unfold wpX_isReady
  rw [e]
  exact xc_t hc (br_f (by decide) ⟨i, br_t h0 h⟩)
theorem xr_f {post : Int32 → Prop} {x : Int32} (hx : rl_N st x) (h : post 0) : wpX_isReady post (tm, tn, kd, nu, sz, dl, ix, sx, st, wk, wo, we, wt, te, tk, w, q, qo, qk, qa, qb, rc, rs) x := by
  unfold wpX_isReady
  rcases hx with hx | ⟨c, hc, rfl, h0⟩
  · exact xc_f hx (br_t rfl h)
  · have e : (nI c).toNatClampNeg = c := nI_clamp (by omega)
    have i : vp_in (nI c) 4 := vp_in_nI hc (by omega)
    rw [e]
    exact xc_t hc (br_f (by decide) ⟨i, br_f h0 h⟩)
theorem yr_t {post : Int32 → Prop} {c : Nat} (hc : c < 4) (h0 : st c = 0) (h : post 1) : wpY_ready post (tm, tn, kd, nu, sz, iy, sy, dl, st, wk, wo, we, wt, wd, d, qo, qk, qa, qb, q, rs, rc, te, tk) (nI c) := by
  have e : (nI c).toNatClampNeg = c := nI_clamp (by omega)
  have i : vp_in (nI c) 4 := vp_in_nI hc (by omega)
  unfold wpY_ready
  rw [e]
  exact ya_t (n := 4) hc (by omega) (br_f (by decide) ⟨i, br_t h0 h⟩)
theorem yr_f {post : Int32 → Prop} {x : Int32} (hx : rl_N st x) (h : post 0) : wpY_ready post (tm, tn, kd, nu, sz, iy, sy, dl, st, wk, wo, we, wt, wd, d, qo, qk, qa, qb, q, rs, rc, te, tk) x := by
  unfold wpY_ready
  rcases hx with hx | ⟨c, hc, rfl, h0⟩
  · exact ya_f (n := 4) hx (br_t rfl h)
  · have e : (nI c).toNatClampNeg = c := nI_clamp (by omega)
    have i : vp_in (nI c) 4 := vp_in_nI hc (by omega)
    rw [e]
    exact ya_t (n := 4) hc (by omega) (br_f (by decide) ⟨i, br_f h0 h⟩)
end RL
