/-! the relation; Y's selection from X's -/
section
variable {xs xu xc : Int32} {th cx sx kd nm ct : Nat → Int32} {op : Nat → Int64} {pa mx rx : Nat → Int32} {yd yu yc yf : Int32} {cy cn sy os ny sz ln py ry fy my nw : Nat → Int32}
def te_ok (kd nm sz ct : Nat → Int32) (e : Nat) : Prop :=
  ∃ L, 1 ≤ L ∧ ct e = nI L ∧ tm_W (fun i => kd (e * 24 + i)) (fun i => nm (e * 24 + i)) (fun i => sz (e * 24 + i)) L ∧ (tm_ps (fun i => kd (e * 24 + i)) L).length = 1
def te_st (kd nm sz ct : Nat → Int32) (xs : Int32) : Prop :=
  ∃ L, ct 9 = nI L ∧ tm_W (fun i => kd (9 * 24 + i)) (fun i => nm (9 * 24 + i)) (fun i => sz (9 * 24 + i)) L ∧ xs = nI (tm_ps (fun i => kd (9 * 24 + i)) L).length
def te_A (kd nm sz ct : Nat → Int32) (xs xc : Int32) : Prop :=
  (∀ e, e < 8 → te_ok kd nm sz ct e) ∧ (¬ xc = 0 → te_ok kd nm sz ct 8) ∧ te_st kd nm sz ct xs
def re_R (xs xu xc : Int32) (th cx sx kd nm ct pa : Nat → Int32) (yd yu yc : Int32) (cy cn sy os ny sz ln py : Nat → Int32) : Prop :=
  yd = xs ∧ yu = xu ∧ yc = xc ∧ ny = nm ∧ ln = ct ∧ py = pa ∧ bo_A th ∧ tb_A th cx cn cy ∧ (∀ s, s < 4 → sy (s + 1) = sx s) ∧ (∀ j, os j = tm_yk (kd j)) ∧ te_A kd nm sz ct xs xc
def i_Rel (k : Nat) (u : SX) (v : SY) : Prop := match u, v with
  | (xs, xu, xc, th, cx, sx, kd, nm, ct, op, pa, mx, rx), (yd, yu, yc, yf, cy, cn, sy, os, ny, sz, ln, py, ry, fy, my, nw) => re_R xs xu xc th cx sx kd nm ct pa yd yu yc cy cn sy os ny sz ln py
theorem i_up {k : Nat} {u : SX} {v : SY} (h : i_Rel k u v) : i_Rel (k + 5) u v := h
theorem te_get {e : Nat} (he : e < 10) (h : te_ok kd nm sz ct e) (ho : ∀ j, os j = tm_yk (kd j)) :
    ∃ (K N Z : Nat → Int32) (L : Nat), te_X kd nm ct K N Z e L ∧ te_Y os nm sz ct K N Z e L := by
  obtain ⟨L, h1, h2, h3, h4⟩ := h
  refine ⟨_, _, _, L, ⟨he, h3, h4, fun _ _ => rfl, fun _ _ => rfl, h2⟩, ⟨he, h3, h1, fun i _ => ?_, fun i _ => ?_, fun i _ => ?_, h2⟩⟩
  · show os (24 * e + i) = tm_yk (kd (e * 24 + i)); rw [ho, Nat.mul_comm]
  · show nm (24 * e + i) = nm (e * 24 + i); rw [Nat.mul_comm]
  · show sz (24 * e + i) = sz (e * 24 + i); rw [Nat.mul_comm]
theorem jo_pv {K N Z : Nat → Int32} {p t e L s : Nat} (T : te_Y os ny sz ln K N Z e L) (hR : rt_R th cx p cn cy t) (hs : s < 101) (h : ¬ vx_t th p s = 0) :
    pv_T K N L pa (vy_r cy t (ra_k (vx_t th p) s)) = pv_T K N L pa (vx_r cx p s) := pv_cg T.2.1 T.2.2.1 (hR.2.2 s hs h).2
/-- X's meets and Y's -/
def jo_M (xt mx my : Nat → Int32) : Prop := ∀ s, s < 101 → (xt s = 0 → mx s = 0) ∧ (¬ xt s = 0 → mx s = my (ra_k xt s))
theorem jo_ra {xt mx my : Nat → Int32} (h : jo_M xt mx my) : ∀ n, n ≤ 101 → ra_k mx n = ra_k my (ra_k xt n) := by
  intro n
  induction n with
  | zero => intro _; rfl
  | succ n ih =>
    intro hn
    have e := ih (by omega)
    by_cases z : xt n = 0
    · rw [ra_s0 z, ra_s0 ((h n (by omega)).1 z), e]
    · have em := (h n (by omega)).2 z
      rw [ra_s1 z]
      by_cases y : mx n = 0
      · rw [ra_s0 y, ra_s0 (by rw [← em]; exact y), e]
      · rw [ra_s1 y, ra_s1 (by rw [← em]; exact y), e]
theorem jo_yF {post : Int32 → SY → Prop} {e L : Nat} {K N Z : Nat → Int32} (T : te_Y os ny sz ln K N Z e L) (hR : rt_R th cx 4 cn cy 0)
    (hb : ∃ s, s < 101 ∧ ¬ vx_t th 4 s = 0 ∧ pv_T K N L py (vx_r cx 4 s) = none) (h : ∀ yf' ry' fy' my', post (-1000000005) (yd, yu, yc, yf', cy, cn, sy, os, ny, sz, ln, py, ry', fy', my', nw)) : wpY_findMeets post (yd, yu, yc, yf, cy, cn, sy, os, ny, sz, ln, py, ry, fy, my, nw) (nI e) := by
  refine ys_rows T hR.2.1 hR.1 (fun _ => h) (fun yf' ry' fy' my' h1 => ?_)
  obtain ⟨s, hs, ht, hn⟩ := hb
  obtain ⟨v, hv, _⟩ := h1 (ra_k (vx_t th 4) s) (ra_lt hs ht)
  rw [jo_pv T hR hs ht, hn] at hv
  exact absurd hv (by simp)
theorem jo_yS {post : Int32 → SY → Prop} {e L : Nat} {K N Z : Nat → Int32} {mx' : Nat → Int32} (T : te_Y os ny sz ln K N Z e L) (hR : rt_R th cx 4 cn cy 0)
    (h1 : ∀ s, s < 101 → ¬ vx_t th 4 s = 0 → ∃ v, pv_T K N L py (vx_r cx 4 s) = some v ∧ mx' s = if v = 0 then 0 else 1) (h2 : ∀ s, s < 101 → vx_t th 4 s = 0 → mx' s = 0)
    (h : ∀ yf' ry' fy' my', jo_M (vx_t th 4) mx' my' → post (nI (ra_k mx' 101)) (yd, yu, yc, yf', cy, cn, sy, os, ny, sz, ln, py, ry', fy', my', nw)) : wpY_findMeets post (yd, yu, yc, yf, cy, cn, sy, os, ny, sz, ln, py, ry, fy, my, nw) (nI e) := by
  refine ys_rows T hR.2.1 hR.1 (fun hb => ?_) (fun yf' ry' fy' my' h3 => ?_)
  · obtain ⟨r, hr, hn⟩ := hb
    obtain ⟨s, hs, ht, rfl⟩ := ra_inv hr
    obtain ⟨v, hv, _⟩ := h1 s hs ht
    rw [← jo_pv T hR hs ht, hn] at hv
    exact absurd hv (by simp)
  · have hM : jo_M (vx_t th 4) mx' my' := by
      intro s hs
      refine ⟨h2 s hs, fun ht => ?_⟩
      obtain ⟨v, hv, ev⟩ := h1 s hs ht
      obtain ⟨w, hw, ew⟩ := h3 _ (ra_lt hs ht)
      rw [jo_pv T hR hs ht, hv] at hw
      rw [ev, ew, Option.some.inj hw]
    rw [← jo_ra hM 101 (by omega)]
    exact h yf' ry' fy' my' hM
theorem jo_yF2 {post : Int32 → SY → Prop} {w Lw e L : Nat} {Kw Nw Zw K N Z : Nat → Int32} (Tw : te_Y os ny sz ln Kw Nw Zw w Lw) (T : te_Y os ny sz ln K N Z e L) (hR : rt_R th cx 4 cn cy 0)
    (hb : (∃ s, s < 101 ∧ ¬ vx_t th 4 s = 0 ∧ pv_T Kw Nw Lw py (vx_r cx 4 s) = none) ∨ (∃ s, s < 101 ∧ ¬ vx_t th 4 s = 0 ∧ (∃ v, pv_T Kw Nw Lw py (vx_r cx 4 s) = some v ∧ ¬ v = 0) ∧ pv_T K N L py (vx_r cx 4 s) = none))
    (h : ∀ yf' ry' fy' my' nw', post (-1000000005) (yd, yu, yc, yf', cy, cn, sy, os, ny, sz, ln, py, ry', fy', my', nw')) : wpY_findValues post (yd, yu, yc, yf, cy, cn, sy, os, ny, sz, ln, py, ry, fy, my, nw) (nI w) (nI e) := by
  refine ys_res Tw T hR.2.1 hR.1 (fun _ => h) (fun yf' ry' fy' my' nw' h1 h2 => ?_)
  rcases hb with ⟨s, hs, ht, hn⟩ | ⟨s, hs, ht, ⟨v, hv, v0⟩, hn⟩
  · obtain ⟨v, hv, _⟩ := h1 (ra_k (vx_t th 4) s) (ra_lt hs ht)
    rw [jo_pv Tw hR hs ht, hn] at hv
    exact absurd hv (by simp)
  · obtain ⟨v', hv', em⟩ := h1 (ra_k (vx_t th 4) s) (ra_lt hs ht)
    rw [jo_pv Tw hR hs ht, hv] at hv'
    rw [← Option.some.inj hv', if_neg v0] at em
    have := h2 _ (ra_lt hs ht) (by rw [em]; decide)
    rw [jo_pv T hR hs ht, hn] at this
    exact absurd this (by simp)
theorem jo_yS2 {post : Int32 → SY → Prop} {w Lw e L : Nat} {Kw Nw Zw K N Z : Nat → Int32} {mx' rx' : Nat → Int32} (Tw : te_Y os ny sz ln Kw Nw Zw w Lw) (T : te_Y os ny sz ln K N Z e L) (hR : rt_R th cx 4 cn cy 0)
    (h1 : ∀ s, s < 101 → ¬ vx_t th 4 s = 0 → ∃ v, pv_T Kw Nw Lw py (vx_r cx 4 s) = some v ∧ mx' s = if v = 0 then 0 else 1) (h2 : ∀ s, s < 101 → vx_t th 4 s = 0 → mx' s = 0)
    (h3 : ∀ s, s < 101 → ¬ mx' s = 0 → pv_T K N L py (vx_r cx 4 s) = some (rx' s))
    (h : ∀ yf' ry' fy' my' nw', jo_M (vx_t th 4) mx' my' → (∀ s, s < 101 → ¬ mx' s = 0 → nw' (ra_k (vx_t th 4) s) = rx' s) → post (nI (ra_k mx' 101)) (yd, yu, yc, yf', cy, cn, sy, os, ny, sz, ln, py, ry', fy', my', nw')) : wpY_findValues post (yd, yu, yc, yf, cy, cn, sy, os, ny, sz, ln, py, ry, fy, my, nw) (nI w) (nI e) := by
  refine ys_res Tw T hR.2.1 hR.1 (fun hb => ?_) (fun yf' ry' fy' my' nw' h4 h5 => ?_)
  · rcases hb with ⟨r, hr, hn⟩ | ⟨r, hr, ⟨v, hv, v0⟩, hn⟩
    · obtain ⟨s, hs, ht, rfl⟩ := ra_inv hr
      obtain ⟨v, hv, _⟩ := h1 s hs ht
      rw [← jo_pv Tw hR hs ht, hn] at hv
      exact absurd hv (by simp)
    · obtain ⟨s, hs, ht, rfl⟩ := ra_inv hr
      obtain ⟨v', hv', em⟩ := h1 s hs ht
      rw [← jo_pv Tw hR hs ht, hv] at hv'
      rw [← Option.some.inj hv', if_neg v0] at em
      have := h3 s hs (by rw [em]; decide)
      rw [← jo_pv T hR hs ht, hn] at this
      exact absurd this (by simp)
  · have hM : jo_M (vx_t th 4) mx' my' := by
      intro s hs
      refine ⟨h2 s hs, fun ht => ?_⟩
      obtain ⟨v, hv, ev⟩ := h1 s hs ht
      obtain ⟨w, hw, ew⟩ := h4 _ (ra_lt hs ht)
      rw [jo_pv Tw hR hs ht, hv] at hw
      rw [ev, ew, Option.some.inj hw]
    rw [← jo_ra hM 101 (by omega)]
    refine h yf' ry' fy' my' nw' hM (fun s hs hm => ?_)
    have ht : ¬ vx_t th 4 s = 0 := fun z => hm (h2 s hs z)
    have a := h5 _ (ra_lt hs ht) (by rw [← (hM s hs).2 ht]; exact hm)
    rw [jo_pv T hR hs ht, h3 s hs hm] at a
    exact (Option.some.inj a).symm
end
section
theorem i_vc_rows {k : Nat} {u : SX} {v : SY} (I : i_Rel k u v) (hk : k + 5 ≤ 2560) : wpX_rows (fun r => wpY_rows (fun r' => r' = r ∧ i_Rel (k + 5) u v) v) u := by
  obtain ⟨xs, xu, xc, th, cx, sx, kd, nm, ct, op, pa, mx, rx⟩ := u
  obtain ⟨yd, yu, yc, yf, cy, cn, sy, os, ny, sz, ln, py, ry, fy, my, nw⟩ := v
  have J := I
  obtain ⟨rfl, rfl, rfl, rfl, rfl, rfl, hb, ht, hs, ho, hT⟩ := I
  unfold wpX_rows
  dsimp only
  exact xc_rows (p := 4) (by omega) ⟨ht.1.1, J⟩
theorem i_vc_parameter {k : Nat} {u : SX} {v : SY} (I : i_Rel k u v) (hk : k + 5 ≤ 2560) (v1 : Int32) (v2 : Int32) : wpX_parameter (fun r u' => wpY_parameter (fun r' v' => r' = r ∧ i_Rel (k + 5) u' v') v v1 v2) u v1 v2 := by
  obtain ⟨xs, xu, xc, th, cx, sx, kd, nm, ct, op, pa, mx, rx⟩ := u
  obtain ⟨yd, yu, yc, yf, cy, cn, sy, os, ny, sz, ln, py, ry, fy, my, nw⟩ := v
  have J := I
  obtain ⟨rfl, rfl, rfl, rfl, rfl, rfl, hb, ht, hs, ho, hT⟩ := I
  by_cases h0 : v1 < 0
  · exact br_t h0 (br_t h0 ⟨rfl, J⟩)
  · by_cases h3 : v1 < 3
    · have h2 : v1 ≤ 2 := by
        have := Int32.lt_iff_toInt_lt.mp h3
        rw [show (3 : Int32).toInt = 3 from by decide] at this
        exact Int32.le_iff_toInt_le.mpr (by rw [show (2 : Int32).toInt = 2 from by decide]; omega)
      obtain ⟨j, hj, rfl⟩ := nI_of2 (n := 2) (by decide) h0 h2
      have vi : vp_in (nI j) 3 := vp_in_nI (by omega) (by omega)
      refine br_f h0 (br_t h3 ⟨vi, nm_e (br_f h0 (br_t h2 ⟨vi, nm_e ⟨rfl, ?_⟩⟩))⟩)
      exact ⟨rfl, rfl, rfl, rfl, rfl, rfl, hb, ht, hs, ho, hT⟩
    · have h2 : ¬ v1 ≤ 2 := by
        intro q
        have := Int32.le_iff_toInt_le.mp q
        rw [show (2 : Int32).toInt = 2 from by decide] at this
        exact h3 (Int32.lt_iff_toInt_lt.mpr (by rw [show (3 : Int32).toInt = 3 from by decide]; omega))
      exact br_f h0 (br_f h3 (br_f h0 (br_f h2 ⟨rfl, J⟩)))
theorem i_vc_uncheck {k : Nat} {u : SX} {v : SY} (I : i_Rel k u v) (hk : k + 5 ≤ 2560) : wpX_uncheck (fun r u' => wpY_uncheck (fun r' v' => r' = r ∧ i_Rel (k + 5) u' v') v) u := by
  obtain ⟨xs, xu, xc, th, cx, sx, kd, nm, ct, op, pa, mx, rx⟩ := u
  obtain ⟨yd, yu, yc, yf, cy, cn, sy, os, ny, sz, ln, py, ry, fy, my, nw⟩ := v
  obtain ⟨rfl, rfl, rfl, rfl, rfl, rfl, hb, ht, hs, ho, hT⟩ := I
  have hT' : te_A kd ny sz ln yd 0 := ⟨hT.1, fun z => absurd rfl z, hT.2.2⟩
  by_cases h0 : yc = 0
  · exact br_t h0 (br_t h0 ⟨rfl, rfl, rfl, rfl, rfl, rfl, rfl, hb, ht, hs, ho, hT'⟩)
  · exact br_f h0 (br_f h0 ⟨rfl, rfl, rfl, rfl, rfl, rfl, rfl, hb, ht, hs, ho, hT'⟩)
theorem i_vc_count {k : Nat} {u : SX} {v : SY} (I : i_Rel k u v) (hk : k + 5 ≤ 2560) (v1 : Int32) : wpX_count (fun r u' => wpY_count (fun r' v' => r' = r ∧ i_Rel (k + 5) u' v') v v1) u v1 := by
  obtain ⟨xs, xu, xc, th, cx, sx, kd, nm, ct, op, pa, mx, rx⟩ := u
  obtain ⟨yd, yu, yc, yf, cy, cn, sy, os, ny, sz, ln, py, ry, fy, my, nw⟩ := v
  have J := I
  obtain ⟨rfl, rfl, rfl, rfl, rfl, rfl, hb, ht, hs, ho, hT⟩ := I
  unfold wpX_count wpY_count
  dsimp only
  rcases pk_ix v1 (n := 8) (by omega) with hx | hx | ⟨e, he, rfl⟩
  · exact xa_expN (Or.inl hx) (br_t rfl (ya_expN (Or.inl hx) (br_t rfl ⟨rfl, J⟩)))
  · exact xa_expN (Or.inr hx) (br_t rfl (ya_expN (Or.inr hx) (br_t rfl ⟨rfl, J⟩)))
  · obtain ⟨K, N, Z, L, TX', TY'⟩ := te_get (by omega) (hT.1 e he) ho
    refine xa_exp he (br_f (by decide) (xs_rows TX' (fun hb op' mx' => ?_) (fun op' mx' h1 h2 => ?_)))
    · exact ya_exp he (br_f (by decide) (jo_yF TY' ht.1 hb (fun yf' ry' fy' my' => ⟨rfl, J⟩)))
    · exact ya_exp he (br_f (by decide) (jo_yS TY' ht.1 h1 h2 (fun yf' ry' fy' my' hM => ⟨rfl, J⟩)))
end
