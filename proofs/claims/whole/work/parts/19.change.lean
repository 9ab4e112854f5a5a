/-! delete, insert, update, copy -/
section
variable {xs xu xc : Int32} {th cx sx kd nm ct : Nat → Int32} {op : Nat → Int64} {pa mx rx : Nat → Int32} {yd yu yc yf : Int32} {cy cn sy os ny sz ln py ry fy my nw : Nat → Int32}
theorem yt_U {post : Int32 → SY → Prop} {a : Int32} {L t : Nat} {K N Z : Nat → Int32} (ht : t < 6) (ht0 : t ≠ 0) (hR : rt_R th cx 5 cn cy t) (T : ¬ yc = 0 → te_Y os ny sz ln K N Z 8 L)
    (a1 : ¬ yu = 0) (b1 : ¬ un_ok (vx_t th 5) (vx_r cx 5)) (h : post (-1000000007) (yd, yu, yc, yf, cy, cn, sy, os, ny, sz, ln, py, ry, fy, my, nw)) : wpY_settle post (yd, yu, yc, yf, cy, cn, sy, os, ny, sz, ln, py, ry, fy, my, nw) (nI t) a :=
  yt_take ht ht0 hR T (fun _ _ => h) (fun q => absurd q (fun q => q.elim a1 b1)) (fun q => absurd q (fun q => q.elim a1 b1))
theorem yt_C {post : Int32 → SY → Prop} {a : Int32} {L t : Nat} {K N Z : Nat → Int32} (ht : t < 6) (ht0 : t ≠ 0) (hR : rt_R th cx 5 cn cy t) (T : ¬ yc = 0 → te_Y os ny sz ln K N Z 8 L)
    (a1 : yu = 0 ∨ un_ok (vx_t th 5) (vx_r cx 5)) (b1 : ¬ yc = 0) (c1 : ¬ am_ok K N L py (vx_t th 5) (vx_r cx 5)) (h : ∀ yf' ry' fy', post (-1000000008) (yd, yu, yc, yf', cy, cn, sy, os, ny, sz, ln, py, ry', fy', my, nw)) : wpY_settle post (yd, yu, yc, yf, cy, cn, sy, os, ny, sz, ln, py, ry, fy, my, nw) (nI t) a :=
  yt_take ht ht0 hR T (fun p q => (a1.elim p q).elim) (fun _ _ _ => h) (fun _ q => (q.elim b1 c1).elim)
theorem yt_O {post : Int32 → SY → Prop} {a : Int32} {L t : Nat} {K N Z : Nat → Int32} (ht : t < 6) (ht0 : t ≠ 0) (hR : rt_R th cx 5 cn cy t) (T : ¬ yc = 0 → te_Y os ny sz ln K N Z 8 L)
    (a1 : yu = 0 ∨ un_ok (vx_t th 5) (vx_r cx 5)) (b1 : yc = 0 ∨ am_ok K N L py (vx_t th 5) (vx_r cx 5)) (h : ∀ yf' ry' fy' cy' cn', cl_T cy cn cy' cn' t 0 → post a (yd, yu, yc, yf', cy', cn', sy, os, ny, sz, ln, py, ry', fy', my, nw)) : wpY_settle post (yd, yu, yc, yf, cy, cn, sy, os, ny, sz, ln, py, ry, fy, my, nw) (nI t) a :=
  yt_take ht ht0 hR T (fun p q => (a1.elim p q).elim) (fun _ p q => (b1.elim p q).elim) (fun _ _ => h)
theorem xd_dl {post : Int32 → SX → Prop} {a : Int32} (hb : bo_A th)
    (h : ∀ th', (∀ s, s < 101 → th' (4 * 101 + s) = if mx s = 0 then th (4 * 101 + s) else 0) → (∀ j, j < 404 ∨ 505 ≤ j → th' j = th j) → bo_A th' → post a (xs, xu, xc, th', cx, sx, kd, nm, ct, op, pa, mx, rx)) :
    ∀ d i n th1, i + d = 101 → d < n → (∀ s, s < i → th1 (4 * 101 + s) = if mx s = 0 then th (4 * 101 + s) else 0) → (∀ j, j < 404 ∨ 404 + i ≤ j → th1 j = th j) → bo_A th1 → wX_delete_27 post a xs xu xc n (nI i) th1 cx sx kd nm ct op pa mx rx := by
  intro d
  induction d with
  | zero =>
    intro i n th1 hi hn a1 a2 a3
    obtain ⟨n, rfl⟩ : ∃ m, n = m + 1 := ⟨n - 1, by omega⟩
    obtain rfl : i = 101 := by omega
    exact br_t (by decide) (h th1 a1 (fun j hj => a2 j (by omega)) a3)
  | succ d ih =>
    intro i n th1 hi hn a1 a2 a3
    obtain ⟨n, rfl⟩ : ∃ m, n = m + 1 := ⟨n - 1, by omega⟩
    have e4 : 404 + nI i = nI (4 * 101 + i) := nI_add 404 i
    refine br_f (nI_ge (b := 101) (by omega) (by omega)) ⟨vp_in_nI (by omega) (by omega), ?_⟩
    rw [nI_clamp (n := i) (by omega)]
    refine br_c (fun z => nm_r (nI_1 i) (ih (i + 1) n th1 (by omega) (by omega) (fun s hs => ?_) (fun j hj => a2 j (by omega)) a3)) (fun z => ⟨pk_in (4 * 101 + i) 606 (by omega) e4, nm_r (e' := upd th1 (4 * 101 + i) 0) (by rw [e4, nI_clamp (by omega)]; rfl) (nm_r (nI_1 i) (ih (i + 1) n _ (by omega) (by omega) (fun s hs => ?_) (fun j hj => ?_) (bo_u a3 (Or.inl rfl))))⟩)
    · by_cases e : s = i
      · subst e; rw [if_pos z]; exact a2 _ (by omega)
      · exact a1 s (by omega)
    · by_cases e : s = i
      · subst e; rw [pk_us, if_neg z]
      · rw [pk_un (by omega)]; exact a1 s (by omega)
    · rw [pk_un (by omega)]; exact a2 j (by omega)
theorem ra_del {xt xt' mx my : Nat → Int32} (hM : jo_M xt mx my) (h : ∀ s, s < 101 → xt' s = if mx s = 0 then xt s else 0) : ∀ n, n ≤ 101 → ra_k xt' n = ra_k (kp_F my) (ra_k xt n) := by
  intro n
  induction n with
  | zero => intro _; rfl
  | succ n ih =>
    intro hn
    have e := ih (by omega)
    have en := h n (by omega)
    by_cases z : xt n = 0
    · rw [ra_s0 z, ra_s0 (t := xt') (by rw [en, if_pos ((hM n (by omega)).1 z)]; exact z), e]
    · have em := (hM n (by omega)).2 z
      rw [ra_s1 z]
      by_cases y : mx n = 0
      · rw [ra_s1 (t := xt') (by rw [en, if_pos y]; exact z), ra_s1 (kp_1 (by rw [← em]; exact y)), e]
      · rw [ra_s0 (t := xt') (by rw [en, if_neg y]), ra_s0 (kp_0 (by rw [← em]; exact y)), e]
end
section
theorem i_vc_delete {k : Nat} {u : SX} {v : SY} (I : i_Rel k u v) (hk : k + 5 ≤ 2560) (v1 : Int32) : wpX_delete (fun r u' => wpY_delete (fun r' v' => r' = r ∧ i_Rel (k + 5) u' v') v v1) u v1 := by
  obtain ⟨xs, xu, xc, th, cx, sx, kd, nm, ct, op, pa, mx, rx⟩ := u
  obtain ⟨yd, yu, yc, yf, cy, cn, sy, os, ny, sz, ln, py, ry, fy, my, nw⟩ := v
  have J := I
  obtain ⟨rfl, rfl, rfl, rfl, rfl, rfl, hb, ht, hs, ho, hT⟩ := I
  have hR := ht.1
  have hm := hR.2.1
  unfold wpX_delete wpY_delete
  dsimp only
  rcases pk_ix v1 (n := 8) (by omega) with hx | hx | ⟨e, he, rfl⟩
  · exact xa_expN (Or.inl hx) (br_t rfl (ya_expN (Or.inl hx) (br_t rfl ⟨rfl, J⟩)))
  · exact xa_expN (Or.inr hx) (br_t rfl (ya_expN (Or.inr hx) (br_t rfl ⟨rfl, J⟩)))
  · obtain ⟨K, N, Z, L, TX', TY'⟩ := te_get (by omega) (hT.1 e he) ho
    refine xa_exp he (br_f (by decide) (xs_rows TX' (fun hb op' mx' => ?_) (fun op' mx' h1 h2 => ?_)))
    · exact br_t rfl (ya_exp he (br_f (by decide) (jo_yF TY' ht.1 hb (fun yf' ry' fy' my' => br_t rfl ⟨rfl, J⟩))))
    · have hn5 : ¬ nI (ra_k mx' 101) = -1000000005 := nf_5 (ra_le mx' 101)
      refine br_f hn5 ⟨102, xd_dl hb (fun th' a1 a2 a3 => ?_) 101 0 102 th (by omega) (by omega) (fun s hs => absurd hs (by omega)) (fun _ _ => rfl) hb⟩
      refine ya_exp he (br_f (by decide) (jo_yS TY' ht.1 h1 h2 (fun yf' ry' fy' my' hM => br_f hn5 (nm_e ⟨ra_k (vx_t th 4) 101 + 1, ?_⟩))))
      have hc0 : upd cn 5 0 0 = nI (ra_k (vx_t th 4) 101) := by rw [pk_un (by omega)]; exact hR.1
      refine yb_dl_l (m := ra_k (vx_t th 4) 101) hc0 hm (fun cy' cn' b1 b2 b3 b4 => ⟨rfl, rfl, rfl, rfl, rfl, rfl, rfl, a3, ?_, hs, ho, hT⟩) (ra_k (vx_t th 4) 101) 0 _ cy (upd cn 5 0) (by omega) (by omega) (fun _ _ => rfl) (fun _ _ => rfl) pk_us (fun r hr => absurd hr (by omega))
      show tb_A th' cx cn' cy'
      have er := ra_del (xt := vx_t th 4) (xt' := vx_t th' 4) hM (fun s hs => a1 s hs)
      refine ⟨⟨?_, ?_, fun s hs' hz => ?_⟩, fun p hp => ?_⟩
      · rw [b3, er 101 (by omega)]
      · rw [er 101 (by omega)]; exact Nat.le_trans (ra_le _ _) hm
      · have es : vx_t th' 4 s = if mx' s = 0 then vx_t th 4 s else 0 := a1 s hs'
        have m0 : mx' s = 0 := Classical.byContradiction (fun q => hz (by rw [es, if_neg q]))
        rw [es, if_pos m0] at hz
        obtain ⟨c1, c2⟩ := hR.2.2 s hs' hz
        refine ⟨c1, fun c hc => ?_⟩
        rw [er s (by omega), b4 _ (ra_lt hs' hz) (by show my' _ = 0; rw [← (hM s hs').2 hz]; exact m0) c hc]
        exact c2 c hc
      · refine rt_cg (ht.2 p hp) (fun s hs => a2 _ (by omega)) (fun s hs c hc => rfl) ?_ (fun i hi => b1 _ (by omega) (by omega))
        rw [b2 (p + 1) (by omega) (by omega), pk_un (by omega)]
end
section
variable {xs xu xc : Int32} {th cx sx kd nm ct : Nat → Int32} {op : Nat → Int64} {pa mx rx : Nat → Int32} {yd yu yc yf : Int32} {cy cn sy os ny sz ln py ry fy my nw : Nat → Int32}
/-- the two sides at the end of a statement that built NEXT and table 5 -/
theorem fi_tb {th1 cx1 cn1 cy1 : Nat → Int32} (ht : tb_A th cx cn cy) (F : fr_X th cx th1 cx1) (h1 : ∀ j, j < 800 → cy1 j = cy j) (h2 : ∀ t, t < 5 → cn1 t = cn t) : tb_A th1 cx1 cn1 cy1 :=
  tb_keep ht F.1 F.2.1 h2 h1
end
section
theorem i_vc_update {k : Nat} {u : SX} {v : SY} (I : i_Rel k u v) (hk : k + 5 ≤ 2560) (v1 : Int32) (v2 : Int32) (v3 : Int32) : wpX_update (fun r u' => wpY_update (fun r' v' => r' = r ∧ i_Rel (k + 5) u' v') v v1 v2 v3) u v1 v2 v3 := by
  obtain ⟨xs, xu, xc, th, cx, sx, kd, nm, ct, op, pa, mx, rx⟩ := u
  obtain ⟨yd, yu, yc, yf, cy, cn, sy, os, ny, sz, ln, py, ry, fy, my, nw⟩ := v
  have J := I
  obtain ⟨rfl, rfl, rfl, rfl, rfl, rfl, hb, ht, hs, ho, hT⟩ := I
  have hR := ht.1
  have hm := hR.2.1
  unfold wpX_update
  dsimp only
  rcases pk_ix v1 (n := 8) (by omega) with hx | hx | ⟨w, hw, rfl⟩
  · exact xa_expN (Or.inl hx) (br_t rfl (by unfold wpY_update; dsimp only; exact ya_expN (Or.inl hx) (br_t rfl ⟨rfl, J⟩)))
  · exact xa_expN (Or.inr hx) (br_t rfl (by unfold wpY_update; dsimp only; exact ya_expN (Or.inr hx) (br_t rfl ⟨rfl, J⟩)))
  refine xa_exp hw (br_f (by decide) ?_)
  rcases pk_ix v3 (n := 8) (by omega) with hx | hx | ⟨e, he, rfl⟩
  · exact xa_expN (Or.inl hx) (br_t rfl (by unfold wpY_update; dsimp only; exact ya_exp hw (br_f (by decide) (ya_expN (Or.inl hx) (br_t rfl ⟨rfl, J⟩)))))
  · exact xa_expN (Or.inr hx) (br_t rfl (by unfold wpY_update; dsimp only; exact ya_exp hw (br_f (by decide) (ya_expN (Or.inr hx) (br_t rfl ⟨rfl, J⟩)))))
  refine xa_exp he (br_f (by decide) ?_)
  rcases pk_ix v2 (n := 4) (by omega) with hx | hx | ⟨col, hcol, rfl⟩
  · exact xa_colN (Or.inl hx) (br_t rfl (by unfold wpY_update; dsimp only; exact ya_exp hw (br_f (by decide) (ya_exp he (br_f (by decide) (br_t hx ⟨rfl, J⟩))))))
  · have h0 : ¬ v2 < 0 := Int32.not_lt.mpr (Int32.le_trans (show (0 : Int32) ≤ nI 4 from by decide) hx)
    exact xa_colN (Or.inr hx) (br_t rfl (by unfold wpY_update; dsimp only; exact ya_exp hw (br_f (by decide) (ya_exp he (br_f (by decide) (br_f h0 (br_f (Int32.not_le.mpr (ya_gt3 hx)) ⟨rfl, J⟩)))))))
  have c0 : ¬ nI col < 0 := nI_pos (by omega)
  have c3 : nI col ≤ 3 := nI_le (b := 3) (by omega) (by omega)
  refine xa_col hcol (br_f (by decide) ?_)
  obtain ⟨Kw, Nw, Zw, Lw, TXw, TYw⟩ := te_get (by omega) (hT.1 w hw) ho
  obtain ⟨K, N, Z, L, TX', TY'⟩ := te_get (by omega) (hT.1 e he) ho
  obtain ⟨K8, N8, Z8, L8, TX8, TY8⟩ := te_8 hT.2.1 ho
  refine xs_res TXw TX' (fun hb op' mx' rx' => ?_) (fun op' mx' rx' h1 h2 h3 => ?_)
  · exact br_t rfl (by unfold wpY_update; dsimp only; exact ya_exp hw (br_f (by decide) (ya_exp he (br_f (by decide) (br_f c0 (br_t c3 (jo_yF2 TYw TY' ht.1 hb (fun yf' ry' fy' my' nw' => br_t rfl ⟨rfl, J⟩))))))))
  have hn5 : ¬ nI (ra_k mx' 101) = -1000000005 := nf_5 (ra_le mx' 101)
  obtain ⟨f, hf⟩ := ra_fun (vx_t th 4) (fun s => xr_T (up_r (vx_r cx 4) mx' rx' col) s) (0, 0, 0, 0) 101
  -- Y's side, whatever X did
  have ySide : ∀ {post : Int32 → SY → Prop},
      (∀ yf' ry' fy' my' nw' cy' cn', (∀ j, j < 800 → cy' j = cy j) → (∀ t, t < 5 → cn' t = cn t) → ¬ gd_K f (ra_k (vx_t th 4) 101) → post (-1000000006) (yd, yu, yc, yf', cy', cn', sy, os, ny, sz, ln, py, ry', fy', my', nw')) →
      (∀ yf' ry' fy' my' nw' cy' cn', (∀ j, j < 800 → cy' j = cy j) → (∀ t, t < 5 → cn' t = cn t) → cn' 5 = nI (ra_k (vx_t th 4) 101) → gd_K f (ra_k (vx_t th 4) 101) → pm_E f (or_r cy') (ra_k (vx_t th 4) 101) → so_R (or_r cy') (ra_k (vx_t th 4) 101) → wpY_settle post (yd, yu, yc, yf', cy', cn', sy, os, ny, sz, ln, py, ry', fy', my', nw') (nI 5) (nI (ra_k mx' 101))) →
      wpY_update post (yd, yu, yc, yf, cy, cn, sy, os, ny, sz, ln, py, ry, fy, my, nw) (nI w) (nI col) (nI e) := by
    intro post hB hS
    unfold wpY_update
    dsimp only
    refine ya_exp hw (br_f (by decide) (ya_exp he (br_f (by decide) (br_f c0 (br_t c3 (jo_yS2 TYw TY' ht.1 h1 h2 h3 (fun yf' ry' fy' my' nw' hM hV => br_f hn5 (yc_list (t := 0) (u := 5) (by omega) (by omega) (by omega) (fun cy2 cn2 hl => ⟨ra_k (vx_t th 4) 101 + 1, ?_⟩)))))))))
    have k5 : cn2 5 = nI (ra_k (vx_t th 4) 101) := by rw [hl.2.2, pk_us]; exact hR.1
    have kt : ∀ t, t < 5 → cn2 t = cn t := fun t ht => by rw [hl.2.2, pk_un (by omega)]
    have ky : ∀ j, j < 800 → cy2 j = cy j := fun j hj => hl.2.1 j (by omega)
    refine yb_up_l (f := f) hcol hm (by rw [kt 0 (by omega)]; exact hR.1) k5 (fun j hj => ?_) (fun g cy' b1 => hB _ _ _ _ _ _ _ (fun j hj => by rw [b1 j hj, ky j hj]) kt g) (fun g cy' b1 b2 b3 => hS _ _ _ _ _ _ _ (fun j hj => by rw [b1 j hj, ky j hj]) kt k5 g b2 b3) (ra_k (vx_t th 4) 101) 0 _ cy2 (by omega) (by omega) (fun _ _ => rfl) (fun r hr => absurd hr (by omega)) (fun _ _ => rfl)
    obtain ⟨s, hs', hz, rfl⟩ := ra_inv hj
    rw [hf s hs' hz]
    have q : ∀ c, c < 4 → up_r (vx_r cx 4) mx' rx' col s c = up_r (vy_r cy2 5) my' nw' col (ra_k (vx_t th 4) s) c := by
      intro c hc
      unfold up_r
      have em := (hM s hs').2 hz
      by_cases y : c = col ∧ ¬ mx' s = 0
      · rw [if_pos y, if_pos ⟨y.1, by rw [← em]; exact y.2⟩, hV s hs' y.2]
      · rw [if_neg y, if_neg (fun q => y ⟨q.1, by rw [em]; exact q.2⟩), ← (hR.2.2 s hs' hz).2 c hc]
        have hlt : ra_k (vx_t th 4) s < 40 := Nat.lt_of_lt_of_le (ra_lt hs' hz) hm
        show cy (160 * 0 + 4 * _ + c) = cy2 (160 * 5 + 4 * _ + c)
        rw [Nat.add_assoc, Nat.add_assoc]
        exact (hl.1 _ (by omega)).symm
    unfold xr_T
    rw [q 0 (by omega), q 1 (by omega), q 2 (by omega), q 3 (by omega)]
  refine br_f hn5 (xb_up hb hcol (fun s hs hz => (hR.2.2 s hs hz).1) hf (fun th1 cx1 F H => br_f (by decide) ?_) (fun g th1 cx1 F => br_t rfl ?_))
  · have hg := nx_gd H
    refine xt_take F.2.2 TX8 (fun a b => ?_) (fun a b c op2 => ?_) (fun a b op2 th2 cx2 hc2 => ?_)
    · refine ySide (fun _ _ _ _ _ _ _ _ _ g => absurd hg g) (fun yf' ry' fy' my' nw' cy' cn' b1 b2 b3 _ b4 b5 => ?_)
      exact yt_U (by omega) (by omega) (nx_rt hm b3 H b4 b5) TY8 a b ⟨rfl, rfl, rfl, rfl, rfl, rfl, rfl, F.2.2, fi_tb ht F b1 b2, hs, ho, hT⟩
    · refine ySide (fun _ _ _ _ _ _ _ _ _ g => absurd hg g) (fun yf' ry' fy' my' nw' cy' cn' b1 b2 b3 _ b4 b5 => ?_)
      exact yt_C (by omega) (by omega) (nx_rt hm b3 H b4 b5) TY8 a b c (fun _ _ _ => ⟨rfl, rfl, rfl, rfl, rfl, rfl, rfl, F.2.2, fi_tb ht F b1 b2, hs, ho, hT⟩)
    · refine ySide (fun _ _ _ _ _ _ _ _ _ g => absurd hg g) (fun yf' ry' fy' my' nw' cy' cn' b1 b2 b3 _ b4 b5 => ?_)
      have hR5 := nx_rt hm b3 H b4 b5
      exact yt_O (by omega) (by omega) hR5 TY8 a b (fun _ _ _ cy3 cn3 hl => ⟨rfl, rfl, rfl, rfl, rfl, rfl, rfl, cp_bo hc2 F.2.2, tk_tb (fi_tb ht F b1 b2) hR5 hc2 hl, hs, ho, hT⟩)
  · exact ySide (fun yf' ry' fy' my' nw' cy' cn' b1 b2 _ => ⟨rfl, rfl, rfl, rfl, rfl, rfl, rfl, F.2.2, fi_tb ht F b1 b2, hs, ho, hT⟩) (fun _ _ _ _ _ _ _ _ _ _ g' => absurd g' g)
end
