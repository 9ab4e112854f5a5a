/-! copy, insert -/
section
variable {xs xu xc : Int32} {th cx sx kd nm ct : Nat → Int32} {op : Nat → Int64} {pa mx rx : Nat → Int32} {yd yu yc yf : Int32} {cy cn sy os ny sz ln py ry fy my nw : Nat → Int32}
theorem xi_put {post : SX → Prop} {s0 : Nat} {a b c : Int32} (hs : s0 < 101)
    (h : ∀ cx', xr_T (vx_r cx' 5) s0 = (nI s0 - 50, a, b, c) → (∀ j, j < (5 * 101 + s0) * 4 ∨ (5 * 101 + s0) * 4 + 4 ≤ j → cx' j = cx j) → post (xs, xu, xc, (upd th (5 * 101 + s0) 1), cx', sx, kd, nm, ct, op, pa, mx, rx)) : wpX_putRow post (xs, xu, xc, th, cx, sx, kd, nm, ct, op, pa, mx, rx) (nI s0 - 50) a b c := by
  unfold wpX_putRow
  dsimp only
  refine xa_slot (p := 5) ?_
  have e0 : nI (5 * 101 + s0) * 4 = nI ((5 * 101 + s0) * 4) := pk_mul _ 4
  have e1 : nI (5 * 101 + s0) * 4 + 1 = nI ((5 * 101 + s0) * 4 + 1) := ab_m4 _ 1
  have e2 : nI (5 * 101 + s0) * 4 + 2 = nI ((5 * 101 + s0) * 4 + 2) := ab_m4 _ 2
  have e3 : nI (5 * 101 + s0) * 4 + 3 = nI ((5 * 101 + s0) * 4 + 3) := ab_m4 _ 3
  refine ⟨vp_in_nI (by omega) (by omega), nm_r (e' := upd th (5 * 101 + s0) 1) (by rw [nI_clamp (by omega)]; rfl) ⟨pk_in ((5 * 101 + s0) * 4) 2424 (by omega) e0, nm_r (e' := upd cx ((5 * 101 + s0) * 4) (nI s0 - 50)) (by rw [e0, nI_clamp (by omega)]) ⟨pk_in ((5 * 101 + s0) * 4 + 1) 2424 (by omega) e1, nm_r (e' := upd (upd cx ((5 * 101 + s0) * 4) (nI s0 - 50)) ((5 * 101 + s0) * 4 + 1) a) (by rw [e1, nI_clamp (by omega)]) ⟨pk_in ((5 * 101 + s0) * 4 + 2) 2424 (by omega) e2, nm_r (e' := upd (upd (upd cx ((5 * 101 + s0) * 4) (nI s0 - 50)) ((5 * 101 + s0) * 4 + 1) a) ((5 * 101 + s0) * 4 + 2) b) (by rw [e2, nI_clamp (by omega)]) ⟨pk_in ((5 * 101 + s0) * 4 + 3) 2424 (by omega) e3, nm_r (e' := upd (upd (upd (upd cx ((5 * 101 + s0) * 4) (nI s0 - 50)) ((5 * 101 + s0) * 4 + 1) a) ((5 * 101 + s0) * 4 + 2) b) ((5 * 101 + s0) * 4 + 3) c) (by rw [e3, nI_clamp (by omega)]) (h _ ?_ (fun j hj => ?_))⟩⟩⟩⟩⟩
  · refine xr_e ?_ ?_ ?_ ?_
    · show upd (upd (upd (upd cx ((5 * 101 + s0) * 4) (nI s0 - 50)) ((5 * 101 + s0) * 4 + 1) a) ((5 * 101 + s0) * 4 + 2) b) ((5 * 101 + s0) * 4 + 3) c ((5 * 101 + s0) * 4) = _
      rw [pk_un (by omega), pk_un (by omega), pk_un (by omega), pk_us]
    · show upd (upd (upd (upd cx ((5 * 101 + s0) * 4) (nI s0 - 50)) ((5 * 101 + s0) * 4 + 1) a) ((5 * 101 + s0) * 4 + 2) b) ((5 * 101 + s0) * 4 + 3) c ((5 * 101 + s0) * 4 + 1) = _
      rw [pk_un (by omega), pk_un (by omega), pk_us]
    · show upd (upd (upd (upd cx ((5 * 101 + s0) * 4) (nI s0 - 50)) ((5 * 101 + s0) * 4 + 1) a) ((5 * 101 + s0) * 4 + 2) b) ((5 * 101 + s0) * 4 + 3) c ((5 * 101 + s0) * 4 + 2) = _
      rw [pk_un (by omega), pk_us]
    · exact pk_us
  · rw [pk_un (by omega), pk_un (by omega), pk_un (by omega), pk_un (by omega)]
end
section
theorem i_vc_copy {k : Nat} {u : SX} {v : SY} (I : i_Rel k u v) (hk : k + 5 ≤ 2560) (v1 : Int32) (v2 : Int32) : wpX_copy (fun r u' => wpY_copy (fun r' v' => r' = r ∧ i_Rel (k + 5) u' v') v v1 v2) u v1 v2 := by
  obtain ⟨xs, xu, xc, th, cx, sx, kd, nm, ct, op, pa, mx, rx⟩ := u
  obtain ⟨yd, yu, yc, yf, cy, cn, sy, os, ny, sz, ln, py, ry, fy, my, nw⟩ := v
  have J := I
  obtain ⟨rfl, rfl, rfl, rfl, rfl, rfl, hb, ht, hs, ho, hT⟩ := I
  have hR := ht.1
  have hm := hR.2.1
  unfold wpX_copy
  dsimp only
  rcases pk_ix v1 (n := 8) (by omega) with hx | hx | ⟨w, hw, rfl⟩
  · exact xa_expN (Or.inl hx) (br_t rfl (by unfold wpY_copy; dsimp only; exact ya_expN (Or.inl hx) (br_t rfl ⟨rfl, J⟩)))
  · exact xa_expN (Or.inr hx) (br_t rfl (by unfold wpY_copy; dsimp only; exact ya_expN (Or.inr hx) (br_t rfl ⟨rfl, J⟩)))
  refine xa_exp hw (br_f (by decide) ?_)
  rcases pk_ix v2 (n := 8) (by omega) with hx | hx | ⟨e, he, rfl⟩
  · exact xa_expN (Or.inl hx) (br_t rfl (by unfold wpY_copy; dsimp only; exact ya_exp hw (br_f (by decide) (ya_expN (Or.inl hx) (br_t rfl ⟨rfl, J⟩)))))
  · exact xa_expN (Or.inr hx) (br_t rfl (by unfold wpY_copy; dsimp only; exact ya_exp hw (br_f (by decide) (ya_expN (Or.inr hx) (br_t rfl ⟨rfl, J⟩)))))
  refine xa_exp he (br_f (by decide) ?_)
  obtain ⟨Kw, Nw, Zw, Lw, TXw, TYw⟩ := te_get (by omega) (hT.1 w hw) ho
  obtain ⟨K, N, Z, L, TX', TY'⟩ := te_get (by omega) (hT.1 e he) ho
  obtain ⟨K8, N8, Z8, L8, TX8, TY8⟩ := te_8 hT.2.1 ho
  refine xs_res TXw TX' (fun hb op' mx' rx' => ?_) (fun op' mx' rx' h1 h2 h3 => ?_)
  · exact br_t rfl (by unfold wpY_copy; dsimp only; exact ya_exp hw (br_f (by decide) (ya_exp he (br_f (by decide) (jo_yF2 TYw TY' ht.1 hb (fun yf' ry' fy' my' nw' => br_t rfl ⟨rfl, J⟩))))))
  have hn5 : ¬ nI (ra_k mx' 101) = -1000000005 := nf_5 (ra_le mx' 101)
  have h101 := ra_le mx' 101
  have es : nI (ra_k (vx_t th 4) 101) + nI (ra_k mx' 101) = nI (ra_k (vx_t th 4) 101 + ra_k mx' 101) := nI_add _ _
  refine br_f hn5 (xc_rows (p := 4) (by omega) ?_)
  dsimp only
  rw [es]
  by_cases hfull : ra_k (vx_t th 4) 101 + ra_k mx' 101 ≤ 40
  case neg =>
    refine br_f (nI_ge (b := _) (a := 40) (by omega) (by omega)) ?_
    unfold wpY_copy
    dsimp only
    refine ya_exp hw (br_f (by decide) (ya_exp he (br_f (by decide) (jo_yS2 TYw TY' ht.1 h1 h2 h3 (fun yf' ry' fy' my' nw' hM hV => br_f hn5 (br_f ?_ ⟨rfl, J⟩))))))
    show ¬ cn 0 + nI (ra_k mx' 101) ≤ 40
    rw [hR.1, es]
    exact nI_ge (b := _) (a := 40) (by omega) (by omega)
  have le40 : nI (ra_k (vx_t th 4) 101 + ra_k mx' 101) ≤ 40 := nI_le (b := 40) hfull (by omega)
  refine br_t le40 ?_
  obtain ⟨f1, hf1⟩ := ra_fun (vx_t th 4) (fun s => xr_T (vx_r cx 4) s) (0, 0, 0, 0) 101
  obtain ⟨f2, hf2⟩ := ra_fun mx' (fun s => ((rx' s, vx_r cx 4 s 1, vx_r cx 4 s 2, vx_r cx 4 s 3) : ro_T)) (0, 0, 0, 0) 101
  have hfx : ∃ f : Nat → ro_T, (∀ j, j < ra_k (vx_t th 4) 101 → f j = f1 j) ∧ (∀ j, f (ra_k (vx_t th 4) 101 + j) = f2 j) := by
    refine ⟨fun j => if j < ra_k (vx_t th 4) 101 then f1 j else f2 (j - ra_k (vx_t th 4) 101), fun j hj => if_pos hj, fun j => ?_⟩
    have : ¬ ra_k (vx_t th 4) 101 + j < ra_k (vx_t th 4) 101 := by omega
    simp only [if_neg this, Nat.add_sub_cancel_left]
  obtain ⟨f, hfa, hfb⟩ := hfx
  have hf0 : ∀ s, s < 101 → ¬ vx_t th 4 s = 0 → f (ra_k (vx_t th 4) s) = xr_T (vx_r cx 4) s := fun s hs hz => by rw [hfa _ (ra_lt hs hz)]; exact hf1 s hs hz
  have hfn : ∀ s, s < 101 → ¬ mx' s = 0 → f (ra_k (vx_t th 4) 101 + ra_k mx' s) = (rx' s, vx_r cx 4 s 1, vx_r cx 4 s 2, vx_r cx 4 s 3) := fun s hs hz => by rw [hfb]; exact hf2 s hs hz
  have hMt : ∀ s, s < 101 → ¬ mx' s = 0 → ¬ vx_t th 4 s = 0 := fun s hs hz z => hz (h2 s hs z)
  -- Y's side, whatever X did
  have ySide : ∀ {post : Int32 → SY → Prop},
      (∀ yf' ry' fy' my' nw' cy' cn', (∀ j, j < 800 → cy' j = cy j) → (∀ t, t < 5 → cn' t = cn t) → ¬ gd_K f (ra_k (vx_t th 4) 101 + ra_k mx' 101) → post (-1000000006) (yd, yu, yc, yf', cy', cn', sy, os, ny, sz, ln, py, ry', fy', my', nw')) →
      (∀ yf' ry' fy' my' nw' cy' cn', (∀ j, j < 800 → cy' j = cy j) → (∀ t, t < 5 → cn' t = cn t) → cn' 5 = nI (ra_k (vx_t th 4) 101 + ra_k mx' 101) → gd_K f (ra_k (vx_t th 4) 101 + ra_k mx' 101) → pm_E f (or_r cy') (ra_k (vx_t th 4) 101 + ra_k mx' 101) → so_R (or_r cy') (ra_k (vx_t th 4) 101 + ra_k mx' 101) → wpY_settle post (yd, yu, yc, yf', cy', cn', sy, os, ny, sz, ln, py, ry', fy', my', nw') (nI 5) (nI (ra_k mx' 101))) →
      wpY_copy post (yd, yu, yc, yf, cy, cn, sy, os, ny, sz, ln, py, ry, fy, my, nw) (nI w) (nI e) := by
    intro post hB hS
    unfold wpY_copy
    dsimp only
    refine ya_exp hw (br_f (by decide) (ya_exp he (br_f (by decide) (jo_yS2 TYw TY' ht.1 h1 h2 h3 (fun yf' ry' fy' my' nw' hM hV => br_f hn5 (br_t ?_ (yc_list (t := 0) (u := 5) (by omega) (by omega) (by omega) (fun cy2 cn2 hl => ⟨ra_k (vx_t th 4) 101 + 1, ?_⟩))))))))
    · show cn 0 + nI (ra_k mx' 101) ≤ 40
      rw [hR.1, es]; exact le40
    have em := jo_ra hM 101 (by omega)
    have k5 : cn2 5 = nI (ra_k (vx_t th 4) 101) := by rw [hl.2.2, pk_us]; exact hR.1
    have kt : ∀ t, t < 5 → cn2 t = cn t := fun t ht => by rw [hl.2.2, pk_un (by omega)]
    have ky : ∀ j, j < 800 → cy2 j = cy j := fun j hj => hl.2.1 j (by omega)
    have k0 : ∀ j, j < 40 → ∀ c, c < 4 → vy_r cy2 5 j c = vy_r cy 0 j c := by
      intro j hj c hc
      show cy2 (160 * 5 + 4 * j + c) = cy (160 * 0 + 4 * j + c)
      rw [Nat.add_assoc, Nat.add_assoc]
      exact hl.1 _ (by omega)
    have k00 : ∀ j, j < 40 → ∀ c, c < 4 → vy_r cy2 0 j c = vy_r cy 0 j c := fun j hj c hc => ky _ (by omega)
    rw [em] at hB hS hfull
    have hrow : ∀ j, j < ra_k (vx_t th 4) 101 → f j = or_r cy2 j := by
      intro j hj
      obtain ⟨s, hs', hz, rfl⟩ := ra_inv hj
      have a := (hR.2.2 s hs' hz).2
      have hlt : ra_k (vx_t th 4) s < 40 := by omega
      rw [hf0 s hs' hz, or_v, k0 _ hlt 0 (by omega), k0 _ hlt 1 (by omega), k0 _ hlt 2 (by omega), k0 _ hlt 3 (by omega), a 0 (by omega), a 1 (by omega), a 2 (by omega), a 3 (by omega)]
      rfl
    rw [em]
    refine yb_cp_l (f := f) (m := ra_k (vx_t th 4) 101) (by rw [kt 0 (by omega)]; exact hR.1) hfull hrow (fun r hr hz => ?_) (fun g cy' cn' b1 b2 => hB _ _ _ _ _ _ _ (fun j hj => by rw [b1 j hj, ky j hj]) (fun t ht => by rw [b2 t ht, kt t ht]) g) (fun g cy' cn' b1 b2 b3 b4 b5 => hS _ _ _ _ _ _ _ (fun j hj => by rw [b1 j hj, ky j hj]) (fun t ht => by rw [b2 t ht, kt t ht]) b3 g b4 b5) (ra_k (vx_t th 4) 101) 0 _ cy2 cn2 (by omega) (by omega) (fun _ _ => rfl) (fun _ _ => rfl) ?_ (fun j hj => ?_)
    · obtain ⟨s, hs', hz', rfl⟩ := ra_inv hr
      have hmx : ¬ mx' s = 0 := by rw [(hM s hs').2 hz']; exact hz
      have a := (hR.2.2 s hs' hz').2
      have hlt : ra_k (vx_t th 4) s < 40 := by omega
      show f (ra_k (vx_t th 4) 101 + ra_k my' (ra_k (vx_t th 4) s)) = (nw' _, vy_r cy2 0 _ 1, vy_r cy2 0 _ 2, vy_r cy2 0 _ 3)
      rw [← jo_ra hM s (by omega), hfn s hs' hmx, hV s hs' hmx, k00 _ hlt 1 (by omega), k00 _ hlt 2 (by omega), k00 _ hlt 3 (by omega), a 1 (by omega), a 2 (by omega), a 3 (by omega)]
    · show cn2 5 = nI (ra_k (vx_t th 4) 101 + ra_k my' 0)
      exact k5
    · exact (hrow j hj).symm
  refine xb_cp hb (fun s hs hz => (hR.2.2 s hs hz).1) hMt hf0 hfn (fun th1 cx1 F H => br_f (by decide) ?_) (fun g th1 cx1 F => br_t rfl ?_)
  · have hg := nx_gd H
    refine xt_take F.2.2 TX8 (fun a b => ?_) (fun a b c op2 => ?_) (fun a b op2 th2 cx2 hc2 => ?_)
    · refine ySide (fun _ _ _ _ _ _ _ _ _ g => absurd hg g) (fun yf' ry' fy' my' nw' cy' cn' b1 b2 b3 _ b4 b5 => ?_)
      exact yt_U (by omega) (by omega) (nx_rt hfull b3 H b4 b5) TY8 a b ⟨rfl, rfl, rfl, rfl, rfl, rfl, rfl, F.2.2, fi_tb ht F b1 b2, hs, ho, hT⟩
    · refine ySide (fun _ _ _ _ _ _ _ _ _ g => absurd hg g) (fun yf' ry' fy' my' nw' cy' cn' b1 b2 b3 _ b4 b5 => ?_)
      exact yt_C (by omega) (by omega) (nx_rt hfull b3 H b4 b5) TY8 a b c (fun _ _ _ => ⟨rfl, rfl, rfl, rfl, rfl, rfl, rfl, F.2.2, fi_tb ht F b1 b2, hs, ho, hT⟩)
    · refine ySide (fun _ _ _ _ _ _ _ _ _ g => absurd hg g) (fun yf' ry' fy' my' nw' cy' cn' b1 b2 b3 _ b4 b5 => ?_)
      have hR5 := nx_rt hfull b3 H b4 b5
      exact yt_O (by omega) (by omega) hR5 TY8 a b (fun _ _ _ cy3 cn3 hl => ⟨rfl, rfl, rfl, rfl, rfl, rfl, rfl, cp_bo hc2 F.2.2, tk_tb (fi_tb ht F b1 b2) hR5 hc2 hl, hs, ho, hT⟩)
  · exact ySide (fun yf' ry' fy' my' nw' cy' cn' b1 b2 _ => ⟨rfl, rfl, rfl, rfl, rfl, rfl, rfl, F.2.2, fi_tb ht F b1 b2, hs, ho, hT⟩) (fun _ _ _ _ _ _ _ _ _ _ g' => absurd g' g)
end
