/-! insert -/
section
theorem i_vc_insert {k : Nat} {u : SX} {v : SY} (I : i_Rel k u v) (hk : k + 5 ≤ 2560) (v1 : Int32) (v2 : Int32) (v3 : Int32) (v4 : Int32) : wpX_insert (fun r u' => wpY_insert (fun r' v' => r' = r ∧ i_Rel (k + 5) u' v') v v1 v2 v3 v4) u v1 v2 v3 v4 := by
  obtain ⟨xs, xu, xc, th, cx, sx, kd, nm, ct, op, pa, mx, rx⟩ := u
  obtain ⟨yd, yu, yc, yf, cy, cn, sy, os, ny, sz, ln, py, ry, fy, my, nw⟩ := v
  have J := I
  obtain ⟨rfl, rfl, rfl, rfl, rfl, rfl, hb, ht, hs, ho, hT⟩ := I
  have hR := ht.1
  have hm := hR.2.1
  unfold wpX_insert
  dsimp only
  rcases ab_slot v1 with hx | hx | ⟨s0, hs0, rfl⟩
  · exact xa_freeN (Or.inl hx) (br_t rfl (br_t hx ⟨rfl, J⟩))
  · have n1 : ¬ v1 < -50 := by
      have := Int32.lt_iff_toInt_lt.mp hx
      rw [show (50 : Int32).toInt = 50 from by decide] at this
      intro q
      have q' := Int32.lt_iff_toInt_lt.mp q
      rw [show (-50 : Int32).toInt = -50 from by decide] at q'
      omega
    exact xa_freeN (Or.inr hx) (br_t rfl (br_f n1 (br_t hx ⟨rfl, J⟩)))
  refine xa_free (p := 4) (by omega) hs0 (fun z => br_f (by decide) ?_) (fun z => br_t rfl ?_)
  rotate_left
  · refine br_f (ab_k1 hs0) (br_f (ab_k2 hs0) (yf_find (t := 0) (by omega) hR (fun s hs' hz e => ?_) (fun hno => absurd rfl (hno s0 hs0 z))))
    exact br_f (nI_pos (by have := ra_le (vx_t th 4) s; omega)) ⟨rfl, J⟩
  -- Y up to the tests
  have yHead : ∀ {post : Int32 → SY → Prop}, ((cn 0 = 40 → post (-1000000002) (yd, yu, yc, yf, cy, cn, sy, os, ny, sz, ln, py, ry, fy, my, nw)) ∧ (¬ cn 0 = 40 → wpY_copyList (fun u => match u with | (yd, yu, yc, yf, cy, cn, sy, os, ny, sz, ln, py, ry, fy, my, nw) => wpY_addRow (fun u => match u with | (yd, yu, yc, yf, cy, cn, sy, os, ny, sz, ln, py, ry, fy, my, nw) => wpY_order (fun _ u => match u with | (yd, yu, yc, yf, cy, cn, sy, os, ny, sz, ln, py, ry, fy, my, nw) => wpY_settle (fun r_73 u => match u with | (yd, yu, yc, yf, cy, cn, sy, os, ny, sz, ln, py, ry, fy, my, nw) => post r_73 (yd, yu, yc, yf, cy, cn, sy, os, ny, sz, ln, py, ry, fy, my, nw)) (yd, yu, yc, yf, cy, cn, sy, os, ny, sz, ln, py, ry, fy, my, nw) 5 (cn 0 + 1)) (yd, yu, yc, yf, cy, cn, sy, os, ny, sz, ln, py, ry, fy, my, nw)) (yd, yu, yc, yf, cy, cn, sy, os, ny, sz, ln, py, ry, fy, my, nw) (nI s0 - 50) v2 v3 v4) (yd, yu, yc, yf, cy, cn, sy, os, ny, sz, ln, py, ry, fy, my, nw) 0 5)) → wpY_insert post (yd, yu, yc, yf, cy, cn, sy, os, ny, sz, ln, py, ry, fy, my, nw) (nI s0 - 50) v2 v3 v4 := by
    intro post hq
    refine br_f (ab_k1 hs0) (br_f (ab_k2 hs0) (yf_find (t := 0) (by omega) hR (fun s hs' hz e => ?_) (fun hno => br_t (by decide) hq)))
    have := ab_keyI hs0 hs' e
    subst this
    exact absurd z hz
  refine xc_rows (p := 4) (by omega) ?_
  by_cases hfull : ra_k (vx_t th 4) 101 < 40
  case neg =>
    have e40 : ra_k (vx_t th 4) 101 = 40 := by omega
    refine br_f (nI_nlt (b := 40) (by omega) (by omega)) (yHead (br_t ?_ ⟨rfl, J⟩))
    rw [hR.1, e40]; rfl
  refine br_t (nI_lt (b := 40) hfull (by omega)) ?_
  have n40 : ¬ cn 0 = 40 := by
    rw [hR.1]
    intro q
    have := (nI_eq (b := 40) (by omega) (by omega)).mp q
    omega
  obtain ⟨K8, N8, Z8, L8, TX8, TY8⟩ := te_8 hT.2.1 ho
  obtain ⟨f1, hf1⟩ := ra_fun (vx_t th 4) (fun s => xr_T (vx_r cx 4) s) (0, 0, 0, 0) 101
  have hfx : ∃ f : Nat → ro_T, (∀ j, j < ra_k (vx_t th 4) 101 → f j = f1 j) ∧ f (ra_k (vx_t th 4) 101) = (nI s0 - 50, v2, v3, v4) := by
    refine ⟨fun j => if j < ra_k (vx_t th 4) 101 then f1 j else (nI s0 - 50, v2, v3, v4), fun j hj => if_pos hj, ?_⟩
    exact if_neg (Nat.lt_irrefl _)
  obtain ⟨f, hfa, hfb⟩ := hfx
  have hf0 : ∀ s, s < 101 → ¬ vx_t th 4 s = 0 → f (ra_k (vx_t th 4) s) = xr_T (vx_r cx 4) s := fun s hs hz => by rw [hfa _ (ra_lt hs hz)]; exact hf1 s hs hz
  refine xc_tab (p := 4) (q := 5) (by omega) (by omega) (by omega) hb (fun th1 cx1 hc => xi_put hs0 (fun cx2 p1 p2 => ?_))
  have H0 : nx_H (vx_t th1 5) (vx_r cx1 5) f (ra_k (vx_t th 4) 101) := nx_base (fun s hs hz => (hR.2.2 s hs hz).1) (fun s hs => hc.1 s hs) (fun s hs c hc' => hc.2.2.1 s hs c hc') hf0
  have z5 : vx_t th1 5 s0 = 0 := (hc.1 s0 hs0).trans z
  have H : nx_H (vx_t (upd th1 (5 * 101 + s0) 1) 5) (vx_r cx2 5) f (ra_k (vx_t th 4) 101 + 1) := by
    refine nx_s H0 hs0 z5 (by rw [hfb]) (fun s hs hne => pk_un (by omega)) (by show ¬ upd th1 _ 1 _ = 0; rw [pk_us]; decide) (fun s hs hne c hc => p2 _ (by omega)) (by rw [hfb]; exact p1)
  have F : fr_X th cx (upd th1 (5 * 101 + s0) 1) cx2 := ⟨fun j hj => by rw [pk_un (by omega)]; exact hc.2.1 j (by omega), fun j hj => by rw [p2 j (by omega)]; exact hc.2.2.2 j (by omega), bo_u (cp_bo hc hb) (Or.inr rfl)⟩
  have hg := nx_gd H
  have hm1 : ra_k (vx_t th 4) 101 + 1 ≤ 40 := hfull
  have e1 : nI (ra_k (vx_t th 4) 101) + 1 = nI (ra_k (vx_t th 4) 101 + 1) := nI_1 _
  have ySide : ∀ {post : Int32 → SY → Prop},
      (∀ cy' cn', (∀ j, j < 800 → cy' j = cy j) → (∀ t, t < 5 → cn' t = cn t) → cn' 5 = nI (ra_k (vx_t th 4) 101 + 1) → pm_E f (or_r cy') (ra_k (vx_t th 4) 101 + 1) → so_R (or_r cy') (ra_k (vx_t th 4) 101 + 1) → wpY_settle post (yd, yu, yc, yf, cy', cn', sy, os, ny, sz, ln, py, ry, fy, my, nw) (nI 5) (nI (ra_k (vx_t th 4) 101) + 1)) →
      wpY_insert post (yd, yu, yc, yf, cy, cn, sy, os, ny, sz, ln, py, ry, fy, my, nw) (nI s0 - 50) v2 v3 v4 := by
    intro post hS
    refine yHead (br_f n40 (yc_list (t := 0) (u := 5) (by omega) (by omega) (by omega) (fun cy2 cn2 hl => ?_)))
    have k5 : cn2 5 = nI (ra_k (vx_t th 4) 101) := by rw [hl.2.2, pk_us]; exact hR.1
    have kt : ∀ t, t < 5 → cn2 t = cn t := fun t ht => by rw [hl.2.2, pk_un (by omega)]
    have ky : ∀ j, j < 800 → cy2 j = cy j := fun j hj => hl.2.1 j (by omega)
    refine yb_add (r := ra_k (vx_t th 4) 101) hfull k5 (fun cy3 q1 q2 => ?_)
    have hrow : ∀ j, j < ra_k (vx_t th 4) 101 + 1 → or_r cy3 j = f j := by
      intro j hj
      by_cases ej : j = ra_k (vx_t th 4) 101
      · subst ej; rw [q1, hfb]
      · obtain ⟨s, hs', hz, rfl⟩ := ra_inv (t := vx_t th 4) (r := j) (n := 101) (by omega)
        have a := (hR.2.2 s hs' hz).2
        have k0 : ∀ c, c < 4 → vy_r cy3 5 (ra_k (vx_t th 4) s) c = vx_r cx 4 s c := by
          intro c hc'
          rw [← a c hc']
          show cy3 (160 * 5 + 4 * _ + c) = cy (160 * 0 + 4 * _ + c)
          rw [q2 _ (by omega), Nat.add_assoc, Nat.add_assoc]
          exact hl.1 _ (by omega)
        rw [hf0 s hs' hz, or_v, k0 0 (by omega), k0 1 (by omega), k0 2 (by omega), k0 3 (by omega)]
        rfl
    refine yo_order hm1 pk_us (fun g cy4 b1 b2 b3 => ?_) (fun g => absurd (gd_cg (fun j hj => (hrow j hj).symm) hg) g)
    have h := hS cy4 (upd cn2 5 (nI (ra_k (vx_t th 4) 101 + 1))) (fun j hj => by rw [b1 j hj, q2 j (by omega), ky j hj]) (fun t ht => by rw [pk_un (by omega), kt t ht]) pk_us (fun P => by rw [b2 P]; exact cp_cg hrow) b3
    have e0 : upd cn2 5 (nI (ra_k (vx_t th 4) 101 + 1)) 0 = nI (ra_k (vx_t th 4) 101) := by rw [pk_un (by omega), kt 0 (by omega)]; exact hR.1
    show wpY_settle _ _ 5 (upd cn2 5 (nI (ra_k (vx_t th 4) 101 + 1)) 0 + 1)
    rw [e0]
    exact h
  refine xt_take F.2.2 TX8 (fun a b => ?_) (fun a b c op2 => ?_) (fun a b op2 th2 cx3 hc2 => ?_)
  · refine ySide (fun cy' cn' b1 b2 b3 b4 b5 => ?_)
    exact yt_U (by omega) (by omega) (nx_rt hm1 b3 H b4 b5) TY8 a b ⟨rfl, rfl, rfl, rfl, rfl, rfl, rfl, F.2.2, fi_tb ht F b1 b2, hs, ho, hT⟩
  · refine ySide (fun cy' cn' b1 b2 b3 b4 b5 => ?_)
    exact yt_C (by omega) (by omega) (nx_rt hm1 b3 H b4 b5) TY8 a b c (fun _ _ _ => ⟨rfl, rfl, rfl, rfl, rfl, rfl, rfl, F.2.2, fi_tb ht F b1 b2, hs, ho, hT⟩)
  · refine ySide (fun cy' cn' b1 b2 b3 b4 b5 => ?_)
    have hR5 := nx_rt hm1 b3 H b4 b5
    exact yt_O (by omega) (by omega) hR5 TY8 a b (fun _ _ _ cy3 cn3 hl => ⟨rfl, rfl, rfl, rfl, rfl, rfl, rfl, cp_bo hc2 F.2.2, tk_tb (fi_tb ht F b1 b2) hR5 hc2 hl, hs, ho, hT⟩)
end
