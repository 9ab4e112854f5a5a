/-! Y's work, the rest: and, or, choose, leaves, the loop -/
section
variable {xs xu xc : Int32} {th cx sx kd nm ct : Nat → Int32} {op : Nat → Int64} {pa mx rx : Nat → Int32} {yd yu yc yf : Int32} {cy cn sy os ny sz ln py ry fy my nw : Nat → Int32}
theorem ye_357 {post : SY → Prop} {i : Nat} {o dec last b : Int32} {v : Option Int32} (hi : i < 24) (hb : b = 0 ∨ b = 1) (h : yw_F post yd yu yc yf cy cn sy os ny sz ln py ry fy my nw i v)
    (hv : yv_is (upd ry i (if dec = 0 then (if last = 0 then 0 else 1) else o - 28)) (upd (upd fy i 0) i b) i v) :
    wY_workPart_357 post (nI i) o dec last b (nI i) yd yu yc yf cy cn sy os ny sz ln py ry (upd fy i 0) my nw := by
  have ci : (nI i).toNatClampNeg = i := nI_clamp (by omega)
  have vi : vp_in (nI i) 24 := vp_in_nI (by omega) (by omega)
  refine ⟨vi, nm_r (by rw [ci, ab_bn b hb]) ?_⟩
  have fin : ∀ w : Int32, w = (if dec = 0 then (if last = 0 then 0 else 1) else o - 28) → (vp_in (nI i) 24 ∧ ∀ ry1, ry1 = upd ry (nI i).toNatClampNeg w → post (yd, yu, yc, yf, cy, cn, sy, os, ny, sz, ln, py, ry1, (upd (upd fy i 0) i b), my, nw)) := by
    intro w hw
    refine ⟨vi, nm_r (by rw [ci, hw]) ?_⟩
    exact h _ _ (fun j hj => pk_un (by omega)) (fun j hj => by rw [pk_un (by omega), pk_un (by omega)]) hv
  refine br_c (fun q => br_c (fun z => fin _ (by rw [if_pos q, if_pos z])) (fun z => fin _ (by rw [if_pos q, if_neg z]))) (fun q => fin _ (by rw [if_neg q]))
theorem ye_320 {post : SY → Prop} {i x y : Nat} {o dec last : Int32} {v vx vy : Option Int32} (hi : i < 24) (hx : x < i) (hy : y < i)
    (ix : yv_is ry fy x vx) (iy : yv_is ry fy y vy) (h : yw_F post yd yu yc yf cy cn sy os ny sz ln py ry fy my nw i v)
    (hn : vx = none → v = none) (hd : ¬ vx = none → ¬ dec = 0 → v = some (o - 28)) (h0 : ¬ vx = none → dec = 0 → (vy = none → v = none) ∧ (¬ vy = none → v = some (if last = 0 then 0 else 1))) :
    wY_workPart_320 post (nI i) o (nI y) (nI x) dec last yd yu yc yf cy cn sy os ny sz ln py ry (upd fy i 0) my nw := by
  have cx : (nI x).toNatClampNeg = x := nI_clamp (by omega)
  have cY : (nI y).toNatClampNeg = y := nI_clamp (by omega)
  refine ⟨vp_in_nI (by omega) (by omega), ?_⟩
  rw [cx, cY, pk_un (f := fy) (by omega), pk_un (f := fy) (by omega)]
  cases hvx : vx with
  | none =>
    rw [hvx] at ix
    have fx : fy x = 1 := ix
    refine br_f (by rw [fx]; decide) (ye_357 hi (Or.inr rfl) h ?_)
    rw [hn hvx]; exact pk_us
  | some a =>
    rw [hvx] at ix hd h0
    refine br_t ix.1 (br_c (fun q => ⟨vp_in_nI (by omega) (by omega), ?_⟩) (fun q => ye_357 hi (Or.inl rfl) h ?_))
    · have h0' := h0 (by simp) q
      cases hvy : vy with
      | none =>
        rw [hvy] at iy
        have f1 : fy y = 1 := iy
        refine br_f (by rw [f1]; decide) (ye_357 hi (Or.inr rfl) h ?_)
        rw [h0'.1 hvy]; exact pk_us
      | some b =>
        rw [hvy] at iy
        refine br_t iy.1 (ye_357 hi (Or.inl rfl) h ?_)
        rw [h0'.2 (by rw [hvy]; simp)]
        exact ⟨pk_us, by rw [pk_us, if_pos q]⟩
    · rw [hd (by simp) q]
      exact ⟨pk_us, by rw [pk_us, if_neg q]⟩
theorem ye_lg {post : SY → Prop} {e i x y j0 : Nat} {k : Int32} {vx vy : Option Int32} (ek : k = nI j0) (h13 : 13 ≤ j0) (h14 : j0 ≤ 14) (hi : i < 24) (hx : x < i) (hy : y < i)
    (ix : yv_is ry fy x vx) (iy : yv_is ry fy y vy) (h : yw_F post yd yu yc yf cy cn sy os ny sz ln py ry fy my nw i (tm_two k vx vy)) :
    wY_workPart_113 post (nI e) (nI i) (tm_yk k) (nI y) (nI x) yd yu yc yf cy cn sy os ny sz ln py ry (upd fy i 0) my nw := by
  have cx : (nI x).toNatClampNeg = x := nI_clamp (by omega)
  have cY : (nI y).toNatClampNeg = y := nI_clamp (by omega)
  have b20 : 20 ≤ tm_yk k := by rw [ek]; exact (tk_20 j0 (by omega)).mpr (nI_lt (a := 4) (by omega) (by omega))
  have b28 : 28 ≤ tm_yk k := by rw [ek]; exact (tk_28 j0 (by omega)).mpr (nI_lt (a := 12) (by omega) (by omega))
  have b30 : ¬ 30 ≤ tm_yk k := by rw [ek, tk_30 j0 (by omega)]; exact nI_nlt (a := 14) (by omega) (by omega)
  have vxi : vp_in (nI x) 24 := vp_in_nI (by omega) (by omega)
  have vyi : vp_in (nI y) 24 := vp_in_nI (by omega) (by omega)
  have bin : ∀ a b : Int32, tm_bin k a b = if b = 0 then 0 else 1 := by
    intro a b
    rcases (by omega : j0 = 13 ∨ j0 = 14) with q | q <;> (rw [ek, q]; rfl)
  have n8 : ¬ k = 8 := by rw [ek]; intro q; have := (nI_eq (b := 8) (by omega) (by omega)).mp q; omega
  -- from the decision on
  have go : ∀ dec : Int32, (∀ a, vx = some a → (dec = 0 ↔ ¬ ((k = 13 ∧ a = 0) ∨ (k = 14 ∧ ¬ a = 0)))) → wY_workPart_303 post (nI i) (tm_yk k) (nI y) (nI x) dec yd yu yc yf cy cn sy os ny sz ln py ry (upd fy i 0) my nw := by
    intro dec hdec
    have go2 : ∀ last : Int32, (∀ b, vy = some b → (last = 0 ↔ b = 0)) → wY_workPart_320 post (nI i) (tm_yk k) (nI y) (nI x) dec last yd yu yc yf cy cn sy os ny sz ln py ry (upd fy i 0) my nw := by
      intro last hl
      refine ye_320 hi hx hy ix iy h (fun q => by rw [q]; cases vy <;> rfl) (fun q z => ?_) (fun q z => ?_)
      · obtain ⟨a, ea⟩ := Option.ne_none_iff_exists'.mp q
        have hd := hdec a ea
        have hd' : (k = 13 ∧ a = 0) ∨ (k = 14 ∧ ¬ a = 0) := Classical.byContradiction (fun w => z (hd.mpr w))
        rw [ea]
        rcases hd' with w | w
        · have : tm_two k (some a) vy = some 0 := by cases vy <;> simp only [tm_two, if_pos w]
          rw [this, w.1]; rfl
        · have w' : ¬ (k = 13 ∧ a = 0) := fun q => w.2 q.2
          have : tm_two k (some a) vy = some 1 := by cases vy <;> simp only [tm_two, if_neg w', if_pos w]
          rw [this, w.1]; rfl
      · obtain ⟨a, ea⟩ := Option.ne_none_iff_exists'.mp q
        have hd := (hdec a ea).mp z
        have w1 : ¬ (k = 13 ∧ a = 0) := fun w => hd (Or.inl w)
        have w2 : ¬ (k = 14 ∧ ¬ a = 0) := fun w => hd (Or.inr w)
        rw [ea]
        constructor
        · intro w; rw [w]; simp only [tm_two, if_neg w1, if_neg w2]
        · intro w
          obtain ⟨b, eb⟩ := Option.ne_none_iff_exists'.mp w
          have n8' : ¬ (k = 8 ∧ b = 0) := fun q => n8 q.1
          rw [eb]
          simp only [tm_two, if_neg w1, if_neg w2, if_neg n8', bin]
          have := hl b eb
          by_cases zb : b = 0
          · rw [if_pos zb, if_pos (this.mpr zb)]
          · rw [if_neg zb, if_neg (fun q => zb (this.mp q))]
    refine ⟨vyi, ?_⟩
    rw [cY]
    refine br_c (fun z => go2 0 (fun b eb => ?_)) (fun z => go2 1 (fun b eb => ?_))
    · rw [eb] at iy; rw [iy.2] at z; exact ⟨fun _ => z, fun _ => rfl⟩
    · rw [eb] at iy; rw [iy.2] at z; exact ⟨fun q => absurd q (by decide), fun q => absurd q z⟩
  have go3 : ∀ z0 : Int32, (z0 = 1 ↔ k = 13) → (z0 = 0 ↔ k = 14) → wY_workPart_280 post (nI i) (tm_yk k) (nI y) (nI x) z0 yd yu yc yf cy cn sy os ny sz ln py ry (upd fy i 0) my nw := by
    intro z0 hz1 hz0
    refine ⟨vxi, ?_⟩
    rw [cx]
    refine br_c (fun z => br_c (fun w => go 1 (fun a ea => ?_)) (fun w => go 0 (fun a ea => ?_))) (fun z => br_c (fun w => go 1 (fun a ea => ?_)) (fun w => go 0 (fun a ea => ?_)))
    · rw [ea] at ix; rw [ix.2] at z
      exact ⟨fun q => absurd q (by decide), fun q => absurd (Or.inl ⟨hz1.mp w, z⟩) q⟩
    · rw [ea] at ix; rw [ix.2] at z
      refine ⟨fun _ q => ?_, fun _ => rfl⟩
      rcases q with q | q
      · exact w (hz1.mpr q.1)
      · exact q.2 z
    · rw [ea] at ix; rw [ix.2] at z
      exact ⟨fun q => absurd q (by decide), fun q => absurd (Or.inr ⟨hz0.mp w, z⟩) q⟩
    · rw [ea] at ix; rw [ix.2] at z
      refine ⟨fun _ q => ?_, fun _ => rfl⟩
      rcases q with q | q
      · exact z q.2
      · exact w (hz0.mpr q.1)
  refine br_t b20 (br_t b28 (br_f b30 (br_c (fun q => go3 1 ?_ ?_) (fun q => go3 0 ?_ ?_))))
  · have e : k = 13 := by rw [ek] at q ⊢; exact (tk_e28 j0 (by omega)).mp q
    exact ⟨fun _ => e, fun _ => rfl⟩
  · have e : k = 13 := by rw [ek] at q ⊢; exact (tk_e28 j0 (by omega)).mp q
    exact ⟨fun z => absurd z (by decide), fun z => absurd (e.symm.trans z) (by decide)⟩
  · have e : ¬ k = 13 := fun z => q (by rw [z]; decide)
    exact ⟨fun z => absurd z (by decide), fun z => absurd z e⟩
  · have e : ¬ k = 13 := fun z => q (by rw [z]; decide)
    have : ¬ j0 = 13 := fun z => e (by rw [ek, z]; rfl)
    exact ⟨fun _ => by rw [ek, show j0 = 14 from by omega]; rfl, fun _ => rfl⟩
theorem ye_ch {post : SY → Prop} {e i x y c : Nat} {vx vy vc : Option Int32} (he : e < 10) (hi : i < 24) (hx : x < i) (hy : y < i) (hc : c < x)
    (ic : yv_is ry fy c vc) (ix : yv_is ry fy x vx) (iy : yv_is ry fy y vy) (hz : sz (24 * e + x) = nI (x - c)) (h : yw_F post yd yu yc yf cy cn sy os ny sz ln py ry fy my nw i (tm_ch vc vx vy)) :
    wY_workPart_113 post (nI e) (nI i) 30 (nI y) (nI x) yd yu yc yf cy cn sy os ny sz ln py ry (upd fy i 0) my nw := by
  have cx : (nI x).toNatClampNeg = x := nI_clamp (by omega)
  have cY : (nI y).toNatClampNeg = y := nI_clamp (by omega)
  have ci : (nI i).toNatClampNeg = i := nI_clamp (by omega)
  have cc : (nI c).toNatClampNeg = c := nI_clamp (by omega)
  have vi : vp_in (nI i) 24 := vp_in_nI (by omega) (by omega)
  refine br_t (by decide) (br_t (by decide) (br_t (by decide) ⟨pk_in (24 * e + x) 240 (by omega) (ab_l24 e x), nm_r (e' := nI c) ?_ ⟨vp_in_nI (by omega) (by omega), ?_⟩⟩))
  · rw [ab_l24, nI_clamp (by omega), hz, pk_sub (by omega)]
    exact congrArg nI (by omega)
  have go : ∀ (z : Nat) (vz : Option Int32), z < i → yv_is ry fy z vz → (¬ vc = none → tm_ch vc vx vy = vz) → wY_workPart_424 post (nI i) (nI c) (nI z) yd yu yc yf cy cn sy os ny sz ln py ry (upd fy i 0) my nw := by
    intro z vz hz iz ez
    have cz : (nI z).toNatClampNeg = z := nI_clamp (by omega)
    refine ⟨vp_in_nI (by omega) (by omega), vi, nm_r (by rw [ci, cz]) ⟨vp_in_nI (by omega) (by omega), ?_⟩⟩
    rw [cc, cz, ci, pk_un (f := fy) (by omega), pk_un (f := fy) (by omega)]
    have fin : ∀ b : Int32, yv_is (upd ry i (ry z)) (upd (upd fy i 0) i b) i (tm_ch vc vx vy) → post (yd, yu, yc, yf, cy, cn, sy, os, ny, sz, ln, py, (upd ry i (ry z)), (upd (upd fy i 0) i b), my, nw) := by
      intro b hv
      exact h _ _ (fun j hj => pk_un (by omega)) (fun j hj => by rw [pk_un (by omega), pk_un (by omega)]) hv
    cases vc with
    | none =>
      have f1 : fy c = 1 := ic
      exact br_f (by rw [f1]; decide) ⟨vi, nm_e (fin _ pk_us)⟩
    | some a =>
      refine br_t ic.1 ⟨vp_in_nI (by omega) (by omega), ?_⟩
      rw [ez (by simp)] at fin
      cases vz with
      | none =>
        have f1 : fy z = 1 := iz
        exact br_f (by rw [f1]; decide) ⟨vi, nm_e (fin _ pk_us)⟩
      | some w =>
        exact br_t iz.1 ⟨vi, nm_e (fin _ ⟨pk_us, by rw [pk_us]; exact iz.2⟩)⟩
  rw [cc]
  refine br_c (fun q => go y vy hy iy (fun w => ?_)) (fun q => go x vx hx ix (fun w => ?_))
  · obtain ⟨a, ea⟩ := Option.ne_none_iff_exists'.mp w
    rw [ea] at ic ⊢
    rw [ic.2] at q
    simp only [tm_ch, if_pos q]
  · obtain ⟨a, ea⟩ := Option.ne_none_iff_exists'.mp w
    rw [ea] at ic ⊢
    rw [ic.2] at q
    simp only [tm_ch, if_neg q]
end
section
variable {xs xu xc : Int32} {th cx sx kd nm ct : Nat → Int32} {op : Nat → Int64} {pa mx rx : Nat → Int32} {yd yu yc yf : Int32} {cy cn sy os ny sz ln py ry fy my nw : Nat → Int32}
theorem yw_part {post : SY → Prop} {e i t r L : Nat} {row K N Z : Nat → Int32} (he : e < 10) (ht : t < 6) (hr : r < 40) (hW : tm_W K N Z L) (hi : i < L)
    (hK : os (24 * e + i) = tm_yk (K i)) (hN : ny (24 * e + i) = N i) (hZ : ∀ j, j < L → sz (24 * e + j) = Z j) (hrow : ∀ c, c < 4 → cy (160 * t + 4 * r + c) = row c)
    (hI : ∀ j, j < i → yv_is ry fy j (tm_V K N row py j))
    (h : ∀ ry' fy', (∀ j, j < i + 1 → yv_is ry' fy' j (tm_V K N row py j)) → post (yd, yu, yc, yf, cy, cn, sy, os, ny, sz, ln, py, ry', fy', my, nw)) :
    wpY_workPart post (yd, yu, yc, yf, cy, cn, sy, os, ny, sz, ln, py, ry, fy, my, nw) (nI e) (nI i) (nI t) (nI r) := by
  have hL := hW.1
  obtain ⟨⟨k0, k15⟩, har, hlen, h1, h2, hz⟩ := hW.2 i hi
  obtain ⟨j0, hj0, ek⟩ := tm_16 k0 k15
  have ci : (nI i).toNatClampNeg = i := nI_clamp (by omega)
  have vi : vp_in (nI i) 24 := vp_in_nI (by omega) (by omega)
  have hF : yw_F post yd yu yc yf cy cn sy os ny sz ln py ry fy my nw i (tm_V K N row py i) := fun ry' fy' a b c => h ry' fy' (yv_to hI a b c)
  refine ⟨pk_in (24 * e + i) 240 (by omega) (ab_l24 e i), nm_r (e' := tm_yk (K i)) (by rw [ab_l24, nI_clamp (by omega)]; exact hK) ⟨pk_in (24 * e + i) 240 (by omega) (ab_l24 e i), nm_r (e' := N i) (by rw [ab_l24, nI_clamp (by omega)]; exact hN) ⟨vi, nm_r (e' := upd fy i 0) (by rw [ci]; rfl) ?_⟩⟩⟩
  have e3 := tk_3 j0 hj0
  have e20 := tk_20 j0 hj0
  rw [← ek] at e3 e20
  have hm := tm_map K N row py i
  by_cases a : 2 < K i
  · refine br_t (e3.mpr a) ?_
    have hp1 : 1 ≤ (tm_ps K i).length := by
      have : 1 ≤ tm_ar (K i) := by
        unfold tm_ar; rw [if_pos a]; split
        · split <;> omega
        · omega
      omega
    obtain ⟨i', rfl⟩ : ∃ i', i = i' + 1 := by
      match i, hp1 with
      | i' + 1, _ => exact ⟨i', rfl⟩
    have eps : tm_ps K (i' + 1) = (i' + 1) :: (tm_ps K i').drop (tm_ar (K i')) := rfl
    have iy := hI i' (by omega)
    refine nm_r (nI_pred i') ?_
    by_cases b : 4 < K (i' + 1)
    · have esz : Z i' = nI (i' + 1 - ((tm_ps K i').drop (tm_ar (K i'))).headD 0) := (hW.2 i' (by omega)).2.2.2.2.2
      have ha2 : 2 ≤ tm_ar (K (i' + 1)) := by
        unfold tm_ar; rw [if_pos a, if_pos b]; split <;> omega
      have hq : ∃ q S, tm_ps K (i' + 1) = (i' + 1) :: q :: S := by
        rw [eps] at har ⊢
        match (tm_ps K i').drop (tm_ar (K i')), har with
        | q :: S, _ => exact ⟨q, S, rfl⟩
        | [], har => simp at har; omega
      obtain ⟨q, S, hqS⟩ := hq
      have edr : (tm_ps K i').drop (tm_ar (K i')) = q :: S := by
        rw [eps] at hqS; exact (List.cons.inj hqS).2
      rw [edr] at esz
      have hqm := tm_mem (K := K) (i := i') (q := q) (List.mem_of_mem_drop (by rw [edr]; exact List.mem_cons_self))
      have esz' : Z i' = nI (i' + 1 - q) := esz
      have hqs : tm_ps K q = q :: S := tm_suf (l := [i' + 1]) hqS
      have ix := hI (q - 1) (by omega)
      refine br_t (e20.mpr b) ⟨pk_in (24 * e + i') 240 (by omega) (ab_l24 e i'), ?_⟩
      have exx : nI i' - sz (24 * nI e + nI i').toNatClampNeg = nI (q - 1) := by
        rw [ab_l24, nI_clamp (by omega), hZ i' (by omega), esz', pk_sub (by omega)]
        exact congrArg nI (by omega)
      rw [exx]
      rw [hqS] at hm
      by_cases c : 14 < K (i' + 1)
      · have e15 : K (i' + 1) = 15 := by
          rw [ek] at c ⊢
          have : 14 < j0 := (nI_ltI (a := 14) (by omega) (by omega)).mp c
          rw [show j0 = 15 from by omega]; rfl
        have ha3 : tm_ar (K (i' + 1)) = 3 := by unfold tm_ar; rw [if_pos a, if_pos b, if_pos c]
        have hq2 : ∃ q2 S2, S = q2 :: S2 := by
          rw [hqS, ha3] at har
          match S, har with
          | q2 :: S2, _ => exact ⟨q2, S2, rfl⟩
          | [], har => simp at har
        obtain ⟨q2, S2, rfl⟩ := hq2
        have ezx : Z (q - 1) = nI (q - q2) := tm_sz hW hqm.1 (by omega) hqs
        have hm2 := tm_mem (K := K) (i := q) (q := q2) (by rw [hqs]; simp)
        have hlt : q2 < q := by
          obtain ⟨q', rfl⟩ : ∃ q', q = q' + 1 := ⟨q - 1, by omega⟩
          have e9 : (q' + 1) :: (tm_ps K q').drop (tm_ar (K q')) = (q' + 1) :: q2 :: S2 := hqs
          have e10 := (List.cons.inj e9).2
          have := tm_mem (K := K) (i := q') (q := q2) (List.mem_of_mem_drop (by rw [e10]; exact List.mem_cons_self))
          omega
        have hV : tm_V K N row py (i' + 1) = tm_ch (tm_V K N row py (q2 - 1)) (tm_V K N row py (q - 1)) (tm_V K N row py i') := by
          unfold tm_V
          rw [tm_v, if_pos a, if_pos b, if_pos c, hm]
          rfl
        rw [hV] at hF
        rw [e15]
        refine ye_ch he (by omega) (by omega) (by omega) (by omega) (hI (q2 - 1) (by omega)) ix iy ?_ hF
        rw [hZ (q - 1) (by omega), ezx]
        exact congrArg nI (by omega)
      · have hV : tm_V K N row py (i' + 1) = tm_two (K (i' + 1)) (tm_V K N row py (q - 1)) (tm_V K N row py i') := by
          unfold tm_V
          rw [tm_v, if_pos a, if_pos b, if_neg c, hm]
          rfl
        rw [hV] at hF
        have l5 : 4 < j0 := by rw [ek] at b; exact (nI_ltI (a := 4) (by omega) (by omega)).mp b
        have l14 : ¬ 14 < j0 := fun z => c (by rw [ek]; exact nI_lt (a := 14) z (by omega))
        by_cases g : j0 ≤ 12
        · exact ye_ar ek (by omega) g (by omega) (by omega) (by omega) ix iy hF
        · exact ye_lg ek (by omega) (by omega) (by omega) (by omega) (by omega) ix iy hF
    · refine br_f (fun z => b (e20.mp z)) ?_
      rw [eps] at hm
      have hV : tm_V K N row py (i' + 1) = tm_one (K (i' + 1)) (tm_V K N row py i') := by
        unfold tm_V
        rw [tm_v, if_pos a, if_neg b, hm]
        rfl
      rw [hV] at hF
      have l2 : 2 < j0 := by rw [ek] at a; exact (nI_ltI (a := 2) (by omega) (by omega)).mp a
      have l4 : ¬ 4 < j0 := fun z => b (by rw [ek]; exact nI_lt (a := 4) z (by omega))
      exact ye_one ek (by omega) (by omega) (by omega) (by omega) iy hF
  · refine br_f (fun z => a (e3.mp z)) ?_
    have hV : tm_V K N row py i = some (tm_lf (K i) (N i) row py) := by
      unfold tm_V
      rw [tm_v, if_neg a]
    rw [hV] at hF
    have t0 := tk_e0 j0 hj0
    have t1 := tk_e1 j0 hj0
    rw [← ek] at t0 t1
    have fin : ∀ w : Int32, w = tm_lf (K i) (N i) row py → (vp_in (nI i) 24 ∧ ∀ ry1, ry1 = upd ry (nI i).toNatClampNeg w → post (yd, yu, yc, yf, cy, cn, sy, os, ny, sz, ln, py, ry1, (upd fy i 0), my, nw)) := by
      intro w hw
      refine ⟨vi, nm_r (by rw [ci]) ?_⟩
      exact hF _ _ (fun j hj => pk_un (by omega)) (fun j hj => pk_un (by omega)) ⟨pk_us, by rw [pk_us, hw]⟩
    refine br_c (fun q => fin _ (by rw [tm_lf, if_pos (t0.mp q)])) (fun q => br_c (fun q1 => ?_) (fun q1 => ?_))
    · have q1' := t1.mp q1
      obtain ⟨c, hc, ec⟩ := h1 q1'
      rw [ec]
      refine ⟨pk_in (160 * t + 4 * r + c) 960 (by omega) (ab_cell t r c), ?_⟩
      refine fin _ ?_
      rw [ab_cell, nI_clamp (by omega), hrow c hc, tm_lf, if_neg (fun z => q (t0.mpr z)), if_pos q1', ec, nI_clamp (by omega)]
    · have q0' : ¬ K i = 0 := fun z => q (t0.mpr z)
      have q1' : ¬ K i = 1 := fun z => q1 (t1.mpr z)
      have q2 : K i = 2 := by
        rw [ek] at a q0' q1' ⊢
        have : ¬ (2 : Nat) < j0 := fun z => a (nI_lt (a := 2) z (by omega))
        have : ¬ j0 = 0 := fun z => q0' (by rw [z]; rfl)
        have : ¬ j0 = 1 := fun z => q1' (by rw [z]; rfl)
        rw [show j0 = 2 from by omega]; rfl
      obtain ⟨c, hc, ec⟩ := h2 q2
      rw [ec]
      refine ⟨vp_in_nI (by omega) (by omega), fin _ ?_⟩
      rw [tm_lf, if_neg q0', if_neg q1', ec]
theorem yw_loop {post : Int32 → SY → Prop} {e t r L : Nat} {row K N Z : Nat → Int32} (he : e < 10) (ht : t < 6) (hr : r < 40) (hW : tm_W K N Z L) (hL1 : 1 ≤ L)
    (hK : ∀ i, i < L → os (24 * e + i) = tm_yk (K i)) (hN : ∀ i, i < L → ny (24 * e + i) = N i) (hZ : ∀ j, j < L → sz (24 * e + j) = Z j) (hl : ln e = nI L)
    (hrow : ∀ c, c < 4 → cy (160 * t + 4 * r + c) = row c)
    (h : ∀ ry' fy' w f, yv_is (fun _ => w) (fun _ => f) 0 (tm_V K N row py (L - 1)) → post w (yd, yu, yc, f, cy, cn, sy, os, ny, sz, ln, py, ry', fy', my, nw)) :
    ∀ d i n ry fy, i + d = L → d < n → (∀ j, j < i → yv_is ry fy j (tm_V K N row py j)) → wY_work_3 post (nI e) (nI t) (nI r) n (nI i) yd yu yc yf cy cn sy os ny sz ln py ry fy my nw := by
  have hL := hW.1
  have ce : (nI e).toNatClampNeg = e := nI_clamp (by omega)
  intro d
  induction d with
  | zero =>
    intro i n ry fy hi hn hI
    obtain ⟨n, rfl⟩ : ∃ m, n = m + 1 := ⟨n - 1, by omega⟩
    obtain rfl : i = L := by omega
    have ve : vp_in (nI e) 10 := vp_in_nI (by omega) (by omega)
    refine ⟨ve, ?_⟩
    have el : ln (nI e).toNatClampNeg = nI i := by rw [ce]; exact hl
    have em : nI i - 1 = nI (i - 1) := pk_sub (b := 1) hL1
    have cm : (nI (i - 1)).toNatClampNeg = i - 1 := nI_clamp (by omega)
    rw [el, em, cm]
    have hv := hI (i - 1) (by omega)
    have vm : vp_in (nI (i - 1)) 24 := vp_in_nI (by omega) (by omega)
    have b01 : fy (i - 1) = 0 ∨ fy (i - 1) = 1 := by
      cases hV : tm_V K N row py (i - 1) with
      | none => rw [hV] at hv; exact Or.inr hv
      | some a => rw [hV] at hv; exact Or.inl hv.1
    refine br_t (Int32.le_refl _) ⟨ve, vm, nm_e ⟨ab_nb b01, ab_fb b01, ve, vm, h _ _ _ _ ?_⟩⟩
    cases hV : tm_V K N row py (i - 1) with
    | none => rw [hV] at hv; exact hv
    | some a => rw [hV] at hv; exact hv
  | succ d ih =>
    intro i n ry fy hi hn hI
    obtain ⟨n, rfl⟩ : ∃ m, n = m + 1 := ⟨n - 1, by omega⟩
    have ve : vp_in (nI e) 10 := vp_in_nI (by omega) (by omega)
    refine ⟨ve, ?_⟩
    have el : ln (nI e).toNatClampNeg = nI L := by rw [ce]; exact hl
    rw [el]
    refine br_f (nI_ge (by omega) (by omega)) ?_
    refine yw_part he ht hr hW (by omega) (hK i (by omega)) (hN i (by omega)) hZ hrow hI (fun ry' fy' hI' => ?_)
    exact nm_r (nI_1 i) (ih (i + 1) n ry' fy' (by omega) (by omega) hI')
theorem yw_work {post : Int32 → SY → Prop} {e t r L : Nat} {row K N Z : Nat → Int32} (he : e < 10) (ht : t < 6) (hr : r < 40) (hW : tm_W K N Z L) (hL1 : 1 ≤ L)
    (hK : ∀ i, i < L → os (24 * e + i) = tm_yk (K i)) (hN : ∀ i, i < L → ny (24 * e + i) = N i) (hZ : ∀ j, j < L → sz (24 * e + j) = Z j) (hl : ln e = nI L)
    (hrow : ∀ c, c < 4 → cy (160 * t + 4 * r + c) = row c)
    (h : ∀ ry' fy' w f, yv_is (fun _ => w) (fun _ => f) 0 (tm_V K N row py (L - 1)) → post w (yd, yu, yc, f, cy, cn, sy, os, ny, sz, ln, py, ry', fy', my, nw)) :
    wpY_work post (yd, yu, yc, yf, cy, cn, sy, os, ny, sz, ln, py, ry, fy, my, nw) (nI e) (nI t) (nI r) :=
  ⟨L + 1, yw_loop he ht hr hW hL1 hK hN hZ hl hrow h L 0 (L + 1) ry fy (by omega) (by omega) (fun j hj => absurd hj (by omega))⟩
end
