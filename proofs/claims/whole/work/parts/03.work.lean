/-! X's workOut and Y's work against the machine -/
section
variable {xs xu xc : Int32} {th cx sx kd nm ct : Nat → Int32} {op : Nat → Int64} {pa mx rx : Nat → Int32} {yd yu yc yf : Int32} {cy cn sy os ny sz ln py ry fy my nw : Nat → Int32}
def tm_O (op : Nat → Int64) : List (Option Int32) → Prop
  | [] => True
  | x :: S => op S.length = tm_e x ∧ tm_O op S
theorem tm_Ou {op : Nat → Int64} {k : Nat} {z : Int64} : ∀ {S : List (Option Int32)}, S.length ≤ k → tm_O op S → tm_O (vp_updL op k z) S := by
  intro S
  induction S with
  | nil => intro _ _; trivial
  | cons x S ih =>
    intro h hO
    have hl : S.length + 1 ≤ k := h
    exact ⟨by rw [pk_uLn (by omega)]; exact hO.1, ih (by omega) hO.2⟩
theorem tm_Op {op : Nat → Int64} {S : List (Option Int32)} (x : Option Int32) (h : tm_O op S) : tm_O (vp_updL op S.length (tm_e x)) (x :: S) := ⟨pk_uLs, tm_Ou (Nat.le_refl _) h⟩
theorem tm_W8 {K N Z : Nat → Int32} {L : Nat} (hW : tm_W K N Z L) (i : Nat) (hi : i ≤ L) : (tm_ps K i).length ≤ 8 := by
  match i, hi with
  | 0, _ => exact Nat.zero_le _
  | i + 1, hi => exact (hW.2 i (by omega)).2.2.1
theorem xw_loop {post : Int64 → SX → Prop} {e j L : Nat} {row K N Z : Nat → Int32} (he : e < 10) (hj : j < 606) (hW : tm_W K N Z L)
    (hK : ∀ i, i < L → kd (e * 24 + i) = K i) (hN : ∀ i, i < L → nm (e * 24 + i) = N i) (hrow : ∀ c, c < 4 → cx (j * 4 + c) = row c)
    (h : ∀ op', tm_O op' (tm_vs K N row pa L) → post (op' 0) (xs, xu, xc, th, cx, sx, kd, nm, ct, op', pa, mx, rx)) :
    ∀ d i n op, i + d = L → d < n → tm_O op (tm_vs K N row pa i) → wX_workOut_21 post (nI j) (nI (e * 24 + L)) xs xu xc n (nI (tm_vs K N row pa i).length - 1) (nI (e * 24 + i)) th cx sx kd nm ct op pa mx rx := by
  have hL := hW.1
  intro d
  induction d with
  | zero =>
    intro i n op hi hn hO
    obtain ⟨n, rfl⟩ : ∃ m, n = m + 1 := ⟨n - 1, by omega⟩
    obtain rfl : i = L := by omega
    exact br_t (Int32.le_refl _) (h op hO)
  | succ d ih =>
    intro i n op hi hn hO
    obtain ⟨n, rfl⟩ : ∃ m, n = m + 1 := ⟨n - 1, by omega⟩
    have hiL : i < L := by omega
    obtain ⟨⟨k0, k15⟩, har, hlen, h1, h2, hz⟩ := hW.2 i hiL
    have hlS := tm_len K N row pa i
    have h8 := tm_W8 hW i (by omega)
    have hvs : tm_vs K N row pa (i + 1) = tm_v (K i) (N i) row pa (tm_vs K N row pa i) :: (tm_vs K N row pa i).drop (tm_ar (K i)) := rfl
    have ih' := fun op' => ih (i + 1) n op' (by omega) (by omega)
    rw [← hlS] at har
    rw [← hlS] at h8
    simp only [hvs] at ih'
    clear ih hlS hlen
    generalize tm_vs K N row pa i = S at *
    have e6 : nI (e * 24 + i) + 1 = nI (e * 24 + (i + 1)) := nI_1 _
    have c6 : (nI (e * 24 + i)).toNatClampNeg = e * 24 + i := nI_clamp (by omega)
    refine br_f (nI_ge (by omega) (by omega)) ⟨vp_in_nI (by omega) (by omega), nm_r (e' := K i) (by rw [c6]; exact hK i hiL) ?_⟩
    by_cases a : 2 < K i
    · refine br_t a ?_
      by_cases b : 4 < K i
      · refine br_t b ?_
        by_cases c : 14 < K i
        · refine br_t c ?_
          have ea : tm_ar (K i) = 3 := by simp only [tm_ar, if_pos a, if_pos b, if_pos c]
          have ev : tm_v (K i) (N i) row pa S = tm_v3 S := by simp only [tm_v, if_pos a, if_pos b, if_pos c]
          rw [ea] at har ih'
          rw [ev] at ih'
          match S, har, hO, h8, ih' with
          | y :: x :: z :: S, _, hO, h8, ih' =>
            have hlenS : S.length + 3 ≤ 8 := h8
            have ex : nI (y :: x :: z :: S).length - 1 + (-2) = nI S.length := by
              show nI (S.length + 3) - 1 + (-2) = nI S.length
              rw [nI_pred, show (-2 : Int32) = (-1) + (-1) from by decide, ← Int32.add_assoc, pk_m1, pk_m1]
            have c0 : (nI S.length).toNatClampNeg = S.length := nI_clamp (by omega)
            have e1 : nI S.length + 1 = nI (S.length + 1) := nI_1 _
            have e2 : nI S.length + 2 = nI (S.length + 2) := nI_add S.length 2
            refine nm_r ex ⟨vp_in_nI (by omega) (by omega), ?_, ?_, ?_⟩
            · rw [e1]; exact vp_in_nI (by omega) (by omega)
            · rw [e2]; exact vp_in_nI (by omega) (by omega)
            · rw [e1, e2, c0, nI_clamp (n := S.length + 1) (by omega), nI_clamp (n := S.length + 2) (by omega)]
              have o0 : op (S.length) = tm_e z := hO.2.2.1
              have o1 : op (S.length + 1) = tm_e x := hO.2.1
              have o2 : op (S.length + 2) = tm_e y := hO.1
              rw [o0, o1, o2]
              refine xv_ch z x y ⟨vp_in_nI (by omega) (by omega), nm_e (nm_r e6 ?_)⟩
              have := ih' _ (tm_Op (tm_ch z x y) hO.2.2.2)
              exact (show nI (S.length + 1) - 1 = nI S.length from nI_pred _) ▸ this
        · refine br_f c ?_
          have ea : tm_ar (K i) = 2 := by simp only [tm_ar, if_pos a, if_pos b, if_neg c]
          have ev : tm_v (K i) (N i) row pa S = tm_v2 (K i) S := by simp only [tm_v, if_pos a, if_pos b, if_neg c]
          rw [ea] at har ih'
          rw [ev] at ih'
          match S, har, hO, h8, ih' with
          | y :: x :: S, _, hO, h8, ih' =>
            have hlenS : S.length + 2 ≤ 8 := h8
            have ex : nI (y :: x :: S).length - 1 + (-1) = nI S.length := by
              show nI (S.length + 2) - 1 + (-1) = nI S.length
              rw [nI_pred, pk_m1]
            have c0 : (nI S.length).toNatClampNeg = S.length := nI_clamp (by omega)
            have e1 : nI S.length + 1 = nI (S.length + 1) := nI_1 _
            refine nm_r ex ⟨vp_in_nI (by omega) (by omega), ?_, ?_⟩
            · rw [e1]; exact vp_in_nI (by omega) (by omega)
            · rw [e1, c0, nI_clamp (n := S.length + 1) (by omega)]
              have o0 : op (S.length) = tm_e x := hO.2.1
              have o1 : op (S.length + 1) = tm_e y := hO.1
              rw [o0, o1]
              refine xv_two (fun q => ?_) c x y ⟨vp_in_nI (by omega) (by omega), nm_e (nm_r e6 ?_)⟩
              · have l1 : (K i).toInt < 5 := Int32.lt_iff_toInt_lt.mp q
                have l2 : 4 < (K i).toInt := Int32.lt_iff_toInt_lt.mp b
                omega
              · exact (show nI (S.length + 1) - 1 = nI S.length from nI_pred _) ▸ ih' _ (tm_Op (tm_two (K i) x y) hO.2.2)
      · refine br_f b ?_
        have ea : tm_ar (K i) = 1 := by simp only [tm_ar, if_pos a, if_neg b]
        have ev : tm_v (K i) (N i) row pa S = tm_v1 (K i) S := by simp only [tm_v, if_pos a, if_neg b]
        rw [ea] at har ih'
        rw [ev] at ih'
        match S, har, hO, h8, ih' with
        | x :: S, _, hO, h8, ih' =>
          have hlenS : S.length + 1 ≤ 8 := h8
          have ex : nI (x :: S).length - 1 = nI S.length := nI_pred S.length
          have c0 : (nI S.length).toNatClampNeg = S.length := nI_clamp (by omega)
          rw [ex]
          have o0 : op (S.length) = tm_e x := hO.1
          rw [c0, o0]
          refine ⟨vp_in_nI (by omega) (by omega), xv_one (K i) x ⟨vp_in_nI (by omega) (by omega), nm_e (nm_r e6 ?_)⟩⟩
          have := ih' _ (tm_Op (tm_one (K i) x) hO.2)
          exact (show nI (S.length + 1) - 1 = nI S.length from nI_pred _) ▸ this
    · refine br_f a ?_
      have ea : tm_ar (K i) = 0 := by simp only [tm_ar, if_neg a]
      have ev : tm_v (K i) (N i) row pa S = some (tm_lf (K i) (N i) row pa) := by simp only [tm_v, if_neg a]
      rw [ea, ev] at ih'
      have hlenS : S.length + 1 ≤ 8 := by
        have := tm_W8 hW (i + 1) (by omega)
        rw [← tm_len K N row pa] at this
        have e := congrArg List.length hvs
        rw [ea] at e
        simp only [List.length_cons, List.drop_zero] at e
        omega
      have ex : nI S.length - 1 + 1 = nI S.length := Int32.sub_add_cancel _ _
      have c0 : (nI S.length).toNatClampNeg = S.length := nI_clamp (by omega)
      refine nm_r ex ⟨vp_in_nI (by omega) (by omega), ?_⟩
      rw [c6, hN i hiL]
      have fin : ∀ r, r = tm_lf (K i) (N i) row pa → (vp_in (nI S.length) 8 ∧ ∀ op1, op1 = vp_updL op (nI S.length).toNatClampNeg r.toInt64 → ∀ y, y = nI (e * 24 + i) + 1 → wX_workOut_21 post (nI j) (nI (e * 24 + L)) xs xu xc n (nI S.length) y th cx sx kd nm ct op1 pa mx rx) := by
        intro r hr
        refine ⟨vp_in_nI (by omega) (by omega), nm_r (by rw [c0, hr]) (nm_r e6 ?_)⟩
        have := ih' _ (tm_Op (some (tm_lf (K i) (N i) row pa)) hO)
        exact (show nI (S.length + 1) - 1 = nI S.length from nI_pred _) ▸ this
      refine br_c (fun q => fin _ (by rw [tm_lf, if_pos q])) (fun q => br_c (fun q1 => ?_) (fun q1 => ?_))
      · obtain ⟨c, hc, ec⟩ := h1 q1
        rw [ec, ab_m4]
        refine ⟨vp_in_nI (by omega) (by omega), fin _ ?_⟩
        rw [nI_clamp (by omega), hrow c hc, tm_lf, if_neg q, if_pos q1, ec, nI_clamp (by omega)]
      · have q2 : K i = 2 := by
          obtain ⟨q0, hq0, e0⟩ := tm_16 k0 k15
          rw [e0] at a q q1 ⊢
          have : ¬ (2 : Nat) < q0 := fun z => a (nI_lt (a := 2) z (by omega))
          have : ¬ q0 = 0 := fun z => q (by rw [z]; rfl)
          have : ¬ q0 = 1 := fun z => q1 (by rw [z]; rfl)
          have : q0 = 2 := by omega
          rw [this]; rfl
        obtain ⟨c, hc, ec⟩ := h2 q2
        rw [ec]
        refine ⟨vp_in_nI (by omega) (by omega), fin _ ?_⟩
        rw [tm_lf, if_neg q, if_neg q1, ec]
theorem xw_out {post : Int64 → SX → Prop} {e j L : Nat} {row K N Z : Nat → Int32} (he : e < 10) (hj : j < 606) (hW : tm_W K N Z L) (h1 : (tm_ps K L).length = 1)
    (hK : ∀ i, i < L → kd (e * 24 + i) = K i) (hN : ∀ i, i < L → nm (e * 24 + i) = N i) (hc : ct e = nI L) (hrow : ∀ c, c < 4 → cx (j * 4 + c) = row c)
    (h : ∀ op', post (tm_e (tm_V K N row pa (L - 1))) (xs, xu, xc, th, cx, sx, kd, nm, ct, op', pa, mx, rx)) : wpX_workOut post (xs, xu, xc, th, cx, sx, kd, nm, ct, op, pa, mx, rx) (nI e) (nI j) := by
  have hL := hW.1
  have e0 : nI e * 24 = nI (e * 24) := pk_mul e 24
  refine nm_r e0 ⟨vp_in_nI (by omega) (by omega), nm_r (e' := nI (e * 24 + L)) (by rw [nI_clamp (by omega), hc, nI_add]) ⟨L + 1, ?_⟩⟩
  refine xw_loop he hj hW hK hN hrow (fun op' hO => ?_) L 0 (L + 1) op (by omega) (by omega) trivial
  have hm := tm_map K N row pa L
  match L, hL, h1, hm, hO, h with
  | L + 1, _, h1, hm, hO, h =>
    have e1 : tm_ps K (L + 1) = [L + 1] := by
      have : tm_ps K (L + 1) = (L + 1) :: (tm_ps K L).drop (tm_ar (K L)) := rfl
      rw [this] at h1 ⊢
      have z : ((tm_ps K L).drop (tm_ar (K L))).length = 0 := by simpa using h1
      rw [List.eq_nil_of_length_eq_zero z]
    rw [e1] at hm
    rw [hm] at hO
    have : op' 0 = tm_e (tm_V K N row pa (L + 1 - 1)) := hO.1
    rw [this]
    exact h op'
end
