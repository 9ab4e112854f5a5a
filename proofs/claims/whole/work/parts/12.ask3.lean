/-! sum, greatest, different, value, save, differences -/
section
theorem i_vc_sum {k : Nat} {u : SX} {v : SY} (I : i_Rel k u v) (hk : k + 5 ≤ 2560) (v1 : Int32) (v2 : Int32) : wpX_sum (fun r u' => wpY_sum (fun r' v' => r' = r ∧ i_Rel (k + 5) u' v') v v1 v2) u v1 v2 := by
  obtain ⟨xs, xu, xc, th, cx, sx, kd, nm, ct, op, pa, mx, rx⟩ := u
  obtain ⟨yd, yu, yc, yf, cy, cn, sy, os, ny, sz, ln, py, ry, fy, my, nw⟩ := v
  have J := I
  obtain ⟨rfl, rfl, rfl, rfl, rfl, rfl, hb, ht, hs, ho, hT⟩ := I
  have hR := ht.1
  have hm := hR.2.1
  unfold wpX_sum wpY_sum
  dsimp only
  rcases pk_ix v1 (n := 8) (by omega) with hx | hx | ⟨w, hw, rfl⟩
  · exact xa_expN (Or.inl hx) (br_t rfl (ya_expN (Or.inl hx) (br_t rfl ⟨rfl, J⟩)))
  · exact xa_expN (Or.inr hx) (br_t rfl (ya_expN (Or.inr hx) (br_t rfl ⟨rfl, J⟩)))
  · refine xa_exp hw (br_f (by decide) ?_)
    rcases pk_ix v2 (n := 8) (by omega) with hx | hx | ⟨e, he, rfl⟩
    · exact xa_expN (Or.inl hx) (br_t rfl (ya_exp hw (br_f (by decide) (ya_expN (Or.inl hx) (br_t rfl ⟨rfl, J⟩)))))
    · exact xa_expN (Or.inr hx) (br_t rfl (ya_exp hw (br_f (by decide) (ya_expN (Or.inr hx) (br_t rfl ⟨rfl, J⟩)))))
    · refine xa_exp he (br_f (by decide) ?_)
      obtain ⟨Kw, Nw, Zw, Lw, TXw, TYw⟩ := te_get (by omega) (hT.1 w hw) ho
      obtain ⟨K, N, Z, L, TX', TY'⟩ := te_get (by omega) (hT.1 e he) ho
      refine xs_res TXw TX' (fun hb op' mx' rx' => ?_) (fun op' mx' rx' h1 h2 h3 => ?_)
      · exact br_t rfl (ya_exp hw (br_f (by decide) (ya_exp he (br_f (by decide) (jo_yF2 TYw TY' ht.1 hb (fun yf' ry' fy' my' nw' => br_t rfl ⟨rfl, J⟩))))))
      · have hn5 : ¬ nI (ra_k mx' 101) = -1000000005 := nf_5 (ra_le mx' 101)
        refine br_f hn5 ⟨102, xk_sum ?_ 101 0 102 (by omega) (by omega)⟩
        refine ya_exp hw (br_f (by decide) (ya_exp he (br_f (by decide) (jo_yS2 TYw TY' ht.1 h1 h2 h3 (fun yf' ry' fy' my' nw' hM hV => br_f hn5 ⟨ra_k (vx_t th 4) 101 + 1, yk_sum hm hR.1 ⟨?_, J⟩ (ra_k (vx_t th 4) 101) 0 _ (by omega) (by omega)⟩)))))
        refine jo_fold hM (fun s hs hz x => ?_)
        dsimp only at hz ⊢
        rw [hV s hs hz]
theorem i_vc_greatest {k : Nat} {u : SX} {v : SY} (I : i_Rel k u v) (hk : k + 5 ≤ 2560) (v1 : Int32) (v2 : Int32) : wpX_greatest (fun r u' => wpY_greatest (fun r' v' => r' = r ∧ i_Rel (k + 5) u' v') v v1 v2) u v1 v2 := by
  obtain ⟨xs, xu, xc, th, cx, sx, kd, nm, ct, op, pa, mx, rx⟩ := u
  obtain ⟨yd, yu, yc, yf, cy, cn, sy, os, ny, sz, ln, py, ry, fy, my, nw⟩ := v
  have J := I
  obtain ⟨rfl, rfl, rfl, rfl, rfl, rfl, hb, ht, hs, ho, hT⟩ := I
  have hR := ht.1
  have hm := hR.2.1
  unfold wpX_greatest wpY_greatest
  dsimp only
  rcases pk_ix v1 (n := 8) (by omega) with hx | hx | ⟨w, hw, rfl⟩
  · exact xa_expN (Or.inl hx) (br_t rfl (ya_expN (Or.inl hx) (br_t rfl ⟨rfl, J⟩)))
  · exact xa_expN (Or.inr hx) (br_t rfl (ya_expN (Or.inr hx) (br_t rfl ⟨rfl, J⟩)))
  · refine xa_exp hw (br_f (by decide) ?_)
    rcases pk_ix v2 (n := 8) (by omega) with hx | hx | ⟨e, he, rfl⟩
    · exact xa_expN (Or.inl hx) (br_t rfl (ya_exp hw (br_f (by decide) (ya_expN (Or.inl hx) (br_t rfl ⟨rfl, J⟩)))))
    · exact xa_expN (Or.inr hx) (br_t rfl (ya_exp hw (br_f (by decide) (ya_expN (Or.inr hx) (br_t rfl ⟨rfl, J⟩)))))
    · refine xa_exp he (br_f (by decide) ?_)
      obtain ⟨Kw, Nw, Zw, Lw, TXw, TYw⟩ := te_get (by omega) (hT.1 w hw) ho
      obtain ⟨K, N, Z, L, TX', TY'⟩ := te_get (by omega) (hT.1 e he) ho
      refine xs_res TXw TX' (fun hb op' mx' rx' => ?_) (fun op' mx' rx' h1 h2 h3 => ?_)
      · exact br_t rfl (ya_exp hw (br_f (by decide) (ya_exp he (br_f (by decide) (jo_yF2 TYw TY' ht.1 hb (fun yf' ry' fy' my' nw' => br_t rfl (br_f (by decide) ⟨rfl, J⟩)))))))
      · have hn5 : ¬ nI (ra_k mx' 101) = -1000000005 := nf_5 (ra_le mx' 101)
        by_cases h0 : nI (ra_k mx' 101) = 0
        · exact br_f hn5 (br_t h0 (ya_exp hw (br_f (by decide) (ya_exp he (br_f (by decide) (jo_yS2 TYw TY' ht.1 h1 h2 h3 (fun yf' ry' fy' my' nw' hM hV => br_f hn5 (br_t h0 (br_t h0 ⟨rfl, J⟩)))))))))
        · refine br_f hn5 (br_f h0 ⟨102, xk_gr ?_ 101 0 102 (by omega) (by omega)⟩)
          refine ya_exp hw (br_f (by decide) (ya_exp he (br_f (by decide) (jo_yS2 TYw TY' ht.1 h1 h2 h3 (fun yf' ry' fy' my' nw' hM hV => br_f hn5 (br_f h0 ⟨ra_k (vx_t th 4) 101 + 1, yk_gr hm hR.1 ⟨?_, J⟩ (ra_k (vx_t th 4) 101) 0 _ (by omega) (by omega)⟩))))))
          refine jo_fold hM (fun s hs hz x => ?_)
          dsimp only at hz ⊢
          have e := hV s hs hz
          by_cases z : rx' s ≤ x
          · rw [if_pos z, if_pos (by rw [e]; exact z)]
          · rw [if_neg z, if_neg (by rw [e]; exact z), e]
theorem i_vc_different {k : Nat} {u : SX} {v : SY} (I : i_Rel k u v) (hk : k + 5 ≤ 2560) (v1 : Int32) (v2 : Int32) : wpX_different (fun r u' => wpY_different (fun r' v' => r' = r ∧ i_Rel (k + 5) u' v') v v1 v2) u v1 v2 := by
  obtain ⟨xs, xu, xc, th, cx, sx, kd, nm, ct, op, pa, mx, rx⟩ := u
  obtain ⟨yd, yu, yc, yf, cy, cn, sy, os, ny, sz, ln, py, ry, fy, my, nw⟩ := v
  have J := I
  obtain ⟨rfl, rfl, rfl, rfl, rfl, rfl, hb, ht, hs, ho, hT⟩ := I
  have hR := ht.1
  have hm := hR.2.1
  unfold wpX_different wpY_different
  dsimp only
  rcases pk_ix v1 (n := 8) (by omega) with hx | hx | ⟨w, hw, rfl⟩
  · exact xa_expN (Or.inl hx) (br_t rfl (ya_expN (Or.inl hx) (br_t rfl ⟨rfl, J⟩)))
  · exact xa_expN (Or.inr hx) (br_t rfl (ya_expN (Or.inr hx) (br_t rfl ⟨rfl, J⟩)))
  · refine xa_exp hw (br_f (by decide) ?_)
    rcases pk_ix v2 (n := 8) (by omega) with hx | hx | ⟨e, he, rfl⟩
    · exact xa_expN (Or.inl hx) (br_t rfl (ya_exp hw (br_f (by decide) (ya_expN (Or.inl hx) (br_t rfl ⟨rfl, J⟩)))))
    · exact xa_expN (Or.inr hx) (br_t rfl (ya_exp hw (br_f (by decide) (ya_expN (Or.inr hx) (br_t rfl ⟨rfl, J⟩)))))
    · refine xa_exp he (br_f (by decide) ?_)
      obtain ⟨Kw, Nw, Zw, Lw, TXw, TYw⟩ := te_get (by omega) (hT.1 w hw) ho
      obtain ⟨K, N, Z, L, TX', TY'⟩ := te_get (by omega) (hT.1 e he) ho
      refine xs_res TXw TX' (fun hb op' mx' rx' => ?_) (fun op' mx' rx' h1 h2 h3 => ?_)
      · exact br_t rfl (ya_exp hw (br_f (by decide) (ya_exp he (br_f (by decide) (jo_yF2 TYw TY' ht.1 hb (fun yf' ry' fy' my' nw' => br_t rfl ⟨rfl, J⟩))))))
      · have hn5 : ¬ nI (ra_k mx' 101) = -1000000005 := nf_5 (ra_le mx' 101)
        refine br_f hn5 ⟨102, xk_df ?_ 101 0 102 (by omega) (by omega)⟩
        refine ya_exp hw (br_f (by decide) (ya_exp he (br_f (by decide) (jo_yS2 TYw TY' ht.1 h1 h2 h3 (fun yf' ry' fy' my' nw' hM hV => br_f hn5 ⟨ra_k (vx_t th 4) 101 + 1, yk_df hm hR.1 ⟨?_, J⟩ (ra_k (vx_t th 4) 101) 0 _ (by omega) (by omega)⟩)))))
        refine jo_fold hM (fun s hs hz x => ?_)
        dsimp only at hz ⊢
        have ht' : ¬ vx_t th 4 s = 0 := fun z => hz ((hM s hs).1 z)
        have e : (∀ q, q < ra_k (vx_t th 4) s → ¬ my' q = 0 → ¬ nw' q = nw' (ra_k (vx_t th 4) s)) ↔ (∀ q, q < s → ¬ mx' q = 0 → ¬ rx' q = rx' s) := by
          constructor
          · intro a q hq hzq
            have htq : ¬ vx_t th 4 q = 0 := fun z => hzq ((hM q (by omega)).1 z)
            have := a (ra_k (vx_t th 4) q) (ra_lt hq htq) (by rw [← (hM q (by omega)).2 htq]; exact hzq)
            rw [hV q (by omega) hzq, hV s hs hz] at this
            exact this
          · intro a r hr hzr
            obtain ⟨q, hq, htq, rfl⟩ := ra_inv hr
            have hzq : ¬ mx' q = 0 := by rw [(hM q (by omega)).2 htq]; exact hzr
            rw [hV q (by omega) hzq, hV s hs hz]
            exact a q hq hzq
        by_cases z : ∀ q, q < s → ¬ mx' q = 0 → ¬ rx' q = rx' s
        · rw [if_pos z, if_pos (e.mpr z)]
        · rw [if_neg z, if_neg (fun y => z (e.mp y))]
theorem i_vc_value {k : Nat} {u : SX} {v : SY} (I : i_Rel k u v) (hk : k + 5 ≤ 2560) (v1 : Int32) (v2 : Int32) : wpX_value (fun r => wpY_value (fun r' => r' = r ∧ i_Rel (k + 5) u v) v v1 v2) u v1 v2 := by
  obtain ⟨xs, xu, xc, th, cx, sx, kd, nm, ct, op, pa, mx, rx⟩ := u
  obtain ⟨yd, yu, yc, yf, cy, cn, sy, os, ny, sz, ln, py, ry, fy, my, nw⟩ := v
  have J := I
  obtain ⟨rfl, rfl, rfl, rfl, rfl, rfl, hb, ht, hs, ho, hT⟩ := I
  have hR := ht.1
  have hm := hR.2.1
  unfold wpX_value
  dsimp only
  rcases pk_ix v2 (n := 4) (by omega) with hx | hx | ⟨c, hc, rfl⟩
  · exact xa_colN (Or.inl hx) (br_t rfl (br_t hx ⟨rfl, J⟩))
  · have h0 : ¬ v2 < 0 := Int32.not_lt.mpr (Int32.le_trans (show (0 : Int32) ≤ nI 4 from by decide) hx)
    exact xa_colN (Or.inr hx) (br_t rfl (br_f h0 (br_f (Int32.not_le.mpr (ya_gt3 hx)) ⟨rfl, J⟩)))
  · have c0 : ¬ nI c < 0 := nI_pos (by omega)
    have c3 : nI c ≤ 3 := nI_le (b := 3) (by omega) (by omega)
    refine xa_col hc (br_f (by decide) ?_)
    rcases ab_slot v1 with hx | hx | ⟨s, hs', rfl⟩
    · refine xa_keyN (Or.inl hx) (br_t rfl (br_f c0 (br_t c3 (yf_find (t := 0) (by omega) hR (fun s hs' hz e => ?_) (fun _ => br_f (by decide) ⟨rfl, J⟩)))))
      exact absurd hx (by rw [e]; exact ab_k1 hs')
    · refine xa_keyN (Or.inr hx) (br_t rfl (br_f c0 (br_t c3 (yf_find (t := 0) (by omega) hR (fun s hs' hz e => ?_) (fun _ => br_f (by decide) ⟨rfl, J⟩)))))
      exact absurd hx (by rw [e]; exact ab_k2 hs')
    · refine xa_key hs' (br_f (by decide) ?_)
      show vp_in (nI 4 * 101 + (nI s - 50) - (-50)) 606 ∧ _
      rw [show (4 : Int32) = nI 4 from rfl, ab_so, nI_clamp (by omega)]
      refine ⟨vp_in_nI (by omega) (by omega), br_c (fun z => ?_) (fun z => ?_)⟩
      · refine br_f c0 (br_t c3 (yf_find (t := 0) (by omega) hR (fun s2 hs2 hz e => ?_) (fun _ => br_f (by decide) ⟨rfl, J⟩)))
        rw [ab_keyI hs' hs2 e] at z
        exact absurd z hz
      · have em : nI (4 * 101 + s) * nI 4 + nI c = nI ((4 * 101 + s) * 4 + c) := ab_m4 _ _
        rw [em, nI_clamp (by omega)]
        refine ⟨vp_in_nI (by omega) (by omega), br_f c0 (br_t c3 (yf_find (t := 0) (by omega) hR (fun s2 hs2 hz e => ?_) (fun hno => absurd rfl (hno s hs' z))))⟩
        have e2 := ab_keyI hs' hs2 e
        subst e2
        have hlt : ra_k (vx_t th 4) s < 40 := Nat.lt_of_lt_of_le (ra_lt hs' hz) hm
        refine br_t (nI_pos' (by omega)) (yc_cell (t := 0) (by omega) hlt hc ⟨?_, J⟩)
        exact (hR.2.2 s hs' hz).2 c hc
end
