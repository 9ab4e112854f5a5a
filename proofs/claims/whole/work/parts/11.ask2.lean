/-! value, sum, greatest, different, key -/
section
variable {xs xu xc : Int32} {th cx sx kd nm ct : Nat → Int32} {op : Nat → Int64} {pa mx rx : Nat → Int32} {yd yu yc yf : Int32} {cy cn sy os ny sz ln py ry fy my nw : Nat → Int32}
theorem xk_key {post : Int32 → SX → Prop} {b : Nat} (hb : b ≤ 101) (h1 : ∀ s, s < 101 → ¬ mx s = 0 → b = ra_k mx s → post (nI s - 50) (xs, xu, xc, th, cx, sx, kd, nm, ct, op, pa, mx, rx)) (h0 : (∀ s, s < 101 → ¬ mx s = 0 → ¬ b = ra_k mx s) → post (-1000000004) (xs, xu, xc, th, cx, sx, kd, nm, ct, op, pa, mx, rx)) :
    ∀ d i n, i + d = 101 → d < n → ra_k mx i ≤ b → (∀ s, s < i → ¬ mx s = 0 → ¬ b = ra_k mx s) → wX_key_59 post xs xu xc th cx sx kd nm ct op pa mx rx n (nI (b - ra_k mx i)) (nI i) := by
  intro d
  induction d with
  | zero =>
    intro i n hi hn hr hI
    obtain ⟨n, rfl⟩ : ∃ m, n = m + 1 := ⟨n - 1, by omega⟩
    obtain rfl : i = 101 := by omega
    exact br_t (by decide) (h0 hI)
  | succ d ih =>
    intro i n hi hn hr hI
    obtain ⟨n, rfl⟩ : ∃ m, n = m + 1 := ⟨n - 1, by omega⟩
    have vi : vp_in (nI i) 101 := vp_in_nI (by omega) (by omega)
    refine br_f (nI_ge (b := 101) (by omega) (by omega)) ⟨vi, ?_⟩
    rw [nI_clamp (by omega)]
    refine br_c (fun z => nm_r (nI_1 i) ?_) (fun z => ?_)
    · have := ih (i + 1) n (by omega) (by omega) (by rw [ra_s0 z]; exact hr) (fun s hs hz => ?_)
      · rw [ra_s0 z] at this; exact this
      · by_cases e : s = i
        · subst e; exact absurd z hz
        · exact hI s (by omega) hz
    · by_cases e : b = ra_k mx i
      · refine br_t (by rw [e, Nat.sub_self]; rfl) ?_
        rw [ab_n50]
        exact h1 i (by omega) z e
      · have e1 : b - ra_k mx i = (b - ra_k mx (i + 1)) + 1 := by rw [ra_s1 z]; omega
        refine br_f (nI_ne0 (by omega) (by omega)) (nm_r (e' := nI (b - ra_k mx (i + 1))) (by rw [e1, pk_m1]) (nm_r (nI_1 i) (ih (i + 1) n (by omega) (by omega) (by rw [ra_s1 z]; omega) (fun s hs hz => ?_))))
        by_cases q : s = i
        · subst q; exact e
        · exact hI s (by omega) hz
theorem ab_s0 {a b : Int32} (h : a - b = 0) : a = b := by
  have := congrArg (· + b) h
  simpa [Int32.sub_add_cancel] using this
theorem ab_s1 (a : Int32) (n : Nat) : a - nI n - 1 = a - nI (n + 1) := by
  rw [← nI_1, Int32.sub_eq_add_neg, Int32.sub_eq_add_neg, Int32.sub_eq_add_neg, Int32.neg_add, Int32.add_assoc, Int32.sub_eq_add_neg]
theorem yk_91 {post : Int32 → SY → Prop} {J : Int32 → Int32 → Prop} {x3 x5 : Int32} {i r : Nat} (hr : r < 40) (h0 : my r = 0 → J x5 (nI (i + 1))) (h1 : ¬ my r = 0 → J (x5 - 1) (nI (i + 1))) :
    wY_key_91 post J x3 x5 (nI i) (nI r) yd yu yc yf cy cn sy os ny sz ln py ry fy my nw := by
  refine ⟨vp_in_nI (by omega) (by omega), ?_⟩
  rw [nI_clamp (by omega)]
  exact br_c (fun z => nm_r (nI_1 i) (h0 z)) (fun z => nm_e (nm_r (nI_1 i) (h1 z)))
theorem yk_65 {post : Int32 → SY → Prop} {J : Int32 → Int32 → Prop} {x3 x5 : Int32} {i r : Nat} (hr : r < 40) (h0 : my r = 0 → J x5 (nI (i + 1))) (h1 : ¬ my r = 0 → ¬ x5 = 0 → J (x5 - 1) (nI (i + 1)))
    (h2 : ¬ my r = 0 → x5 = 0 → post (cy (160 * 0 + 4 * r + 0)) (yd, yu, yc, yf, cy, cn, sy, os, ny, sz, ln, py, ry, fy, my, nw)) : wY_key_65 post J x3 x5 (nI i) (nI r) yd yu yc yf cy cn sy os ny sz ln py ry fy my nw := by
  refine ⟨vp_in_nI (by omega) (by omega), ?_⟩
  rw [nI_clamp (by omega)]
  exact br_c (fun z => yk_91 hr h0 (fun y => absurd z y)) (fun z => br_c (fun y => yc_cell (t := 0) (c := 0) (by omega) hr (by omega) (h2 z y)) (fun y => yk_91 hr h0 (fun _ => h1 z y)))
theorem yk_up {post : Int32 → SY → Prop} {m : Nat} {q1 : Int32} (hm : m ≤ 40) (hc : cn 0 = nI m) (h1 : ∀ r, r < m → ¬ my r = 0 → q1 = nI (ra_k my r) → post (cy (160 * 0 + 4 * r + 0)) (yd, yu, yc, yf, cy, cn, sy, os, ny, sz, ln, py, ry, fy, my, nw))
    (h0 : (∀ r, r < m → ¬ my r = 0 → ¬ q1 = nI (ra_k my r)) → post (-1000000004) (yd, yu, yc, yf, cy, cn, sy, os, ny, sz, ln, py, ry, fy, my, nw)) :
    ∀ d i n, i + d = m → d < n → (∀ r, r < i → ¬ my r = 0 → ¬ q1 = nI (ra_k my r)) → wY_key_34 post 0 yd yu yc yf cy cn sy os ny sz ln py ry fy my nw n (q1 - nI (ra_k my i)) (nI i) := by
  intro d
  induction d with
  | zero =>
    intro i n hi hn hI
    obtain ⟨n, rfl⟩ : ∃ m, n = m + 1 := ⟨n - 1, by omega⟩
    obtain rfl : i = m := by omega
    exact br_t (by rw [hc]; exact Int32.le_refl _) (h0 hI)
  | succ d ih =>
    intro i n hi hn hI
    obtain ⟨n, rfl⟩ : ∃ m, n = m + 1 := ⟨n - 1, by omega⟩
    have step : (¬ my i = 0 → ¬ q1 = nI (ra_k my i)) → wY_key_34 post 0 yd yu yc yf cy cn sy os ny sz ln py ry fy my nw n (q1 - nI (ra_k my (i + 1))) (nI (i + 1)) := by
      intro a
      refine ih (i + 1) n (by omega) (by omega) (fun r hr hz => ?_)
      by_cases e : r = i
      · subst e; exact a hz
      · exact hI r (by omega) hz
    refine br_f (by rw [hc]; exact nI_ge (by omega) (by omega)) (br_t rfl (yk_65 (by omega) (fun z => ?_) (fun z y => ?_) (fun z y => h1 i (by omega) z (ab_s0 y))))
    · have := step (fun y => absurd z y)
      rw [ra_s0 z] at this; exact this
    · have := step (fun _ w => y (by rw [w, Int32.sub_self]))
      rw [ab_s1]
      rw [ra_s1 z] at this; exact this
theorem yk_dn {post : Int32 → SY → Prop} {m : Nat} {q1 x3 : Int32} (h3 : ¬ x3 = 0) (hm : m ≤ 40) (hc : cn 0 = nI m) (h1 : ∀ r, r < m → ¬ my r = 0 → q1 = nI (ra_k my m - ra_k my (r + 1)) → post (cy (160 * 0 + 4 * r + 0)) (yd, yu, yc, yf, cy, cn, sy, os, ny, sz, ln, py, ry, fy, my, nw))
    (h0 : (∀ r, r < m → ¬ my r = 0 → ¬ q1 = nI (ra_k my m - ra_k my (r + 1))) → post (-1000000004) (yd, yu, yc, yf, cy, cn, sy, os, ny, sz, ln, py, ry, fy, my, nw)) :
    ∀ d i n, i + d = m → d < n → (∀ r, r < m → m - i ≤ r → ¬ my r = 0 → ¬ q1 = nI (ra_k my m - ra_k my (r + 1))) → wY_key_34 post x3 yd yu yc yf cy cn sy os ny sz ln py ry fy my nw n (q1 - nI (ra_k my m - ra_k my (m - i))) (nI i) := by
  intro d
  induction d with
  | zero =>
    intro i n hi hn hI
    obtain ⟨n, rfl⟩ : ∃ m, n = m + 1 := ⟨n - 1, by omega⟩
    obtain rfl : i = m := by omega
    exact br_t (by rw [hc]; exact Int32.le_refl _) (h0 (fun r hr => hI r hr (by omega)))
  | succ d ih =>
    intro i n hi hn hI
    obtain ⟨n, rfl⟩ : ∃ m, n = m + 1 := ⟨n - 1, by omega⟩
    obtain ⟨r, er⟩ : ∃ r, m - i = r + 1 := ⟨m - i - 1, by omega⟩
    have e1 : m - (i + 1) = r := by omega
    have step : (¬ my r = 0 → ¬ q1 = nI (ra_k my m - ra_k my (r + 1))) → wY_key_34 post x3 yd yu yc yf cy cn sy os ny sz ln py ry fy my nw n (q1 - nI (ra_k my m - ra_k my r)) (nI (i + 1)) := by
      intro a
      have := ih (i + 1) n (by omega) (by omega) (fun r' hr hl hz => ?_)
      · rw [e1] at this; exact this
      · by_cases e : r' = r
        · subst e; exact a hz
        · exact hI r' hr (by omega) hz
    have hle : ra_k my (r + 1) ≤ ra_k my m := ra_mono my (by omega)
    have ez : cn 0 - 1 - nI i = nI r := by
      rw [hc, show (1 : Int32) = nI 1 from rfl, pk_sub (by omega), pk_sub (by omega)]
      exact congrArg nI (by omega)
    refine br_f (by rw [hc]; exact nI_ge (by omega) (by omega)) (br_f h3 ?_)
    rw [ez, er]
    refine yk_65 (by omega) (fun z => ?_) (fun z y => ?_) (fun z y => h1 r (by omega) z (ab_s0 y))
    · have := step (fun y => absurd z y)
      rw [ra_s0 z]; exact this
    · have := step (fun _ w => y (by rw [w, Int32.sub_self]))
      rw [ab_s1]
      have e2 : ra_k my m - ra_k my (r + 1) + 1 = ra_k my m - ra_k my r := by
        rw [ra_s1 z] at hle ⊢; omega
      rw [e2]; exact this
theorem yk_key {post : Int32 → SY → Prop} {e L : Nat} {K N Z : Nat → Int32} {mx' : Nat → Int32} {q2 q3 : Int32} (he : e < 8) (T : te_Y os ny sz ln K N Z e L) (hR : rt_R th cx 4 cn cy 0)
    (h1 : ∀ s, s < 101 → ¬ vx_t th 4 s = 0 → ∃ v, pv_T K N L py (vx_r cx 4 s) = some v ∧ mx' s = if v = 0 then 0 else 1) (h2 : ∀ s, s < 101 → vx_t th 4 s = 0 → mx' s = 0)
    (hn : (∀ j, j < ra_k mx' 101 → ¬ q2 = nI j) → ∀ yf' ry' fy' my', post (-1000000004) (yd, yu, yc, yf', cy, cn, sy, os, ny, sz, ln, py, ry', fy', my', nw))
    (hy : ∀ j s, j < ra_k mx' 101 → q2 = nI j → s < 101 → ¬ mx' s = 0 → ra_k mx' s = (if q3 = 0 then j else ra_k mx' 101 - 1 - j) → ∀ yf' ry' fy' my', post (nI s - 50) (yd, yu, yc, yf', cy, cn, sy, os, ny, sz, ln, py, ry', fy', my', nw)) :
    wpY_key post (yd, yu, yc, yf, cy, cn, sy, os, ny, sz, ln, py, ry, fy, my, nw) (nI e) q2 q3 := by
  unfold wpY_key
  dsimp only
  have hm := hR.2.1
  have hn5 : ¬ nI (ra_k mx' 101) = -1000000005 := nf_5 (ra_le mx' 101)
  have h101 := ra_le mx' 101
  refine ya_exp he (br_f (by decide) (jo_yS T hR h1 h2 (fun yf' ry' fy' my' hM => br_f hn5 ⟨ra_k (vx_t th 4) 101 + 1, ?_⟩)))
  have em := jo_ra hM 101 (by omega)
  have slot : ∀ r, r < ra_k (vx_t th 4) 101 → ¬ my' r = 0 → ∃ s, s < 101 ∧ ¬ mx' s = 0 ∧ ra_k mx' s = ra_k my' r ∧ cy (160 * 0 + 4 * r + 0) = nI s - 50 := by
    intro r hr hz'
    obtain ⟨s', hs2, ht2, rfl⟩ := ra_inv hr
    have hmx : ¬ mx' s' = 0 := by rw [(hM s' hs2).2 ht2]; exact hz'
    have a := hR.2.2 s' hs2 ht2
    have a2 := a.2 0 (by omega)
    rw [a.1] at a2
    exact ⟨s', hs2, hmx, jo_ra hM s' (by omega), a2⟩
  by_cases h3 : q3 = 0
  · rw [h3]
    have e0 : q2 - nI (ra_k my' 0) = q2 := Int32.sub_zero _
    have := yk_up (q1 := q2) (post := post) (yd := yd) (yu := yu) (yc := yc) (yf := yf') (cy := cy) (sy := sy) (os := os) (ny := ny) (sz := sz) (ln := ln) (py := py) (ry := ry') (fy := fy') (my := my') (nw := nw) hm hR.1 (fun r hr hz' eq => ?_) (fun hno => hn (fun j hj eq => ?_) _ _ _ _) (ra_k (vx_t th 4) 101) 0 (ra_k (vx_t th 4) 101 + 1) (by omega) (by omega) (fun r hr => absurd hr (by omega))
    · rw [e0] at this; exact this
    · obtain ⟨s, a1, a2, a3, a4⟩ := slot r hr hz'
      rw [a4]
      exact hy (ra_k my' r) s (by rw [em]; exact ra_lt hr hz') eq a1 a2 (by rw [if_pos h3, a3]) _ _ _ _
    · obtain ⟨r, a1, a2, a3⟩ := ra_inv (t := my') (r := j) (n := ra_k (vx_t th 4) 101) (by rw [← em]; exact hj)
      exact hno r a1 a2 (by rw [eq, a3])
  · have e0 : q2 - nI (ra_k my' (ra_k (vx_t th 4) 101) - ra_k my' (ra_k (vx_t th 4) 101 - 0)) = q2 := by rw [Nat.sub_zero, Nat.sub_self]; exact Int32.sub_zero _
    have := yk_dn (q1 := q2) (post := post) (yd := yd) (yu := yu) (yc := yc) (yf := yf') (cy := cy) (sy := sy) (os := os) (ny := ny) (sz := sz) (ln := ln) (py := py) (ry := ry') (fy := fy') (my := my') (nw := nw) h3 hm hR.1 (fun r hr hz' eq => ?_) (fun hno => hn (fun j hj eq => ?_) _ _ _ _) (ra_k (vx_t th 4) 101) 0 (ra_k (vx_t th 4) 101 + 1) (by omega) (by omega) (fun r hr hl => absurd hl (by omega))
    · rw [e0] at this; exact this
    · obtain ⟨s, a1, a2, a3, a4⟩ := slot r hr hz'
      rw [a4]
      have b2 : ra_k my' (r + 1) = ra_k my' r + 1 := ra_s1 hz'
      have b1 := ra_mono my' (a := r + 1) (b := ra_k (vx_t th 4) 101) hr
      exact hy _ s (by omega) eq a1 a2 (by rw [if_neg h3, a3]; omega) _ _ _ _
    · obtain ⟨r, a1, a2, a3⟩ := ra_inv (t := my') (r := ra_k mx' 101 - 1 - j) (n := ra_k (vx_t th 4) 101) (by omega)
      have b2 : ra_k my' (r + 1) = ra_k my' r + 1 := ra_s1 a2
      exact hno r a1 a2 (by rw [eq]; exact congrArg nI (by omega))
end
section
theorem i_vc_key {k : Nat} {u : SX} {v : SY} (I : i_Rel k u v) (hk : k + 5 ≤ 2560) (v1 : Int32) (v2 : Int32) (v3 : Int32) : wpX_key (fun r u' => wpY_key (fun r' v' => r' = r ∧ i_Rel (k + 5) u' v') v v1 v2 v3) u v1 v2 v3 := by
  obtain ⟨xs, xu, xc, th, cx, sx, kd, nm, ct, op, pa, mx, rx⟩ := u
  obtain ⟨yd, yu, yc, yf, cy, cn, sy, os, ny, sz, ln, py, ry, fy, my, nw⟩ := v
  have J := I
  obtain ⟨rfl, rfl, rfl, rfl, rfl, rfl, hb, ht, hs, ho, hT⟩ := I
  unfold wpX_key
  dsimp only
  rcases pk_ix v1 (n := 8) (by omega) with hx | hx | ⟨e, he, rfl⟩
  · refine xa_expN (Or.inl hx) (br_t rfl ?_)
    unfold wpY_key
    dsimp only
    exact ya_expN (Or.inl hx) (br_t rfl ⟨rfl, J⟩)
  · refine xa_expN (Or.inr hx) (br_t rfl ?_)
    unfold wpY_key
    dsimp only
    exact ya_expN (Or.inr hx) (br_t rfl ⟨rfl, J⟩)
  · obtain ⟨K, N, Z, L, TX', TY'⟩ := te_get (by omega) (hT.1 e he) ho
    refine xa_exp he (br_f (by decide) (xs_rows TX' (fun hb op' mx' => ?_) (fun op' mx' h1 h2 => ?_)))
    · refine br_t rfl ?_
      unfold wpY_key
      dsimp only
      exact ya_exp he (br_f (by decide) (jo_yF TY' ht.1 hb (fun yf' ry' fy' my' => br_t rfl ⟨rfl, J⟩)))
    · have h101 := ra_le mx' 101
      have hn5 : ¬ nI (ra_k mx' 101) = -1000000005 := nf_5 (ra_le mx' 101)
      refine br_f hn5 ?_
      by_cases n0 : v2 < 0
      · refine br_t n0 (yk_key he TY' ht.1 h1 h2 (fun _ yf' ry' fy' my' => ⟨rfl, J⟩) (fun j s hj eq => absurd n0 ?_))
        rw [eq]; exact nI_pos (by omega)
      · obtain ⟨j, hj, rfl⟩ := nI_of n0
        refine br_f n0 ?_
        by_cases hjm : j < ra_k mx' 101
        · refine br_t (nI_lt hjm (by omega)) ?_
          have main : ∀ b, b < ra_k mx' 101 → b = (if v3 = 0 then j else ra_k mx' 101 - 1 - j) → ∃ n59, wX_key_59 (fun r u' => wpY_key (fun r' v' => r' = r ∧ i_Rel (k + 5) u' v') (yd, yu, yc, yf, cy, cn, sy, os, ny, sz, ln, py, ry, fy, my, nw) (nI e) (nI j) v3) yd yu yc th cx sx kd ny ln op' py mx' rx n59 (nI b) 0 := by
            intro b hb' eb
            refine ⟨102, xk_key (b := b) (by omega) (fun s hs' hz er => ?_) (fun hno => ?_) 101 0 102 (by omega) (by omega) (Nat.zero_le _) (fun s hs => absurd hs (by omega))⟩
            · refine yk_key he TY' ht.1 h1 h2 (fun hno => absurd rfl (hno j hjm)) (fun j' s' hj' eq hs2 hz2 er2 yf' ry' fy' my' => ⟨?_, J⟩)
              have ej : j = j' := (nI_eq (by omega) (by omega)).mp eq
              subst ej
              have : s' = s := ra_inj hz2 hz (by rw [er2, ← eb, er])
              rw [this]
            · obtain ⟨s, a1, a2, a3⟩ := ra_inv hb'
              exact absurd a3.symm (hno s a1 a2)
          refine br_c (fun h3 => main j hjm (by rw [if_pos h3])) (fun h3 => nm_r (e' := nI (ra_k mx' 101 - 1 - j)) ?_ (main _ (by omega) (by rw [if_neg h3])))
          rw [show (1 : Int32) = nI 1 from rfl, pk_sub (by omega), pk_sub (by omega)]
        · refine br_f (nI_nlt (by omega) hj) (yk_key he TY' ht.1 h1 h2 (fun _ yf' ry' fy' my' => ⟨rfl, J⟩) (fun j' s hj' eq => ?_))
          have ej : j = j' := (nI_eq (by omega) (by omega)).mp eq
          omega
end
