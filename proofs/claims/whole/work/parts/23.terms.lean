/-! leaf, one, two, choose, scrap -/
section
variable {xs xu xc : Int32} {th cx sx kd nm ct : Nat → Int32} {op : Nat → Int64} {pa mx rx : Nat → Int32} {yd yu yc yf : Int32} {cy cn sy os ny sz ln py ry fy my nw : Nat → Int32}
/-- X's addPart and Y's append, from related states -/
theorem jo_add {k : Nat} {L d t : Nat} {kind num opc : Int32} (hb : bo_A th) (htb : tb_A th cx cn cy) (hs : ∀ s, s < 4 → sy (s + 1) = sx s) (ho : ∀ j, os j = tm_yk (kd j)) (hA : te_A kd nm sz ct xs xc)
    (hL : L < 24) (hc : ct 9 = nI L) (hd : (tm_ps (fun i => kd (9 * 24 + i)) L).length = d) (hx : xs = nI d) (ht : tm_ar kind = t) (htd : t ≤ d) (hd8 : d ≤ 8) (hd9 : d - t + 1 ≤ 8) (k0 : 0 ≤ kind) (k15 : kind ≤ 15)
    (h1 : kind = 1 → ∃ c, c < 4 ∧ num = nI c) (h2 : kind = 2 → ∃ c, c < 3 ∧ num = nI c) (hop : opc = tm_yk kind) {yf : Int32} {P : (Int32 → SY → Prop) → Prop}
    (hP : ∀ post : Int32 → SY → Prop, wpY_append post (xs, xu, xc, yf, cy, cn, sy, os, nm, sz, ct, pa, ry, fy, my, nw) opc num (nI t) → P post) :
    wpX_addPart (fun r u' => P (fun r' v' => r' = r ∧ i_Rel (k + 5) u' v')) (xs, xu, xc, th, cx, sx, kd, nm, ct, op, pa, mx, rx) kind num (nI t) := by
  obtain ⟨L', c', hW, _⟩ := hA.2.2
  have hL' := hW.1
  have : L' = L := (nI_eq (by omega) (by omega)).mp (by rw [← c', hc])
  subst this
  refine xa_add hL hc hx htd hd8 (hP _ (ya_add hL hc hW hd hx htd hd8 ⟨rfl, rfl, rfl, rfl, rfl, rfl, rfl, hb, htb, hs, fun j => ?_, ?_⟩))
  · show upd os (216 + L') opc j = tm_yk (upd kd (216 + L') kind j)
    by_cases e : j = 216 + L'
    · subst e; rw [pk_us, pk_us]; exact hop
    · rw [pk_un e, pk_un e]; exact ho j
  · exact te_push hA hL hc hd ht htd hd9 k0 k15 h1 h2 rfl
/-- X's combine and Y's make -/
theorem jo_mk {k : Nat} {t : Nat} {kind opc : Int32} (hb : bo_A th) (htb : tb_A th cx cn cy) (hs : ∀ s, s < 4 → sy (s + 1) = sx s) (ho : ∀ j, os j = tm_yk (kd j)) (hA : te_A kd nm sz ct xs xc)
    (ht : tm_ar kind = t) (ht1 : 1 ≤ t) (k0 : 0 ≤ kind) (k15 : kind ≤ 15) (h1 : ¬ kind = 1) (h2 : ¬ kind = 2) (hop : opc = tm_yk kind) (ht3 : t ≤ 3) {yf : Int32} {P : (Int32 → SY → Prop) → Prop}
    (hP : ∀ post : Int32 → SY → Prop, wpY_make post (xs, xu, xc, yf, cy, cn, sy, os, nm, sz, ct, pa, ry, fy, my, nw) opc (nI t) → P post) :
    wpX_combine (fun r u' => P (fun r' v' => r' = r ∧ i_Rel (k + 5) u' v')) (xs, xu, xc, th, cx, sx, kd, nm, ct, op, pa, mx, rx) kind (nI t) := by
  have hA' := hA
  obtain ⟨L, c', hW, hx⟩ := hA.2.2
  have hL := hW.1
  have h8 := tm_W8 hW L (Nat.le_refl _)
  have J : re_R xs xu xc th cx sx kd nm ct pa xs xu xc cy cn sy os nm sz ct pa := ⟨rfl, rfl, rfl, rfl, rfl, rfl, hb, htb, hs, ho, hA⟩
  by_cases e : L = 24
  · subst e
    exact br_f (by rw [c']; decide) (hP _ (br_t c' ⟨rfl, J⟩))
  · have n24 : ¬ ct 9 = 24 := by
      rw [c']
      intro q
      exact e ((nI_eq (b := 24) (by omega) (by omega)).mp q)
    refine br_t (by rw [c']; exact nI_lt (b := 24) (by omega) (by omega)) ?_
    by_cases q : t ≤ (tm_ps (fun i => kd (9 * 24 + i)) L).length
    · have hle : nI t ≤ xs := by rw [hx]; exact nI_le q (by omega)
      refine br_t hle ?_
      exact jo_add hb htb hs ho hA (by omega) c' rfl hx ht q h8 (by omega) k0 k15 (fun z => absurd z h1) (fun z => absurd z h2) hop (fun post hp => hP post (br_f n24 (br_t hle hp)))
    · have hle : ¬ nI t ≤ xs := by rw [hx]; exact nI_ge (by omega) (by omega)
      exact br_f hle (hP _ (br_f n24 (br_f hle ⟨rfl, J⟩)))
def lf_ok (p0 p1 : Int32) : Prop := (p0 = 0 ∧ ¬ p1 < -99 ∧ ¬ 99 < p1) ∨ (p0 = 1 ∧ ¬ p1 < 0 ∧ ¬ 4 ≤ p1) ∨ (p0 = 2 ∧ ¬ p1 < 0 ∧ ¬ 3 ≤ p1)
theorem xl_leaf {post : Int32 → Prop} {p0 p1 : Int32} (h1 : lf_ok p0 p1 → post 1) (h0 : ¬ lf_ok p0 p1 → post 0) : wpX_isLeaf post p0 p1 := by
  have no : ¬ p0 = 0 → ¬ p0 = 1 → ¬ p0 = 2 → post 0 := by
    intro a b c
    refine h0 (fun q => ?_)
    rcases q with q | q | q
    · exact a q.1
    · exact b q.1
    · exact c q.1
  by_cases n0 : p0 < 0
  · exact br_t n0 (no (fun e => absurd n0 (by rw [e]; decide)) (fun e => absurd n0 (by rw [e]; decide)) (fun e => absurd n0 (by rw [e]; decide)))
  by_cases n2 : 2 < p0
  · exact br_f n0 (br_t n2 (no (fun e => absurd n2 (by rw [e]; decide)) (fun e => absurd n2 (by rw [e]; decide)) (fun e => absurd n2 (by rw [e]; decide))))
  refine br_f n0 (br_f n2 ?_)
  by_cases e0 : p0 = 0
  · subst e0
    refine br_t rfl (br_c (fun q => h0 (fun w => ?_)) (fun q => br_c (fun q2 => h0 (fun w => ?_)) (fun q2 => h1 (Or.inl ⟨rfl, q, q2⟩))))
    · rcases w with w | w | w
      · exact w.2.1 q
      · exact absurd w.1 (by decide)
      · exact absurd w.1 (by decide)
    · rcases w with w | w | w
      · exact w.2.2 q2
      · exact absurd w.1 (by decide)
      · exact absurd w.1 (by decide)
  by_cases e1 : p0 = 1
  · subst e1
    refine br_f e0 (br_t rfl (br_c (fun q => ⟨rfl, h0 (fun w => ?_)⟩) (fun q => br_c (fun q2 => ⟨rfl, h0 (fun w => ?_)⟩) (fun q2 => ⟨rfl, h1 (Or.inr (Or.inl ⟨rfl, q, q2⟩))⟩))))
    · rcases w with w | w | w
      · exact absurd w.1 (by decide)
      · exact w.2.1 q
      · exact absurd w.1 (by decide)
    · rcases w with w | w | w
      · exact absurd w.1 (by decide)
      · exact w.2.2 q2
      · exact absurd w.1 (by decide)
  · have e2 : p0 = 2 := by
      obtain ⟨j, hj, rfl⟩ := nI_of2 (M := 2) (n := 2) (by decide) n0 (Int32.not_lt.mp n2)
      have : ¬ j = 0 := fun z => e0 (by rw [z]; rfl)
      have : ¬ j = 1 := fun z => e1 (by rw [z]; rfl)
      rw [show j = 2 from by omega]; rfl
    subst e2
    refine br_f e0 (br_f e1 (br_t rfl (br_c (fun q => h0 (fun w => ?_)) (fun q => br_c (fun q2 => h0 (fun w => ?_)) (fun q2 => h1 (Or.inr (Or.inr ⟨rfl, q, q2⟩)))))))
    · rcases w with w | w | w
      · exact absurd w.1 (by decide)
      · exact absurd w.1 (by decide)
      · exact w.2.1 q
    · rcases w with w | w | w
      · exact absurd w.1 (by decide)
      · exact absurd w.1 (by decide)
      · exact w.2.2 q2
theorem ab_43 (x : Int32) : x ≤ 3 ↔ ¬ 4 ≤ x := by
  rw [Int32.le_iff_toInt_le, Int32.le_iff_toInt_le, show (3 : Int32).toInt = 3 from by decide, show (4 : Int32).toInt = 4 from by decide]; omega
theorem ab_23 (x : Int32) : 2 < x ↔ 3 ≤ x := by
  rw [Int32.lt_iff_toInt_lt, Int32.le_iff_toInt_le, show (3 : Int32).toInt = 3 from by decide, show (2 : Int32).toInt = 2 from by decide]; omega
theorem yl_leaf {post : Int32 → SY → Prop} {p0 p1 : Int32} (h1 : lf_ok p0 p1 → wY_leaf_49 post p0 p1 1 yd yu yc yf cy cn sy os ny sz ln py ry fy my nw) (h0 : ¬ lf_ok p0 p1 → wY_leaf_49 post p0 p1 0 yd yu yc yf cy cn sy os ny sz ln py ry fy my nw) : wpY_leaf post (yd, yu, yc, yf, cy, cn, sy, os, ny, sz, ln, py, ry, fy, my, nw) p0 p1 := by
  have l30 : ¬ (p0 = 0 ∧ ¬ p1 < -99 ∧ ¬ 99 < p1) → ¬ (p0 = 1 ∧ ¬ p1 < 0 ∧ ¬ 4 ≤ p1) → wY_leaf_30 post p0 p1 yd yu yc yf cy cn sy os ny sz ln py ry fy my nw := by
    intro a b
    have no : ¬ (p0 = 2 ∧ ¬ p1 < 0 ∧ ¬ 3 ≤ p1) → wY_leaf_48 post p0 p1 yd yu yc yf cy cn sy os ny sz ln py ry fy my nw := fun c => h0 (fun w => w.elim a (fun w => w.elim b c))
    refine br_c (fun q => br_c (fun q1 => no (fun w => w.2.1 q1)) (fun q1 => br_c (fun q2 => no (fun w => w.2.2 ((ab_23 p1).mp q2))) (fun q2 => h1 (Or.inr (Or.inr ⟨q, q1, fun z => q2 ((ab_23 p1).mpr z)⟩))))) (fun q => no (fun w => q w.1))
  have l16 : ¬ (p0 = 0 ∧ ¬ p1 < -99 ∧ ¬ 99 < p1) → wY_leaf_16 post p0 p1 yd yu yc yf cy cn sy os ny sz ln py ry fy my nw := by
    intro a
    refine br_c (fun q => br_c (fun q1 => l30 a (fun w => w.2.1 q1)) (fun q1 => br_c (fun q2 => h1 (Or.inr (Or.inl ⟨q, q1, (ab_43 p1).mp q2⟩))) (fun q2 => l30 a (fun w => q2 ((ab_43 p1).mpr w.2.2))))) (fun q => l30 a (fun w => q w.1))
  refine br_c (fun q => br_c (fun q1 => l16 (fun w => w.2.1 q1)) (fun q1 => br_c (fun q2 => h1 (Or.inl ⟨q, q1, Int32.not_lt.mpr q2⟩)) (fun q2 => l16 (fun w => q2 (Int32.not_lt.mp w.2.2))))) (fun q => l16 (fun w => q w.1))
end
section
theorem i_vc_leaf {k : Nat} {u : SX} {v : SY} (I : i_Rel k u v) (hk : k + 5 ≤ 2560) (v1 : Int32) (v2 : Int32) : wpX_leaf (fun r u' => wpY_leaf (fun r' v' => r' = r ∧ i_Rel (k + 5) u' v') v v1 v2) u v1 v2 := by
  obtain ⟨xs, xu, xc, th, cx, sx, kd, nm, ct, op, pa, mx, rx⟩ := u
  obtain ⟨yd, yu, yc, yf, cy, cn, sy, os, ny, sz, ln, py, ry, fy, my, nw⟩ := v
  have J := I
  obtain ⟨rfl, rfl, rfl, rfl, rfl, rfl, hb, ht, hs, ho, hT⟩ := I
  unfold wpX_leaf
  dsimp only
  obtain ⟨L, c', hW, hx⟩ := hT.2.2
  have hL := hW.1
  have h8 := tm_W8 hW L (Nat.le_refl _)
  refine xl_leaf (fun hok => br_f (by decide) ?_) (fun hno => br_t rfl (yl_leaf (fun q => absurd q hno) (fun _ => br_t rfl ⟨rfl, J⟩)))
  have yok : ∀ {post : Int32 → SY → Prop}, ((yd = 8 → post (-1000000002) (yd, yu, yc, yf, cy, cn, sy, os, ny, sz, ln, py, ry, fy, my, nw)) ∧ (¬ yd = 8 → (ln 9 = 24 → post (-1000000002) (yd, yu, yc, yf, cy, cn, sy, os, ny, sz, ln, py, ry, fy, my, nw)) ∧ (¬ ln 9 = 24 → wpY_append (fun r_7 u => match u with | (yd, yu, yc, yf, cy, cn, sy, os, ny, sz, ln, py, ry, fy, my, nw) => post r_7 (yd, yu, yc, yf, cy, cn, sy, os, ny, sz, ln, py, ry, fy, my, nw)) (yd, yu, yc, yf, cy, cn, sy, os, ny, sz, ln, py, ry, fy, my, nw) v1 v2 0))) → wpY_leaf post (yd, yu, yc, yf, cy, cn, sy, os, ny, sz, ln, py, ry, fy, my, nw) v1 v2 :=
    fun hp => yl_leaf (fun _ => br_f (by decide) hp) (fun q => absurd hok q)
  by_cases e8 : (tm_ps (fun i => kd (9 * 24 + i)) L).length = 8
  · have q : yd = 8 := by rw [hx, e8]; rfl
    exact br_t (by rw [q]; decide) (yok (br_t q ⟨rfl, J⟩))
  have nd8 : ¬ yd = 8 := by
    rw [hx]; intro q; exact e8 ((nI_eq (b := 8) (by omega) (by omega)).mp q)
  refine br_f (by rw [hx]; exact nI_ge (b := 8) (by omega) (by omega)) ?_
  by_cases e : L = 24
  · subst e
    exact br_f (by rw [c']; decide) (yok (br_f nd8 (br_t c' ⟨rfl, J⟩)))
  have n24 : ¬ ln 9 = 24 := by
    rw [c']; intro q; exact e ((nI_eq (b := 24) (by omega) (by omega)).mp q)
  refine br_t (by rw [c']; exact nI_lt (b := 24) (by omega) (by omega)) ?_
  have k012 : v1 = 0 ∨ v1 = 1 ∨ v1 = 2 := by
    rcases hok with q | q | q
    · exact Or.inl q.1
    · exact Or.inr (Or.inl q.1)
    · exact Or.inr (Or.inr q.1)
  have ar0 : tm_ar v1 = 0 := by rcases k012 with q | q | q <;> (rw [q]; rfl)
  refine jo_add (k := k) (L := L) (t := 0) hb ht hs ho hT (by omega) c' rfl hx ar0 (Nat.zero_le _) h8 (by omega) ?_ ?_ (fun z => ?_) (fun z => ?_) ?_ (fun post hp => yok (br_f nd8 (br_f n24 hp)))
  · rcases k012 with q | q | q <;> (rw [q]; decide)
  · rcases k012 with q | q | q <;> (rw [q]; decide)
  · rcases hok with q | q | q
    · exact absurd (q.1.symm.trans z) (by decide)
    · obtain ⟨j, hj, e⟩ := nI_of2 (M := 3) (n := 3) (by decide) q.2.1 ((ab_43 v2).mpr q.2.2)
      exact ⟨j, by omega, e⟩
    · exact absurd (q.1.symm.trans z) (by decide)
  · rcases hok with q | q | q
    · exact absurd (q.1.symm.trans z) (by decide)
    · exact absurd (q.1.symm.trans z) (by decide)
    · obtain ⟨j, hj, e⟩ := nI_of2 (M := 2) (n := 2) (by decide) q.2.1 (Int32.not_lt.mp (fun w => q.2.2 ((ab_23 v2).mp w)))
      exact ⟨j, by omega, e⟩
  · rcases k012 with q | q | q <;> (rw [q]; rfl)
theorem i_vc_one {k : Nat} {u : SX} {v : SY} (I : i_Rel k u v) (hk : k + 5 ≤ 2560) (v1 : Int32) : wpX_one (fun r u' => wpY_one (fun r' v' => r' = r ∧ i_Rel (k + 5) u' v') v v1) u v1 := by
  obtain ⟨xs, xu, xc, th, cx, sx, kd, nm, ct, op, pa, mx, rx⟩ := u
  obtain ⟨yd, yu, yc, yf, cy, cn, sy, os, ny, sz, ln, py, ry, fy, my, nw⟩ := v
  have J := I
  obtain ⟨rfl, rfl, rfl, rfl, rfl, rfl, hb, ht, hs, ho, hT⟩ := I
  by_cases h0 : v1 < 0
  · exact br_t h0 (br_t h0 ⟨rfl, J⟩)
  by_cases h1 : v1 ≤ 1
  · refine br_f h0 (br_t h1 ?_)
    have c : v1 = 0 ∨ v1 = 1 := by
      obtain ⟨j, hj, rfl⟩ := nI_of2 (M := 1) (n := 1) (by decide) h0 h1
      rcases (by omega : j = 0 ∨ j = 1) with rfl | rfl
      · exact Or.inl rfl
      · exact Or.inr rfl
    refine jo_mk (P := fun post => wpY_one post (yd, yu, yc, yf, cy, cn, sy, os, ny, sz, ln, py, ry, fy, my, nw) v1) (k := k) (t := 1) (kind := 3 + v1) (opc := 10 + v1) hb ht hs ho hT ?_ (by omega) ?_ ?_ ?_ ?_ ?_ (by omega) (fun post hp => br_f h0 (br_t h1 hp))
    · rcases c with q | q <;> (rw [q]; rfl)
    · rcases c with q | q <;> (rw [q]; decide)
    · rcases c with q | q <;> (rw [q]; decide)
    · rcases c with q | q <;> (rw [q]; decide)
    · rcases c with q | q <;> (rw [q]; decide)
    · rcases c with q | q <;> (rw [q]; rfl)
  · exact br_f h0 (br_f h1 (br_f h0 (br_f h1 ⟨rfl, J⟩)))
theorem i_vc_two {k : Nat} {u : SX} {v : SY} (I : i_Rel k u v) (hk : k + 5 ≤ 2560) (v1 : Int32) : wpX_two (fun r u' => wpY_two (fun r' v' => r' = r ∧ i_Rel (k + 5) u' v') v v1) u v1 := by
  obtain ⟨xs, xu, xc, th, cx, sx, kd, nm, ct, op, pa, mx, rx⟩ := u
  obtain ⟨yd, yu, yc, yf, cy, cn, sy, os, ny, sz, ln, py, ry, fy, my, nw⟩ := v
  have J := I
  obtain ⟨rfl, rfl, rfl, rfl, rfl, rfl, hb, ht, hs, ho, hT⟩ := I
  by_cases h0 : v1 < 0
  · exact br_t h0 (br_t h0 ⟨rfl, J⟩)
  by_cases h1 : v1 ≤ 9
  · refine br_f h0 (br_t h1 ?_)
    obtain ⟨j, hj, rfl⟩ := nI_of2 (M := 9) (n := 9) (by decide) h0 h1
    have a1 : ∀ j, j < 10 → tm_ar (5 + nI j) = 2 := by decide +kernel
    have a2 : ∀ j, j < 10 → 0 ≤ 5 + nI j := by decide +kernel
    have a3 : ∀ j, j < 10 → 5 + nI j ≤ 15 := by decide +kernel
    have a4 : ∀ j, j < 10 → ¬ 5 + nI j = 1 := by decide +kernel
    have a5 : ∀ j, j < 10 → ¬ 5 + nI j = 2 := by decide +kernel
    have a6 : ∀ j, j < 10 → 20 + nI j = tm_yk (5 + nI j) := by decide +kernel
    exact jo_mk (P := fun post => wpY_two post (yd, yu, yc, yf, cy, cn, sy, os, ny, sz, ln, py, ry, fy, my, nw) (nI j)) (k := k) (t := 2) (kind := 5 + nI j) (opc := 20 + nI j) hb ht hs ho hT (a1 j (by omega)) (by omega) (a2 j (by omega)) (a3 j (by omega)) (a4 j (by omega)) (a5 j (by omega)) (a6 j (by omega)) (by omega) (fun post hp => br_f h0 (br_t h1 hp))
  · exact br_f h0 (br_f h1 (br_f h0 (br_f h1 ⟨rfl, J⟩)))
theorem i_vc_choose {k : Nat} {u : SX} {v : SY} (I : i_Rel k u v) (hk : k + 5 ≤ 2560) : wpX_choose (fun r u' => wpY_choose (fun r' v' => r' = r ∧ i_Rel (k + 5) u' v') v) u := by
  obtain ⟨xs, xu, xc, th, cx, sx, kd, nm, ct, op, pa, mx, rx⟩ := u
  obtain ⟨yd, yu, yc, yf, cy, cn, sy, os, ny, sz, ln, py, ry, fy, my, nw⟩ := v
  have J := I
  obtain ⟨rfl, rfl, rfl, rfl, rfl, rfl, hb, ht, hs, ho, hT⟩ := I
  unfold wpX_choose
  dsimp only
  refine jo_mk (P := fun post => wpY_choose post (yd, yu, yc, yf, cy, cn, sy, os, ny, sz, ln, py, ry, fy, my, nw)) (yf := yf) (ry := ry) (fy := fy) (my := my) (nw := nw) (k := k) (t := 3) (kind := 15) (opc := 30) hb ht hs ho hT rfl (by omega) (by decide) (by decide) (by decide) (by decide) rfl (by omega) (fun post hp => ?_)
  unfold wpY_choose
  exact hp
theorem i_vc_scrap {k : Nat} {u : SX} {v : SY} (I : i_Rel k u v) (hk : k + 5 ≤ 2560) : wpX_scrap (fun u' => wpY_scrap (fun v' => i_Rel (k + 5) u' v') v) u := by
  obtain ⟨xs, xu, xc, th, cx, sx, kd, nm, ct, op, pa, mx, rx⟩ := u
  obtain ⟨yd, yu, yc, yf, cy, cn, sy, os, ny, sz, ln, py, ry, fy, my, nw⟩ := v
  have J := I
  obtain ⟨rfl, rfl, rfl, rfl, rfl, rfl, hb, ht, hs, ho, hT⟩ := I
  refine nm_e (nm_e ⟨rfl, rfl, rfl, rfl, rfl, rfl, hb, ht, hs, ho, ?_⟩)
  refine ⟨fun e he => te_mv (hT.1 e he) (fun _ _ => rfl) (fun _ _ => rfl) (fun _ _ => rfl) (pk_un (by omega)), fun q => te_mv (hT.2.1 q) (fun _ _ => rfl) (fun _ _ => rfl) (fun _ _ => rfl) (pk_un (by omega)), 0, pk_us, ⟨by omega, fun i hi => absurd hi (by omega)⟩, rfl⟩
end
