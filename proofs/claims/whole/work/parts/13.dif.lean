/-! save, differences -/
section
variable {xs xu xc : Int32} {th cx sx kd nm ct : Nat → Int32} {op : Nat → Int64} {pa mx rx : Nat → Int32} {yd yu yc yf : Int32} {cy cn sy os ny sz ln py ry fy my nw : Nat → Int32}
theorem xd_same_l {post : Int32 → Prop} {a b : Nat} (ha : a < 606) (hb : b < 606) (h1 : (∀ c, c < 4 → cx (a * 4 + c) = cx (b * 4 + c)) → post 1) (h0 : ¬ (∀ c, c < 4 → cx (a * 4 + c) = cx (b * 4 + c)) → post 0) :
    ∀ d i n, i + d = 4 → d < n → (∀ c, c < i → cx (a * 4 + c) = cx (b * 4 + c)) → wX_isSameSlot_41 post (nI a) (nI b) xs xu xc th cx sx kd nm ct op pa mx rx n (nI i) := by
  intro d
  induction d with
  | zero =>
    intro i n hi hn hI
    obtain ⟨n, rfl⟩ : ∃ m, n = m + 1 := ⟨n - 1, by omega⟩
    obtain rfl : i = 4 := by omega
    exact br_t (by decide) (h1 hI)
  | succ d ih =>
    intro i n hi hn hI
    obtain ⟨n, rfl⟩ : ∃ m, n = m + 1 := ⟨n - 1, by omega⟩
    refine br_f (nI_ge (b := 4) (by omega) (by omega)) ⟨pk_in (a * 4 + i) 2424 (by omega) (ab_m4 a i), pk_in (b * 4 + i) 2424 (by omega) (ab_m4 b i), ?_⟩
    rw [ab_m4, ab_m4, nI_clamp (by omega), nI_clamp (by omega)]
    refine br_c (fun z => nm_r (nI_1 i) (ih (i + 1) n (by omega) (by omega) (fun c hc => ?_))) (fun z => h0 (fun q => z (q i (by omega))))
    by_cases e : c = i
    · subst e; exact z
    · exact hI c (by omega)
/-- two slots alike -/
def di_S (th cx : Nat → Int32) (a b : Nat) : Prop := (th a = 0 ∧ th b = 0) ∨ (¬ th a = 0 ∧ ¬ th b = 0 ∧ ∀ c, c < 4 → cx (a * 4 + c) = cx (b * 4 + c))
theorem xd_same {post : Int32 → Prop} {a b : Nat} (ha : a < 606) (hb : b < 606) (h1 : di_S th cx a b → post 1) (h0 : ¬ di_S th cx a b → post 0) : wpX_isSameSlot post (xs, xu, xc, th, cx, sx, kd, nm, ct, op, pa, mx, rx) (nI a) (nI b) := by
  have ca : (nI a).toNatClampNeg = a := nI_clamp (by omega)
  have cb : (nI b).toNatClampNeg = b := nI_clamp (by omega)
  have va : vp_in (nI a) 606 := vp_in_nI (by omega) (by omega)
  have vb : vp_in (nI b) 606 := vp_in_nI (by omega) (by omega)
  have go : th a = 0 ∨ th b = 0 → wX_isSameSlot_18 post (nI a) (nI b) xs xu xc th cx sx kd nm ct op pa mx rx := by
    intro hz
    refine ⟨va, vb, ?_⟩
    rw [ca, cb]
    refine br_c (fun e => h1 (Or.inl ?_)) (fun e => h0 (fun q => ?_))
    · rcases hz with z | z
      · exact ⟨z, by rw [← e]; exact z⟩
      · exact ⟨by rw [e]; exact z, z⟩
    · rcases q with q | q
      · exact e (by rw [q.1, q.2])
      · rcases hz with z | z
        · exact q.1 z
        · exact q.2.1 z
  refine ⟨va, ?_⟩
  rw [ca, cb]
  refine br_c (fun z => go (Or.inl z)) (fun z => ⟨vb, br_c (fun y => go (Or.inr y)) (fun y => ⟨5, xd_same_l ha hb (fun q => h1 (Or.inr ⟨z, y, q⟩)) (fun q => h0 (fun w => ?_)) 4 0 5 (by omega) (by omega) (fun c hc => absurd hc (by omega))⟩)⟩)
  rcases w with w | w
  · exact z w.1
  · exact q w.2.2
noncomputable def di_D (th cx : Nat → Int32) (p : Nat) : Nat → Int32 := fun s => @ite Int32 (di_S th cx (4 * 101 + s) (p * 101 + s)) (Classical.propDecidable _) 0 1
theorem di_0 {p s : Nat} (h : di_S th cx (4 * 101 + s) (p * 101 + s)) : di_D th cx p s = 0 := if_pos h
theorem di_1 {p s : Nat} (h : ¬ di_S th cx (4 * 101 + s) (p * 101 + s)) : ¬ di_D th cx p s = 0 := by
  have : di_D th cx p s = 1 := if_neg h
  rw [this]; decide
theorem xd_l {post : Int32 → Prop} {p : Nat} (hp : p < 4) (h : post (nI (ra_k (di_D th cx p) 101))) :
    ∀ d i n, i + d = 101 → d < n → wX_differences_26 post (nI p) xs xu xc th cx sx kd nm ct op pa mx rx n (nI (ra_k (di_D th cx p) i)) (nI i) := by
  intro d
  induction d with
  | zero =>
    intro i n hi hn
    obtain ⟨n, rfl⟩ : ∃ m, n = m + 1 := ⟨n - 1, by omega⟩
    obtain rfl : i = 101 := by omega
    exact br_t (by decide) h
  | succ d ih =>
    intro i n hi hn
    obtain ⟨n, rfl⟩ : ∃ m, n = m + 1 := ⟨n - 1, by omega⟩
    have := ih (i + 1) n (by omega) (by omega)
    refine br_f (nI_ge (b := 101) (by omega) (by omega)) ?_
    rw [show 404 + nI i = nI (4 * 101 + i) from nI_add 404 i, ab_m101]
    refine xd_same (by omega) (by omega) (fun q => br_f (by decide) (nm_r (nI_1 i) ?_)) (fun q => br_t rfl (nm_r (nI_1 _) (nm_r (nI_1 i) ?_)))
    · rw [ra_s0 (di_0 q)] at this; exact this
    · rw [ra_s1 (di_1 q)] at this; exact this
theorem yd_same {post : Int32 → Prop} {t r t' r' : Nat} (ht : t < 6) (hr : r < 40) (ht' : t' < 6) (hr' : r' < 40) (h1 : (∀ c, 1 ≤ c → c < 4 → vy_r cy t r c = vy_r cy t' r' c) → post 1) (h0 : ¬ (∀ c, 1 ≤ c → c < 4 → vy_r cy t r c = vy_r cy t' r' c) → post 0) :
    wpY_isSame post (yd, yu, yc, yf, cy, cn, sy, os, ny, sz, ln, py, ry, fy, my, nw) (nI t) (nI r) (nI t') (nI r') := by
  unfold wpY_isSame
  dsimp only
  refine yc_cell (c := 1) ht hr (by omega) (yc_cell (c := 1) ht' hr' (by omega) (br_c (fun e1 => ?_) (fun e1 => h0 (fun q => e1 (q 1 (by omega) (by omega))))))
  refine yc_cell (c := 2) ht hr (by omega) (yc_cell (c := 2) ht' hr' (by omega) (br_c (fun e2 => ?_) (fun e2 => h0 (fun q => e2 (q 2 (by omega) (by omega))))))
  refine yc_cell (c := 3) ht hr (by omega) (yc_cell (c := 3) ht' hr' (by omega) (br_c (fun e3 => h1 (fun c c1 c4 => ?_)) (fun e3 => h0 (fun q => e3 (q 3 (by omega) (by omega))))))
  rcases (by omega : c = 1 ∨ c = 2 ∨ c = 3) with rfl | rfl | rfl
  · exact e1
  · exact e2
  · exact e3
theorem ab_k5 (s : Nat) : nI s - 50 + 1 = nI (s + 1) - 50 := by
  rw [← nI_1, Int32.sub_eq_add_neg, Int32.sub_eq_add_neg, Int32.add_assoc, Int32.add_assoc, Int32.add_comm (-50) 1]
theorem yd_101 {post : Int32 → Prop} {J : Int32 → Int32 → Prop} {x1 x2 x6 z0 : Int32} {s : Nat} (h0 : ¬ x6 = 0 ∨ ¬ z0 = 0 → J x2 (nI (s + 1) - 50)) (h1 : x6 = 0 → z0 = 0 → J (x2 + 1) (nI (s + 1) - 50)) :
    wY_differences_101 post J x1 x2 (nI s - 50) x6 z0 yd yu yc yf cy cn sy os ny sz ln py ry fy my nw :=
  br_c (fun a => br_c (fun b => nm_e (nm_r (ab_k5 s) (h1 a b))) (fun b => nm_r (ab_k5 s) (h0 (Or.inr b)))) (fun a => nm_r (ab_k5 s) (h0 (Or.inl a)))
theorem ab_neg {r : Nat} (h : r < 101) : ¬ nI r < 0 := nI_pos (by omega)
theorem yd_l {post : Int32 → Prop} {p : Nat} (hp : p < 4) (hR : rt_R th cx 4 cn cy 0) (hR' : rt_R th cx p cn cy (p + 1)) (h : post (nI (ra_k (di_D th cx p) 101))) :
    ∀ d i n, i + d = 101 → d < n → wY_differences_30 post (nI p) yd yu yc yf cy cn sy os ny sz ln py ry fy my nw n (nI (ra_k (di_D th cx p) i)) (nI i - 50) := by
  intro d
  induction d with
  | zero =>
    intro i n hi hn
    obtain ⟨n, rfl⟩ : ∃ m, n = m + 1 := ⟨n - 1, by omega⟩
    obtain rfl : i = 101 := by omega
    exact br_t (by decide) h
  | succ d ih =>
    intro i n hi hn
    obtain ⟨n, rfl⟩ : ∃ m, n = m + 1 := ⟨n - 1, by omega⟩
    have hi' : i < 101 := by omega
    have nxt := ih (i + 1) n (by omega) (by omega)
    have yes : di_S th cx (4 * 101 + i) (p * 101 + i) → wY_differences_30 post (nI p) yd yu yc yf cy cn sy os ny sz ln py ry fy my nw n (nI (ra_k (di_D th cx p) i)) (nI (i + 1) - 50) := fun q => by rw [ra_s0 (di_0 q)] at nxt; exact nxt
    have no : ¬ di_S th cx (4 * 101 + i) (p * 101 + i) → wY_differences_30 post (nI p) yd yu yc yf cy cn sy os ny sz ln py ry fy my nw n (nI (ra_k (di_D th cx p) i) + 1) (nI (i + 1) - 50) := fun q => by rw [nI_1]; rw [ra_s1 (di_1 q)] at nxt; exact nxt
    have e1 : nI p + 1 = nI (p + 1) := nI_1 p
    refine br_f (ab_k2 hi') ?_
    rw [e1]
    refine yf_find (t := 0) (by omega) hR (fun s hs hz e => ?_) (fun hno => ?_)
    · have e2 := ab_keyI hi' hs e
      subst e2
      have r0 : 0 ≤ nI (ra_k (vx_t th 4) i) := nI_pos' (by have := ra_le (vx_t th 4) i; omega)
      have r0' : ¬ nI (ra_k (vx_t th 4) i) < 0 := Int32.not_lt.mpr r0
      have l0 : ra_k (vx_t th 4) i < 40 := Nat.lt_of_lt_of_le (ra_lt hs hz) hR.2.1
      refine yf_find (t := p + 1) (by omega) hR' (fun s2 hs2 hz2 e => ?_) (fun hno => ?_)
      · have e2 := ab_keyI hi' hs2 e
        subst e2
        have l1 : ra_k (vx_t th p) i < 40 := Nat.lt_of_lt_of_le (ra_lt hs2 hz2) hR'.2.1
        have r1' : ¬ nI (ra_k (vx_t th p) i) < 0 := nI_pos (by omega)
        refine br_t r0 (br_f r0' (br_f r1' ?_))
        rw [e1]
        have a := hR.2.2 i hs hz
        have b := hR'.2.2 i hs2 hz2
        refine yd_same (t := 0) (t' := p + 1) (by omega) l0 (by omega) l1 (fun q => br_f (by decide) (yd_101 (fun _ => yes (Or.inr ⟨hz, hz2, fun c hc => ?_⟩)) (fun _ z => absurd z (by decide)))) (fun q => br_t rfl (yd_101 (fun z => absurd z (by decide)) (fun _ _ => no (fun w => q (fun c c1 c4 => ?_)))))
        · by_cases c0 : c = 0
          · subst c0; exact a.1.trans b.1.symm
          · have := q c (by omega) hc
            rw [a.2 c hc, b.2 c hc] at this
            exact this
        · rcases w with w | w
          · exact absurd w.1 hz
          · rw [a.2 c c4, b.2 c c4]; exact w.2.2 c c4
      · refine br_t r0 (br_f r0' (br_t (by decide) (yd_101 (fun z => absurd z (by decide)) (fun _ _ => no (fun w => ?_)))))
        rcases w with w | w
        · exact hz w.1
        · exact hno i hi' w.2.1 rfl
    · have hz : vx_t th 4 i = 0 := Classical.byContradiction (fun z => hno i hi' z rfl)
      refine yf_find (t := p + 1) (by omega) hR' (fun s2 hs2 hz2 e => ?_) (fun hno2 => ?_)
      · have e2 := ab_keyI hi' hs2 e
        subst e2
        have r1 : 0 ≤ nI (ra_k (vx_t th p) i) := nI_pos' (by have := ra_le (vx_t th p) i; omega)
        refine br_f (by decide) (br_t r1 (br_t (by decide) (yd_101 (fun z => absurd z (by decide)) (fun _ _ => no (fun w => ?_)))))
        rcases w with w | w
        · exact hz2 w.2
        · exact w.1 hz
      · have hz2 : vx_t th p i = 0 := Classical.byContradiction (fun z => hno2 i hi' z rfl)
        exact br_f (by decide) (br_f (by decide) (br_t (by decide) (yd_101 (fun _ => yes (Or.inl ⟨hz, hz2⟩)) (fun z => absurd z (by decide)))))
end
section
theorem i_vc_differences {k : Nat} {u : SX} {v : SY} (I : i_Rel k u v) (hk : k + 5 ≤ 2560) (v1 : Int32) : wpX_differences (fun r => wpY_differences (fun r' => r' = r ∧ i_Rel (k + 5) u v) v v1) u v1 := by
  obtain ⟨xs, xu, xc, th, cx, sx, kd, nm, ct, op, pa, mx, rx⟩ := u
  obtain ⟨yd, yu, yc, yf, cy, cn, sy, os, ny, sz, ln, py, ry, fy, my, nw⟩ := v
  have J := I
  obtain ⟨rfl, rfl, rfl, rfl, rfl, rfl, hb, ht, hs, ho, hT⟩ := I
  unfold wpX_differences wpY_differences
  dsimp only
  rcases pk_ix v1 (n := 4) (by omega) with hx | hx | ⟨p, hp, rfl⟩
  · exact xa_plN (Or.inl hx) (br_t rfl (ya_plN (Or.inl hx) (br_t rfl ⟨rfl, J⟩)))
  · exact xa_plN (Or.inr hx) (br_t rfl (ya_plN (Or.inr hx) (br_t rfl ⟨rfl, J⟩)))
  · have cp : (nI p).toNatClampNeg = p := nI_clamp (by omega)
    have e1 : nI p + 1 = nI (p + 1) := nI_1 p
    have cp1 : (nI (p + 1)).toNatClampNeg = p + 1 := nI_clamp (by omega)
    have es := hs p hp
    rw [cp, e1, cp1, es]
    refine xa_pl hp (br_f (by decide) ⟨vp_in_nI (by omega) (by omega), br_c (fun z => ?_) (fun z => ⟨102, xd_l hp ?_ 101 0 102 (by omega) (by omega)⟩)⟩)
    · exact ya_pl hp (br_f (by decide) ⟨vp_in_nI (by omega) (by omega), br_t z ⟨rfl, J⟩⟩)
    · exact ya_pl hp (br_f (by decide) ⟨vp_in_nI (by omega) (by omega), br_f z ⟨102, yd_l hp ht.1 (ht.2 p hp) ⟨rfl, J⟩ 101 0 102 (by omega) (by omega)⟩⟩)
theorem i_vc_save {k : Nat} {u : SX} {v : SY} (I : i_Rel k u v) (hk : k + 5 ≤ 2560) (v1 : Int32) : wpX_save (fun r u' => wpY_save (fun r' v' => r' = r ∧ i_Rel (k + 5) u' v') v v1) u v1 := by
  obtain ⟨xs, xu, xc, th, cx, sx, kd, nm, ct, op, pa, mx, rx⟩ := u
  obtain ⟨yd, yu, yc, yf, cy, cn, sy, os, ny, sz, ln, py, ry, fy, my, nw⟩ := v
  have J := I
  obtain ⟨rfl, rfl, rfl, rfl, rfl, rfl, hb, ht, hs, ho, hT⟩ := I
  unfold wpX_save wpY_save
  dsimp only
  rcases pk_ix v1 (n := 4) (by omega) with hx | hx | ⟨p, hp, rfl⟩
  · exact xa_plN (Or.inl hx) (br_t rfl (ya_plN (Or.inl hx) (br_t rfl ⟨rfl, J⟩)))
  · exact xa_plN (Or.inr hx) (br_t rfl (ya_plN (Or.inr hx) (br_t rfl ⟨rfl, J⟩)))
  · have cp : (nI p).toNatClampNeg = p := nI_clamp (by omega)
    have e1 : nI p + 1 = nI (p + 1) := nI_1 p
    have cp1 : (nI (p + 1)).toNatClampNeg = p + 1 := nI_clamp (by omega)
    rw [cp, e1, cp1]
    refine xa_pl hp (br_f (by decide) (xc_tab (p := 4) (by omega) (by omega) (by omega) hb (fun th' cx' hc => ⟨vp_in_nI (by omega) (by omega), nm_e (xc_rows (p := 4) (by omega) ?_)⟩)))
    refine ya_pl hp (br_f (by decide) (yc_list (t := 0) (by omega) (by omega) (by omega) (fun cy' cn' hl => ⟨vp_in_nI (by omega) (by omega), nm_e ⟨?_, rfl, rfl, rfl, rfl, rfl, rfl, cp_bo hc hb, ?_, ?_, ho, hT⟩⟩)))
    · have e4 : ra_k (vx_t th' 4) 101 = ra_k (vx_t th 4) 101 := ra_cg (fun j hj => by show th' _ = 0 ↔ th _ = 0; rw [hc.2.1 _ (by omega)])
      show cn' 0 = _
      rw [hl.2.2, pk_un (by omega), e4]; exact ht.1.1
    · show tb_A th' cx' cn' cy'
      refine ⟨rt_cg ht.1 (fun s hs => hc.2.1 _ (by omega)) (fun s hs c hc' => hc.2.2.2 _ (by omega)) (by rw [hl.2.2, pk_un (by omega)]) (fun i hi => hl.2.1 _ (by omega)), fun q hq => ?_⟩
      by_cases e : q = p
      · subst e
        exact rt_cg ht.1 (fun s hs => hc.1 s hs) (fun s hs c hc' => hc.2.2.1 s hs c hc') (by rw [hl.2.2, pk_us]) (fun i hi => hl.1 i hi)
      · exact rt_cg (ht.2 q hq) (fun s hs => hc.2.1 _ (by omega)) (fun s hs c hc' => hc.2.2.2 _ (by omega)) (by rw [hl.2.2, pk_un (by omega)]) (fun i hi => hl.2.1 _ (by omega))
    · intro s hs'
      by_cases e : s = p
      · subst e; rw [pk_us, pk_us]
      · rw [pk_un (by omega), pk_un (by omega)]; exact hs s hs'
end
