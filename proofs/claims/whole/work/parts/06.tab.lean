/-! tables: what copying does to them -/
section
variable {xs xu xc : Int32} {th cx sx kd nm ct : Nat → Int32} {op : Nat → Int64} {pa mx rx : Nat → Int32} {yd yu yc yf : Int32} {cy cn sy os ny sz ln py ry fy my nw : Nat → Int32}
theorem rt_cg {th' cx' cn' cy' : Nat → Int32} {p p' t t' : Nat} (h : rt_R th cx p cn cy t) (h1 : ∀ s, s < 101 → th' (p' * 101 + s) = th (p * 101 + s))
    (h2 : ∀ s, s < 101 → ∀ c, c < 4 → cx' ((p' * 101 + s) * 4 + c) = cx ((p * 101 + s) * 4 + c)) (h3 : cn' t' = cn t) (h4 : ∀ i, i < 160 → cy' (160 * t' + i) = cy (160 * t + i)) : rt_R th' cx' p' cn' cy' t' := by
  obtain ⟨a, b⟩ := h
  have := ta_cg (xt' := vx_t th' p') (xr' := vx_r cx' p') (yr' := vy_r cy' t') b (fun s hs => by show th _ = 0 ↔ th' _ = 0; rw [h1 s hs]) (fun s hs _ c hc => h2 s hs c hc) (fun r hr c hc => by
    show cy' (160 * t' + 4 * r + c) = cy (160 * t + 4 * r + c)
    rw [Nat.add_assoc, Nat.add_assoc]
    exact h4 (4 * r + c) (by omega))
  exact ⟨by rw [h3, a, this.1], this.2⟩
def bo_A (th : Nat → Int32) : Prop := ∀ j, th j = 0 ∨ th j = 1
theorem bo_u {k : Nat} {x : Int32} (h : bo_A th) (hx : x = 0 ∨ x = 1) : bo_A (upd th k x) := by
  intro j
  by_cases e : j = k
  · subst e; rw [pk_us]; exact hx
  · rw [pk_un e]; exact h j
/-- the current table and the four places -/
def tb_A (th cx cn cy : Nat → Int32) : Prop := rt_R th cx 4 cn cy 0 ∧ ∀ p, p < 4 → rt_R th cx p cn cy (p + 1)
theorem tb_keep {th' cx' cn' cy' : Nat → Int32} (h : tb_A th cx cn cy) (h1 : ∀ j, j < 505 → th' j = th j) (h2 : ∀ j, j < 2020 → cx' j = cx j) (h3 : ∀ t, t < 5 → cn' t = cn t) (h4 : ∀ j, j < 800 → cy' j = cy j) : tb_A th' cx' cn' cy' :=
  ⟨rt_cg h.1 (fun s hs => h1 _ (by omega)) (fun s hs c hc => h2 _ (by omega)) (h3 0 (by omega)) (fun i hi => h4 _ (by omega)),
   fun p hp => rt_cg (h.2 p hp) (fun s hs => h1 _ (by omega)) (fun s hs c hc => h2 _ (by omega)) (h3 _ (by omega)) (fun i hi => h4 _ (by omega))⟩
def cp_T (th cx th' cx' : Nat → Int32) (p q : Nat) : Prop :=
  (∀ s, s < 101 → th' (q * 101 + s) = th (p * 101 + s)) ∧ (∀ j, j < q * 101 ∨ q * 101 + 101 ≤ j → th' j = th j) ∧
  (∀ s, s < 101 → ∀ c, c < 4 → cx' ((q * 101 + s) * 4 + c) = cx ((p * 101 + s) * 4 + c)) ∧ (∀ j, j < q * 404 ∨ q * 404 + 404 ≤ j → cx' j = cx j)
theorem cp_bo {th' cx' : Nat → Int32} {p q : Nat} (h : cp_T th cx th' cx' p q) (hb : bo_A th) : bo_A th' := by
  intro j
  by_cases e : j < q * 101 ∨ q * 101 + 101 ≤ j
  · rw [h.2.1 j e]; exact hb j
  · have : j = q * 101 + (j - q * 101) := by omega
    rw [this, h.1 (j - q * 101) (by omega)]; exact hb _
theorem xc_rows_l {post : Int32 → Prop} {p : Nat} (hp : p < 6) (h : post (nI (ra_k (vx_t th p) 101))) :
    ∀ d i n, i + d = 101 → d < n → wX_countRows_7 post (nI p) xs xu xc th cx sx kd nm ct op pa mx rx n (nI (ra_k (vx_t th p) i)) (nI (p * 101 + i)) := by
  have eb : nI p * 101 + 101 = nI (p * 101 + 101) := ab_m101 p 101
  intro d
  induction d with
  | zero =>
    intro i n hi hn
    obtain ⟨n, rfl⟩ : ∃ m, n = m + 1 := ⟨n - 1, by omega⟩
    obtain rfl : i = 101 := by omega
    exact br_t (by rw [eb]; exact Int32.le_refl _) h
  | succ d ih =>
    intro i n hi hn
    obtain ⟨n, rfl⟩ : ∃ m, n = m + 1 := ⟨n - 1, by omega⟩
    have ci : (nI (p * 101 + i)).toNatClampNeg = p * 101 + i := nI_clamp (by omega)
    refine br_f (by rw [eb]; exact nI_ge (by omega) (by omega)) ⟨vp_in_nI (by omega) (by omega), ?_⟩
    rw [ci]
    refine br_c (fun z => nm_r (nI_1 _) ?_) (fun z => nm_r (nI_1 _) (nm_r (nI_1 _) ?_))
    · have := ih (i + 1) n (by omega) (by omega)
      rw [ra_s0 (t := vx_t th p) z] at this
      exact this
    · have := ih (i + 1) n (by omega) (by omega)
      rw [ra_s1 (t := vx_t th p) z] at this
      exact this
theorem xc_rows {post : Int32 → Prop} {p : Nat} (hp : p < 6) (h : post (nI (ra_k (vx_t th p) 101))) : wpX_countRows post (xs, xu, xc, th, cx, sx, kd, nm, ct, op, pa, mx, rx) (nI p) :=
  nm_r (pk_mul p 101) ⟨102, xc_rows_l hp h 101 0 102 (by omega) (by omega)⟩
theorem xc_slot_l {post : SX → Prop} {a b : Nat} (ha : a < 606) (hb : b < 606)
    (h : ∀ cx', (∀ c, c < 4 → cx' (b * 4 + c) = cx (a * 4 + c)) → (∀ j, j < b * 4 ∨ b * 4 + 4 ≤ j → cx' j = cx j) → post (xs, xu, xc, th, cx', sx, kd, nm, ct, op, pa, mx, rx)) :
    ∀ d i n cx1, i + d = 4 → d < n → (∀ c, c < i → cx1 (b * 4 + c) = cx (a * 4 + c)) → (∀ j, j < b * 4 ∨ b * 4 + i ≤ j → cx1 j = cx j) → wX_copySlot_14 post (nI a) (nI b) xs xu xc n (nI i) th cx1 sx kd nm ct op pa mx rx := by
  intro d
  induction d with
  | zero =>
    intro i n cx1 hi hn h1 h2
    obtain ⟨n, rfl⟩ : ∃ m, n = m + 1 := ⟨n - 1, by omega⟩
    obtain rfl : i = 4 := by omega
    exact br_t (by decide) (h cx1 h1 h2)
  | succ d ih =>
    intro i n cx1 hi hn h1 h2
    obtain ⟨n, rfl⟩ : ∃ m, n = m + 1 := ⟨n - 1, by omega⟩
    refine br_f (nI_ge (b := 4) (by omega) (by omega)) ⟨pk_in (a * 4 + i) 2424 (by omega) (ab_m4 a i), pk_in (b * 4 + i) 2424 (by omega) (ab_m4 b i), nm_r (e' := upd cx1 (b * 4 + i) (cx (a * 4 + i))) ?_ (nm_r (nI_1 i) ?_)⟩
    · rw [ab_m4, ab_m4, nI_clamp (by omega), nI_clamp (by omega), h2 (a * 4 + i) (by omega)]
    · refine ih (i + 1) n _ (by omega) (by omega) (fun c hc => ?_) (fun j hj => ?_)
      · by_cases e : c = i
        · subst e; rw [pk_us]
        · rw [pk_un (by omega)]; exact h1 c (by omega)
      · rw [pk_un (by omega)]; exact h2 j (by omega)
theorem xc_slot {post : SX → Prop} {a b : Nat} (ha : a < 606) (hb : b < 606) (hbo : th a = 0 ∨ th a = 1)
    (h : ∀ cx', (∀ c, c < 4 → cx' (b * 4 + c) = cx (a * 4 + c)) → (∀ j, j < b * 4 ∨ b * 4 + 4 ≤ j → cx' j = cx j) → post (xs, xu, xc, (upd th b (th a)), cx', sx, kd, nm, ct, op, pa, mx, rx)) : wpX_copySlot post (xs, xu, xc, th, cx, sx, kd, nm, ct, op, pa, mx, rx) (nI a) (nI b) := by
  refine ⟨vp_in_nI (by omega) (by omega), vp_in_nI (by omega) (by omega), nm_r (e' := upd th b (th a)) ?_ ⟨5, ?_⟩⟩
  · rw [nI_clamp (by omega), nI_clamp (by omega), ab_bn _ hbo]
  · exact xc_slot_l ha hb h 4 0 5 cx (by omega) (by omega) (fun c hc => absurd hc (by omega)) (fun j hj => rfl)
theorem xc_tab_l {post : SX → Prop} {p q : Nat} (hp : p < 6) (hq : q < 6) (hpq : p ≠ q) (hb : bo_A th)
    (h : ∀ th' cx', cp_T th cx th' cx' p q → post (xs, xu, xc, th', cx', sx, kd, nm, ct, op, pa, mx, rx)) :
    ∀ d i n th1 cx1, i + d = 101 → d < n → (∀ s, s < i → th1 (q * 101 + s) = th (p * 101 + s)) → (∀ j, j < q * 101 ∨ q * 101 + i ≤ j → th1 j = th j) →
      (∀ s, s < i → ∀ c, c < 4 → cx1 ((q * 101 + s) * 4 + c) = cx ((p * 101 + s) * 4 + c)) → (∀ j, j < q * 404 ∨ q * 404 + i * 4 ≤ j → cx1 j = cx j) →
      wX_copyTable_2 post (nI p) (nI q) n (nI i) xs xu xc th1 cx1 sx kd nm ct op pa mx rx := by
  intro d
  induction d with
  | zero =>
    intro i n th1 cx1 hi hn h1 h2 h3 h4
    obtain ⟨n, rfl⟩ : ∃ m, n = m + 1 := ⟨n - 1, by omega⟩
    obtain rfl : i = 101 := by omega
    exact br_t (by decide) (h th1 cx1 ⟨h1, h2, h3, fun j hj => h4 j (by omega)⟩)
  | succ d ih =>
    intro i n th1 cx1 hi hn h1 h2 h3 h4
    obtain ⟨n, rfl⟩ : ∃ m, n = m + 1 := ⟨n - 1, by omega⟩
    refine br_f (nI_ge (b := 101) (by omega) (by omega)) ?_
    rw [ab_m101, ab_m101]
    have e1 : th1 (p * 101 + i) = th (p * 101 + i) := h2 _ (by omega)
    refine xc_slot (by omega) (by omega) (by rw [e1]; exact hb _) (fun cx' k1 k2 => nm_r (nI_1 i) (ih (i + 1) n _ cx' (by omega) (by omega) (fun s hs => ?_) (fun j hj => ?_) (fun s hs c hc => ?_) (fun j hj => ?_)))
    · by_cases e : s = i
      · subst e; rw [pk_us, e1]
      · rw [pk_un (by omega)]; exact h1 s (by omega)
    · rw [pk_un (by omega)]; exact h2 j (by omega)
    · by_cases e : s = i
      · subst e; rw [k1 c hc]; exact h4 _ (by omega)
      · rw [k2 _ (by omega)]; exact h3 s (by omega) c hc
    · rw [k2 _ (by omega)]; exact h4 j (by omega)
theorem xc_tab {post : SX → Prop} {p q : Nat} (hp : p < 6) (hq : q < 6) (hpq : p ≠ q) (hb : bo_A th)
    (h : ∀ th' cx', cp_T th cx th' cx' p q → post (xs, xu, xc, th', cx', sx, kd, nm, ct, op, pa, mx, rx)) : wpX_copyTable post (xs, xu, xc, th, cx, sx, kd, nm, ct, op, pa, mx, rx) (nI p) (nI q) :=
  ⟨102, xc_tab_l hp hq hpq hb h 101 0 102 th cx (by omega) (by omega) (fun s hs => absurd hs (by omega)) (fun j _ => rfl) (fun s hs => absurd hs (by omega)) (fun j _ => rfl)⟩
def cl_T (cy cn cy' cn' : Nat → Int32) (t u : Nat) : Prop :=
  (∀ i, i < 160 → cy' (160 * u + i) = cy (160 * t + i)) ∧ (∀ j, j < 160 * u ∨ 160 * u + 160 ≤ j → cy' j = cy j) ∧ cn' = upd cn u (cn t)
theorem yc_list_l {post : SY → Prop} {t u : Nat} (ht : t < 6) (hu : u < 6) (htu : t ≠ u)
    (h : ∀ cy' cn', cl_T cy cn cy' cn' t u → post (yd, yu, yc, yf, cy', cn', sy, os, ny, sz, ln, py, ry, fy, my, nw)) :
    ∀ d i n cy1, i + d = 160 → d < n → (∀ c, c < i → cy1 (160 * u + c) = cy (160 * t + c)) → (∀ j, j < 160 * u ∨ 160 * u + i ≤ j → cy1 j = cy j) → wY_copyList_2 post (nI t) (nI u) yd yu yc yf n (nI i) cy1 cn sy os ny sz ln py ry fy my nw := by
  intro d
  induction d with
  | zero =>
    intro i n cy1 hi hn h1 h2
    obtain ⟨n, rfl⟩ : ∃ m, n = m + 1 := ⟨n - 1, by omega⟩
    obtain rfl : i = 160 := by omega
    refine br_t (by decide) ⟨vp_in_nI (by omega) (by omega), vp_in_nI (by omega) (by omega), nm_r (e' := upd cn u (cn t)) ?_ (h cy1 _ ⟨h1, h2, rfl⟩)⟩
    rw [nI_clamp (by omega), nI_clamp (by omega)]
  | succ d ih =>
    intro i n cy1 hi hn h1 h2
    obtain ⟨n, rfl⟩ : ∃ m, n = m + 1 := ⟨n - 1, by omega⟩
    refine br_f (nI_ge (b := 160) (by omega) (by omega)) ⟨pk_in (160 * t + i) 960 (by omega) (ab_l160 t i), pk_in (160 * u + i) 960 (by omega) (ab_l160 u i), nm_r (e' := upd cy1 (160 * u + i) (cy (160 * t + i))) ?_ (nm_r (nI_1 i) ?_)⟩
    · rw [ab_l160, ab_l160, nI_clamp (by omega), nI_clamp (by omega), h2 (160 * t + i) (by omega)]
    · refine ih (i + 1) n _ (by omega) (by omega) (fun c hc => ?_) (fun j hj => ?_)
      · by_cases e : c = i
        · subst e; rw [pk_us]
        · rw [pk_un (by omega)]; exact h1 c (by omega)
      · rw [pk_un (by omega)]; exact h2 j (by omega)
theorem yc_list {post : SY → Prop} {t u : Nat} (ht : t < 6) (hu : u < 6) (htu : t ≠ u)
    (h : ∀ cy' cn', cl_T cy cn cy' cn' t u → post (yd, yu, yc, yf, cy', cn', sy, os, ny, sz, ln, py, ry, fy, my, nw)) : wpY_copyList post (yd, yu, yc, yf, cy, cn, sy, os, ny, sz, ln, py, ry, fy, my, nw) (nI t) (nI u) :=
  ⟨161, yc_list_l ht hu htu h 160 0 161 cy (by omega) (by omega) (fun s hs => absurd hs (by omega)) (fun j _ => rfl)⟩
theorem yc_cell {post : Int32 → Prop} {t r c : Nat} (ht : t < 6) (hr : r < 40) (hc : c < 4) (h : post (cy (160 * t + 4 * r + c))) : wpY_cell post (yd, yu, yc, yf, cy, cn, sy, os, ny, sz, ln, py, ry, fy, my, nw) (nI t) (nI r) (nI c) := by
  refine ⟨pk_in (160 * t + 4 * r + c) 960 (by omega) (ab_cell t r c), ?_⟩
  rw [ab_cell, nI_clamp (by omega)]
  exact h
/-- arguments -/
theorem xa_exp {post : Int32 → Prop} {e : Nat} (he : e < 8) (h : post 1) : wpX_isExpression post (nI e) := br_f (nI_pos (by omega)) (br_f (nI_ge (b := 8) he (by omega)) h)
theorem xa_expN {post : Int32 → Prop} {x : Int32} (hx : x < 0 ∨ nI 8 ≤ x) (h : post 0) : wpX_isExpression post x := by
  by_cases z : x < 0
  · exact br_t z h
  · exact br_f z (br_t (hx.resolve_left z) h)
theorem ya_exp {post : Int32 → Prop} {e : Nat} (he : e < 8) (h : post 1) : wpY_isExpression post (yd, yu, yc, yf, cy, cn, sy, os, ny, sz, ln, py, ry, fy, my, nw) (nI e) := br_f (nI_pos (by omega)) (br_f (nI_nlt (a := 7) (by omega) (by omega)) h)
theorem ya_expN {post : Int32 → Prop} {x : Int32} (hx : x < 0 ∨ nI 8 ≤ x) (h : post 0) : wpY_isExpression post (yd, yu, yc, yf, cy, cn, sy, os, ny, sz, ln, py, ry, fy, my, nw) x := by
  by_cases z : x < 0
  · exact br_t z h
  · refine br_f z (br_t ?_ h)
    have h8 := Int32.le_iff_toInt_le.mp (hx.resolve_left z)
    rw [nI_toInt (by omega)] at h8
    exact Int32.lt_iff_toInt_lt.mpr (by rw [show (7 : Int32).toInt = 7 from by decide]; omega)
theorem xa_col {post : Int32 → Prop} {e : Nat} (he : e < 4) (h : post 1) : wpX_isColumn post (nI e) := br_f (nI_pos (by omega)) (br_f (nI_ge (b := 4) he (by omega)) h)
theorem xa_colN {post : Int32 → Prop} {x : Int32} (hx : x < 0 ∨ nI 4 ≤ x) (h : post 0) : wpX_isColumn post x := by
  by_cases z : x < 0
  · exact br_t z h
  · exact br_f z (br_t (hx.resolve_left z) h)
theorem xa_pl {post : Int32 → Prop} {e : Nat} (he : e < 4) (h : post 1) : wpX_isPlace post (nI e) := br_f (nI_pos (by omega)) (br_f (nI_ge (b := 4) he (by omega)) h)
theorem xa_plN {post : Int32 → Prop} {x : Int32} (hx : x < 0 ∨ nI 4 ≤ x) (h : post 0) : wpX_isPlace post x := by
  by_cases z : x < 0
  · exact br_t z h
  · exact br_f z (br_t (hx.resolve_left z) h)
theorem ya_pl {post : Int32 → Prop} {e : Nat} (he : e < 4) (h : post 1) : wpY_isPlace post (yd, yu, yc, yf, cy, cn, sy, os, ny, sz, ln, py, ry, fy, my, nw) (nI e) := br_f (nI_pos (by omega)) (br_f (nI_nlt (a := 3) (by omega) (by omega)) h)
theorem ya_gt3 {x : Int32} (h : nI 4 ≤ x) : 3 < x := by
  have h8 := Int32.le_iff_toInt_le.mp h
  rw [nI_toInt (by omega)] at h8
  exact Int32.lt_iff_toInt_lt.mpr (by rw [show (3 : Int32).toInt = 3 from by decide]; omega)
theorem ya_plN {post : Int32 → Prop} {x : Int32} (hx : x < 0 ∨ nI 4 ≤ x) (h : post 0) : wpY_isPlace post (yd, yu, yc, yf, cy, cn, sy, os, ny, sz, ln, py, ry, fy, my, nw) x := by
  by_cases z : x < 0
  · exact br_t z h
  · exact br_f z (br_t (ya_gt3 (hx.resolve_left z)) h)
theorem xa_key {post : Int32 → Prop} {s : Nat} (hs : s < 101) (h : post 1) : wpX_isKey post (nI s - 50) := br_f (ab_k1 hs) (br_f (ab_k2 hs) h)
theorem xa_keyN {post : Int32 → Prop} {x : Int32} (hx : x < -50 ∨ 50 < x) (h : post 0) : wpX_isKey post x := by
  by_cases z : x < -50
  · exact br_t z h
  · exact br_f z (br_t (hx.resolve_left z) h)
theorem xa_free {post : Int32 → Prop} {p s : Nat} (hp : p < 6) (hs : s < 101) (h : th (p * 101 + s) = 0 → post 1) (h' : ¬ th (p * 101 + s) = 0 → post 0) : wpX_isFree post (xs, xu, xc, th, cx, sx, kd, nm, ct, op, pa, mx, rx) (nI p) (nI s - 50) := by
  unfold wpX_isFree
  dsimp only
  refine xa_key hs (br_f (by decide) ?_)
  show vp_in (nI p * 101 + (nI s - 50) - (-50)) 606 ∧ _
  rw [ab_so, nI_clamp (by omega)]
  exact ⟨vp_in_nI (by omega) (by omega), br_c h h'⟩
theorem xa_freeN {post : Int32 → Prop} {p : Int32} {x : Int32} (hx : x < -50 ∨ 50 < x) (h : post 0) : wpX_isFree post (xs, xu, xc, th, cx, sx, kd, nm, ct, op, pa, mx, rx) p x := by
  unfold wpX_isFree
  dsimp only
  exact xa_keyN hx (br_t rfl h)
end
