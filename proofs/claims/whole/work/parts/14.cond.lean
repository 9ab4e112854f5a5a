/-! the conditions: unique, check; takeNext and settle -/
section
variable {xs xu xc : Int32} {th cx sx kd nm ct : Nat → Int32} {op : Nat → Int64} {pa mx rx : Nat → Int32} {yd yu yc yf : Int32} {cy cn sy os ny sz ln py ry fy my nw : Nat → Int32}
def un_ok (xt : Nat → Int32) (xr : Nat → Nat → Int32) : Prop := ∀ s s', s < s' → s' < 101 → ¬ xt s = 0 → ¬ xt s' = 0 → ¬ xr s 3 = xr s' 3
def am_ok (K N : Nat → Int32) (L : Nat) (par : Nat → Int32) (xt : Nat → Int32) (xr : Nat → Nat → Int32) : Prop := ∀ s, s < 101 → ¬ xt s = 0 → ∃ v, pv_T K N L par (xr s) = some v ∧ ¬ v = 0
theorem xu_ear {post : Int32 → Prop} {p s : Nat} {c : Int32} (hp : p < 6) (hs : s < 101) (h0 : (∀ q, q < s → ¬ vx_t th p q = 0 → ¬ vx_r cx p q 3 = c) → post 0) (h1 : (∃ q, q < s ∧ ¬ vx_t th p q = 0 ∧ vx_r cx p q 3 = c) → post 1) :
    ∀ d i n, i + d = s → d < n → (∀ q, q < i → ¬ vx_t th p q = 0 → ¬ vx_r cx p q 3 = c) → wX_hasEarlierC_14 post (nI (p * 101 + s)) c xs xu xc th cx sx kd nm ct op pa mx rx n (nI (p * 101 + i)) := by
  intro d
  induction d with
  | zero =>
    intro i n hi hn hI
    obtain ⟨n, rfl⟩ : ∃ m, n = m + 1 := ⟨n - 1, by omega⟩
    obtain rfl : i = s := by omega
    exact br_t (Int32.le_refl _) (h0 hI)
  | succ d ih =>
    intro i n hi hn hI
    obtain ⟨n, rfl⟩ : ∃ m, n = m + 1 := ⟨n - 1, by omega⟩
    have em : nI (p * 101 + i) * 4 + 3 = nI ((p * 101 + i) * 4 + 3) := ab_m4 _ 3
    refine br_f (nI_ge (by omega) (by omega)) ⟨vp_in_nI (by omega) (by omega), ?_⟩
    rw [em, nI_clamp (n := p * 101 + i) (by omega), nI_clamp (n := (p * 101 + i) * 4 + 3) (by omega)]
    refine br_c (fun z => nm_r (nI_1 _) (ih (i + 1) n (by omega) (by omega) (fun q hq hz => ?_))) (fun z => ⟨vp_in_nI (by omega) (by omega), br_c (fun y => h1 ⟨i, by omega, z, y⟩) (fun y => nm_r (nI_1 _) (ih (i + 1) n (by omega) (by omega) (fun q hq hz => ?_)))⟩)
    · by_cases e : q = i
      · subst e; exact absurd z hz
      · exact hI q (by omega) hz
    · by_cases e : q = i
      · subst e; exact y
      · exact hI q (by omega) hz
theorem xu_l {post : Int32 → Prop} {p : Nat} (hp : p < 6) (h1 : un_ok (vx_t th p) (vx_r cx p) → post 1) (h0 : ¬ un_ok (vx_t th p) (vx_r cx p) → post 0) :
    ∀ d i n, i + d = 101 → d < n → (∀ s s', s < s' → s' < i → ¬ vx_t th p s = 0 → ¬ vx_t th p s' = 0 → ¬ vx_r cx p s 3 = vx_r cx p s' 3) → wX_isUnique_7 post (nI (p * 101)) xs xu xc th cx sx kd nm ct op pa mx rx n (nI (p * 101 + i)) := by
  have eb : nI (p * 101) + 101 = nI (p * 101 + 101) := nI_add (p * 101) 101
  intro d
  induction d with
  | zero =>
    intro i n hi hn hI
    obtain ⟨n, rfl⟩ : ∃ m, n = m + 1 := ⟨n - 1, by omega⟩
    obtain rfl : i = 101 := by omega
    exact br_t (by rw [eb]; exact Int32.le_refl _) (h1 hI)
  | succ d ih =>
    intro i n hi hn hI
    obtain ⟨n, rfl⟩ : ∃ m, n = m + 1 := ⟨n - 1, by omega⟩
    have em : nI (p * 101 + i) * 4 + 3 = nI ((p * 101 + i) * 4 + 3) := ab_m4 _ 3
    refine br_f (by rw [eb]; exact nI_ge (by omega) (by omega)) ⟨vp_in_nI (by omega) (by omega), ?_⟩
    rw [nI_clamp (n := p * 101 + i) (by omega)]
    refine br_c (fun z => nm_r (nI_1 _) (ih (i + 1) n (by omega) (by omega) (fun s s' hs hs' hz hz' => ?_))) (fun z => ?_)
    · by_cases e : s' = i
      · subst e; exact absurd z hz'
      · exact hI s s' hs (by omega) hz hz'
    · refine ⟨pk_in ((p * 101 + i) * 4 + 3) 2424 (by omega) em, nm_r (e' := vx_r cx p i 3) (by rw [em, nI_clamp (by omega)]; rfl) ⟨i + 1, ?_⟩⟩
      refine xu_ear (s := i) hp (by omega) (fun q => br_t rfl (nm_r (nI_1 _) (ih (i + 1) n (by omega) (by omega) (fun s s' hs hs' hz hz' => ?_)))) (fun q => br_f (by decide) (h0 (fun w => ?_))) i 0 (i + 1) (by omega) (by omega) (fun q hq => absurd hq (by omega))
      · by_cases e : s' = i
        · subst e; exact q s hs hz
        · exact hI s s' hs (by omega) hz hz'
      · obtain ⟨q, hq, hz, e⟩ := q
        exact w q i hq (by omega) hz z e
theorem xu_un {post : Int32 → Prop} {p : Nat} (hp : p < 6) (h1 : un_ok (vx_t th p) (vx_r cx p) → post 1) (h0 : ¬ un_ok (vx_t th p) (vx_r cx p) → post 0) : wpX_isUnique post (xs, xu, xc, th, cx, sx, kd, nm, ct, op, pa, mx, rx) (nI p) :=
  nm_r (pk_mul p 101) ⟨102, xu_l hp h1 h0 101 0 102 (by omega) (by omega) (fun s s' _ hs' => absurd hs' (by omega))⟩
theorem yu_in {post : Int32 → Prop} {J : Int32 → Prop} {t r : Nat} (ht : t < 6) (hr : r < 40) (hJ : (∀ q, q < r → ¬ vy_r cy t r 3 = vy_r cy t q 3) → J (nI (r + 1))) (h1 : (∃ q, q < r ∧ vy_r cy t r 3 = vy_r cy t q 3) → post 1) :
    ∀ d i n, i + d = r → d < n → (∀ q, q < i → ¬ vy_r cy t r 3 = vy_r cy t q 3) → wY_hasDouble_14 post J (nI t) (nI r) yd yu yc yf cy cn sy os ny sz ln py ry fy my nw n (nI i) := by
  intro d
  induction d with
  | zero =>
    intro i n hi hn hI
    obtain ⟨n, rfl⟩ : ∃ m, n = m + 1 := ⟨n - 1, by omega⟩
    obtain rfl : i = r := by omega
    exact br_t (Int32.le_refl _) (nm_r (nI_1 i) (hJ hI))
  | succ d ih =>
    intro i n hi hn hI
    obtain ⟨n, rfl⟩ : ∃ m, n = m + 1 := ⟨n - 1, by omega⟩
    refine br_f (nI_ge (by omega) (by omega)) (yc_cell (c := 3) ht hr (by omega) (yc_cell (c := 3) ht (by omega) (by omega) (br_c (fun e => h1 ⟨i, by omega, e⟩) (fun e => nm_r (nI_1 i) (ih (i + 1) n (by omega) (by omega) (fun q hq => ?_))))))
    by_cases z : q = i
    · subst z; exact e
    · exact hI q (by omega)
theorem yu_l {post : Int32 → Prop} {t m : Nat} (ht : t < 6) (hm : m ≤ 40) (hc : cn t = nI m) (h0 : (∀ q r, q < r → r < m → ¬ vy_r cy t r 3 = vy_r cy t q 3) → post 0) (h1 : (∃ q r, q < r ∧ r < m ∧ vy_r cy t r 3 = vy_r cy t q 3) → post 1) :
    ∀ d i n, i + d = m → d < n → (∀ q r, q < r → r < i → ¬ vy_r cy t r 3 = vy_r cy t q 3) → wY_hasDouble_2 post (nI t) yd yu yc yf cy cn sy os ny sz ln py ry fy my nw n (nI i) := by
  have ct' : (nI t).toNatClampNeg = t := nI_clamp (by omega)
  intro d
  induction d with
  | zero =>
    intro i n hi hn hI
    obtain ⟨n, rfl⟩ : ∃ m, n = m + 1 := ⟨n - 1, by omega⟩
    obtain rfl : i = m := by omega
    refine ⟨vp_in_nI (by omega) (by omega), ?_⟩
    rw [ct', hc]
    exact br_t (Int32.le_refl _) (h0 hI)
  | succ d ih =>
    intro i n hi hn hI
    obtain ⟨n, rfl⟩ : ∃ m, n = m + 1 := ⟨n - 1, by omega⟩
    refine ⟨vp_in_nI (by omega) (by omega), ?_⟩
    rw [ct', hc]
    refine br_f (nI_ge (by omega) (by omega)) ⟨i + 1, yu_in ht (by omega) (fun a => ih (i + 1) n (by omega) (by omega) (fun q r hq hr => ?_)) (fun a => ?_) i 0 (i + 1) (by omega) (by omega) (fun q hq => absurd hq (by omega))⟩
    · by_cases e : r = i
      · subst e; exact a q hq
      · exact hI q r hq (by omega)
    · obtain ⟨q, hq, e⟩ := a
      exact h1 ⟨q, i, hq, by omega, e⟩
theorem yu_un {post : Int32 → Prop} {p t : Nat} (ht : t < 6) (hR : rt_R th cx p cn cy t) (h0 : un_ok (vx_t th p) (vx_r cx p) → post 0) (h1 : ¬ un_ok (vx_t th p) (vx_r cx p) → post 1) : wpY_hasDouble post (yd, yu, yc, yf, cy, cn, sy, os, ny, sz, ln, py, ry, fy, my, nw) (nI t) := by
  refine ⟨_, yu_l ht hR.2.1 hR.1 (fun a => h0 (fun s s' hs hs' hz hz' e => ?_)) (fun a => h1 (fun w => ?_)) (ra_k (vx_t th p) 101) 0 (ra_k (vx_t th p) 101 + 1) (by omega) (by omega) (fun q r _ hr => absurd hr (by omega))⟩
  · refine a _ _ (ra_lt hs hz) (ra_lt hs' hz') ?_
    rw [(hR.2.2 s (by omega) hz).2 3 (by omega), (hR.2.2 s' hs' hz').2 3 (by omega), e]
  · obtain ⟨q, r, hq, hr, e⟩ := a
    obtain ⟨s', hs', hz', rfl⟩ := ra_inv hr
    obtain ⟨s, hs, hz, rfl⟩ := ra_inv hq
    rw [(hR.2.2 s (by omega) hz).2 3 (by omega), (hR.2.2 s' hs' hz').2 3 (by omega)] at e
    exact w s s' hs hs' hz hz' e.symm
theorem xm_l {post : Int32 → SX → Prop} {e L p : Nat} {K N Z : Nat → Int32} (hp : p < 6) (T : te_X kd nm ct K N Z e L)
    (h1 : am_ok K N L pa (vx_t th p) (vx_r cx p) → ∀ op', post 1 (xs, xu, xc, th, cx, sx, kd, nm, ct, op', pa, mx, rx)) (h0 : ¬ am_ok K N L pa (vx_t th p) (vx_r cx p) → ∀ op', post 0 (xs, xu, xc, th, cx, sx, kd, nm, ct, op', pa, mx, rx)) :
    ∀ d i n op, i + d = 101 → d < n → (∀ s, s < i → ¬ vx_t th p s = 0 → ∃ v, pv_T K N L pa (vx_r cx p s) = some v ∧ ¬ v = 0) → wX_allMeet_5 post (nI p) (nI e) n (nI (p * 101 + i)) xs xu xc th cx sx kd nm ct op pa mx rx := by
  have eb : nI p * 101 + 101 = nI (p * 101 + 101) := ab_m101 p 101
  intro d
  induction d with
  | zero =>
    intro i n op hi hn hI
    obtain ⟨n, rfl⟩ : ∃ m, n = m + 1 := ⟨n - 1, by omega⟩
    obtain rfl : i = 101 := by omega
    exact br_t (by rw [eb]; exact Int32.le_refl _) (h1 hI op)
  | succ d ih =>
    intro i n op hi hn hI
    obtain ⟨n, rfl⟩ : ∃ m, n = m + 1 := ⟨n - 1, by omega⟩
    refine br_f (by rw [eb]; exact nI_ge (by omega) (by omega)) ⟨vp_in_nI (by omega) (by omega), ?_⟩
    rw [nI_clamp (by omega)]
    refine br_c (fun z => nm_r (nI_1 _) (ih (i + 1) n op (by omega) (by omega) (fun s hs hz => ?_))) (fun z => ?_)
    · by_cases e : s = i
      · subst e; exact absurd z hz
      · exact hI s (by omega) hz
    · refine te_out T hp (by omega) (fun op' => ?_)
      cases hV : pv_T K N L pa (vx_r cx p i) with
      | none =>
        refine br_t rfl (h0 (fun w => ?_) op')
        obtain ⟨v, hv, _⟩ := w i (by omega) z
        rw [hV] at hv
        exact absurd hv (by simp)
      | some v =>
        refine br_f (tm_ne v) (br_c (fun q => h0 (fun w => ?_) op') (fun q => nm_r (nI_1 _) (ih (i + 1) n op' (by omega) (by omega) (fun s hs hz => ?_))))
        · obtain ⟨v', hv, n0⟩ := w i (by omega) z
          rw [hV] at hv
          exact n0 (by rw [← Option.some.inj hv]; exact (tm_e0 v).mp q)
        · by_cases e : s = i
          · subst e; exact ⟨v, hV, fun y => q ((tm_e0 v).mpr y)⟩
          · exact hI s (by omega) hz
theorem xm_all {post : Int32 → SX → Prop} {e L p : Nat} {K N Z : Nat → Int32} (hp : p < 6) (T : te_X kd nm ct K N Z e L)
    (h1 : am_ok K N L pa (vx_t th p) (vx_r cx p) → ∀ op', post 1 (xs, xu, xc, th, cx, sx, kd, nm, ct, op', pa, mx, rx)) (h0 : ¬ am_ok K N L pa (vx_t th p) (vx_r cx p) → ∀ op', post 0 (xs, xu, xc, th, cx, sx, kd, nm, ct, op', pa, mx, rx)) : wpX_allMeet post (xs, xu, xc, th, cx, sx, kd, nm, ct, op, pa, mx, rx) (nI p) (nI e) :=
  nm_r (pk_mul p 101) ⟨102, xm_l hp T h1 h0 101 0 102 op (by omega) (by omega) (fun s hs => absurd hs (by omega))⟩
theorem ym_l {post : Int32 → SY → Prop} {e L t m : Nat} {K N Z : Nat → Int32} (ht : t < 6) (hm : m ≤ 40) (hc : cn t = nI m) (T : te_Y os ny sz ln K N Z e L)
    (h1 : (∀ r, r < m → ∃ v, pv_T K N L py (vy_r cy t r) = some v ∧ ¬ v = 0) → ∀ yf' ry' fy', post 1 (yd, yu, yc, yf', cy, cn, sy, os, ny, sz, ln, py, ry', fy', my, nw)) (h0 : ¬ (∀ r, r < m → ∃ v, pv_T K N L py (vy_r cy t r) = some v ∧ ¬ v = 0) → ∀ yf' ry' fy', post 0 (yd, yu, yc, yf', cy, cn, sy, os, ny, sz, ln, py, ry', fy', my, nw)) :
    ∀ d i n yf ry fy, i + d = m → d < n → (∀ r, r < i → ∃ v, pv_T K N L py (vy_r cy t r) = some v ∧ ¬ v = 0) → wY_areChecked_2 post (nI t) (nI e) n (nI i) yd yu yc yf cy cn sy os ny sz ln py ry fy my nw := by
  have ct' : (nI t).toNatClampNeg = t := nI_clamp (by omega)
  intro d
  induction d with
  | zero =>
    intro i n yf ry fy hi hn hI
    obtain ⟨n, rfl⟩ : ∃ m, n = m + 1 := ⟨n - 1, by omega⟩
    obtain rfl : i = m := by omega
    refine ⟨vp_in_nI (by omega) (by omega), ?_⟩
    rw [ct', hc]
    exact br_t (Int32.le_refl _) (h1 hI _ _ _)
  | succ d ih =>
    intro i n yf ry fy hi hn hI
    obtain ⟨n, rfl⟩ : ∃ m, n = m + 1 := ⟨n - 1, by omega⟩
    refine ⟨vp_in_nI (by omega) (by omega), ?_⟩
    rw [ct', hc]
    refine br_f (nI_ge (by omega) (by omega)) (te_work T ht (by omega) (fun ry' fy' w f hv => ?_))
    cases hV : pv_T K N L py (vy_r cy t i) with
    | none =>
      rw [hV] at hv
      have f1 : f = 1 := hv
      have bad : ¬ (∀ r, r < m → ∃ v, pv_T K N L py (vy_r cy t r) = some v ∧ ¬ v = 0) := by
        intro w
        obtain ⟨v, hv, _⟩ := w i (by omega)
        rw [hV] at hv
        exact absurd hv (by simp)
      exact br_c (fun _ => h0 bad _ _ _) (fun _ => br_f (by rw [f1]; decide) (h0 bad _ _ _))
    | some v =>
      rw [hV] at hv
      obtain ⟨f0, wv⟩ := hv
      have wv' : w = v := wv
      refine br_c (fun q => h0 (fun w' => ?_) _ _ _) (fun q => br_t f0 (nm_r (nI_1 i) (ih (i + 1) n f ry' fy' (by omega) (by omega) (fun r hr => ?_))))
      · obtain ⟨v', hv, n0⟩ := w' i (by omega)
        rw [hV] at hv
        exact n0 (by rw [← Option.some.inj hv, ← wv']; exact q)
      · by_cases e : r = i
        · subst e; exact ⟨v, hV, by rw [← wv']; exact q⟩
        · exact hI r (by omega)
theorem ym_all {post : Int32 → SY → Prop} {e L p t : Nat} {K N Z : Nat → Int32} (ht : t < 6) (hR : rt_R th cx p cn cy t) (T : te_Y os ny sz ln K N Z e L)
    (h1 : am_ok K N L py (vx_t th p) (vx_r cx p) → ∀ yf' ry' fy', post 1 (yd, yu, yc, yf', cy, cn, sy, os, ny, sz, ln, py, ry', fy', my, nw)) (h0 : ¬ am_ok K N L py (vx_t th p) (vx_r cx p) → ∀ yf' ry' fy', post 0 (yd, yu, yc, yf', cy, cn, sy, os, ny, sz, ln, py, ry', fy', my, nw)) : wpY_areChecked post (yd, yu, yc, yf, cy, cn, sy, os, ny, sz, ln, py, ry, fy, my, nw) (nI t) (nI e) := by
  have iff : (∀ r, r < ra_k (vx_t th p) 101 → ∃ v, pv_T K N L py (vy_r cy t r) = some v ∧ ¬ v = 0) ↔ am_ok K N L py (vx_t th p) (vx_r cx p) := by
    constructor
    · intro a s hs hz
      have := a _ (ra_lt hs hz)
      rw [jo_pv T hR hs hz] at this
      exact this
    · intro a r hr
      obtain ⟨s, hs, hz, rfl⟩ := ra_inv hr
      rw [jo_pv T hR hs hz]
      exact a s hs hz
  exact ⟨_, ym_l ht hR.2.1 hR.1 T (fun a => h1 (iff.mp a)) (fun a => h0 (fun w => a (iff.mpr w))) (ra_k (vx_t th p) 101) 0 (ra_k (vx_t th p) 101 + 1) yf ry fy (by omega) (by omega) (fun r hr => absurd hr (by omega))⟩
/-- X's takeNext, Y's settle -/
theorem xt_take {post : Int32 → SX → Prop} {a : Int32} {L : Nat} {K N Z : Nat → Int32} (hb : bo_A th) (T : ¬ xc = 0 → te_X kd nm ct K N Z 8 L)
    (hU : ¬ xu = 0 → ¬ un_ok (vx_t th 5) (vx_r cx 5) → post (-1000000007) (xs, xu, xc, th, cx, sx, kd, nm, ct, op, pa, mx, rx))
    (hC : (xu = 0 ∨ un_ok (vx_t th 5) (vx_r cx 5)) → ¬ xc = 0 → ¬ am_ok K N L pa (vx_t th 5) (vx_r cx 5) → ∀ op', post (-1000000008) (xs, xu, xc, th, cx, sx, kd, nm, ct, op', pa, mx, rx))
    (hO : (xu = 0 ∨ un_ok (vx_t th 5) (vx_r cx 5)) → (xc = 0 ∨ am_ok K N L pa (vx_t th 5) (vx_r cx 5)) → ∀ op' th' cx', cp_T th cx th' cx' 5 4 → post a (xs, xu, xc, th', cx', sx, kd, nm, ct, op', pa, mx, rx)) : wpX_takeNext post (xs, xu, xc, th, cx, sx, kd, nm, ct, op, pa, mx, rx) a := by
  have cpy : (xu = 0 ∨ un_ok (vx_t th 5) (vx_r cx 5)) → (xc = 0 ∨ am_ok K N L pa (vx_t th 5) (vx_r cx 5)) → ∀ op', wX_takeNext_38 post a xs xu xc th cx sx kd nm ct op' pa mx rx := by
    intro c1 c2 op'
    unfold wX_takeNext_38
    exact xc_tab (p := 5) (q := 4) (by omega) (by omega) (by omega) hb (fun th' cx' hc => hO c1 c2 op' th' cx' hc)
  have snd : (xu = 0 ∨ un_ok (vx_t th 5) (vx_r cx 5)) → wX_takeNext_18 post a xs xu xc th cx sx kd nm ct op pa mx rx := by
    intro c1
    refine br_c (fun z => cpy c1 (Or.inl z) op) (fun z => ?_)
    exact xm_all (p := 5) (by omega) (T z) (fun w op' => br_f (by decide) (cpy c1 (Or.inr w) op')) (fun w op' => br_t rfl (hC c1 z w op'))
  refine br_c (fun z => snd (Or.inl z)) (fun z => ?_)
  exact xu_un (p := 5) (by omega) (fun w => br_f (by decide) (snd (Or.inr w))) (fun w => br_t rfl (hU z w))
theorem yt_take {post : Int32 → SY → Prop} {a : Int32} {L t : Nat} {K N Z : Nat → Int32} (ht : t < 6) (ht0 : t ≠ 0) (hR : rt_R th cx 5 cn cy t) (T : ¬ yc = 0 → te_Y os ny sz ln K N Z 8 L)
    (hU : ¬ yu = 0 → ¬ un_ok (vx_t th 5) (vx_r cx 5) → post (-1000000007) (yd, yu, yc, yf, cy, cn, sy, os, ny, sz, ln, py, ry, fy, my, nw))
    (hC : (yu = 0 ∨ un_ok (vx_t th 5) (vx_r cx 5)) → ¬ yc = 0 → ¬ am_ok K N L py (vx_t th 5) (vx_r cx 5) → ∀ yf' ry' fy', post (-1000000008) (yd, yu, yc, yf', cy, cn, sy, os, ny, sz, ln, py, ry', fy', my, nw))
    (hO : (yu = 0 ∨ un_ok (vx_t th 5) (vx_r cx 5)) → (yc = 0 ∨ am_ok K N L py (vx_t th 5) (vx_r cx 5)) → ∀ yf' ry' fy' cy' cn', cl_T cy cn cy' cn' t 0 → post a (yd, yu, yc, yf', cy', cn', sy, os, ny, sz, ln, py, ry', fy', my, nw)) : wpY_settle post (yd, yu, yc, yf, cy, cn, sy, os, ny, sz, ln, py, ry, fy, my, nw) (nI t) a := by
  have cpy : (yu = 0 ∨ un_ok (vx_t th 5) (vx_r cx 5)) → (yc = 0 ∨ am_ok K N L py (vx_t th 5) (vx_r cx 5)) → ∀ yf' ry' fy', wY_settle_38 post (nI t) a yd yu yc yf' cy cn sy os ny sz ln py ry' fy' my nw := by
    intro c1 c2 yf' ry' fy'
    unfold wY_settle_38
    exact yc_list (u := 0) ht (by omega) ht0 (fun cy' cn' hl => hO c1 c2 yf' ry' fy' cy' cn' hl)
  have snd : (yu = 0 ∨ un_ok (vx_t th 5) (vx_r cx 5)) → wY_settle_18 post (nI t) a yd yu yc yf cy cn sy os ny sz ln py ry fy my nw := by
    intro c1
    refine br_c (fun z => cpy c1 (Or.inl z) yf ry fy) (fun z => ?_)
    exact ym_all ht hR (T z) (fun w yf' ry' fy' => br_f (by decide) (cpy c1 (Or.inr w) yf' ry' fy')) (fun w yf' ry' fy' => br_t rfl (hC c1 z w yf' ry' fy'))
  refine br_c (fun z => snd (Or.inl z)) (fun z => ?_)
  exact yu_un ht hR (fun w => br_t rfl (snd (Or.inr w))) (fun w => br_f (by decide) (hU z w))
theorem tk_tb {th' cx' cn' cy' : Nat → Int32} {t : Nat} (h : tb_A th cx cn cy) (hR : rt_R th cx 5 cn cy t) (hc : cp_T th cx th' cx' 5 4) (hl : cl_T cy cn cy' cn' t 0) : tb_A th' cx' cn' cy' := by
  refine ⟨rt_cg hR (fun s hs => hc.1 s hs) (fun s hs c hc' => hc.2.2.1 s hs c hc') (by rw [hl.2.2, pk_us]) (fun i hi => hl.1 i hi), fun q hq => ?_⟩
  exact rt_cg (h.2 q hq) (fun s hs => hc.2.1 _ (by omega)) (fun s hs c hc' => hc.2.2.2 _ (by omega)) (by rw [hl.2.2, pk_un (by omega)]) (fun i hi => hl.2.1 _ (by omega))
/-- the check's term, if it is on -/
theorem te_8 (h : ¬ xc = 0 → te_ok kd nm sz ct 8) (ho : ∀ j, os j = tm_yk (kd j)) :
    ∃ (K N Z : Nat → Int32) (L : Nat), (¬ xc = 0 → te_X kd nm ct K N Z 8 L) ∧ (¬ xc = 0 → te_Y os nm sz ct K N Z 8 L) := by
  by_cases z : xc = 0
  · exact ⟨fun _ => 0, fun _ => 0, fun _ => 0, 0, fun q => absurd z q, fun q => absurd z q⟩
  · obtain ⟨K, N, Z, L, a, b⟩ := te_get (by omega) (h z) ho
    exact ⟨K, N, Z, L, fun _ => a, fun _ => b⟩
end
section
theorem i_vc_unique {k : Nat} {u : SX} {v : SY} (I : i_Rel k u v) (hk : k + 5 ≤ 2560) (v1 : Int32) : wpX_unique (fun r u' => wpY_unique (fun r' v' => r' = r ∧ i_Rel (k + 5) u' v') v v1) u v1 := by
  obtain ⟨xs, xu, xc, th, cx, sx, kd, nm, ct, op, pa, mx, rx⟩ := u
  obtain ⟨yd, yu, yc, yf, cy, cn, sy, os, ny, sz, ln, py, ry, fy, my, nw⟩ := v
  have J := I
  obtain ⟨rfl, rfl, rfl, rfl, rfl, rfl, hb, ht, hs, ho, hT⟩ := I
  by_cases z : v1 = 0
  · exact br_t z (br_t z (br_t z (br_t z ⟨rfl, rfl, rfl, rfl, rfl, rfl, rfl, hb, ht, hs, ho, hT⟩)))
  · refine br_f z (xu_un (p := 4) (by omega) (fun w => br_f (by decide) (br_f z (br_f z ?_))) (fun w => br_t rfl (br_f z ?_)))
    · exact yu_un (t := 0) (by omega) ht.1 (fun _ => br_t rfl (br_f z ⟨rfl, rfl, rfl, rfl, rfl, rfl, rfl, hb, ht, hs, ho, hT⟩)) (fun q => absurd w q)
    · exact yu_un (t := 0) (by omega) ht.1 (fun q => absurd q w) (fun _ => br_f (by decide) ⟨rfl, J⟩)
theorem i_vc_load {k : Nat} {u : SX} {v : SY} (I : i_Rel k u v) (hk : k + 5 ≤ 2560) (v1 : Int32) : wpX_load (fun r u' => wpY_load (fun r' v' => r' = r ∧ i_Rel (k + 5) u' v') v v1) u v1 := by
  obtain ⟨xs, xu, xc, th, cx, sx, kd, nm, ct, op, pa, mx, rx⟩ := u
  obtain ⟨yd, yu, yc, yf, cy, cn, sy, os, ny, sz, ln, py, ry, fy, my, nw⟩ := v
  have J := I
  obtain ⟨rfl, rfl, rfl, rfl, rfl, rfl, hb, ht, hs, ho, hT⟩ := I
  unfold wpX_load wpY_load
  dsimp only
  rcases pk_ix v1 (n := 4) (by omega) with hx | hx | ⟨p, hp, rfl⟩
  · exact xa_plN (Or.inl hx) (br_t rfl (ya_plN (Or.inl hx) (br_t rfl ⟨rfl, J⟩)))
  · exact xa_plN (Or.inr hx) (br_t rfl (ya_plN (Or.inr hx) (br_t rfl ⟨rfl, J⟩)))
  · have cp : (nI p).toNatClampNeg = p := nI_clamp (by omega)
    have e1 : nI p + 1 = nI (p + 1) := nI_1 p
    have cp1 : (nI (p + 1)).toNatClampNeg = p + 1 := nI_clamp (by omega)
    have es := hs p hp
    rw [cp, e1, cp1, es]
    refine xa_pl hp (br_f (by decide) ⟨vp_in_nI (by omega) (by omega), br_c (fun z => ?_) (fun z => ?_)⟩)
    · exact ya_pl hp (br_f (by decide) ⟨vp_in_nI (by omega) (by omega), br_t z ⟨rfl, J⟩⟩)
    · refine xc_tab (q := 5) (by omega) (by omega) (by omega) hb (fun th' cx' hc => xc_rows (p := 5) (by omega) ?_)
      have hR : rt_R th' cx' 5 cn cy (p + 1) := rt_cg (ht.2 p hp) (fun s hs => hc.1 s hs) (fun s hs c hc' => hc.2.2.1 s hs c hc') rfl (fun _ _ => rfl)
      have hB : tb_A th' cx' cn cy := tb_keep ht (fun j hj => hc.2.1 j (by omega)) (fun j hj => hc.2.2.2 j (by omega)) (fun _ _ => rfl) (fun _ _ => rfl)
      have hb' := cp_bo hc hb
      obtain ⟨K, N, Z, L, TX', TY'⟩ := te_8 hT.2.1 ho
      have ya : ∀ {post : Int32 → SY → Prop}, wpY_settle post (yd, yu, yc, yf, cy, cn, sy, os, ny, sz, ln, py, ry, fy, my, nw) (nI (p + 1)) (nI (ra_k (vx_t th' 5) 101)) → (vp_in (nI (p + 1)) 6 ∧ wpY_settle post (yd, yu, yc, yf, cy, cn, sy, os, ny, sz, ln, py, ry, fy, my, nw) (nI (p + 1)) (cn (p + 1))) := by
        intro post hq
        rw [hR.1]
        exact ⟨vp_in_nI (by omega) (by omega), hq⟩
      refine xt_take hb' TX' (fun a b => ?_) (fun a b c op' => ?_) (fun a b op' th2 cx2 hc2 => ?_)
      · refine ya_pl hp (br_f (by decide) ⟨vp_in_nI (by omega) (by omega), br_f z (ya (yt_take (by omega) (by omega) hR TY' (fun _ _ => ⟨rfl, rfl, rfl, rfl, rfl, rfl, rfl, hb', hB, hs, ho, hT⟩) (fun a' => ?_) (fun a' => ?_)))⟩)
        · rcases a' with q | q
          · exact absurd q a
          · exact absurd q b
        · rcases a' with q | q
          · exact absurd q a
          · exact absurd q b
      · refine ya_pl hp (br_f (by decide) ⟨vp_in_nI (by omega) (by omega), br_f z (ya (yt_take (by omega) (by omega) hR TY' (fun a' b' => ?_) (fun _ _ _ yf' ry' fy' => ⟨rfl, rfl, rfl, rfl, rfl, rfl, rfl, hb', hB, hs, ho, hT⟩) (fun a' b' => ?_)))⟩)
        · rcases a with q | q
          · exact absurd q a'
          · exact absurd q b'
        · rcases b' with q | q
          · exact absurd q b
          · exact absurd q c
      · refine ya_pl hp (br_f (by decide) ⟨vp_in_nI (by omega) (by omega), br_f z (ya (yt_take (by omega) (by omega) hR TY' (fun a' b' => ?_) (fun _ a' b' => ?_) (fun _ _ yf' ry' fy' cy' cn' hl => ⟨rfl, rfl, rfl, rfl, rfl, rfl, rfl, cp_bo hc2 hb', tk_tb hB hR hc2 hl, hs, ho, hT⟩)))⟩)
        · rcases a with q | q
          · exact absurd q a'
          · exact absurd q b'
        · rcases b with q | q
          · exact absurd q a'
          · exact absurd q b'
end
