/-! find, value, sum, greatest, different -/
section
variable {xs xu xc : Int32} {th cx sx kd nm ct : Nat → Int32} {op : Nat → Int64} {pa mx rx : Nat → Int32} {yd yu yc yf : Int32} {cy cn sy os ny sz ln py ry fy my nw : Nat → Int32}
theorem yf_l {post : Int32 → Prop} {p t : Nat} {k : Int32} (ht : t < 6) (hR : rt_R th cx p cn cy t)
    (h1 : ∀ s, s < 101 → ¬ vx_t th p s = 0 → k = nI s - 50 → post (nI (ra_k (vx_t th p) s))) (h0 : (∀ s, s < 101 → ¬ vx_t th p s = 0 → ¬ k = nI s - 50) → post (-1)) :
    ∀ d i n, i + d = ra_k (vx_t th p) 101 → d < n → (∀ s, s < 101 → ¬ vx_t th p s = 0 → ra_k (vx_t th p) s < i → ¬ k = nI s - 50) → wY_find_2 post (nI t) k yd yu yc yf cy cn sy os ny sz ln py ry fy my nw n (nI i) := by
  have hm := hR.2.1
  have ct' : (nI t).toNatClampNeg = t := nI_clamp (by omega)
  intro d
  induction d with
  | zero =>
    intro i n hi hn hI
    obtain ⟨n, rfl⟩ : ∃ m, n = m + 1 := ⟨n - 1, by omega⟩
    refine ⟨vp_in_nI (by omega) (by omega), ?_⟩
    rw [ct', hR.1]
    refine br_t (nI_le (by omega) (by omega)) (h0 (fun s hs hz => hI s hs hz ?_))
    have := ra_lt hs hz
    omega
  | succ d ih =>
    intro i n hi hn hI
    obtain ⟨n, rfl⟩ : ∃ m, n = m + 1 := ⟨n - 1, by omega⟩
    refine ⟨vp_in_nI (by omega) (by omega), ?_⟩
    rw [ct', hR.1]
    refine br_f (nI_ge (by omega) (by omega)) ?_
    obtain ⟨s, hs, hz, er⟩ := ra_inv (t := vx_t th p) (r := i) (n := 101) (by omega)
    have ec : cy (160 * t + 4 * i + 0) = nI s - 50 := by
      have := hR.2.2 s hs hz
      rw [er] at this
      have a := this.2 0 (by omega)
      rw [this.1] at a
      exact a
    refine yc_cell (c := 0) ht (by omega) (by omega) ?_
    rw [ec]
    refine br_c (fun q => ?_) (fun q => nm_r (nI_1 i) (ih (i + 1) n (by omega) (by omega) (fun s' hs' hz' hr => ?_)))
    · rw [← er]; exact h1 s hs hz q.symm
    · by_cases e : ra_k (vx_t th p) s' = i
      · have : s' = s := ra_inj hz' hz (by rw [e, er])
        rw [this]; exact fun z => q z.symm
      · exact hI s' hs' hz' (by omega)
theorem yf_find {post : Int32 → Prop} {p t : Nat} {k : Int32} (ht : t < 6) (hR : rt_R th cx p cn cy t)
    (h1 : ∀ s, s < 101 → ¬ vx_t th p s = 0 → k = nI s - 50 → post (nI (ra_k (vx_t th p) s))) (h0 : (∀ s, s < 101 → ¬ vx_t th p s = 0 → ¬ k = nI s - 50) → post (-1)) : wpY_find post (yd, yu, yc, yf, cy, cn, sy, os, ny, sz, ln, py, ry, fy, my, nw) (nI t) k :=
  ⟨ra_k (vx_t th p) 101 + 1, yf_l ht hR h1 h0 (ra_k (vx_t th p) 101) 0 _ (by omega) (by omega) (fun s hs hz hr => absurd hr (by omega))⟩
/-- folds over what meets -/
theorem jo_fold {α : Type} {xt mx my : Nat → Int32} {G H : Nat → α → α} {a : α} (hM : jo_M xt mx my) (h : ∀ s, s < 101 → ¬ mx s = 0 → ∀ x, H (ra_k xt s) x = G s x) :
    fo_y (fun r x => if my r = 0 then x else H r x) a (ra_k xt 101) = fo_g mx G a 101 := by
  have e : ∀ n, n ≤ 101 → fo_g mx G a n = fo_g xt (fun s x => if mx s = 0 then x else G s x) a n := by
    intro n
    induction n with
    | zero => intro _; rfl
    | succ n ih =>
      intro hn
      have e := ih (by omega)
      by_cases z : xt n = 0
      · rw [fo_g0 z, fo_g0 ((hM n (by omega)).1 z), e]
      · rw [fo_g1 z, ← e]
        by_cases y : mx n = 0
        · rw [fo_g0 y, if_pos y]
        · rw [fo_g1 y, if_neg y]
  rw [e 101 (by omega)]
  refine (fo_eq (fun s hs hz x => ?_)).symm
  have em := (hM s hs).2 hz
  by_cases y : mx s = 0
  · rw [if_pos y, if_pos (by rw [← em]; exact y)]
  · rw [if_neg y, if_neg (by rw [← em]; exact y)]; exact h s hs y x
theorem xk_sum {post : Int32 → SX → Prop} (h : post (fo_g mx (fun s a => a + rx s) 0 101) (xs, xu, xc, th, cx, sx, kd, nm, ct, op, pa, mx, rx)) :
    ∀ d i n, i + d = 101 → d < n → wX_sum_39 post xs xu xc th cx sx kd nm ct op pa mx rx n (fo_g mx (fun s a => a + rx s) 0 i) (nI i) := by
  intro d
  induction d with
  | zero =>
    intro i n hi hn
    obtain ⟨n, rfl⟩ : ∃ m, n = m + 1 := ⟨n - 1, by omega⟩
    obtain rfl : i = 101 := by omega
    exact br_t (by decide) h
  | succ d ih =>
    intro i n hi hn
    obtain ⟨n, rfl⟩ : ∃ m, n = m + 1 := ⟨n - 1, by omega⟩
    have vi : vp_in (nI i) 101 := vp_in_nI (by omega) (by omega)
    have := ih (i + 1) n (by omega) (by omega)
    refine br_f (nI_ge (b := 101) (by omega) (by omega)) ⟨vi, ?_⟩
    rw [nI_clamp (by omega)]
    refine br_c (fun z => nm_r (nI_1 i) ?_) (fun z => ⟨vi, nm_e (nm_r (nI_1 i) ?_)⟩)
    · rw [fo_g0 z] at this; exact this
    · rw [fo_g1 z] at this; exact this
theorem yk_sum {post : Int32 → SY → Prop} {m : Nat} (hm : m ≤ 40) (hc : cn 0 = nI m) (h : post (fo_y (fun r a => if my r = 0 then a else a + nw r) 0 m) (yd, yu, yc, yf, cy, cn, sy, os, ny, sz, ln, py, ry, fy, my, nw)) :
    ∀ d i n, i + d = m → d < n → wY_sum_38 post yd yu yc yf cy cn sy os ny sz ln py ry fy my nw n (fo_y (fun r a => if my r = 0 then a else a + nw r) 0 i) (nI i) := by
  intro d
  induction d with
  | zero =>
    intro i n hi hn
    obtain ⟨n, rfl⟩ : ∃ m, n = m + 1 := ⟨n - 1, by omega⟩
    obtain rfl : i = m := by omega
    exact br_t (by rw [hc]; exact Int32.le_refl _) h
  | succ d ih =>
    intro i n hi hn
    obtain ⟨n, rfl⟩ : ∃ m, n = m + 1 := ⟨n - 1, by omega⟩
    have vi : vp_in (nI i) 40 := vp_in_nI (by omega) (by omega)
    have := ih (i + 1) n (by omega) (by omega)
    unfold fo_y at this
    refine br_f (by rw [hc]; exact nI_ge (by omega) (by omega)) ⟨vi, ?_⟩
    rw [nI_clamp (by omega)]
    refine br_c (fun z => nm_r (nI_1 i) ?_) (fun z => ⟨vi, nm_e (nm_r (nI_1 i) ?_)⟩)
    · rw [if_pos z] at this; exact this
    · rw [if_neg z] at this; exact this
theorem xk_gr {post : Int32 → SX → Prop} {a0 : Int32} (h : post (fo_g mx (fun s a => if rx s ≤ a then a else rx s) a0 101) (xs, xu, xc, th, cx, sx, kd, nm, ct, op, pa, mx, rx)) :
    ∀ d i n, i + d = 101 → d < n → wX_greatest_47 post xs xu xc th cx sx kd nm ct op pa mx rx n (fo_g mx (fun s a => if rx s ≤ a then a else rx s) a0 i) (nI i) := by
  intro d
  induction d with
  | zero =>
    intro i n hi hn
    obtain ⟨n, rfl⟩ : ∃ m, n = m + 1 := ⟨n - 1, by omega⟩
    obtain rfl : i = 101 := by omega
    exact br_t (by decide) h
  | succ d ih =>
    intro i n hi hn
    obtain ⟨n, rfl⟩ : ∃ m, n = m + 1 := ⟨n - 1, by omega⟩
    have vi : vp_in (nI i) 101 := vp_in_nI (by omega) (by omega)
    have := ih (i + 1) n (by omega) (by omega)
    refine br_f (nI_ge (b := 101) (by omega) (by omega)) ⟨vi, ?_⟩
    rw [nI_clamp (by omega)]
    refine br_c (fun z => nm_r (nI_1 i) ?_) (fun z => ⟨vi, br_c (fun y => nm_r (nI_1 i) ?_) (fun y => ⟨vi, nm_e (nm_r (nI_1 i) ?_)⟩)⟩)
    · rw [fo_g0 z] at this; exact this
    · rw [fo_g1 z, if_pos y] at this; exact this
    · rw [fo_g1 z, if_neg y] at this; exact this
theorem yk_gr {post : Int32 → SY → Prop} {m : Nat} {a0 : Int32} (hm : m ≤ 40) (hc : cn 0 = nI m) (h : post (fo_y (fun r a => if my r = 0 then a else if nw r ≤ a then a else nw r) a0 m) (yd, yu, yc, yf, cy, cn, sy, os, ny, sz, ln, py, ry, fy, my, nw)) :
    ∀ d i n, i + d = m → d < n → wY_greatest_55 post yd yu yc yf cy cn sy os ny sz ln py ry fy my nw n (fo_y (fun r a => if my r = 0 then a else if nw r ≤ a then a else nw r) a0 i) (nI i) := by
  intro d
  induction d with
  | zero =>
    intro i n hi hn
    obtain ⟨n, rfl⟩ : ∃ m, n = m + 1 := ⟨n - 1, by omega⟩
    obtain rfl : i = m := by omega
    exact br_t (by rw [hc]; exact Int32.le_refl _) h
  | succ d ih =>
    intro i n hi hn
    obtain ⟨n, rfl⟩ : ∃ m, n = m + 1 := ⟨n - 1, by omega⟩
    have vi : vp_in (nI i) 40 := vp_in_nI (by omega) (by omega)
    have := ih (i + 1) n (by omega) (by omega)
    unfold fo_y at this
    refine br_f (by rw [hc]; exact nI_ge (by omega) (by omega)) ⟨vi, ?_⟩
    rw [nI_clamp (by omega)]
    refine br_c (fun z => nm_r (nI_1 i) ?_) (fun z => ⟨vi, br_c (fun y => nm_r (nI_1 i) ?_) (fun y => ⟨vi, nm_e (nm_r (nI_1 i) ?_)⟩)⟩)
    · rw [if_pos z] at this; exact this
    · rw [if_neg z, if_pos y] at this; exact this
    · rw [if_neg z, if_neg y] at this; exact this
theorem xk_new {post : Int32 → Prop} {s : Nat} (hs : s < 101) (h1 : (∀ q, q < s → ¬ mx q = 0 → ¬ rx q = rx s) → post 1) (h0 : ¬ (∀ q, q < s → ¬ mx q = 0 → ¬ rx q = rx s) → post 0) :
    ∀ d i n, i + d = s → d < n → (∀ q, q < i → ¬ mx q = 0 → ¬ rx q = rx s) → wX_isNewResult_2 post (nI s) xs xu xc th cx sx kd nm ct op pa mx rx n (nI i) := by
  intro d
  induction d with
  | zero =>
    intro i n hi hn hI
    obtain ⟨n, rfl⟩ : ∃ m, n = m + 1 := ⟨n - 1, by omega⟩
    obtain rfl : i = s := by omega
    exact br_t (Int32.le_refl _) (h1 hI)
  | succ d ih =>
    intro i n hi hn hI
    obtain ⟨n, rfl⟩ : ∃ m, n = m + 1 := ⟨n - 1, by omega⟩
    have vi : vp_in (nI i) 101 := vp_in_nI (by omega) (by omega)
    refine br_f (nI_ge (by omega) (by omega)) ⟨vi, ?_⟩
    rw [nI_clamp (n := i) (by omega), nI_clamp (n := s) (by omega)]
    refine br_c (fun z => nm_r (nI_1 i) (ih (i + 1) n (by omega) (by omega) (fun q hq hz => ?_))) (fun z => ⟨vi, vp_in_nI (by omega) (by omega), br_c (fun y => h0 (fun a => a i (by omega) z y)) (fun y => nm_r (nI_1 i) (ih (i + 1) n (by omega) (by omega) (fun q hq hz => ?_)))⟩)
    · by_cases e : q = i
      · subst e; exact absurd z hz
      · exact hI q (by omega) hz
    · by_cases e : q = i
      · subst e; exact y
      · exact hI q (by omega) hz
theorem xk_df {post : Int32 → SX → Prop} (h : post (fo_g mx (fun s a => if ∀ q, q < s → ¬ mx q = 0 → ¬ rx q = rx s then a + 1 else a) 0 101) (xs, xu, xc, th, cx, sx, kd, nm, ct, op, pa, mx, rx)) :
    ∀ d i n, i + d = 101 → d < n → wX_different_39 post xs xu xc th cx sx kd nm ct op pa mx rx n (fo_g mx (fun s a => if ∀ q, q < s → ¬ mx q = 0 → ¬ rx q = rx s then a + 1 else a) 0 i) (nI i) := by
  intro d
  induction d with
  | zero =>
    intro i n hi hn
    obtain ⟨n, rfl⟩ : ∃ m, n = m + 1 := ⟨n - 1, by omega⟩
    obtain rfl : i = 101 := by omega
    exact br_t (by decide) h
  | succ d ih =>
    intro i n hi hn
    obtain ⟨n, rfl⟩ : ∃ m, n = m + 1 := ⟨n - 1, by omega⟩
    have vi : vp_in (nI i) 101 := vp_in_nI (by omega) (by omega)
    have := ih (i + 1) n (by omega) (by omega)
    refine br_f (nI_ge (b := 101) (by omega) (by omega)) ⟨vi, ?_⟩
    rw [nI_clamp (by omega)]
    refine br_c (fun z => nm_r (nI_1 i) ?_) (fun z => ⟨i + 1, xk_new (by omega) (fun a => br_f (by decide) (nm_e (nm_r (nI_1 i) ?_))) (fun a => br_t rfl (nm_r (nI_1 i) ?_)) i 0 (i + 1) (by omega) (by omega) (fun q hq => absurd hq (by omega))⟩)
    · rw [fo_g0 z] at this; exact this
    · rw [fo_g1 z, if_pos a] at this; exact this
    · rw [fo_g1 z, if_neg a] at this; exact this
theorem yk_in {post : Int32 → SY → Prop} {J : Int32 → Int32 → Prop} {x3 : Int32} {r : Nat} (hr : r < 40)
    (h1 : (¬ my r = 0 ∧ ∀ q, q < r → ¬ my q = 0 → ¬ nw q = nw r) → J (x3 + 1) (nI (r + 1))) (h0 : ¬ (¬ my r = 0 ∧ ∀ q, q < r → ¬ my q = 0 → ¬ nw q = nw r) → J x3 (nI (r + 1))) :
    ∀ d i n x5, i + d = r → d < n → (x5 = 0 ↔ ¬ (¬ my r = 0 ∧ ∀ q, q < i → ¬ my q = 0 → ¬ nw q = nw r)) → wY_different_61 post J x3 (nI r) yd yu yc yf cy cn sy os ny sz ln py ry fy my nw n x5 (nI i) := by
  intro d
  induction d with
  | zero =>
    intro i n x5 hi hn hI
    obtain ⟨n, rfl⟩ : ∃ m, n = m + 1 := ⟨n - 1, by omega⟩
    obtain rfl : i = r := by omega
    refine br_t (Int32.le_refl _) (br_c (fun z => nm_r (nI_1 i) (h0 (hI.mp z))) (fun z => nm_e (nm_r (nI_1 i) (h1 (Classical.byContradiction (fun q => z (hI.mpr q)))))))
  | succ d ih =>
    intro i n x5 hi hn hI
    obtain ⟨n, rfl⟩ : ∃ m, n = m + 1 := ⟨n - 1, by omega⟩
    have vi : vp_in (nI i) 40 := vp_in_nI (by omega) (by omega)
    refine br_f (nI_ge (by omega) (by omega)) (br_c (fun z => nm_r (nI_1 i) (ih (i + 1) n 0 (by omega) (by omega) ⟨fun _ a => ?_, fun _ => rfl⟩)) (fun z => ⟨vi, ?_⟩))
    · exact hI.mp z ⟨a.1, fun q hq => a.2 q (by omega)⟩
    have hI' : ¬ my r = 0 ∧ ∀ q, q < i → ¬ my q = 0 → ¬ nw q = nw r := Classical.byContradiction (fun q => z (hI.mpr q))
    rw [nI_clamp (n := i) (by omega), nI_clamp (n := r) (by omega)]
    refine br_c (fun y => nm_r (nI_1 i) (ih (i + 1) n 1 (by omega) (by omega) ⟨fun q => absurd q (by decide), fun q => absurd ?_ q⟩)) (fun y => ⟨vi, vp_in_nI (by omega) (by omega), br_c (fun w => nm_r (nI_1 i) (ih (i + 1) n 0 (by omega) (by omega) ⟨fun _ a => a.2 i (by omega) y w, fun _ => rfl⟩)) (fun w => nm_r (nI_1 i) (ih (i + 1) n 1 (by omega) (by omega) ⟨fun q => absurd q (by decide), fun q => absurd ?_ q⟩))⟩)
    · refine ⟨hI'.1, fun q hq hz => ?_⟩
      by_cases e : q = i
      · subst e; exact absurd y hz
      · exact hI'.2 q (by omega) hz
    · refine ⟨hI'.1, fun q hq hz => ?_⟩
      by_cases e : q = i
      · subst e; exact w
      · exact hI'.2 q (by omega) hz
theorem yk_df {post : Int32 → SY → Prop} {m : Nat} (hm : m ≤ 40) (hc : cn 0 = nI m) (h : post (fo_y (fun r a => if my r = 0 then a else if ∀ q, q < r → ¬ my q = 0 → ¬ nw q = nw r then a + 1 else a) 0 m) (yd, yu, yc, yf, cy, cn, sy, os, ny, sz, ln, py, ry, fy, my, nw)) :
    ∀ d i n, i + d = m → d < n → wY_different_38 post yd yu yc yf cy cn sy os ny sz ln py ry fy my nw n (fo_y (fun r a => if my r = 0 then a else if ∀ q, q < r → ¬ my q = 0 → ¬ nw q = nw r then a + 1 else a) 0 i) (nI i) := by
  intro d
  induction d with
  | zero =>
    intro i n hi hn
    obtain ⟨n, rfl⟩ : ∃ m, n = m + 1 := ⟨n - 1, by omega⟩
    obtain rfl : i = m := by omega
    exact br_t (by rw [hc]; exact Int32.le_refl _) h
  | succ d ih =>
    intro i n hi hn
    obtain ⟨n, rfl⟩ : ∃ m, n = m + 1 := ⟨n - 1, by omega⟩
    have vi : vp_in (nI i) 40 := vp_in_nI (by omega) (by omega)
    have := ih (i + 1) n (by omega) (by omega)
    unfold fo_y at this
    refine br_f (by rw [hc]; exact nI_ge (by omega) (by omega)) ⟨vi, nm_r (e' := my i) (by rw [nI_clamp (by omega)]) ⟨i + 1, ?_⟩⟩
    refine yk_in (by omega) (fun a => ?_) (fun a => ?_) i 0 (i + 1) _ (by omega) (by omega) ⟨fun z a => a.1 z, fun a => ?_⟩
    · rw [if_neg a.1, if_pos a.2] at this; exact this
    · by_cases z : my i = 0
      · rw [if_pos z] at this; exact this
      · rw [if_neg z, if_neg (fun q => a ⟨z, q⟩)] at this; exact this
    · exact Classical.byContradiction (fun z => a ⟨z, fun q hq => absurd hq (by omega)⟩)
end
