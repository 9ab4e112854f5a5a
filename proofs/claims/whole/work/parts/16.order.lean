/-! Y's exchange and order -/
section
variable {xs xu xc : Int32} {th cx sx kd nm ct : Nat → Int32} {op : Nat → Int64} {pa mx rx : Nat → Int32} {yd yu yc yf : Int32} {cy cn sy os ny sz ln py ry fy my nw : Nat → Int32}
def or_r (cy : Nat → Int32) : Nat → ro_T := fun j => (cy (800 + 4 * j), cy (800 + 4 * j + 1), cy (800 + 4 * j + 2), cy (800 + 4 * j + 3))
theorem yx_l {post : SY → Prop} {r : Nat} (hr : r + 1 < 40)
    (h : ∀ cy', (∀ j, j < 800 → cy' j = cy j) → (∀ j, or_r cy' j = sw_g (or_r cy) r j) → post (yd, yu, yc, yf, cy', cn, sy, os, ny, sz, ln, py, ry, fy, my, nw)) :
    ∀ d i n cy1, i + d = 4 → d < n → (∀ c, c < i → cy1 (804 + 4 * r + c) = cy (800 + 4 * r + c)) → (∀ c, c < i → cy1 (800 + 4 * r + c) = cy (804 + 4 * r + c)) →
      (∀ j, (j < 804 + 4 * r ∨ 804 + 4 * r + i ≤ j) → (j < 800 + 4 * r ∨ 800 + 4 * r + i ≤ j) → cy1 j = cy j) → wY_exchange_2 post (nI (804 + 4 * r)) yd yu yc yf n (nI (804 + 4 * r + i)) cy1 cn sy os ny sz ln py ry fy my nw := by
  intro d
  induction d with
  | zero =>
    intro i n cy1 hi hn h1 h2 h3
    obtain ⟨n, rfl⟩ : ∃ m, n = m + 1 := ⟨n - 1, by omega⟩
    obtain rfl : i = 4 := by omega
    refine br_t (by rw [show nI (804 + 4 * r) + 4 = nI (804 + 4 * r + 4) from nI_add _ 4]; exact Int32.le_refl _) (h cy1 (fun j hj => h3 j (by omega) (by omega)) (fun j => ?_))
    by_cases e : j = r
    · subst e
      rw [sw_a]
      have a0 := h2 0 (by omega)
      have a1 := h2 1 (by omega)
      have a2 := h2 2 (by omega)
      have a3 := h2 3 (by omega)
      show (cy1 (800 + 4 * j), cy1 (800 + 4 * j + 1), cy1 (800 + 4 * j + 2), cy1 (800 + 4 * j + 3)) = (cy (800 + 4 * (j + 1)), cy (800 + 4 * (j + 1) + 1), cy (800 + 4 * (j + 1) + 2), cy (800 + 4 * (j + 1) + 3))
      rw [show 800 + 4 * (j + 1) = 804 + 4 * j from by omega, a1, a2, a3]
      exact congrArg (fun x => (x, _)) a0
    · by_cases e2 : j = r + 1
      · subst e2
        rw [sw_b]
        have a0 := h1 0 (by omega)
        have a1 := h1 1 (by omega)
        have a2 := h1 2 (by omega)
        have a3 := h1 3 (by omega)
        show (cy1 (800 + 4 * (r + 1)), cy1 (800 + 4 * (r + 1) + 1), cy1 (800 + 4 * (r + 1) + 2), cy1 (800 + 4 * (r + 1) + 3)) = (cy (800 + 4 * r), cy (800 + 4 * r + 1), cy (800 + 4 * r + 2), cy (800 + 4 * r + 3))
        rw [show 800 + 4 * (r + 1) = 804 + 4 * r from by omega, a1, a2, a3]
        exact congrArg (fun x => (x, _)) a0
      · rw [sw_o e e2]
        show (cy1 (800 + 4 * j), cy1 (800 + 4 * j + 1), cy1 (800 + 4 * j + 2), cy1 (800 + 4 * j + 3)) = (cy (800 + 4 * j), cy (800 + 4 * j + 1), cy (800 + 4 * j + 2), cy (800 + 4 * j + 3))
        rw [h3 (800 + 4 * j) (by omega) (by omega), h3 (800 + 4 * j + 1) (by omega) (by omega), h3 (800 + 4 * j + 2) (by omega) (by omega), h3 (800 + 4 * j + 3) (by omega) (by omega)]
  | succ d ih =>
    intro i n cy1 hi hn h1 h2 h3
    obtain ⟨n, rfl⟩ : ∃ m, n = m + 1 := ⟨n - 1, by omega⟩
    have ci : (nI (804 + 4 * r + i)).toNatClampNeg = 804 + 4 * r + i := nI_clamp (by omega)
    have e4 : nI (804 + 4 * r + i) - 4 = nI (800 + 4 * r + i) := by
      rw [show (4 : Int32) = nI 4 from rfl, pk_sub (by omega)]
      exact congrArg nI (by omega)
    have c4 : (nI (800 + 4 * r + i)).toNatClampNeg = 800 + 4 * r + i := nI_clamp (by omega)
    have vi : vp_in (nI (804 + 4 * r + i)) 960 := vp_in_nI (by omega) (by omega)
    have v4 : vp_in (nI (804 + 4 * r + i) - 4) 960 := by rw [e4]; exact vp_in_nI (by omega) (by omega)
    refine br_f (by rw [show nI (804 + 4 * r) + 4 = nI (804 + 4 * r + 4) from nI_add _ 4]; exact nI_ge (by omega) (by omega)) ⟨vi, nm_r (e' := cy1 (804 + 4 * r + i)) (by rw [ci]) ⟨v4, vi, nm_r (e' := upd cy1 (804 + 4 * r + i) (cy1 (800 + 4 * r + i))) (by rw [ci, e4, c4]) ⟨v4, nm_r (e' := upd (upd cy1 (804 + 4 * r + i) (cy1 (800 + 4 * r + i))) (800 + 4 * r + i) (cy1 (804 + 4 * r + i))) (by rw [e4, c4]) (nm_r (nI_1 _) ?_)⟩⟩⟩
    refine ih (i + 1) n _ (by omega) (by omega) (fun c hc => ?_) (fun c hc => ?_) (fun j hj hj' => ?_)
    · rw [pk_un (by omega)]
      by_cases e : c = i
      · subst e; rw [pk_us]; exact h3 _ (by omega) (by omega)
      · rw [pk_un (by omega)]; exact h1 c (by omega)
    · by_cases e : c = i
      · subst e; rw [pk_us]; exact h3 _ (by omega) (by omega)
      · rw [pk_un (by omega), pk_un (by omega)]; exact h2 c (by omega)
    · rw [pk_un (by omega), pk_un (by omega)]; exact h3 j (by omega) (by omega)
theorem yx_ex {post : SY → Prop} {r : Nat} (hr : r + 1 < 40)
    (h : ∀ cy', (∀ j, j < 800 → cy' j = cy j) → (∀ j, or_r cy' j = sw_g (or_r cy) r j) → post (yd, yu, yc, yf, cy', cn, sy, os, ny, sz, ln, py, ry, fy, my, nw)) : wpY_exchange post (yd, yu, yc, yf, cy, cn, sy, os, ny, sz, ln, py, ry, fy, my, nw) (nI (804 + 4 * r)) :=
  ⟨5, yx_l hr h 4 0 5 cy (by omega) (by omega) (fun c hc => absurd hc (by omega)) (fun c hc => absurd hc (by omega)) (fun _ _ _ => rfl)⟩
/-- the row that moves down -/
def in_I (g : Nat → ro_T) (i r : Nat) : Prop := (∀ a b, a < b → b ≤ i → a ≠ r → b ≠ r → (g a).1 ≤ (g b).1) ∧ (∀ b, r < b → b ≤ i → (g r).1 ≤ (g b).1)
theorem in_0 {g : Nat → ro_T} {i : Nat} (h : in_I g i 0) : so_R g (i + 1) := by
  intro a b hab hb
  by_cases e : a = 0
  · subst e; exact h.2 b hab (by omega)
  · exact h.1 a b hab (by omega) e (by omega)
theorem in_x {g : Nat → ro_T} {i r : Nat} (hr : r + 1 ≤ i) (h : in_I g i (r + 1)) (hk : (g r).1 ≤ (g (r + 1)).1) : so_R g (i + 1) := by
  intro a b hab hb
  by_cases e : a = r + 1
  · subst e; exact h.2 b hab (by omega)
  · by_cases e2 : b = r + 1
    · subst e2
      by_cases e3 : a = r
      · subst e3; exact hk
      · exact Int32.le_trans (h.1 a r (by omega) (by omega) e (by omega)) hk
    · exact h.1 a b hab (by omega) e e2
theorem in_s {g g' : Nat → ro_T} {i r : Nat} (hr : r + 1 ≤ i) (h : in_I g i (r + 1)) (hk : ¬ (g r).1 ≤ (g (r + 1)).1) (hg : ∀ j, g' j = sw_g g r j) : in_I g' i r := by
  have hlt : (g (r + 1)).1 ≤ (g r).1 := Int32.le_of_lt (Int32.not_le.mp hk)
  refine ⟨fun a b hab hb ha hb' => ?_, fun b hb hbi => ?_⟩
  · rw [hg a, hg b]
    by_cases e : a = r + 1
    · subst e
      rw [sw_b, sw_o hb' (by omega)]
      exact h.1 r b (by omega) hb (by omega) (by omega)
    · rw [sw_o ha e]
      by_cases e2 : b = r + 1
      · subst e2
        rw [sw_b]
        exact h.1 a r (by omega) (by omega) e (by omega)
      · rw [sw_o hb' e2]
        exact h.1 a b hab hb e e2
  · rw [hg r, hg b, sw_a]
    by_cases e : b = r + 1
    · subst e; rw [sw_b]; exact hlt
    · rw [sw_o (by omega) e]; exact h.2 b (by omega) hbi
theorem yo_in {post : Int32 → SY → Prop} {J : Int32 → Int32 → Int32 → Int32 → Int32 → (Nat → Int32) → (Nat → Int32) → (Nat → Int32) → (Nat → Int32) → (Nat → Int32) → (Nat → Int32) → (Nat → Int32) → (Nat → Int32) → (Nat → Int32) → (Nat → Int32) → (Nat → Int32) → (Nat → Int32) → Prop} {i m : Nat} (hi : i < m) (hm : m ≤ 40)
    (hJ : ∀ cy', (∀ j, j < 800 → cy' j = cy j) → pm_E (or_r cy) (or_r cy') m → so_R (or_r cy') (i + 1) → J (nI (i + 1)) yd yu yc yf cy' cn sy os ny sz ln py ry fy my nw) :
    ∀ r n cy1, r ≤ i → r < n → (∀ j, j < 800 → cy1 j = cy j) → pm_E (or_r cy) (or_r cy1) m → in_I (or_r cy1) i r → wY_order_14 post J (nI i) n (nI r) yd yu yc yf cy1 cn sy os ny sz ln py ry fy my nw := by
  intro r
  induction r with
  | zero =>
    intro n cy1 hri hn h1 h2 h3
    obtain ⟨n, rfl⟩ : ∃ m, n = m + 1 := ⟨n - 1, by omega⟩
    exact br_t (by decide) (nm_r (nI_1 i) (hJ cy1 h1 h2 (in_0 h3)))
  | succ r ih =>
    intro n cy1 hri hn h1 h2 h3
    obtain ⟨n, rfl⟩ : ∃ m, n = m + 1 := ⟨n - 1, by omega⟩
    refine br_f (nI_nle (by omega) (by omega)) (yc_cell (t := 5) (c := 0) (by omega) (by omega) (by omega) ?_)
    rw [nI_pred]
    refine yc_cell (t := 5) (c := 0) (by omega) (by omega) (by omega) ?_
    have k1 : cy1 (160 * 5 + 4 * (r + 1) + 0) = (or_r cy1 (r + 1)).1 := rfl
    have k0 : cy1 (160 * 5 + 4 * r + 0) = (or_r cy1 r).1 := rfl
    rw [k1, k0]
    refine br_c (fun q => nm_r (nI_1 i) (hJ cy1 h1 h2 (in_x hri h3 q))) (fun q => ?_)
    have e8 : 800 + 4 * nI (r + 1) = nI (804 + 4 * r) := by
      show nI 800 + nI 4 * nI (r + 1) = _
      rw [pk_mul, nI_add]
      exact congrArg nI (by omega)
    rw [e8]
    refine yx_ex (by omega) (fun cy2 a1 a2 => nm_r (pk_m1 r) (ih n cy2 (by omega) (by omega) (fun j hj => by rw [a1 j hj, h1 j hj]) (fun P => ?_) (in_s hri h3 q a2)))
    rw [← h2 P]
    have e1 : cp_n P (or_r cy2) m = cp_n P (sw_g (or_r cy1) r) m := cp_cg (fun j _ => a2 j)
    rw [e1]
    have := sw_cp (P := P) (g := or_r cy1) (r := r) (m - (r + 2))
    rw [show r + 2 + (m - (r + 2)) = m from by omega] at this
    exact this
theorem yo_ck {post : Int32 → SY → Prop} {m : Nat} (hm : m ≤ 40) (hc : cn 5 = nI m) (hso : so_R (or_r cy) m) (h1 : gd_K (or_r cy) m → post 1 (yd, yu, yc, yf, cy, cn, sy, os, ny, sz, ln, py, ry, fy, my, nw)) (h0 : ¬ gd_K (or_r cy) m → post 0 (yd, yu, yc, yf, cy, cn, sy, os, ny, sz, ln, py, ry, fy, my, nw)) :
    ∀ d i n, i + d = m → d < n → (∀ j, j < i → ∃ s, s < 101 ∧ (or_r cy j).1 = nI s - 50) → (∀ a b, a < b → b < i → ¬ (or_r cy a).1 = (or_r cy b).1) → wY_order_62 post yd yu yc yf cy cn sy os ny sz ln py ry fy my nw n (nI i) := by
  intro d
  induction d with
  | zero =>
    intro i n hi hn a1 a2
    obtain ⟨n, rfl⟩ : ∃ m, n = m + 1 := ⟨n - 1, by omega⟩
    obtain rfl : i = m := by omega
    exact br_t (by rw [hc]; exact Int32.le_refl _) (h1 ⟨a1, a2⟩)
  | succ d ih =>
    intro i n hi hn a1 a2
    obtain ⟨n, rfl⟩ : ∃ m, n = m + 1 := ⟨n - 1, by omega⟩
    refine br_f (by rw [hc]; exact nI_ge (by omega) (by omega)) (yc_cell (t := 5) (c := 0) (by omega) (by omega) (by omega) ?_)
    have k1 : cy (160 * 5 + 4 * i + 0) = (or_r cy i).1 := rfl
    rw [k1]
    rcases ab_slot (or_r cy i).1 with hx | hx | ⟨s, hs, es⟩
    · refine br_t hx (h0 (fun w => ?_))
      obtain ⟨s, hs, e⟩ := w.1 i (by omega)
      rw [e] at hx
      exact ab_k1 hs hx
    · have n1 : ¬ (or_r cy i).1 < -50 := by
        have := Int32.lt_iff_toInt_lt.mp hx
        rw [show (50 : Int32).toInt = 50 from by decide] at this
        intro q
        have q' := Int32.lt_iff_toInt_lt.mp q
        rw [show (-50 : Int32).toInt = -50 from by decide] at q'
        omega
      refine br_f n1 (br_t hx (h0 (fun w => ?_)))
      obtain ⟨s, hs, e⟩ := w.1 i (by omega)
      rw [e] at hx
      exact ab_k2 hs hx
    · have n1 : ¬ (or_r cy i).1 < -50 := by rw [es]; exact ab_k1 hs
      have n2 : ¬ 50 < (or_r cy i).1 := by rw [es]; exact ab_k2 hs
      refine br_f n1 (br_f n2 ?_)
      have b1 : ∀ j, j < i + 1 → ∃ s, s < 101 ∧ (or_r cy j).1 = nI s - 50 := by
        intro j hj
        by_cases e : j = i
        · subst e; exact ⟨s, hs, es⟩
        · exact a1 j (by omega)
      match i, hi, a1, a2, b1, k1, n1, n2, es with
      | 0, hi, a1, a2, b1, _, _, _, _ =>
        exact br_t (by decide) (nm_r (nI_1 0) (ih 1 n (by omega) (by omega) b1 (fun a b hab hb => absurd hab (by omega))))
      | i + 1, hi, a1, a2, b1, _, _, _, _ =>
        refine br_f (nI_nle (by omega) (by omega)) ?_
        rw [nI_pred]
        refine yc_cell (t := 5) (c := 0) (by omega) (by omega) (by omega) ?_
        have k0 : cy (160 * 5 + 4 * i + 0) = (or_r cy i).1 := rfl
        rw [k0]
        refine br_c (fun q => h0 (fun w => w.2 i (i + 1) (by omega) (by omega) q.symm)) (fun q => nm_r (nI_1 (i + 1)) (ih (i + 2) n (by omega) (by omega) b1 (fun a b hab hb e => ?_)))
        by_cases eb : b = i + 1
        · subst eb
          by_cases ea : a = i
          · subst ea; exact q e.symm
          · have s1 := Int32.le_iff_toInt_le.mp (hso a i (by omega) (by omega))
            have s2 := Int32.le_iff_toInt_le.mp (hso i (i + 1) (by omega) (by omega))
            have s3 := congrArg Int32.toInt e
            exact q (Int32.toInt_inj.mp (by omega))
        · exact a2 a b hab (by omega) e
theorem yo_l {post : Int32 → SY → Prop} {m : Nat} (hm : m ≤ 40) (hc : cn 5 = nI m)
    (h1 : gd_K (or_r cy) m → ∀ cy', (∀ j, j < 800 → cy' j = cy j) → pm_E (or_r cy) (or_r cy') m → so_R (or_r cy') m → post 1 (yd, yu, yc, yf, cy', cn, sy, os, ny, sz, ln, py, ry, fy, my, nw))
    (h0 : ¬ gd_K (or_r cy) m → ∀ cy', (∀ j, j < 800 → cy' j = cy j) → post 0 (yd, yu, yc, yf, cy', cn, sy, os, ny, sz, ln, py, ry, fy, my, nw)) :
    ∀ d i n cy1, 1 ≤ i → (i + d = m ∨ (d = 0 ∧ m ≤ i ∧ i ≤ 1)) → d < n → (∀ j, j < 800 → cy1 j = cy j) → pm_E (or_r cy) (or_r cy1) m → so_R (or_r cy1) i → wY_order_2 post n (nI i) yd yu yc yf cy1 cn sy os ny sz ln py ry fy my nw := by
  intro d
  induction d with
  | zero =>
    intro i n cy1 hi1 hi hn a1 a2 a3
    obtain ⟨n, rfl⟩ : ∃ m, n = m + 1 := ⟨n - 1, by omega⟩
    have hso : so_R (or_r cy1) m := fun a b hab hb => a3 a b hab (by omega)
    refine br_t (by rw [hc]; exact nI_le (by omega) (by omega)) ⟨m + 1, ?_⟩
    exact yo_ck hm hc hso (fun g => h1 (gd_pm (pm_sy a2) g) cy1 a1 a2 hso) (fun g => h0 (fun w => g (gd_pm a2 w)) cy1 a1) m 0 (m + 1) (by omega) (by omega) (fun j hj => absurd hj (by omega)) (fun a b hab hb => absurd hb (by omega))
  | succ d ih =>
    intro i n cy1 hi1 hi hn a1 a2 a3
    obtain ⟨n, rfl⟩ : ∃ m, n = m + 1 := ⟨n - 1, by omega⟩
    have him : i < m := by omega
    refine br_f (by rw [hc]; exact nI_ge (by omega) (by omega)) ⟨i + 1, yo_in him hm (fun cy' b1 b2 b3 => ih (i + 1) n cy' (by omega) (by omega) (by omega) (fun j hj => by rw [b1 j hj, a1 j hj]) (fun P => by rw [b2 P, a2 P]) b3) i (i + 1) cy1 (Nat.le_refl _) (by omega) (fun _ _ => rfl) (fun P => rfl) ⟨fun a b hab hb ha hb' => a3 a b hab (by omega), fun b hb hbi => absurd hb (by omega)⟩⟩
theorem yo_order {post : Int32 → SY → Prop} {m : Nat} (hm : m ≤ 40) (hc : cn 5 = nI m)
    (h1 : gd_K (or_r cy) m → ∀ cy', (∀ j, j < 800 → cy' j = cy j) → pm_E (or_r cy) (or_r cy') m → so_R (or_r cy') m → post 1 (yd, yu, yc, yf, cy', cn, sy, os, ny, sz, ln, py, ry, fy, my, nw))
    (h0 : ¬ gd_K (or_r cy) m → ∀ cy', (∀ j, j < 800 → cy' j = cy j) → post 0 (yd, yu, yc, yf, cy', cn, sy, os, ny, sz, ln, py, ry, fy, my, nw)) : wpY_order post (yd, yu, yc, yf, cy, cn, sy, os, ny, sz, ln, py, ry, fy, my, nw) :=
  ⟨m + 1, yo_l hm hc h1 h0 (m - 1) 1 (m + 1) cy (by omega) (by omega) (by omega) (fun _ _ => rfl) (fun _ => rfl) (fun a b hab hb => absurd hb (by omega))⟩
theorem or_v {cy : Nat → Int32} {j : Nat} : or_r cy j = (vy_r cy 5 j 0, vy_r cy 5 j 1, vy_r cy 5 j 2, vy_r cy 5 j 3) := rfl
/-- NEXT holds the list's rows, and Y has sorted them: the tables are alike -/
theorem nx_rt {f : Nat → ro_T} {m : Nat} {cy' : Nat → Int32} (hm : m ≤ 40) (hc : cn 5 = nI m) (h : nx_H (vx_t th 5) (vx_r cx 5) f m) (hp : pm_E f (or_r cy') m) (hs : so_R (or_r cy') m) : rt_R th cx 5 cn cy' 5 := by
  obtain ⟨a, b⟩ := nx_ta hm h hp hs
  refine ⟨by rw [a]; exact hc, by rw [a]; exact hm, fun s hs' hz => ⟨(h.2.1 s hs' hz).1, fun c hc' => ?_⟩⟩
  have e := b s hs' hz
  rw [or_v] at e
  have e0 := congrArg (fun x : ro_T => x.1) e
  have e1 := congrArg (fun x : ro_T => x.2.1) e
  have e2 := congrArg (fun x : ro_T => x.2.2.1) e
  have e3 := congrArg (fun x : ro_T => x.2.2.2) e
  rcases (by omega : c = 0 ∨ c = 1 ∨ c = 2 ∨ c = 3) with rfl | rfl | rfl | rfl
  · exact e0
  · exact e1
  · exact e2
  · exact e3
end
