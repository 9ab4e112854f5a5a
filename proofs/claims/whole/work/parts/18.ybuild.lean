/-! Y's table 5, built -/
section
variable {xs xu xc : Int32} {th cx sx kd nm ct : Nat → Int32} {op : Nat → Int64} {pa mx rx : Nat → Int32} {yd yu yc yf : Int32} {cy cn sy os ny sz ln py ry fy my nw : Nat → Int32}
theorem or_e {cy cy' : Nat → Int32} {j : Nat} (h : ∀ c, c < 4 → cy' (800 + 4 * j + c) = cy (800 + 4 * j + c)) : or_r cy' j = or_r cy j := by
  have h0 := h 0 (by omega)
  have h1 := h 1 (by omega)
  have h2 := h 2 (by omega)
  have h3 := h 3 (by omega)
  show (cy' (800 + 4 * j + 0), cy' (800 + 4 * j + 1), cy' (800 + 4 * j + 2), cy' (800 + 4 * j + 3)) = _
  rw [h0, h1, h2, h3]
  rfl
theorem yb_add {post : SY → Prop} {r : Nat} {k a b c : Int32} (hr : r < 40) (hc : cn 5 = nI r)
    (h : ∀ cy', or_r cy' r = (k, a, b, c) → (∀ j, j < 800 + 4 * r ∨ 804 + 4 * r ≤ j → cy' j = cy j) → post (yd, yu, yc, yf, cy', (upd cn 5 (nI (r + 1))), sy, os, ny, sz, ln, py, ry, fy, my, nw)) : wpY_addRow post (yd, yu, yc, yf, cy, cn, sy, os, ny, sz, ln, py, ry, fy, my, nw) k a b c := by
  have e0 : 800 + 4 * cn 5 = nI (800 + 4 * r) := by
    rw [hc]
    show nI 800 + nI 4 * nI r = _
    rw [pk_mul, nI_add]
  have e1 : nI (800 + 4 * r) + 1 = nI (800 + 4 * r + 1) := nI_add _ 1
  have e2 : nI (800 + 4 * r) + 2 = nI (800 + 4 * r + 2) := nI_add _ 2
  have e3 : nI (800 + 4 * r) + 3 = nI (800 + 4 * r + 3) := nI_add _ 3
  refine nm_r e0 ⟨vp_in_nI (by omega) (by omega), nm_r (e' := upd cy (800 + 4 * r) k) (by rw [nI_clamp (by omega)]) ⟨pk_in (800 + 4 * r + 1) 960 (by omega) e1, nm_r (e' := upd (upd cy (800 + 4 * r) k) (800 + 4 * r + 1) a) (by rw [e1, nI_clamp (by omega)]) ⟨pk_in (800 + 4 * r + 2) 960 (by omega) e2, nm_r (e' := upd (upd (upd cy (800 + 4 * r) k) (800 + 4 * r + 1) a) (800 + 4 * r + 2) b) (by rw [e2, nI_clamp (by omega)]) ⟨pk_in (800 + 4 * r + 3) 960 (by omega) e3, nm_r (e' := upd (upd (upd (upd cy (800 + 4 * r) k) (800 + 4 * r + 1) a) (800 + 4 * r + 2) b) (800 + 4 * r + 3) c) (by rw [e3, nI_clamp (by omega)]) (nm_r (e' := upd cn 5 (nI (r + 1))) (by rw [hc, nI_1]) (h _ ?_ (fun j hj => ?_)))⟩⟩⟩⟩
  · unfold or_r
    rw [pk_un (by omega), pk_un (by omega), pk_un (by omega), pk_us, pk_un (by omega), pk_un (by omega), pk_us, pk_un (by omega), pk_us, pk_us]
  · rw [pk_un (by omega), pk_un (by omega), pk_un (by omega), pk_un (by omega)]
theorem gd_cg {f g : Nat → ro_T} {m : Nat} (h : ∀ j, j < m → f j = g j) (hg : gd_K f m) : gd_K g m :=
  gd_pm (g := f) (fun P => (cp_cg h).symm) hg
theorem yb_fin {post : Int32 → SY → Prop} {m : Nat} {a : Int32} {f : Nat → ro_T} (hm : m ≤ 40) (hc : cn 5 = nI m) (hf : ∀ j, j < m → or_r cy j = f j)
    (hB : ¬ gd_K f m → ∀ cy', (∀ j, j < 800 → cy' j = cy j) → post (-1000000006) (yd, yu, yc, yf, cy', cn, sy, os, ny, sz, ln, py, ry, fy, my, nw))
    (hS : gd_K f m → ∀ cy', (∀ j, j < 800 → cy' j = cy j) → pm_E f (or_r cy') m → so_R (or_r cy') m → wpY_settle post (yd, yu, yc, yf, cy', cn, sy, os, ny, sz, ln, py, ry, fy, my, nw) (nI 5) a) :
    wpY_order (fun r_75 u => match u with | (yd, yu, yc, yf, cy, cn, sy, os, ny, sz, ln, py, ry, fy, my, nw) => ((r_75 = 0 → post (-1000000006) (yd, yu, yc, yf, cy, cn, sy, os, ny, sz, ln, py, ry, fy, my, nw)) ∧ (¬ r_75 = 0 → wpY_settle (fun r_93 u => match u with | (yd, yu, yc, yf, cy, cn, sy, os, ny, sz, ln, py, ry, fy, my, nw) => post r_93 (yd, yu, yc, yf, cy, cn, sy, os, ny, sz, ln, py, ry, fy, my, nw)) (yd, yu, yc, yf, cy, cn, sy, os, ny, sz, ln, py, ry, fy, my, nw) 5 a))) (yd, yu, yc, yf, cy, cn, sy, os, ny, sz, ln, py, ry, fy, my, nw) := by
  refine yo_order hm hc (fun g cy' b1 b2 b3 => br_f (by decide) (hS (gd_cg hf g) cy' b1 (fun P => ?_) b3)) (fun g cy' b1 => br_t rfl (hB (fun w => g (gd_cg (fun j hj => (hf j hj).symm) w)) cy' b1))
  rw [b2 P]
  exact cp_cg hf
theorem yb_up_l {post : Int32 → SY → Prop} {m col : Nat} {a : Int32} {f : Nat → ro_T} (hcol : col < 4) (hm : m ≤ 40) (hc0 : cn 0 = nI m) (hc5 : cn 5 = nI m)
    (hf : ∀ j, j < m → f j = xr_T (up_r (vy_r cy 5) my nw col) j)
    (hB : ¬ gd_K f m → ∀ cy', (∀ j, j < 800 → cy' j = cy j) → post (-1000000006) (yd, yu, yc, yf, cy', cn, sy, os, ny, sz, ln, py, ry, fy, my, nw))
    (hS : gd_K f m → ∀ cy', (∀ j, j < 800 → cy' j = cy j) → pm_E f (or_r cy') m → so_R (or_r cy') m → wpY_settle post (yd, yu, yc, yf, cy', cn, sy, os, ny, sz, ln, py, ry, fy, my, nw) (nI 5) a) :
    ∀ d i n cy1, i + d = m → d < n → (∀ j, j < 800 → cy1 j = cy j) → (∀ r, r < i → ∀ c, c < 4 → vy_r cy1 5 r c = up_r (vy_r cy 5) my nw col r c) → (∀ j, 800 + 4 * i ≤ j → cy1 j = cy j) → wY_update_55 post (nI col) a yd yu yc yf n (nI i) cy1 cn sy os ny sz ln py ry fy my nw := by
  intro d
  induction d with
  | zero =>
    intro i n cy1 hi hn a1 a2 a3
    obtain ⟨n, rfl⟩ : ∃ m, n = m + 1 := ⟨n - 1, by omega⟩
    obtain rfl : i = m := by omega
    refine br_t (by rw [hc0]; exact Int32.le_refl _) (yb_fin hm hc5 (fun j hj => ?_) (fun g cy' b1 => hB g cy' (fun j hj => by rw [b1 j hj, a1 j hj])) (fun g cy' b1 b2 b3 => hS g cy' (fun j hj => by rw [b1 j hj, a1 j hj]) b2 b3))
    rw [hf j hj, or_v]
    unfold xr_T
    rw [a2 j hj 0 (by omega), a2 j hj 1 (by omega), a2 j hj 2 (by omega), a2 j hj 3 (by omega)]
  | succ d ih =>
    intro i n cy1 hi hn a1 a2 a3
    obtain ⟨n, rfl⟩ : ∃ m, n = m + 1 := ⟨n - 1, by omega⟩
    have vi : vp_in (nI i) 40 := vp_in_nI (by omega) (by omega)
    refine br_f (by rw [hc0]; exact nI_ge (by omega) (by omega)) ⟨vi, ?_⟩
    rw [nI_clamp (by omega)]
    have old : ∀ c, c < 4 → vy_r cy1 5 i c = vy_r cy 5 i c := fun c hc => a3 _ (by omega)
    refine br_c (fun z => nm_r (nI_1 i) (ih (i + 1) n cy1 (by omega) (by omega) a1 (fun r hr c hc => ?_) (fun j hj => a3 j (by omega)))) (fun z => ⟨vi, ?_⟩)
    · by_cases e : r = i
      · subst e
        rw [old c hc]
        exact (if_neg (fun q => q.2 z)).symm
      · exact a2 r (by omega) c hc
    · have e8 : 800 + 4 * nI i + nI col = nI (800 + 4 * i + col) := by
        show nI 800 + nI 4 * nI i + nI col = _
        rw [pk_mul, nI_add, nI_add]
      refine ⟨pk_in (800 + 4 * i + col) 960 (by omega) e8, nm_r (e' := upd cy1 (800 + 4 * i + col) (nw i)) (by rw [e8, nI_clamp (by omega)]) (nm_r (nI_1 i) (ih (i + 1) n _ (by omega) (by omega) (fun j hj => ?_) (fun r hr c hc => ?_) (fun j hj => ?_)))⟩
      · rw [pk_un (by omega)]; exact a1 j hj
      · show upd cy1 (800 + 4 * i + col) (nw i) (160 * 5 + 4 * r + c) = _
        by_cases e : r = i
        · subst e
          by_cases ec : c = col
          · subst ec
            rw [show 160 * 5 + 4 * r + c = 800 + 4 * r + c from by omega, pk_us]
            exact (if_pos ⟨rfl, z⟩).symm
          · rw [pk_un (by omega)]
            have : up_r (vy_r cy 5) my nw col r c = vy_r cy 5 r c := if_neg (fun q => ec q.1)
            rw [this]; exact old c hc
        · rw [pk_un (by omega)]; exact a2 r (by omega) c hc
      · rw [pk_un (by omega)]; exact a3 j (by omega)
theorem yb_cp_l {post : Int32 → SY → Prop} {m : Nat} {a : Int32} {f : Nat → ro_T} (hc0 : cn 0 = nI m) (hm : m + ra_k my m ≤ 40)
    (hf0 : ∀ j, j < m → f j = or_r cy j) (hf : ∀ r, r < m → ¬ my r = 0 → f (m + ra_k my r) = (nw r, vy_r cy 0 r 1, vy_r cy 0 r 2, vy_r cy 0 r 3))
    (hB : ¬ gd_K f (m + ra_k my m) → ∀ cy' cn', (∀ j, j < 800 → cy' j = cy j) → (∀ t, t < 5 → cn' t = cn t) → post (-1000000006) (yd, yu, yc, yf, cy', cn', sy, os, ny, sz, ln, py, ry, fy, my, nw))
    (hS : gd_K f (m + ra_k my m) → ∀ cy' cn', (∀ j, j < 800 → cy' j = cy j) → (∀ t, t < 5 → cn' t = cn t) → cn' 5 = nI (m + ra_k my m) → pm_E f (or_r cy') (m + ra_k my m) → so_R (or_r cy') (m + ra_k my m) → wpY_settle post (yd, yu, yc, yf, cy', cn', sy, os, ny, sz, ln, py, ry, fy, my, nw) (nI 5) a) :
    ∀ d i n cy1 cn1, i + d = m → d < n → (∀ j, j < 800 → cy1 j = cy j) → (∀ t, t < 5 → cn1 t = cn t) → cn1 5 = nI (m + ra_k my i) → (∀ j, j < m + ra_k my i → or_r cy1 j = f j) → wY_copy_60 post a n (nI i) yd yu yc yf cy1 cn1 sy os ny sz ln py ry fy my nw := by
  intro d
  induction d with
  | zero =>
    intro i n cy1 cn1 hi hn a1 a2 a3 a4
    obtain ⟨n, rfl⟩ : ∃ m, n = m + 1 := ⟨n - 1, by omega⟩
    obtain rfl : i = m := by omega
    exact br_t (by rw [a2 0 (by omega), hc0]; exact Int32.le_refl _) (yb_fin hm a3 a4 (fun g cy' b1 => hB g cy' cn1 (fun j hj => by rw [b1 j hj, a1 j hj]) a2) (fun g cy' b1 b2 b3 => hS g cy' cn1 (fun j hj => by rw [b1 j hj, a1 j hj]) a2 a3 b2 b3))
  | succ d ih =>
    intro i n cy1 cn1 hi hn a1 a2 a3 a4
    obtain ⟨n, rfl⟩ : ∃ m, n = m + 1 := ⟨n - 1, by omega⟩
    have vi : vp_in (nI i) 40 := vp_in_nI (by omega) (by omega)
    refine br_f (by rw [a2 0 (by omega), hc0]; exact nI_ge (by omega) (by omega)) ⟨vi, ?_⟩
    rw [nI_clamp (by omega)]
    refine br_c (fun z => nm_r (nI_1 i) (ih (i + 1) n cy1 cn1 (by omega) (by omega) a1 a2 (by rw [ra_s0 z]; exact a3) (by rw [ra_s0 z]; exact a4))) (fun z => ⟨vi, ?_⟩)
    have hlt : ra_k my i < ra_k my m := ra_lt (by omega) z
    refine yc_cell (t := 0) (c := 1) (by omega) (by omega) (by omega) (yc_cell (t := 0) (c := 2) (by omega) (by omega) (by omega) (yc_cell (t := 0) (c := 3) (by omega) (by omega) (by omega) ?_))
    refine yb_add (r := m + ra_k my i) (by omega) a3 (fun cy' b1 b2 => nm_r (nI_1 i) (ih (i + 1) n cy' _ (by omega) (by omega) (fun j hj => ?_) (fun t ht => ?_) ?_ (fun j hj => ?_)))
    · rw [b2 j (by omega), a1 j hj]
    · rw [pk_un (by omega), a2 t ht]
    · rw [pk_us, ra_s1 z]; rfl
    · rw [ra_s1 z] at hj
      by_cases e : j = m + ra_k my i
      · subst e
        rw [b1, hf i (by omega) z, a1 _ (by omega), a1 _ (by omega), a1 _ (by omega)]
        rfl
      · rw [or_e (fun c hc => b2 _ (by omega))]; exact a4 j (by omega)
/-- delete's loop: the rows that are kept -/
def kp_F (my : Nat → Int32) : Nat → Int32 := fun r => if my r = 0 then 1 else 0
theorem kp_1 {r : Nat} (h : my r = 0) : ¬ kp_F my r = 0 := by
  have : kp_F my r = 1 := if_pos h
  rw [this]; decide
theorem kp_0 {r : Nat} (h : ¬ my r = 0) : kp_F my r = 0 := if_neg h
theorem yb_dl_l {post : Int32 → SY → Prop} {m : Nat} {a : Int32} (hc0 : cn 0 = nI m) (hm : m ≤ 40)
    (h : ∀ cy' cn', (∀ j, 160 ≤ j → j < 800 → cy' j = cy j) → (∀ t, 1 ≤ t → t < 5 → cn' t = cn t) → cn' 0 = nI (ra_k (kp_F my) m) → (∀ r, r < m → my r = 0 → ∀ c, c < 4 → vy_r cy' 0 (ra_k (kp_F my) r) c = vy_r cy 0 r c) → post a (yd, yu, yc, yf, cy', cn', sy, os, ny, sz, ln, py, ry, fy, my, nw)) :
    ∀ d i n cy1 cn1, i + d = m → d < n → (∀ j, j < 800 → cy1 j = cy j) → (∀ t, t < 5 → cn1 t = cn t) → cn1 5 = nI (ra_k (kp_F my) i) → (∀ r, r < i → my r = 0 → or_r cy1 (ra_k (kp_F my) r) = (vy_r cy 0 r 0, vy_r cy 0 r 1, vy_r cy 0 r 2, vy_r cy 0 r 3)) → wY_delete_35 post a n (nI i) yd yu yc yf cy1 cn1 sy os ny sz ln py ry fy my nw := by
  intro d
  induction d with
  | zero =>
    intro i n cy1 cn1 hi hn a1 a2 a3 a4
    obtain ⟨n, rfl⟩ : ∃ m, n = m + 1 := ⟨n - 1, by omega⟩
    obtain rfl : i = m := by omega
    refine br_t (by rw [a2 0 (by omega), hc0]; exact Int32.le_refl _) (yc_list (t := 5) (u := 0) (by omega) (by omega) (by omega) (fun cy' cn' hl => h cy' cn' (fun j h1 h2 => ?_) (fun t h1 h2 => ?_) ?_ (fun r hr hz c hc => ?_)))
    · rw [hl.2.1 j (by omega), a1 j h2]
    · rw [hl.2.2, pk_un (by omega), a2 t h2]
    · rw [hl.2.2, pk_us, a3]
    · have hle : ra_k (kp_F my) r < 40 := Nat.lt_of_le_of_lt (ra_le _ r) (by omega)
      have e := a4 r hr hz
      rw [or_v] at e
      have q : vy_r cy' 0 (ra_k (kp_F my) r) c = vy_r cy1 5 (ra_k (kp_F my) r) c := by
        show cy' (160 * 0 + 4 * _ + c) = cy1 (160 * 5 + 4 * _ + c)
        rw [Nat.add_assoc, Nat.add_assoc]
        exact hl.1 _ (by omega)
      rw [q]
      rcases (by omega : c = 0 ∨ c = 1 ∨ c = 2 ∨ c = 3) with rfl | rfl | rfl | rfl
      · exact congrArg (fun x : ro_T => x.1) e
      · exact congrArg (fun x : ro_T => x.2.1) e
      · exact congrArg (fun x : ro_T => x.2.2.1) e
      · exact congrArg (fun x : ro_T => x.2.2.2) e
  | succ d ih =>
    intro i n cy1 cn1 hi hn a1 a2 a3 a4
    obtain ⟨n, rfl⟩ : ∃ m, n = m + 1 := ⟨n - 1, by omega⟩
    have hle : ra_k (kp_F my) i ≤ i := ra_le _ i
    refine br_f (by rw [a2 0 (by omega), hc0]; exact nI_ge (by omega) (by omega)) ⟨vp_in_nI (by omega) (by omega), ?_⟩
    rw [nI_clamp (by omega)]
    refine br_c (fun z => ?_) (fun z => nm_r (nI_1 i) (ih (i + 1) n cy1 cn1 (by omega) (by omega) a1 a2 (by rw [ra_s0 (kp_0 z)]; exact a3) (fun r hr hz => ?_)))
    · refine yc_cell (t := 0) (c := 0) (by omega) (by omega) (by omega) (yc_cell (t := 0) (c := 1) (by omega) (by omega) (by omega) (yc_cell (t := 0) (c := 2) (by omega) (by omega) (by omega) (yc_cell (t := 0) (c := 3) (by omega) (by omega) (by omega) ?_)))
      refine yb_add (r := ra_k (kp_F my) i) (by omega) a3 (fun cy' b1 b2 => nm_r (nI_1 i) (ih (i + 1) n cy' _ (by omega) (by omega) (fun j hj => ?_) (fun t ht => ?_) ?_ (fun r hr hz => ?_)))
      · rw [b2 j (by omega), a1 j hj]
      · rw [pk_un (by omega), a2 t ht]
      · rw [pk_us, ra_s1 (kp_1 z)]
      · by_cases e : r = i
        · subst e
          rw [b1, a1 _ (by omega), a1 _ (by omega), a1 _ (by omega), a1 _ (by omega)]
          rfl
        · have : ra_k (kp_F my) r < ra_k (kp_F my) i := ra_lt (by omega) (kp_1 hz)
          rw [or_e (fun c hc => b2 _ (by omega))]; exact a4 r (by omega) hz
    · by_cases e : r = i
      · subst e; exact absurd hz z
      · exact a4 r (by omega) hz
end
