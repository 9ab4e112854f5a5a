/-! Y's work against the machine -/
section
variable {xs xu xc : Int32} {th cx sx kd nm ct : Nat → Int32} {op : Nat → Int64} {pa mx rx : Nat → Int32} {yd yu yc yf : Int32} {cy cn sy os ny sz ln py ry fy my nw : Nat → Int32}
def tm_yk (k : Int32) : Int32 := if 2 < k then (if 4 < k then k + 15 else k + 7) else k
theorem tk_3 : ∀ j, j < 16 → (3 ≤ tm_yk (nI j) ↔ 2 < nI j) := by decide +kernel
theorem tk_20 : ∀ j, j < 16 → (20 ≤ tm_yk (nI j) ↔ 4 < nI j) := by decide +kernel
theorem tk_28 : ∀ j, j < 16 → (28 ≤ tm_yk (nI j) ↔ 12 < nI j) := by decide +kernel
theorem tk_30 : ∀ j, j < 16 → (30 ≤ tm_yk (nI j) ↔ 14 < nI j) := by decide +kernel
theorem tk_e0 : ∀ j, j < 16 → (tm_yk (nI j) = 0 ↔ nI j = 0) := by decide +kernel
theorem tk_e1 : ∀ j, j < 16 → (tm_yk (nI j) = 1 ↔ nI j = 1) := by decide +kernel
theorem tk_e10 : ∀ j, j < 16 → (tm_yk (nI j) = 10 ↔ nI j = 3) := by decide +kernel
theorem tk_e23 : ∀ j, j < 16 → (tm_yk (nI j) = 23 ↔ nI j = 8) := by decide +kernel
theorem tk_e28 : ∀ j, j < 16 → (tm_yk (nI j) = 28 ↔ nI j = 13) := by decide +kernel
theorem tm_mem {K : Nat → Int32} : ∀ {i q : Nat}, q ∈ tm_ps K i → 1 ≤ q ∧ q ≤ i := by
  intro i
  induction i with
  | zero => intro q h; exact absurd h (List.not_mem_nil)
  | succ i ih =>
    intro q h
    have h' : q ∈ (i + 1) :: (tm_ps K i).drop (tm_ar (K i)) := h
    rcases List.mem_cons.mp h' with e | m
    · omega
    · have := ih (List.mem_of_mem_drop m)
      omega
theorem tm_suf {K : Nat → Int32} : ∀ {i : Nat} {l : List Nat} {q : Nat} {S : List Nat}, tm_ps K i = l ++ q :: S → tm_ps K q = q :: S := by
  intro i
  induction i with
  | zero =>
    intro l q S h
    have h' : ([] : List Nat) = l ++ q :: S := h
    exact absurd h'.symm (by simp)
  | succ i ih =>
    intro l q S h
    have h' : (i + 1) :: (tm_ps K i).drop (tm_ar (K i)) = l ++ q :: S := h
    match l, h' with
    | [], h' =>
      have e : i + 1 = q := (List.cons.inj h').1
      rw [← e]
      rw [← e] at h
      exact h
    | a :: l, h' =>
      have e := (List.cons.inj h').2
      refine ih (l := (tm_ps K i).take (tm_ar (K i)) ++ l) (q := q) (S := S) ?_
      rw [List.append_assoc]
      have := List.take_append_drop (tm_ar (K i)) (tm_ps K i)
      rw [← this]
      rw [this]
      conv => lhs; rw [← this]
      rw [e]
      rfl
theorem tm_sz {K N Z : Nat → Int32} {L : Nat} (hW : tm_W K N Z L) {q : Nat} {S : List Nat} (h1 : 1 ≤ q) (hq : q ≤ L) (h : tm_ps K q = q :: S) : Z (q - 1) = nI (q - S.headD 0) := by
  match q, h1 with
  | q + 1, _ =>
    have h' : (q + 1) :: (tm_ps K q).drop (tm_ar (K q)) = (q + 1) :: S := h
    have e := (List.cons.inj h').2
    have := (hW.2 q (by omega)).2.2.2.2.2
    rw [e] at this
    exact this
/-- the value of part j as Y keeps it -/
def yv_is (ry fy : Nat → Int32) (j : Nat) : Option Int32 → Prop
  | none => fy j = 1
  | some x => fy j = 0 ∧ ry j = x
theorem yv_to {ry fy ry' fy' : Nat → Int32} {i : Nat} {V : Nat → Option Int32} (hI : ∀ j, j < i → yv_is ry fy j (V j))
    (hr : ∀ j, j < i → ry' j = ry j) (hf : ∀ j, j < i → fy' j = fy j) (hv : yv_is ry' fy' i (V i)) : ∀ j, j < i + 1 → yv_is ry' fy' j (V j) := by
  intro j hj
  by_cases e : j = i
  · subst e; exact hv
  · have h := hI j (by omega)
    cases hV : V j with
    | none => rw [hV] at h; show fy' j = 1; rw [hf j (by omega)]; exact h
    | some x => rw [hV] at h; exact ⟨by rw [hf j (by omega)]; exact h.1, by rw [hr j (by omega)]; exact h.2⟩
theorem yv_op {post : Int32 → Prop} (v : SY) {k : Int32} (j : Nat) (ek : k = nI j) (h5 : 5 ≤ j) (h12 : j ≤ 12) (x y : Int32) (h : post (if k = 8 ∧ y = 0 then 0 else tm_bin k x y)) : wpY_operate post v (tm_yk k) x y := by
  subst ek
  have hj : j = 5 ∨ j = 6 ∨ j = 7 ∨ j = 8 ∨ j = 9 ∨ j = 10 ∨ j = 11 ∨ j = 12 := by omega
  rcases hj with rfl | rfl | rfl | rfl | rfl | rfl | rfl | rfl
  · exact br_f (by decide) (br_t rfl h)
  · exact br_f (by decide) (br_f (by decide) (br_t rfl h))
  · exact br_f (by decide) (br_f (by decide) (br_f (by decide) h))
  · refine br_t (by decide) (br_t rfl ?_)
    by_cases z : y = 0
    · rw [if_pos ⟨rfl, z⟩] at h; exact br_t z h
    · rw [if_neg (fun q => z q.2)] at h; exact br_f z ⟨z, h⟩
  · refine br_t (by decide) (br_f (by decide) (br_f (by decide) (br_t rfl ?_)))
    have e : tm_bin (nI 9) x y = if y ≤ x then 0 else 1 := rfl
    rw [if_neg (fun q => absurd q.1 (by decide)), e] at h
    by_cases z : y ≤ x
    · rw [if_pos z] at h; exact br_t z (br_t rfl h)
    · rw [if_neg z] at h; exact br_f z (br_f (by decide) h)
  · refine br_t (by decide) (br_f (by decide) (br_f (by decide) (br_f (by decide) ?_)))
    have e : tm_bin (nI 10) x y = if x = y then 1 else 0 := rfl
    rw [if_neg (fun q => absurd q.1 (by decide)), e] at h
    by_cases z : x = y
    · rw [if_pos z] at h; exact br_t z (br_f (by decide) h)
    · rw [if_neg z] at h; exact br_f z (br_t rfl h)
  · refine br_t (by decide) (br_f (by decide) (br_t (by decide) (br_t rfl ?_)))
    have e : tm_bin (nI 11) x y = if y ≤ x then y else x := rfl
    rw [if_neg (fun q => absurd q.1 (by decide)), e] at h
    by_cases z : y ≤ x
    · rw [if_pos z] at h; exact br_t z h
    · rw [if_neg z] at h; exact br_f z h
  · refine br_t (by decide) (br_f (by decide) (br_t (by decide) (br_f (by decide) ?_)))
    have e : tm_bin (nI 12) x y = if x ≤ y then y else x := rfl
    rw [if_neg (fun q => absurd q.1 (by decide)), e] at h
    by_cases z : x ≤ y
    · rw [if_pos z] at h; exact br_t z h
    · rw [if_neg z] at h; exact br_f z h
/-- what the rest of a part's work is given: i's value may be stored -/
def yw_F (post : SY → Prop) (yd yu yc yf : Int32) (cy cn sy os ny sz ln py ry fy my nw : Nat → Int32) (i : Nat) (v : Option Int32) : Prop :=
  ∀ ry' fy' : Nat → Int32, (∀ j, j < i → ry' j = ry j) → (∀ j, j < i → fy' j = fy j) → yv_is ry' fy' i v → post (yd, yu, yc, yf, cy, cn, sy, os, ny, sz, ln, py, ry', fy', my, nw)
theorem ye_ar {post : SY → Prop} {e i x y j0 : Nat} {k : Int32} {vx vy : Option Int32} (ek : k = nI j0) (h5 : 5 ≤ j0) (h12 : j0 ≤ 12) (hi : i < 24) (hx : x < i) (hy : y < i)
    (ix : yv_is ry fy x vx) (iy : yv_is ry fy y vy) (h : yw_F post yd yu yc yf cy cn sy os ny sz ln py ry fy my nw i (tm_two k vx vy)) :
    wY_workPart_113 post (nI e) (nI i) (tm_yk k) (nI y) (nI x) yd yu yc yf cy cn sy os ny sz ln py ry (upd fy i 0) my nw := by
  have cx : (nI x).toNatClampNeg = x := nI_clamp (by omega)
  have cY : (nI y).toNatClampNeg = y := nI_clamp (by omega)
  have ci : (nI i).toNatClampNeg = i := nI_clamp (by omega)
  have b20 : 20 ≤ tm_yk k := by rw [ek]; exact (tk_20 j0 (by omega)).mpr (nI_lt (a := 4) (by omega) (by omega))
  have b28 : ¬ 28 ≤ tm_yk k := by rw [ek, tk_28 j0 (by omega)]; exact nI_nlt (a := 12) (by omega) (by omega)
  have n13 : ¬ k = 13 := by rw [ek]; intro q; have := (nI_eq (b := 13) (by omega) (by omega)).mp q; omega
  have n14 : ¬ k = 14 := by rw [ek]; intro q; have := (nI_eq (b := 14) (by omega) (by omega)).mp q; omega
  have vi : vp_in (nI i) 24 := vp_in_nI (by omega) (by omega)
  refine br_t b20 (br_f b28 ⟨vp_in_nI (by omega) (by omega), vp_in_nI (by omega) (by omega), ?_⟩)
  refine yv_op _ j0 ek h5 h12 _ _ ?_
  refine ⟨vi, nm_r (by rw [ci, cx, cY]) ⟨vp_in_nI (by omega) (by omega), ?_⟩⟩
  rw [cx, cY, ci, pk_un (f := fy) (by omega), pk_un (f := fy) (by omega), pk_un (f := ry) (by omega)]
  have fin : ∀ (w : Int32) (b : Int32), yv_is (upd ry i w) (upd (upd fy i 0) i b) i (tm_two k vx vy) → post (yd, yu, yc, yf, cy, cn, sy, os, ny, sz, ln, py, (upd ry i w), (upd (upd fy i 0) i b), my, nw) := by
    intro w b hv
    refine h _ _ (fun j hj => pk_un (by omega)) (fun j hj => by rw [pk_un (by omega), pk_un (by omega)]) hv
  cases vx with
  | none =>
    have fx : fy x = 1 := ix
    exact br_f (by rw [fx]; decide) ⟨vi, nm_e (fin _ _ (by cases vy <;> exact pk_us))⟩
  | some a =>
    obtain ⟨fx, rx⟩ := ix
    refine br_t fx ⟨vp_in_nI (by omega) (by omega), ?_⟩
    cases vy with
    | none =>
      have f1 : fy y = 1 := iy
      refine br_f (by rw [f1]; decide) ⟨vi, nm_e (fin _ _ ?_)⟩
      have : tm_two k (some a) none = none := by simp only [tm_two, n13, n14, false_and, if_false]
      rw [this]; exact pk_us
    | some b =>
      obtain ⟨f0, r0⟩ := iy
      refine br_t f0 (br_c (fun q => ⟨vp_in_nI (by omega) (by omega), ?_⟩) (fun q => ⟨vi, nm_e (fin _ _ ?_)⟩))
      · have e8 : k = 8 := by rw [ek] at q ⊢; exact (tk_e23 j0 (by omega)).mp q
        rw [r0]
        by_cases z : b = 0
        · refine br_t z ⟨vi, nm_e (fin _ _ ?_)⟩
          have : tm_two k (some a) (some b) = none := by simp only [tm_two, n13, n14, false_and, if_false, if_pos (And.intro e8 z)]
          rw [this]; exact pk_us
        · refine br_f z ⟨vi, nm_e (fin _ _ ?_)⟩
          have n8 : ¬ (k = 8 ∧ b = 0) := fun q => z q.2
          have : tm_two k (some a) (some b) = some (tm_bin k a b) := by simp only [tm_two, n13, n14, false_and, if_false, if_neg n8]
          rw [this]
          exact ⟨pk_us, by rw [pk_us, if_neg n8, rx]⟩
      · have n8 : ¬ k = 8 := fun z => q (by rw [z]; decide)
        have n8' : ¬ (k = 8 ∧ b = 0) := fun q => n8 q.1
        have : tm_two k (some a) (some b) = some (tm_bin k a b) := by simp only [tm_two, n13, n14, false_and, if_false, if_neg n8']
        rw [this]
        refine ⟨pk_us, ?_⟩
        rw [pk_us, r0, rx, if_neg n8']
theorem ye_one {post : SY → Prop} {e i y j0 : Nat} {k : Int32} {vy : Option Int32} (ek : k = nI j0) (h3 : 3 ≤ j0) (h4 : j0 ≤ 4) (hi : i < 24) (hy : y < i)
    (iy : yv_is ry fy y vy) (h : yw_F post yd yu yc yf cy cn sy os ny sz ln py ry fy my nw i (tm_one k vy)) :
    wY_workPart_113 post (nI e) (nI i) (tm_yk k) (nI y) (nI y) yd yu yc yf cy cn sy os ny sz ln py ry (upd fy i 0) my nw := by
  have cY : (nI y).toNatClampNeg = y := nI_clamp (by omega)
  have ci : (nI i).toNatClampNeg = i := nI_clamp (by omega)
  have b20 : ¬ 20 ≤ tm_yk k := by rw [ek, tk_20 j0 (by omega)]; exact nI_nlt (a := 4) (by omega) (by omega)
  have vi : vp_in (nI i) 24 := vp_in_nI (by omega) (by omega)
  have vy' : vp_in (nI y) 24 := vp_in_nI (by omega) (by omega)
  have fin : ∀ w, (∀ a, vy = some a → w = (if k = 4 then (if a = 0 then 1 else 0) else -a)) → wY_workPart_160 post (nI i) (nI y) w (nI i) yd yu yc yf cy cn sy os ny sz ln py ry (upd fy i 0) my nw := by
    intro w hw
    refine ⟨vi, nm_r (by rw [ci]) ⟨vy', vi, nm_r (by rw [ci, cY, pk_un (by omega)]) ?_⟩⟩
    have b01 : fy y = 0 ∨ fy y = 1 := by
      cases vy with
      | none => exact Or.inr iy
      | some a => exact Or.inl iy.1
    rw [ab_bn _ b01]
    refine h _ _ (fun j hj => pk_un (by omega)) (fun j hj => by rw [pk_un (by omega), pk_un (by omega)]) ?_
    cases vy with
    | none => show upd _ i _ i = 1; rw [pk_us]; exact iy
    | some a => exact ⟨by rw [pk_us]; exact iy.1, by rw [pk_us]; exact hw a rfl⟩
  refine br_f b20 (br_c (fun q => ⟨vy', fin _ ?_⟩) (fun q => ⟨vy', ?_⟩))
  · intro a ea
    rw [ea] at iy
    have e3 : k = 3 := by rw [ek] at q ⊢; exact (tk_e10 j0 (by omega)).mp q
    rw [cY, iy.2, e3]; rfl
  · have n3 : ¬ k = 3 := fun z => q (by rw [z]; decide)
    have e4 : k = 4 := by
      have : ¬ j0 = 3 := fun z => n3 (by rw [ek, z]; rfl)
      rw [ek, show j0 = 4 from by omega]; rfl
    rw [cY]
    refine br_c (fun z => fin _ ?_) (fun z => fin _ ?_)
    · intro a ea
      rw [ea] at iy
      rw [iy.2] at z
      rw [if_pos e4, if_pos z]
    · intro a ea
      rw [ea] at iy
      rw [iy.2] at z
      rw [if_pos e4, if_neg z]
end
