/-! terms: a pure machine; X's values against it -/
def tm_ar (k : Int32) : Nat := if 2 < k then (if 4 < k then (if 14 < k then 3 else 2) else 1) else 0
def tm_ps (K : Nat → Int32) : Nat → List Nat
  | 0 => []
  | i + 1 => (i + 1) :: (tm_ps K i).drop (tm_ar (K i))
def tm_one (k : Int32) : Option Int32 → Option Int32
  | none => none
  | some x => some (if k = 4 then (if x = 0 then 1 else 0) else -x)
def tm_bin (k x y : Int32) : Int32 :=
  if k = 5 then x + y else if k = 6 then x - y else if k = 7 then x * y else if k = 8 then x / y
  else if k = 9 then (if y ≤ x then 0 else 1) else if k = 10 then (if x = y then 1 else 0)
  else if k = 11 then (if y ≤ x then y else x) else if k = 12 then (if x ≤ y then y else x) else (if y = 0 then 0 else 1)
def tm_two (k : Int32) : Option Int32 → Option Int32 → Option Int32
  | none, _ => none
  | some x, none => if k = 13 ∧ x = 0 then some 0 else if k = 14 ∧ ¬ x = 0 then some 1 else none
  | some x, some y => if k = 13 ∧ x = 0 then some 0 else if k = 14 ∧ ¬ x = 0 then some 1 else if k = 8 ∧ y = 0 then none else some (tm_bin k x y)
def tm_ch : Option Int32 → Option Int32 → Option Int32 → Option Int32
  | none, _, _ => none
  | some c, x, y => if c = 0 then y else x
def tm_lf (k n : Int32) (row par : Nat → Int32) : Int32 := if k = 0 then n else if k = 1 then row n.toNatClampNeg else par n.toNatClampNeg
def tm_v3 : List (Option Int32) → Option Int32
  | y :: x :: c :: _ => tm_ch c x y
  | _ => none
def tm_v2 (k : Int32) : List (Option Int32) → Option Int32
  | y :: x :: _ => tm_two k x y
  | _ => none
def tm_v1 (k : Int32) : List (Option Int32) → Option Int32
  | x :: _ => tm_one k x
  | _ => none
def tm_v (k n : Int32) (row par : Nat → Int32) (S : List (Option Int32)) : Option Int32 :=
  if 2 < k then (if 4 < k then (if 14 < k then tm_v3 S else tm_v2 k S) else tm_v1 k S) else some (tm_lf k n row par)
def tm_vs (K N : Nat → Int32) (row par : Nat → Int32) : Nat → List (Option Int32)
  | 0 => []
  | i + 1 => tm_v (K i) (N i) row par (tm_vs K N row par i) :: (tm_vs K N row par i).drop (tm_ar (K i))
/-- the value of part j -/
def tm_V (K N row par : Nat → Int32) (j : Nat) : Option Int32 := tm_v (K j) (N j) row par (tm_vs K N row par j)
theorem tm_len (K N row par : Nat → Int32) : ∀ i, (tm_vs K N row par i).length = (tm_ps K i).length := by
  intro i
  induction i with
  | zero => rfl
  | succ i ih => simp [tm_vs, tm_ps, List.length_drop, ih]
theorem tm_map (K N row par : Nat → Int32) : ∀ i, tm_vs K N row par i = (tm_ps K i).map (fun p => tm_V K N row par (p - 1)) := by
  intro i
  induction i with
  | zero => rfl
  | succ i ih =>
    simp only [tm_vs, tm_ps, List.map_cons, List.map_drop, Nat.add_sub_cancel]
    rw [← ih]
    rfl
/-- a term as it must be: its kinds, its operands, its numbers, and Y's sizes -/
def tm_W (K N Z : Nat → Int32) (L : Nat) : Prop :=
  L ≤ 24 ∧ ∀ i, i < L → (0 ≤ K i ∧ K i ≤ 15) ∧ tm_ar (K i) ≤ (tm_ps K i).length ∧ (tm_ps K (i + 1)).length ≤ 8 ∧
    (K i = 1 → ∃ c, c < 4 ∧ N i = nI c) ∧ (K i = 2 → ∃ c, c < 3 ∧ N i = nI c) ∧ Z i = nI (i + 1 - ((tm_ps K i).drop (tm_ar (K i))).headD 0)
theorem tm_16 {k : Int32} (h0 : 0 ≤ k) (h : k ≤ 15) : ∃ j, j < 16 ∧ k = nI j := by
  obtain ⟨j, hj, e⟩ := nI_of2 (M := 15) (n := 15) (by decide) (Int32.not_lt.mpr h0) h
  exact ⟨j, by omega, e⟩
def tm_e : Option Int32 → Int64
  | none => 1099511627776
  | some v => v.toInt64
theorem tm_eT (v : Int32) : v.toInt64.toInt = v.toInt := Int32.toInt_toInt64 v
theorem tm_ne (v : Int32) : ¬ v.toInt64 = 1099511627776 := by
  intro e
  have h := congrArg Int64.toInt e
  rw [tm_eT, show (1099511627776 : Int64).toInt = 1099511627776 from by decide] at h
  have := Int32.toInt_lt v
  omega
theorem tm_e0 (v : Int32) : v.toInt64 = 0 ↔ v = 0 := by
  constructor
  · intro e
    have h := congrArg Int64.toInt e
    rw [tm_eT] at h
    exact Int32.toInt_inj.mp h
  · intro e; rw [e]; rfl
theorem tm_eq (v w : Int32) : v.toInt64 = w.toInt64 ↔ v = w := by
  constructor
  · intro e
    have h := congrArg Int64.toInt e
    rw [tm_eT, tm_eT] at h
    exact Int32.toInt_inj.mp h
  · intro e; rw [e]
theorem tm_le (v w : Int32) : v.toInt64 ≤ w.toInt64 ↔ v ≤ w := by
  rw [Int64.le_iff_toInt_le, Int32.le_iff_toInt_le, tm_eT, tm_eT]
theorem tm_bk (v : Int32) : v.toInt64.toInt32 = v := Int32.toInt32_toInt64 v
theorem tm_neg (v : Int32) : (-v.toInt64).toInt32 = -v := by rw [Int64.toInt32_neg, tm_bk]
theorem tm_add (v w : Int32) : (v.toInt64 + w.toInt64).toInt32 = v + w := by rw [Int64.toInt32_add, tm_bk, tm_bk]
theorem tm_sub (v w : Int32) : (v.toInt64 - w.toInt64).toInt32 = v - w := by rw [Int64.toInt32_sub, tm_bk, tm_bk]
theorem tm_mul (v w : Int32) : (v.toInt64 * w.toInt64).toInt32 = v * w := by rw [Int64.toInt32_mul, tm_bk, tm_bk]
theorem tm_div (v w : Int32) : (v.toInt64 / w.toInt64).toInt32 = v / w := by
  by_cases h : v = Int32.minValue ∧ w = -1
  · rw [h.1, h.2]; decide
  · by_cases a : v = Int32.minValue
    · rw [← Int32.toInt64_div_of_ne_right v w (fun b => h ⟨a, b⟩), tm_bk]
    · rw [← Int32.toInt64_div_of_ne_left v w a, tm_bk]
theorem xv_one {post : Int64 → Prop} (k : Int32) (x : Option Int32) (h : post (tm_e (tm_one k x))) : wpX_oneValue post k (tm_e x) := by
  cases x with
  | none => exact br_t rfl h
  | some v =>
    refine br_f (tm_ne v) (br_c (fun hk => ?_) (fun hk => ?_))
    · by_cases z : v = 0
      · refine br_t ((tm_e0 v).mpr z) ?_
        simpa [tm_one, tm_e, hk, z] using h
      · refine br_f (fun y => z ((tm_e0 v).mp y)) ?_
        simpa [tm_one, tm_e, hk, z] using h
    · show post ((-v.toInt64).toInt32).toInt64
      rw [tm_neg]
      simpa [tm_one, tm_e, hk] using h
theorem xv_ch {post : Int64 → Prop} (c x y : Option Int32) (h : post (tm_e (tm_ch c x y))) : wpX_chosenValue post (tm_e c) (tm_e x) (tm_e y) := by
  cases c with
  | none => exact br_t rfl h
  | some v =>
    refine br_f (tm_ne v) ?_
    by_cases z : v = 0
    · refine br_t ((tm_e0 v).mpr z) ?_
      simpa [tm_ch, z] using h
    · refine br_f (fun y => z ((tm_e0 v).mp y)) ?_
      simpa [tm_ch, z] using h
theorem xv_bin {post : Int64 → Prop} {k : Int32} (h5 : ¬ k < 5) (x y : Int32) (h8 : ¬ (k = 8 ∧ y = 0)) (h : post (tm_bin k x y).toInt64) : wX_twoValue_40 post k x.toInt64 y.toInt64 := by
  refine br_f (tm_ne y) (br_f h5 (br_c (fun hk => ?_) (fun hk => ?_)))
  · have e : tm_bin k x y = if y = 0 then 0 else 1 := by
      have n5 : ¬ k = 5 := fun e => absurd hk (by rw [e]; decide)
      have n6 : ¬ k = 6 := fun e => absurd hk (by rw [e]; decide)
      have n7 : ¬ k = 7 := fun e => absurd hk (by rw [e]; decide)
      have n8 : ¬ k = 8 := fun e => absurd hk (by rw [e]; decide)
      have n9 : ¬ k = 9 := fun e => absurd hk (by rw [e]; decide)
      have n10 : ¬ k = 10 := fun e => absurd hk (by rw [e]; decide)
      have n11 : ¬ k = 11 := fun e => absurd hk (by rw [e]; decide)
      have n12 : ¬ k = 12 := fun e => absurd hk (by rw [e]; decide)
      simp only [tm_bin, n5, n6, n7, n8, n9, n10, n11, n12, if_false]
    rw [e] at h
    by_cases z : y = 0
    · rw [if_pos z] at h; exact br_t ((tm_e0 y).mpr z) h
    · rw [if_neg z] at h; exact br_f (fun q => z ((tm_e0 y).mp q)) h
  · refine br_c (fun e => ?_) (fun n5 => br_c (fun e => ?_) (fun n6 => br_c (fun e => ?_) (fun n7 => br_c (fun e => ?_) (fun n8 => br_c (fun e => ?_) (fun n9 => br_c (fun e => ?_) (fun n10 => br_c (fun e => ?_) (fun n11 => br_c (fun e => ?_) (fun _ => trivial))))))))
    · rw [tm_add]; subst e; exact h
    · rw [tm_sub]; subst e; exact h
    · rw [tm_mul]; subst e; exact h
    · have z : ¬ y = 0 := fun z => h8 ⟨e, z⟩
      refine br_f (fun q => z ((tm_e0 y).mp q)) ⟨fun q => z ((tm_e0 y).mp q), ?_⟩
      rw [tm_div]; subst e; exact h
    · subst e
      have e : tm_bin 9 x y = if y ≤ x then 0 else 1 := rfl
      rw [e] at h
      by_cases z : y ≤ x
      · rw [if_pos z] at h; exact br_t ((tm_le y x).mpr z) h
      · rw [if_neg z] at h; exact br_f (fun q => z ((tm_le y x).mp q)) h
    · subst e
      have e : tm_bin 10 x y = if x = y then 1 else 0 := rfl
      rw [e] at h
      by_cases z : x = y
      · rw [if_pos z] at h; exact br_t ((tm_eq x y).mpr z) h
      · rw [if_neg z] at h; exact br_f (fun q => z ((tm_eq x y).mp q)) h
    · subst e
      have e : tm_bin 11 x y = if y ≤ x then y else x := rfl
      rw [e] at h
      by_cases z : y ≤ x
      · rw [if_pos z] at h; exact br_t ((tm_le y x).mpr z) h
      · rw [if_neg z] at h; exact br_f (fun q => z ((tm_le y x).mp q)) h
    · subst e
      have e : tm_bin 12 x y = if x ≤ y then y else x := rfl
      rw [e] at h
      by_cases z : x ≤ y
      · rw [if_pos z] at h; exact br_t ((tm_le x y).mpr z) h
      · rw [if_neg z] at h; exact br_f (fun q => z ((tm_le x y).mp q)) h
theorem xv_two {post : Int64 → Prop} {k : Int32} (h5 : ¬ k < 5) (h14 : ¬ 14 < k) (x y : Option Int32) (h : post (tm_e (tm_two k x y))) : wpX_twoValue post k (tm_e x) (tm_e y) := by
  cases x with
  | none => exact br_t rfl (by cases y <;> exact h)
  | some v =>
    have key : ¬ (k = 13 ∧ v = 0) → ¬ (k = 14 ∧ ¬ v = 0) → wX_twoValue_40 post k v.toInt64 (tm_e y) := by
      intro a b
      cases y with
      | none =>
        refine br_t rfl ?_
        have h' : post (tm_e none) := by simpa only [tm_two, if_neg a, if_neg b] using h
        exact h'
      | some w =>
        by_cases d : k = 8 ∧ w = 0
        · have h' : post (tm_e none) := by simpa only [tm_two, if_neg a, if_neg b, if_pos d] using h
          obtain ⟨rfl, rfl⟩ := d
          refine br_f (tm_ne 0) (br_f (by decide) (br_f (by decide) (br_f (by decide) (br_f (by decide) (br_f (by decide) (br_t rfl (br_t rfl h')))))))
        · have h' : post (tm_e (some (tm_bin k v w))) := by simpa only [tm_two, if_neg a, if_neg b, if_neg d] using h
          exact xv_bin h5 v w d h'
    have key2 : ¬ (k = 13 ∧ v = 0) → wX_twoValue_26 post k v.toInt64 (tm_e y) := by
      intro a
      refine br_c (fun e => ?_) (fun e => key a (fun q => e q.1))
      by_cases z : v = 0
      · exact br_t ((tm_e0 v).mpr z) (key a (fun q => q.2 z))
      · refine br_f (fun q => z ((tm_e0 v).mp q)) ?_
        have b : k = 14 ∧ ¬ v = 0 := ⟨e, z⟩
        cases y with
        | none => exact (show post (tm_e (some 1)) by simpa only [tm_two, if_neg a, if_pos b] using h)
        | some w => exact (show post (tm_e (some 1)) by simpa only [tm_two, if_neg a, if_pos b] using h)
    refine br_f (tm_ne v) (br_c (fun e => ?_) (fun e => key2 (fun q => e q.1)))
    by_cases z : v = 0
    · refine br_t ((tm_e0 v).mpr z) ?_
      have a : k = 13 ∧ v = 0 := ⟨e, z⟩
      cases y with
      | none => exact (show post (tm_e (some 0)) by simpa only [tm_two, if_pos a] using h)
      | some w => exact (show post (tm_e (some 0)) by simpa only [tm_two, if_pos a] using h)
    · exact br_f (fun q => z ((tm_e0 v).mp q)) (key2 (fun q => z q.2))
