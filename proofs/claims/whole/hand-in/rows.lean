section
/-! pasted pure rows, then small numbers, the rank of a slot, folds over slots and rows -/
theorem pk_us {f : Nat → Int32} {k : Nat} {x : Int32} : upd f k x k = x := if_pos rfl
theorem pk_un {f : Nat → Int32} {k j : Nat} {x : Int32} (h : j ≠ k) : upd f k x j = f j := if_neg h
theorem pk_uLs {f : Nat → Int64} {k : Nat} {x : Int64} : vp_updL f k x k = x := if_pos rfl
theorem pk_uLn {f : Nat → Int64} {k j : Nat} {x : Int64} (h : j ≠ k) : vp_updL f k x j = f j := if_neg h
theorem pk_sub {a b : Nat} (h : b ≤ a) : nI a - nI b = nI (a - b) := by
  obtain ⟨c, rfl⟩ : ∃ c, a = c + b := ⟨a - b, by omega⟩
  rw [← nI_add, Int32.add_sub_cancel, Nat.add_sub_cancel]
theorem pk_m1 (n : Nat) : nI (n + 1) + (-1) = nI n := by
  rw [← nI_1, Int32.add_assoc, show (1 : Int32) + (-1) = 0 from rfl, Int32.add_zero]
theorem pk_mul (a b : Nat) : nI a * nI b = nI (a * b) := (Int32.ofNat_mul a b).symm
theorem pk_sub_toInt {a b : Nat} (ha : a < 2 ^ 30) (hb : b < 2 ^ 30) : (nI a - nI b).toInt = (a : Int) - b := by
  rw [Int32.toInt_sub, nI_toInt (by omega), nI_toInt (by omega)]
  exact Int.bmod_eq_of_le (by omega) (by omega)
theorem pk_sneg {a b : Nat} (hb : b < 2 ^ 30) (h : a < b) : nI a - nI b < 0 := by
  rw [Int32.lt_iff_toInt_lt, pk_sub_toInt (by omega) hb, show (0 : Int32).toInt = 0 from by decide]
  omega
theorem pk_ix (x : Int32) {n : Nat} (hn : n < 2 ^ 31) : x < 0 ∨ nI n ≤ x ∨ ∃ j : Nat, j < n ∧ x = nI j := by
  by_cases h : x < 0
  · exact Or.inl h
  · obtain ⟨j, hj, rfl⟩ := nI_of h
    by_cases h2 : j < n
    · exact Or.inr (Or.inr ⟨j, h2, rfl⟩)
    · exact Or.inr (Or.inl (nI_le (by omega) hj))
theorem pk_le {x y : Int32} {A B : Prop} (a b : Nat) (f : a ≤ b → A) (g : b < a → B) (hx : x = nI a := by rfl) (hy : y = nI b := by rfl) (ha : a < 2 ^ 31 := by omega) (hb : b < 2 ^ 31 := by omega) : (x ≤ y → A) ∧ (¬ x ≤ y → B) := by
  subst hx hy
  rw [nI_leI ha hb]
  exact ⟨f, fun z => g (by omega)⟩
theorem pk_lt {x y : Int32} {A B : Prop} (a b : Nat) (f : a < b → A) (g : b ≤ a → B) (hx : x = nI a := by rfl) (hy : y = nI b := by rfl) (ha : a < 2 ^ 31 := by omega) (hb : b < 2 ^ 31 := by omega) : (x < y → A) ∧ (¬ x < y → B) := by
  subst hx hy
  rw [nI_ltI ha hb]
  exact ⟨f, fun z => g (by omega)⟩
theorem pk_eq {x y : Int32} {A B : Prop} (a b : Nat) (f : a = b → A) (g : a ≠ b → B) (hx : x = nI a := by rfl) (hy : y = nI b := by rfl) (ha : a < 2 ^ 31 := by omega) (hb : b < 2 ^ 31 := by omega) : (x = y → A) ∧ (¬ x = y → B) := by
  subst hx hy
  rw [nI_eq ha hb]
  exact ⟨f, g⟩
theorem pk_in {x : Int32} (n N : Nat) (h : n < N) (hx : x = nI n := by rfl) (hN : N < 2 ^ 31 := by omega) : vp_in x N := by
  subst hx
  exact vp_in_nI h hN
theorem pk_cl {x : Int32} (n : Nat) (hx : x = nI n := by rfl) (h : n < 2 ^ 31 := by omega) : x.toNatClampNeg = n := by
  subst hx
  exact nI_clamp h
theorem ab_bn (v : Int32) (h : v = 0 ∨ v = 1) : vp_nar .boolean v = v := by
  rcases h with h | h <;> rw [h] <;> rfl
theorem ab_b0 : vp_nar .boolean 0 = 0 := rfl
theorem ab_b1 : vp_nar .boolean 1 = 1 := rfl
theorem ab_nb {v : Int32} (h : v = 0 ∨ v = 1) : narrow .boolean (.int v) = .int v := by
  rcases h with h | h <;> rw [h] <;> rfl
theorem ab_fb {v : Int32} (h : v = 0 ∨ v = 1) : fits .boolean (.int v) = true := by
  rcases h with h | h <;> rw [h] <;> rfl
theorem ab_ml (a k : Nat) (b : Nat) : nI a * nI k + nI b = nI (a * k + b) := by rw [pk_mul, nI_add]
theorem ab_m4 (a b : Nat) : nI a * 4 + nI b = nI (a * 4 + b) := ab_ml a 4 b
theorem ab_m101 (a b : Nat) : nI a * 101 + nI b = nI (a * 101 + b) := ab_ml a 101 b
theorem ab_m24 (a b : Nat) : nI a * 24 + nI b = nI (a * 24 + b) := ab_ml a 24 b
theorem ab_l24 (a b : Nat) : 24 * nI a + nI b = nI (24 * a + b) := by
  show nI 24 * nI a + nI b = _
  rw [pk_mul, nI_add]
theorem ab_l160 (a b : Nat) : 160 * nI a + nI b = nI (160 * a + b) := by
  show nI 160 * nI a + nI b = _
  rw [pk_mul, nI_add]
theorem ab_cell (t r c : Nat) : 160 * nI t + 4 * nI r + nI c = nI (160 * t + 4 * r + c) := by
  show nI 160 * nI t + nI 4 * nI r + nI c = _
  rw [pk_mul, pk_mul, nI_add, nI_add]
theorem ab_a (k b : Nat) : nI k + nI b = nI (k + b) := nI_add k b
theorem ab_key {s : Nat} (h : s < 101) : (nI s - 50).toInt = (s : Int) - 50 := by
  show (nI s - nI 50).toInt = _
  rw [pk_sub_toInt (by omega) (by omega)]
  rfl
theorem ab_keyI {s s' : Nat} (h : s < 101) (h' : s' < 101) (e : nI s - 50 = nI s' - 50) : s = s' := by
  have := congrArg Int32.toInt e
  rw [ab_key h, ab_key h'] at this
  omega
theorem ab_n50 (s : Nat) : nI s + (-50) = nI s - 50 := by
  show nI s + (-50) = nI s - 50
  rw [Int32.sub_eq_add_neg]
/-- a key within -50 .. 50 is that of a slot -/
theorem ab_slot (k : Int32) : k < -50 ∨ 50 < k ∨ ∃ s, s < 101 ∧ k = nI s - 50 := by
  by_cases h1 : k < -50
  · exact Or.inl h1
  · by_cases h2 : 50 < k
    · exact Or.inr (Or.inl h2)
    · refine Or.inr (Or.inr ⟨(k.toInt + 50).toNat, ?_, ?_⟩)
      · have a1 : ¬ k.toInt < -50 := fun z => h1 (Int32.lt_iff_toInt_lt.mpr z)
        have a2 : ¬ 50 < k.toInt := fun z => h2 (Int32.lt_iff_toInt_lt.mpr z)
        omega
      · have a1 : ¬ k.toInt < -50 := fun z => h1 (Int32.lt_iff_toInt_lt.mpr z)
        have a2 : ¬ 50 < k.toInt := fun z => h2 (Int32.lt_iff_toInt_lt.mpr z)
        apply Int32.toInt_inj.mp
        rw [ab_key (by omega)]
        omega
theorem ab_k1 {s : Nat} (h : s < 101) : ¬ (nI s - 50 : Int32) < -50 := by
  rw [Int32.lt_iff_toInt_lt, ab_key h, show (-50 : Int32).toInt = -50 from by decide]; omega
theorem ab_k2 {s : Nat} (h : s < 101) : ¬ 50 < (nI s - 50 : Int32) := by
  rw [Int32.lt_iff_toInt_lt, ab_key h, show (50 : Int32).toInt = 50 from by decide]; omega
theorem ab_so (p s : Nat) : nI p * 101 + (nI s - 50) - (-50) = nI (p * 101 + s) := by
  show nI p * nI 101 + (nI s - 50) - (-50) = _
  rw [pk_mul, Int32.sub_eq_add_neg, Int32.sub_eq_add_neg, Int32.add_assoc, Int32.add_assoc, show (-50 : Int32) + - -50 = 0 from by decide, Int32.add_zero, nI_add]
/-- how many of the first n are not 0 -/
def ra_k (t : Nat → Int32) : Nat → Nat
  | 0 => 0
  | n + 1 => ra_k t n + if t n = 0 then 0 else 1
theorem ra_s0 {t : Nat → Int32} {n : Nat} (h : t n = 0) : ra_k t (n + 1) = ra_k t n := by simp [ra_k, h]
theorem ra_s1 {t : Nat → Int32} {n : Nat} (h : ¬ t n = 0) : ra_k t (n + 1) = ra_k t n + 1 := by simp [ra_k, h]
theorem ra_le (t : Nat → Int32) : ∀ n, ra_k t n ≤ n := by
  intro n
  induction n with
  | zero => exact Nat.le_refl 0
  | succ n ih => by_cases h : t n = 0
                 · rw [ra_s0 h]; omega
                 · rw [ra_s1 h]; omega
theorem ra_mono (t : Nat → Int32) {a b : Nat} (h : a ≤ b) : ra_k t a ≤ ra_k t b := by
  induction b with
  | zero => have : a = 0 := by omega
            subst this; exact Nat.le_refl _
  | succ b ih =>
    by_cases e : a = b + 1
    · subst e; exact Nat.le_refl _
    · have := ih (by omega)
      by_cases h : t b = 0
      · rw [ra_s0 h]; omega
      · rw [ra_s1 h]; omega
theorem ra_lt {t : Nat → Int32} {a b : Nat} (h : a < b) (ha : ¬ t a = 0) : ra_k t a < ra_k t b := by
  have := ra_mono t (a := a + 1) (b := b) h
  rw [ra_s1 ha] at this
  omega
theorem ra_inj {t : Nat → Int32} {a b : Nat} (ha : ¬ t a = 0) (hb : ¬ t b = 0) (e : ra_k t a = ra_k t b) : a = b := by
  rcases Nat.lt_trichotomy a b with h | h | h
  · have := ra_lt h ha; omega
  · exact h
  · have := ra_lt h hb; omega
theorem ra_inv {t : Nat → Int32} {r : Nat} : ∀ {n : Nat}, r < ra_k t n → ∃ s, s < n ∧ ¬ t s = 0 ∧ ra_k t s = r := by
  intro n
  induction n with
  | zero => intro h; exact absurd h (Nat.not_lt_zero _)
  | succ n ih =>
    intro h
    by_cases z : t n = 0
    · rw [ra_s0 z] at h
      obtain ⟨s, h1, h2, h3⟩ := ih h
      exact ⟨s, by omega, h2, h3⟩
    · rw [ra_s1 z] at h
      by_cases e : r = ra_k t n
      · exact ⟨n, by omega, z, e.symm⟩
      · obtain ⟨s, h1, h2, h3⟩ := ih (by omega)
        exact ⟨s, by omega, h2, h3⟩
theorem ra_cg {t t' : Nat → Int32} : ∀ {n : Nat}, (∀ j, j < n → (t j = 0 ↔ t' j = 0)) → ra_k t n = ra_k t' n := by
  intro n
  induction n with
  | zero => intro _; rfl
  | succ n ih =>
    intro h
    have e := ih (fun j hj => h j (by omega))
    by_cases z : t n = 0
    · rw [ra_s0 z, ra_s0 ((h n (by omega)).mp z), e]
    · rw [ra_s1 z, ra_s1 (fun y => z ((h n (by omega)).mpr y)), e]
/-- a fold over the slots that are there; a fold over rows -/
def fo_g {α : Type} (t : Nat → Int32) (G : Nat → α → α) (a : α) : Nat → α
  | 0 => a
  | s + 1 => if t s = 0 then fo_g t G a s else G s (fo_g t G a s)
def fo_y {α : Type} (F : Nat → α → α) (a : α) : Nat → α
  | 0 => a
  | r + 1 => F r (fo_y F a r)
theorem fo_g0 {α : Type} {t : Nat → Int32} {G : Nat → α → α} {a : α} {s : Nat} (h : t s = 0) : fo_g t G a (s + 1) = fo_g t G a s := if_pos h
theorem fo_g1 {α : Type} {t : Nat → Int32} {G : Nat → α → α} {a : α} {s : Nat} (h : ¬ t s = 0) : fo_g t G a (s + 1) = G s (fo_g t G a s) := if_neg h
theorem fo_eq {α : Type} {t : Nat → Int32} {G F : Nat → α → α} {a : α} : ∀ {n : Nat}, (∀ s, s < n → ¬ t s = 0 → ∀ x, F (ra_k t s) x = G s x) → fo_g t G a n = fo_y F a (ra_k t n) := by
  intro n
  induction n with
  | zero => intro _; rfl
  | succ n ih =>
    intro h
    have e := ih (fun s hs => h s (by omega))
    by_cases z : t n = 0
    · rw [fo_g0 z, ra_s0 z, e]
    · rw [fo_g1 z, ra_s1 z, e]
      exact (h n (by omega) z _).symm
/-- the tables: X's table p by slots, Y's table t by rows -/
def vx_t (th : Nat → Int32) (p : Nat) : Nat → Int32 := fun s => th (p * 101 + s)
def vx_r (cx : Nat → Int32) (p : Nat) : Nat → Nat → Int32 := fun s c => cx ((p * 101 + s) * 4 + c)
def vy_r (cy : Nat → Int32) (t : Nat) : Nat → Nat → Int32 := fun r c => cy (160 * t + 4 * r + c)
def ta_R (xt : Nat → Int32) (xr : Nat → Nat → Int32) (yr : Nat → Nat → Int32) : Prop :=
  ra_k xt 101 ≤ 40 ∧ ∀ s, s < 101 → ¬ xt s = 0 → xr s 0 = nI s - 50 ∧ ∀ c, c < 4 → yr (ra_k xt s) c = xr s c
def rt_R (th cx : Nat → Int32) (p : Nat) (cn cy : Nat → Int32) (t : Nat) : Prop :=
  cn t = nI (ra_k (vx_t th p) 101) ∧ ta_R (vx_t th p) (vx_r cx p) (vy_r cy t)
theorem ta_cg {xt xt' : Nat → Int32} {xr xr' yr yr' : Nat → Nat → Int32} (h : ta_R xt xr yr) (ht : ∀ s, s < 101 → (xt s = 0 ↔ xt' s = 0))
    (hx : ∀ s, s < 101 → ¬ xt s = 0 → ∀ c, c < 4 → xr' s c = xr s c) (hy : ∀ r, r < 40 → ∀ c, c < 4 → yr' r c = yr r c) : ra_k xt' 101 = ra_k xt 101 ∧ ta_R xt' xr' yr' := by
  have e : ∀ n, n ≤ 101 → ra_k xt' n = ra_k xt n := fun n hn => (ra_cg (fun j hj => ht j (by omega))).symm
  refine ⟨e 101 (by omega), by rw [e 101 (by omega)]; exact h.1, ?_⟩
  intro s hs hn
  have hn' : ¬ xt s = 0 := fun z => hn ((ht s hs).mp z)
  obtain ⟨a, b⟩ := h.2 s hs hn'
  have hr : ra_k xt s < 40 := Nat.lt_of_lt_of_le (ra_lt hs hn') h.1
  refine ⟨by rw [hx s hs hn' 0 (by omega)]; exact a, fun c hc => ?_⟩
  rw [e s (by omega), hy _ hr c hc, hx s hs hn' c hc, b c hc]
end
section
/-! terms: a pure machine; X's values against it -/
def tm_ar (k : Int32) : Nat := if 2 < k then (if 4 < k then (if 14 < k then 3 else 2) else 1) else 0
def tm_ps (K : Nat → Int32) : Nat → List Nat
  | 0 => []
  | i + 1 => (i + 1) :: (tm_ps K i).drop (tm_ar (K i))
def tm_one (k : Int32) : Option Int32 → Option Int32
  | none => none
  | some x => some (if k = 4 then (if x = 0 then 1 else 0) else -x)
def tm_bin (k x y : Int32) : Int32 :=
  if k = 5 then x + y else if k = 6 then x - y else if k = 7 then x * y else if k = 8 then x / y
  else if k = 9 then (if y ≤ x then 0 else 1) else if k = 10 then (if x = y then 1 else 0)
  else if k = 11 then (if y ≤ x then y else x) else if k = 12 then (if x ≤ y then y else x) else (if y = 0 then 0 else 1)
def tm_two (k : Int32) : Option Int32 → Option Int32 → Option Int32
  | none, _ => none
  | some x, none => if k = 13 ∧ x = 0 then some 0 else if k = 14 ∧ ¬ x = 0 then some 1 else none
  | some x, some y => if k = 13 ∧ x = 0 then some 0 else if k = 14 ∧ ¬ x = 0 then some 1 else if k = 8 ∧ y = 0 then none else some (tm_bin k x y)
def tm_ch : Option Int32 → Option Int32 → Option Int32 → Option Int32
  | none, _, _ => none
  | some c, x, y => if c = 0 then y else x
def tm_lf (k n : Int32) (row par : Nat → Int32) : Int32 := if k = 0 then n else if k = 1 then row n.toNatClampNeg else par n.toNatClampNeg
def tm_v3 : List (Option Int32) → Option Int32
  | y :: x :: c :: _ => tm_ch c x y
  | _ => none
def tm_v2 (k : Int32) : List (Option Int32) → Option Int32
  | y :: x :: _ => tm_two k x y
  | _ => none
def tm_v1 (k : Int32) : List (Option Int32) → Option Int32
  | x :: _ => tm_one k x
  | _ => none
def tm_v (k n : Int32) (row par : Nat → Int32) (S : List (Option Int32)) : Option Int32 :=
  if 2 < k then (if 4 < k then (if 14 < k then tm_v3 S else tm_v2 k S) else tm_v1 k S) else some (tm_lf k n row par)
def tm_vs (K N : Nat → Int32) (row par : Nat → Int32) : Nat → List (Option Int32)
  | 0 => []
  | i + 1 => tm_v (K i) (N i) row par (tm_vs K N row par i) :: (tm_vs K N row par i).drop (tm_ar (K i))
/-- the value of part j -/
def tm_V (K N row par : Nat → Int32) (j : Nat) : Option Int32 := tm_v (K j) (N j) row par (tm_vs K N row par j)
theorem tm_len (K N row par : Nat → Int32) : ∀ i, (tm_vs K N row par i).length = (tm_ps K i).length := by
  intro i
  induction i with
  | zero => rfl
  | succ i ih => simp [tm_vs, tm_ps, List.length_drop, ih]
theorem tm_map (K N row par : Nat → Int32) : ∀ i, tm_vs K N row par i = (tm_ps K i).map (fun p => tm_V K N row par (p - 1)) := by
  intro i
  induction i with
  | zero => rfl
  | succ i ih =>
    simp only [tm_vs, tm_ps, List.map_cons, List.map_drop, Nat.add_sub_cancel]
    rw [← ih]
    rfl
/-- a term as it must be: its kinds, its operands, its numbers, and Y's sizes -/
def tm_W (K N Z : Nat → Int32) (L : Nat) : Prop :=
  L ≤ 24 ∧ ∀ i, i < L → (0 ≤ K i ∧ K i ≤ 15) ∧ tm_ar (K i) ≤ (tm_ps K i).length ∧ (tm_ps K (i + 1)).length ≤ 8 ∧
    (K i = 1 → ∃ c, c < 4 ∧ N i = nI c) ∧ (K i = 2 → ∃ c, c < 3 ∧ N i = nI c) ∧ Z i = nI (i + 1 - ((tm_ps K i).drop (tm_ar (K i))).headD 0)
theorem tm_16 {k : Int32} (h0 : 0 ≤ k) (h : k ≤ 15) : ∃ j, j < 16 ∧ k = nI j := by
  obtain ⟨j, hj, e⟩ := nI_of2 (M := 15) (n := 15) (by decide) (Int32.not_lt.mpr h0) h
  exact ⟨j, by omega, e⟩
def tm_e : Option Int32 → Int64
  | none => 1099511627776
  | some v => v.toInt64
theorem tm_eT (v : Int32) : v.toInt64.toInt = v.toInt := Int32.toInt_toInt64 v
theorem tm_ne (v : Int32) : ¬ v.toInt64 = 1099511627776 := by
  intro e
  have h := congrArg Int64.toInt e
  rw [tm_eT, show (1099511627776 : Int64).toInt = 1099511627776 from by decide] at h
  have := Int32.toInt_lt v
  omega
theorem tm_e0 (v : Int32) : v.toInt64 = 0 ↔ v = 0 := by
  constructor
  · intro e
    have h := congrArg Int64.toInt e
    rw [tm_eT] at h
    exact Int32.toInt_inj.mp h
  · intro e; rw [e]; rfl
theorem tm_eq (v w : Int32) : v.toInt64 = w.toInt64 ↔ v = w := by
  constructor
  · intro e
    have h := congrArg Int64.toInt e
    rw [tm_eT, tm_eT] at h
    exact Int32.toInt_inj.mp h
  · intro e; rw [e]
theorem tm_le (v w : Int32) : v.toInt64 ≤ w.toInt64 ↔ v ≤ w := by
  rw [Int64.le_iff_toInt_le, Int32.le_iff_toInt_le, tm_eT, tm_eT]
theorem tm_bk (v : Int32) : v.toInt64.toInt32 = v := Int32.toInt32_toInt64 v
theorem tm_neg (v : Int32) : (-v.toInt64).toInt32 = -v := by rw [Int64.toInt32_neg, tm_bk]
theorem tm_add (v w : Int32) : (v.toInt64 + w.toInt64).toInt32 = v + w := by rw [Int64.toInt32_add, tm_bk, tm_bk]
theorem tm_sub (v w : Int32) : (v.toInt64 - w.toInt64).toInt32 = v - w := by rw [Int64.toInt32_sub, tm_bk, tm_bk]
theorem tm_mul (v w : Int32) : (v.toInt64 * w.toInt64).toInt32 = v * w := by rw [Int64.toInt32_mul, tm_bk, tm_bk]
theorem tm_div (v w : Int32) : (v.toInt64 / w.toInt64).toInt32 = v / w := by
  by_cases h : v = Int32.minValue ∧ w = -1
  · rw [h.1, h.2]; decide
  · by_cases a : v = Int32.minValue
    · rw [← Int32.toInt64_div_of_ne_right v w (fun b => h ⟨a, b⟩), tm_bk]
    · rw [← Int32.toInt64_div_of_ne_left v w a, tm_bk]
theorem xv_one {post : Int64 → Prop} (k : Int32) (x : Option Int32) (h : post (tm_e (tm_one k x))) : wpX_oneValue post k (tm_e x) := by
  cases x with
  | none => exact br_t rfl h
  | some v =>
    refine br_f (tm_ne v) (br_c (fun hk => ?_) (fun hk => ?_))
    · by_cases z : v = 0
      · refine br_t ((tm_e0 v).mpr z) ?_
        simpa [tm_one, tm_e, hk, z] using h
      · refine br_f (fun y => z ((tm_e0 v).mp y)) ?_
        simpa [tm_one, tm_e, hk, z] using h
    · show post ((-v.toInt64).toInt32).toInt64
      rw [tm_neg]
      simpa [tm_one, tm_e, hk] using h
theorem xv_ch {post : Int64 → Prop} (c x y : Option Int32) (h : post (tm_e (tm_ch c x y))) : wpX_chosenValue post (tm_e c) (tm_e x) (tm_e y) := by
  cases c with
  | none => exact br_t rfl h
  | some v =>
    refine br_f (tm_ne v) ?_
    by_cases z : v = 0
    · refine br_t ((tm_e0 v).mpr z) ?_
      simpa [tm_ch, z] using h
    · refine br_f (fun y => z ((tm_e0 v).mp y)) ?_
      simpa [tm_ch, z] using h
theorem xv_bin {post : Int64 → Prop} {k : Int32} (h5 : ¬ k < 5) (x y : Int32) (h8 : ¬ (k = 8 ∧ y = 0)) (h : post (tm_bin k x y).toInt64) : wX_twoValue_40 post k x.toInt64 y.toInt64 := by
  refine br_f (tm_ne y) (br_f h5 (br_c (fun hk => ?_) (fun hk => ?_)))
  · have e : tm_bin k x y = if y = 0 then 0 else 1 := by
      have n5 : ¬ k = 5 := fun e => absurd hk (by rw [e]; decide)
      have n6 : ¬ k = 6 := fun e => absurd hk (by rw [e]; decide)
      have n7 : ¬ k = 7 := fun e => absurd hk (by rw [e]; decide)
      have n8 : ¬ k = 8 := fun e => absurd hk (by rw [e]; decide)
      have n9 : ¬ k = 9 := fun e => absurd hk (by rw [e]; decide)
      have n10 : ¬ k = 10 := fun e => absurd hk (by rw [e]; decide)
      have n11 : ¬ k = 11 := fun e => absurd hk (by rw [e]; decide)
      have n12 : ¬ k = 12 := fun e => absurd hk (by rw [e]; decide)
      simp only [tm_bin, n5, n6, n7, n8, n9, n10, n11, n12, if_false]
    rw [e] at h
    by_cases z : y = 0
    · rw [if_pos z] at h; exact br_t ((tm_e0 y).mpr z) h
    · rw [if_neg z] at h; exact br_f (fun q => z ((tm_e0 y).mp q)) h
  · refine br_c (fun e => ?_) (fun n5 => br_c (fun e => ?_) (fun n6 => br_c (fun e => ?_) (fun n7 => br_c (fun e => ?_) (fun n8 => br_c (fun e => ?_) (fun n9 => br_c (fun e => ?_) (fun n10 => br_c (fun e => ?_) (fun n11 => br_c (fun e => ?_) (fun _ => trivial))))))))
    · rw [tm_add]; subst e; exact h
    · rw [tm_sub]; subst e; exact h
    · rw [tm_mul]; subst e; exact h
    · have z : ¬ y = 0 := fun z => h8 ⟨e, z⟩
      refine br_f (fun q => z ((tm_e0 y).mp q)) ⟨fun q => z ((tm_e0 y).mp q), ?_⟩
      rw [tm_div]; subst e; exact h
    · subst e
      have e : tm_bin 9 x y = if y ≤ x then 0 else 1 := rfl
      rw [e] at h
      by_cases z : y ≤ x
      · rw [if_pos z] at h; exact br_t ((tm_le y x).mpr z) h
      · rw [if_neg z] at h; exact br_f (fun q => z ((tm_le y x).mp q)) h
    · subst e
      have e : tm_bin 10 x y = if x = y then 1 else 0 := rfl
      rw [e] at h
      by_cases z : x = y
      · rw [if_pos z] at h; exact br_t ((tm_eq x y).mpr z) h
      · rw [if_neg z] at h; exact br_f (fun q => z ((tm_eq x y).mp q)) h
    · subst e
      have e : tm_bin 11 x y = if y ≤ x then y else x := rfl
      rw [e] at h
      by_cases z : y ≤ x
      · rw [if_pos z] at h; exact br_t ((tm_le y x).mpr z) h
      · rw [if_neg z] at h; exact br_f (fun q => z ((tm_le y x).mp q)) h
    · subst e
      have e : tm_bin 12 x y = if x ≤ y then y else x := rfl
      rw [e] at h
      by_cases z : x ≤ y
      · rw [if_pos z] at h; exact br_t ((tm_le x y).mpr z) h
      · rw [if_neg z] at h; exact br_f (fun q => z ((tm_le x y).mp q)) h
theorem xv_two {post : Int64 → Prop} {k : Int32} (h5 : ¬ k < 5) (h14 : ¬ 14 < k) (x y : Option Int32) (h : post (tm_e (tm_two k x y))) : wpX_twoValue post k (tm_e x) (tm_e y) := by
  cases x with
  | none => exact br_t rfl (by cases y <;> exact h)
  | some v =>
    have key : ¬ (k = 13 ∧ v = 0) → ¬ (k = 14 ∧ ¬ v = 0) → wX_twoValue_40 post k v.toInt64 (tm_e y) := by
      intro a b
      cases y with
      | none =>
        refine br_t rfl ?_
        have h' : post (tm_e none) := by simpa only [tm_two, if_neg a, if_neg b] using h
        exact h'
      | some w =>
        by_cases d : k = 8 ∧ w = 0
        · have h' : post (tm_e none) := by simpa only [tm_two, if_neg a, if_neg b, if_pos d] using h
          obtain ⟨rfl, rfl⟩ := d
          refine br_f (tm_ne 0) (br_f (by decide) (br_f (by decide) (br_f (by decide) (br_f (by decide) (br_f (by decide) (br_t rfl (br_t rfl h')))))))
        · have h' : post (tm_e (some (tm_bin k v w))) := by simpa only [tm_two, if_neg a, if_neg b, if_neg d] using h
          exact xv_bin h5 v w d h'
    have key2 : ¬ (k = 13 ∧ v = 0) → wX_twoValue_26 post k v.toInt64 (tm_e y) := by
      intro a
      refine br_c (fun e => ?_) (fun e => key a (fun q => e q.1))
      by_cases z : v = 0
      · exact br_t ((tm_e0 v).mpr z) (key a (fun q => q.2 z))
      · refine br_f (fun q => z ((tm_e0 v).mp q)) ?_
        have b : k = 14 ∧ ¬ v = 0 := ⟨e, z⟩
        cases y with
        | none => exact (show post (tm_e (some 1)) by simpa only [tm_two, if_neg a, if_pos b] using h)
        | some w => exact (show post (tm_e (some 1)) by simpa only [tm_two, if_neg a, if_pos b] using h)
    refine br_f (tm_ne v) (br_c (fun e => ?_) (fun e => key2 (fun q => e q.1)))
    by_cases z : v = 0
    · refine br_t ((tm_e0 v).mpr z) ?_
      have a : k = 13 ∧ v = 0 := ⟨e, z⟩
      cases y with
      | none => exact (show post (tm_e (some 0)) by simpa only [tm_two, if_pos a] using h)
      | some w => exact (show post (tm_e (some 0)) by simpa only [tm_two, if_pos a] using h)
    · exact br_f (fun q => z ((tm_e0 v).mp q)) (key2 (fun q => z q.2))
end
section
/-! X's workOut and Y's work against the machine -/
section
variable {xs xu xc : Int32} {th cx sx kd nm ct : Nat → Int32} {op : Nat → Int64} {pa mx rx : Nat → Int32} {yd yu yc yf : Int32} {cy cn sy os ny sz ln py ry fy my nw : Nat → Int32}
def tm_O (op : Nat → Int64) : List (Option Int32) → Prop
  | [] => True
  | x :: S => op S.length = tm_e x ∧ tm_O op S
theorem tm_Ou {op : Nat → Int64} {k : Nat} {z : Int64} : ∀ {S : List (Option Int32)}, S.length ≤ k → tm_O op S → tm_O (vp_updL op k z) S := by
  intro S
  induction S with
  | nil => intro _ _; trivial
  | cons x S ih =>
    intro h hO
    have hl : S.length + 1 ≤ k := h
    exact ⟨by rw [pk_uLn (by omega)]; exact hO.1, ih (by omega) hO.2⟩
theorem tm_Op {op : Nat → Int64} {S : List (Option Int32)} (x : Option Int32) (h : tm_O op S) : tm_O (vp_updL op S.length (tm_e x)) (x :: S) := ⟨pk_uLs, tm_Ou (Nat.le_refl _) h⟩
theorem tm_W8 {K N Z : Nat → Int32} {L : Nat} (hW : tm_W K N Z L) (i : Nat) (hi : i ≤ L) : (tm_ps K i).length ≤ 8 := by
  match i, hi with
  | 0, _ => exact Nat.zero_le _
  | i + 1, hi => exact (hW.2 i (by omega)).2.2.1
theorem xw_loop {post : Int64 → SX → Prop} {e j L : Nat} {row K N Z : Nat → Int32} (he : e < 10) (hj : j < 606) (hW : tm_W K N Z L)
    (hK : ∀ i, i < L → kd (e * 24 + i) = K i) (hN : ∀ i, i < L → nm (e * 24 + i) = N i) (hrow : ∀ c, c < 4 → cx (j * 4 + c) = row c)
    (h : ∀ op', tm_O op' (tm_vs K N row pa L) → post (op' 0) (xs, xu, xc, th, cx, sx, kd, nm, ct, op', pa, mx, rx)) :
    ∀ d i n op, i + d = L → d < n → tm_O op (tm_vs K N row pa i) → wX_workOut_21 post (nI j) (nI (e * 24 + L)) xs xu xc n (nI (tm_vs K N row pa i).length - 1) (nI (e * 24 + i)) th cx sx kd nm ct op pa mx rx := by
  have hL := hW.1
  intro d
  induction d with
  | zero =>
    intro i n op hi hn hO
    obtain ⟨n, rfl⟩ : ∃ m, n = m + 1 := ⟨n - 1, by omega⟩
    obtain rfl : i = L := by omega
    exact br_t (Int32.le_refl _) (h op hO)
  | succ d ih =>
    intro i n op hi hn hO
    obtain ⟨n, rfl⟩ : ∃ m, n = m + 1 := ⟨n - 1, by omega⟩
    have hiL : i < L := by omega
    obtain ⟨⟨k0, k15⟩, har, hlen, h1, h2, hz⟩ := hW.2 i hiL
    have hlS := tm_len K N row pa i
    have h8 := tm_W8 hW i (by omega)
    have hvs : tm_vs K N row pa (i + 1) = tm_v (K i) (N i) row pa (tm_vs K N row pa i) :: (tm_vs K N row pa i).drop (tm_ar (K i)) := rfl
    have ih' := fun op' => ih (i + 1) n op' (by omega) (by omega)
    rw [← hlS] at har
    rw [← hlS] at h8
    simp only [hvs] at ih'
    clear ih hlS hlen
    generalize tm_vs K N row pa i = S at *
    have e6 : nI (e * 24 + i) + 1 = nI (e * 24 + (i + 1)) := nI_1 _
    have c6 : (nI (e * 24 + i)).toNatClampNeg = e * 24 + i := nI_clamp (by omega)
    refine br_f (nI_ge (by omega) (by omega)) ⟨vp_in_nI (by omega) (by omega), nm_r (e' := K i) (by rw [c6]; exact hK i hiL) ?_⟩
    by_cases a : 2 < K i
    · refine br_t a ?_
      by_cases b : 4 < K i
      · refine br_t b ?_
        by_cases c : 14 < K i
        · refine br_t c ?_
          have ea : tm_ar (K i) = 3 := by simp only [tm_ar, if_pos a, if_pos b, if_pos c]
          have ev : tm_v (K i) (N i) row pa S = tm_v3 S := by simp only [tm_v, if_pos a, if_pos b, if_pos c]
          rw [ea] at har ih'
          rw [ev] at ih'
          match S, har, hO, h8, ih' with
          | y :: x :: z :: S, _, hO, h8, ih' =>
            have hlenS : S.length + 3 ≤ 8 := h8
            have ex : nI (y :: x :: z :: S).length - 1 + (-2) = nI S.length := by
              show nI (S.length + 3) - 1 + (-2) = nI S.length
              rw [nI_pred, show (-2 : Int32) = (-1) + (-1) from by decide, ← Int32.add_assoc, pk_m1, pk_m1]
            have c0 : (nI S.length).toNatClampNeg = S.length := nI_clamp (by omega)
            have e1 : nI S.length + 1 = nI (S.length + 1) := nI_1 _
            have e2 : nI S.length + 2 = nI (S.length + 2) := nI_add S.length 2
            refine nm_r ex ⟨vp_in_nI (by omega) (by omega), ?_, ?_, ?_⟩
            · rw [e1]; exact vp_in_nI (by omega) (by omega)
            · rw [e2]; exact vp_in_nI (by omega) (by omega)
            · rw [e1, e2, c0, nI_clamp (n := S.length + 1) (by omega), nI_clamp (n := S.length + 2) (by omega)]
              have o0 : op (S.length) = tm_e z := hO.2.2.1
              have o1 : op (S.length + 1) = tm_e x := hO.2.1
              have o2 : op (S.length + 2) = tm_e y := hO.1
              rw [o0, o1, o2]
              refine xv_ch z x y ⟨vp_in_nI (by omega) (by omega), nm_e (nm_r e6 ?_)⟩
              have := ih' _ (tm_Op (tm_ch z x y) hO.2.2.2)
              exact (show nI (S.length + 1) - 1 = nI S.length from nI_pred _) ▸ this
        · refine br_f c ?_
          have ea : tm_ar (K i) = 2 := by simp only [tm_ar, if_pos a, if_pos b, if_neg c]
          have ev : tm_v (K i) (N i) row pa S = tm_v2 (K i) S := by simp only [tm_v, if_pos a, if_pos b, if_neg c]
          rw [ea] at har ih'
          rw [ev] at ih'
          match S, har, hO, h8, ih' with
          | y :: x :: S, _, hO, h8, ih' =>
            have hlenS : S.length + 2 ≤ 8 := h8
            have ex : nI (y :: x :: S).length - 1 + (-1) = nI S.length := by
              show nI (S.length + 2) - 1 + (-1) = nI S.length
              rw [nI_pred, pk_m1]
            have c0 : (nI S.length).toNatClampNeg = S.length := nI_clamp (by omega)
            have e1 : nI S.length + 1 = nI (S.length + 1) := nI_1 _
            refine nm_r ex ⟨vp_in_nI (by omega) (by omega), ?_, ?_⟩
            · rw [e1]; exact vp_in_nI (by omega) (by omega)
            · rw [e1, c0, nI_clamp (n := S.length + 1) (by omega)]
              have o0 : op (S.length) = tm_e x := hO.2.1
              have o1 : op (S.length + 1) = tm_e y := hO.1
              rw [o0, o1]
              refine xv_two (fun q => ?_) c x y ⟨vp_in_nI (by omega) (by omega), nm_e (nm_r e6 ?_)⟩
              · have l1 : (K i).toInt < 5 := Int32.lt_iff_toInt_lt.mp q
                have l2 : 4 < (K i).toInt := Int32.lt_iff_toInt_lt.mp b
                omega
              · exact (show nI (S.length + 1) - 1 = nI S.length from nI_pred _) ▸ ih' _ (tm_Op (tm_two (K i) x y) hO.2.2)
      · refine br_f b ?_
        have ea : tm_ar (K i) = 1 := by simp only [tm_ar, if_pos a, if_neg b]
        have ev : tm_v (K i) (N i) row pa S = tm_v1 (K i) S := by simp only [tm_v, if_pos a, if_neg b]
        rw [ea] at har ih'
        rw [ev] at ih'
        match S, har, hO, h8, ih' with
        | x :: S, _, hO, h8, ih' =>
          have hlenS : S.length + 1 ≤ 8 := h8
          have ex : nI (x :: S).length - 1 = nI S.length := nI_pred S.length
          have c0 : (nI S.length).toNatClampNeg = S.length := nI_clamp (by omega)
          rw [ex]
          have o0 : op (S.length) = tm_e x := hO.1
          rw [c0, o0]
          refine ⟨vp_in_nI (by omega) (by omega), xv_one (K i) x ⟨vp_in_nI (by omega) (by omega), nm_e (nm_r e6 ?_)⟩⟩
          have := ih' _ (tm_Op (tm_one (K i) x) hO.2)
          exact (show nI (S.length + 1) - 1 = nI S.length from nI_pred _) ▸ this
    · refine br_f a ?_
      have ea : tm_ar (K i) = 0 := by simp only [tm_ar, if_neg a]
      have ev : tm_v (K i) (N i) row pa S = some (tm_lf (K i) (N i) row pa) := by simp only [tm_v, if_neg a]
      rw [ea, ev] at ih'
      have hlenS : S.length + 1 ≤ 8 := by
        have := tm_W8 hW (i + 1) (by omega)
        rw [← tm_len K N row pa] at this
        have e := congrArg List.length hvs
        rw [ea] at e
        simp only [List.length_cons, List.drop_zero] at e
        omega
      have ex : nI S.length - 1 + 1 = nI S.length := Int32.sub_add_cancel _ _
      have c0 : (nI S.length).toNatClampNeg = S.length := nI_clamp (by omega)
      refine nm_r ex ⟨vp_in_nI (by omega) (by omega), ?_⟩
      rw [c6, hN i hiL]
      have fin : ∀ r, r = tm_lf (K i) (N i) row pa → (vp_in (nI S.length) 8 ∧ ∀ op1, op1 = vp_updL op (nI S.length).toNatClampNeg r.toInt64 → ∀ y, y = nI (e * 24 + i) + 1 → wX_workOut_21 post (nI j) (nI (e * 24 + L)) xs xu xc n (nI S.length) y th cx sx kd nm ct op1 pa mx rx) := by
        intro r hr
        refine ⟨vp_in_nI (by omega) (by omega), nm_r (by rw [c0, hr]) (nm_r e6 ?_)⟩
        have := ih' _ (tm_Op (some (tm_lf (K i) (N i) row pa)) hO)
        exact (show nI (S.length + 1) - 1 = nI S.length from nI_pred _) ▸ this
      refine br_c (fun q => fin _ (by rw [tm_lf, if_pos q])) (fun q => br_c (fun q1 => ?_) (fun q1 => ?_))
      · obtain ⟨c, hc, ec⟩ := h1 q1
        rw [ec, ab_m4]
        refine ⟨vp_in_nI (by omega) (by omega), fin _ ?_⟩
        rw [nI_clamp (by omega), hrow c hc, tm_lf, if_neg q, if_pos q1, ec, nI_clamp (by omega)]
      · have q2 : K i = 2 := by
          obtain ⟨q0, hq0, e0⟩ := tm_16 k0 k15
          rw [e0] at a q q1 ⊢
          have : ¬ (2 : Nat) < q0 := fun z => a (nI_lt (a := 2) z (by omega))
          have : ¬ q0 = 0 := fun z => q (by rw [z]; rfl)
          have : ¬ q0 = 1 := fun z => q1 (by rw [z]; rfl)
          have : q0 = 2 := by omega
          rw [this]; rfl
        obtain ⟨c, hc, ec⟩ := h2 q2
        rw [ec]
        refine ⟨vp_in_nI (by omega) (by omega), fin _ ?_⟩
        rw [tm_lf, if_neg q, if_neg q1, ec]
theorem xw_out {post : Int64 → SX → Prop} {e j L : Nat} {row K N Z : Nat → Int32} (he : e < 10) (hj : j < 606) (hW : tm_W K N Z L) (h1 : (tm_ps K L).length = 1)
    (hK : ∀ i, i < L → kd (e * 24 + i) = K i) (hN : ∀ i, i < L → nm (e * 24 + i) = N i) (hc : ct e = nI L) (hrow : ∀ c, c < 4 → cx (j * 4 + c) = row c)
    (h : ∀ op', post (tm_e (tm_V K N row pa (L - 1))) (xs, xu, xc, th, cx, sx, kd, nm, ct, op', pa, mx, rx)) : wpX_workOut post (xs, xu, xc, th, cx, sx, kd, nm, ct, op, pa, mx, rx) (nI e) (nI j) := by
  have hL := hW.1
  have e0 : nI e * 24 = nI (e * 24) := pk_mul e 24
  refine nm_r e0 ⟨vp_in_nI (by omega) (by omega), nm_r (e' := nI (e * 24 + L)) (by rw [nI_clamp (by omega), hc, nI_add]) ⟨L + 1, ?_⟩⟩
  refine xw_loop he hj hW hK hN hrow (fun op' hO => ?_) L 0 (L + 1) op (by omega) (by omega) trivial
  have hm := tm_map K N row pa L
  match L, hL, h1, hm, hO, h with
  | L + 1, _, h1, hm, hO, h =>
    have e1 : tm_ps K (L + 1) = [L + 1] := by
      have : tm_ps K (L + 1) = (L + 1) :: (tm_ps K L).drop (tm_ar (K L)) := rfl
      rw [this] at h1 ⊢
      have z : ((tm_ps K L).drop (tm_ar (K L))).length = 0 := by simpa using h1
      rw [List.eq_nil_of_length_eq_zero z]
    rw [e1] at hm
    rw [hm] at hO
    have : op' 0 = tm_e (tm_V K N row pa (L + 1 - 1)) := hO.1
    rw [this]
    exact h op'
end
end
section
/-! Y's work against the machine -/
section
variable {xs xu xc : Int32} {th cx sx kd nm ct : Nat → Int32} {op : Nat → Int64} {pa mx rx : Nat → Int32} {yd yu yc yf : Int32} {cy cn sy os ny sz ln py ry fy my nw : Nat → Int32}
def tm_yk (k : Int32) : Int32 := if 2 < k then (if 4 < k then k + 15 else k + 7) else k
theorem tk_3 : ∀ j, j < 16 → (3 ≤ tm_yk (nI j) ↔ 2 < nI j) := by decide +kernel
theorem tk_20 : ∀ j, j < 16 → (20 ≤ tm_yk (nI j) ↔ 4 < nI j) := by decide +kernel
theorem tk_28 : ∀ j, j < 16 → (28 ≤ tm_yk (nI j) ↔ 12 < nI j) := by decide +kernel
theorem tk_30 : ∀ j, j < 16 → (30 ≤ tm_yk (nI j) ↔ 14 < nI j) := by decide +kernel
theorem tk_e0 : ∀ j, j < 16 → (tm_yk (nI j) = 0 ↔ nI j = 0) := by decide +kernel
theorem tk_e1 : ∀ j, j < 16 → (tm_yk (nI j) = 1 ↔ nI j = 1) := by decide +kernel
theorem tk_e10 : ∀ j, j < 16 → (tm_yk (nI j) = 10 ↔ nI j = 3) := by decide +kernel
theorem tk_e23 : ∀ j, j < 16 → (tm_yk (nI j) = 23 ↔ nI j = 8) := by decide +kernel
theorem tk_e28 : ∀ j, j < 16 → (tm_yk (nI j) = 28 ↔ nI j = 13) := by decide +kernel
theorem tm_mem {K : Nat → Int32} : ∀ {i q : Nat}, q ∈ tm_ps K i → 1 ≤ q ∧ q ≤ i := by
  intro i
  induction i with
  | zero => intro q h; exact absurd h (List.not_mem_nil)
  | succ i ih =>
    intro q h
    have h' : q ∈ (i + 1) :: (tm_ps K i).drop (tm_ar (K i)) := h
    rcases List.mem_cons.mp h' with e | m
    · omega
    · have := ih (List.mem_of_mem_drop m)
      omega
theorem tm_suf {K : Nat → Int32} : ∀ {i : Nat} {l : List Nat} {q : Nat} {S : List Nat}, tm_ps K i = l ++ q :: S → tm_ps K q = q :: S := by
  intro i
  induction i with
  | zero =>
    intro l q S h
    have h' : ([] : List Nat) = l ++ q :: S := h
    exact absurd h'.symm (by simp)
  | succ i ih =>
    intro l q S h
    have h' : (i + 1) :: (tm_ps K i).drop (tm_ar (K i)) = l ++ q :: S := h
    match l, h' with
    | [], h' =>
      have e : i + 1 = q := (List.cons.inj h').1
      rw [← e]
      rw [← e] at h
      exact h
    | a :: l, h' =>
      have e := (List.cons.inj h').2
      refine ih (l := (tm_ps K i).take (tm_ar (K i)) ++ l) (q := q) (S := S) ?_
      rw [List.append_assoc]
      have := List.take_append_drop (tm_ar (K i)) (tm_ps K i)
      rw [← this]
      rw [this]
      conv => lhs; rw [← this]
      rw [e]
      rfl
theorem tm_sz {K N Z : Nat → Int32} {L : Nat} (hW : tm_W K N Z L) {q : Nat} {S : List Nat} (h1 : 1 ≤ q) (hq : q ≤ L) (h : tm_ps K q = q :: S) : Z (q - 1) = nI (q - S.headD 0) := by
  match q, h1 with
  | q + 1, _ =>
    have h' : (q + 1) :: (tm_ps K q).drop (tm_ar (K q)) = (q + 1) :: S := h
    have e := (List.cons.inj h').2
    have := (hW.2 q (by omega)).2.2.2.2.2
    rw [e] at this
    exact this
/-- the value of part j as Y keeps it -/
def yv_is (ry fy : Nat → Int32) (j : Nat) : Option Int32 → Prop
  | none => fy j = 1
  | some x => fy j = 0 ∧ ry j = x
theorem yv_to {ry fy ry' fy' : Nat → Int32} {i : Nat} {V : Nat → Option Int32} (hI : ∀ j, j < i → yv_is ry fy j (V j))
    (hr : ∀ j, j < i → ry' j = ry j) (hf : ∀ j, j < i → fy' j = fy j) (hv : yv_is ry' fy' i (V i)) : ∀ j, j < i + 1 → yv_is ry' fy' j (V j) := by
  intro j hj
  by_cases e : j = i
  · subst e; exact hv
  · have h := hI j (by omega)
    cases hV : V j with
    | none => rw [hV] at h; show fy' j = 1; rw [hf j (by omega)]; exact h
    | some x => rw [hV] at h; exact ⟨by rw [hf j (by omega)]; exact h.1, by rw [hr j (by omega)]; exact h.2⟩
theorem yv_op {post : Int32 → Prop} (v : SY) {k : Int32} (j : Nat) (ek : k = nI j) (h5 : 5 ≤ j) (h12 : j ≤ 12) (x y : Int32) (h : post (if k = 8 ∧ y = 0 then 0 else tm_bin k x y)) : wpY_operate post v (tm_yk k) x y := by
  subst ek
  have hj : j = 5 ∨ j = 6 ∨ j = 7 ∨ j = 8 ∨ j = 9 ∨ j = 10 ∨ j = 11 ∨ j = 12 := by omega
  rcases hj with rfl | rfl | rfl | rfl | rfl | rfl | rfl | rfl
  · exact br_f (by decide) (br_t rfl h)
  · exact br_f (by decide) (br_f (by decide) (br_t rfl h))
  · exact br_f (by decide) (br_f (by decide) (br_f (by decide) h))
  · refine br_t (by decide) (br_t rfl ?_)
    by_cases z : y = 0
    · rw [if_pos ⟨rfl, z⟩] at h; exact br_t z h
    · rw [if_neg (fun q => z q.2)] at h; exact br_f z ⟨z, h⟩
  · refine br_t (by decide) (br_f (by decide) (br_f (by decide) (br_t rfl ?_)))
    have e : tm_bin (nI 9) x y = if y ≤ x then 0 else 1 := rfl
    rw [if_neg (fun q => absurd q.1 (by decide)), e] at h
    by_cases z : y ≤ x
    · rw [if_pos z] at h; exact br_t z (br_t rfl h)
    · rw [if_neg z] at h; exact br_f z (br_f (by decide) h)
  · refine br_t (by decide) (br_f (by decide) (br_f (by decide) (br_f (by decide) ?_)))
    have e : tm_bin (nI 10) x y = if x = y then 1 else 0 := rfl
    rw [if_neg (fun q => absurd q.1 (by decide)), e] at h
    by_cases z : x = y
    · rw [if_pos z] at h; exact br_t z (br_f (by decide) h)
    · rw [if_neg z] at h; exact br_f z (br_t rfl h)
  · refine br_t (by decide) (br_f (by decide) (br_t (by decide) (br_t rfl ?_)))
    have e : tm_bin (nI 11) x y = if y ≤ x then y else x := rfl
    rw [if_neg (fun q => absurd q.1 (by decide)), e] at h
    by_cases z : y ≤ x
    · rw [if_pos z] at h; exact br_t z h
    · rw [if_neg z] at h; exact br_f z h
  · refine br_t (by decide) (br_f (by decide) (br_t (by decide) (br_f (by decide) ?_)))
    have e : tm_bin (nI 12) x y = if x ≤ y then y else x := rfl
    rw [if_neg (fun q => absurd q.1 (by decide)), e] at h
    by_cases z : x ≤ y
    · rw [if_pos z] at h; exact br_t z h
    · rw [if_neg z] at h; exact br_f z h
/-- what the rest of a part's work is given: i's value may be stored -/
def yw_F (post : SY → Prop) (yd yu yc yf : Int32) (cy cn sy os ny sz ln py ry fy my nw : Nat → Int32) (i : Nat) (v : Option Int32) : Prop :=
  ∀ ry' fy' : Nat → Int32, (∀ j, j < i → ry' j = ry j) → (∀ j, j < i → fy' j = fy j) → yv_is ry' fy' i v → post (yd, yu, yc, yf, cy, cn, sy, os, ny, sz, ln, py, ry', fy', my, nw)
theorem ye_ar {post : SY → Prop} {e i x y j0 : Nat} {k : Int32} {vx vy : Option Int32} (ek : k = nI j0) (h5 : 5 ≤ j0) (h12 : j0 ≤ 12) (hi : i < 24) (hx : x < i) (hy : y < i)
    (ix : yv_is ry fy x vx) (iy : yv_is ry fy y vy) (h : yw_F post yd yu yc yf cy cn sy os ny sz ln py ry fy my nw i (tm_two k vx vy)) :
    wY_workPart_113 post (nI e) (nI i) (tm_yk k) (nI y) (nI x) yd yu yc yf cy cn sy os ny sz ln py ry (upd fy i 0) my nw := by
  have cx : (nI x).toNatClampNeg = x := nI_clamp (by omega)
  have cY : (nI y).toNatClampNeg = y := nI_clamp (by omega)
  have ci : (nI i).toNatClampNeg = i := nI_clamp (by omega)
  have b20 : 20 ≤ tm_yk k := by rw [ek]; exact (tk_20 j0 (by omega)).mpr (nI_lt (a := 4) (by omega) (by omega))
  have b28 : ¬ 28 ≤ tm_yk k := by rw [ek, tk_28 j0 (by omega)]; exact nI_nlt (a := 12) (by omega) (by omega)
  have n13 : ¬ k = 13 := by rw [ek]; intro q; have := (nI_eq (b := 13) (by omega) (by omega)).mp q; omega
  have n14 : ¬ k = 14 := by rw [ek]; intro q; have := (nI_eq (b := 14) (by omega) (by omega)).mp q; omega
  have vi : vp_in (nI i) 24 := vp_in_nI (by omega) (by omega)
  refine br_t b20 (br_f b28 ⟨vp_in_nI (by omega) (by omega), vp_in_nI (by omega) (by omega), ?_⟩)
  refine yv_op _ j0 ek h5 h12 _ _ ?_
  refine ⟨vi, nm_r (by rw [ci, cx, cY]) ⟨vp_in_nI (by omega) (by omega), ?_⟩⟩
  rw [cx, cY, ci, pk_un (f := fy) (by omega), pk_un (f := fy) (by omega), pk_un (f := ry) (by omega)]
  have fin : ∀ (w : Int32) (b : Int32), yv_is (upd ry i w) (upd (upd fy i 0) i b) i (tm_two k vx vy) → post (yd, yu, yc, yf, cy, cn, sy, os, ny, sz, ln, py, (upd ry i w), (upd (upd fy i 0) i b), my, nw) := by
    intro w b hv
    refine h _ _ (fun j hj => pk_un (by omega)) (fun j hj => by rw [pk_un (by omega), pk_un (by omega)]) hv
  cases vx with
  | none =>
    have fx : fy x = 1 := ix
    exact br_f (by rw [fx]; decide) ⟨vi, nm_e (fin _ _ (by cases vy <;> exact pk_us))⟩
  | some a =>
    obtain ⟨fx, rx⟩ := ix
    refine br_t fx ⟨vp_in_nI (by omega) (by omega), ?_⟩
    cases vy with
    | none =>
      have f1 : fy y = 1 := iy
      refine br_f (by rw [f1]; decide) ⟨vi, nm_e (fin _ _ ?_)⟩
      have : tm_two k (some a) none = none := by simp only [tm_two, n13, n14, false_and, if_false]
      rw [this]; exact pk_us
    | some b =>
      obtain ⟨f0, r0⟩ := iy
      refine br_t f0 (br_c (fun q => ⟨vp_in_nI (by omega) (by omega), ?_⟩) (fun q => ⟨vi, nm_e (fin _ _ ?_)⟩))
      · have e8 : k = 8 := by rw [ek] at q ⊢; exact (tk_e23 j0 (by omega)).mp q
        rw [r0]
        by_cases z : b = 0
        · refine br_t z ⟨vi, nm_e (fin _ _ ?_)⟩
          have : tm_two k (some a) (some b) = none := by simp only [tm_two, n13, n14, false_and, if_false, if_pos (And.intro e8 z)]
          rw [this]; exact pk_us
        · refine br_f z ⟨vi, nm_e (fin _ _ ?_)⟩
          have n8 : ¬ (k = 8 ∧ b = 0) := fun q => z q.2
          have : tm_two k (some a) (some b) = some (tm_bin k a b) := by simp only [tm_two, n13, n14, false_and, if_false, if_neg n8]
          rw [this]
          exact ⟨pk_us, by rw [pk_us, if_neg n8, rx]⟩
      · have n8 : ¬ k = 8 := fun z => q (by rw [z]; decide)
        have n8' : ¬ (k = 8 ∧ b = 0) := fun q => n8 q.1
        have : tm_two k (some a) (some b) = some (tm_bin k a b) := by simp only [tm_two, n13, n14, false_and, if_false, if_neg n8']
        rw [this]
        refine ⟨pk_us, ?_⟩
        rw [pk_us, r0, rx, if_neg n8']
theorem ye_one {post : SY → Prop} {e i y j0 : Nat} {k : Int32} {vy : Option Int32} (ek : k = nI j0) (h3 : 3 ≤ j0) (h4 : j0 ≤ 4) (hi : i < 24) (hy : y < i)
    (iy : yv_is ry fy y vy) (h : yw_F post yd yu yc yf cy cn sy os ny sz ln py ry fy my nw i (tm_one k vy)) :
    wY_workPart_113 post (nI e) (nI i) (tm_yk k) (nI y) (nI y) yd yu yc yf cy cn sy os ny sz ln py ry (upd fy i 0) my nw := by
  have cY : (nI y).toNatClampNeg = y := nI_clamp (by omega)
  have ci : (nI i).toNatClampNeg = i := nI_clamp (by omega)
  have b20 : ¬ 20 ≤ tm_yk k := by rw [ek, tk_20 j0 (by omega)]; exact nI_nlt (a := 4) (by omega) (by omega)
  have vi : vp_in (nI i) 24 := vp_in_nI (by omega) (by omega)
  have vy' : vp_in (nI y) 24 := vp_in_nI (by omega) (by omega)
  have fin : ∀ w, (∀ a, vy = some a → w = (if k = 4 then (if a = 0 then 1 else 0) else -a)) → wY_workPart_160 post (nI i) (nI y) w (nI i) yd yu yc yf cy cn sy os ny sz ln py ry (upd fy i 0) my nw := by
    intro w hw
    refine ⟨vi, nm_r (by rw [ci]) ⟨vy', vi, nm_r (by rw [ci, cY, pk_un (by omega)]) ?_⟩⟩
    have b01 : fy y = 0 ∨ fy y = 1 := by
      cases vy with
      | none => exact Or.inr iy
      | some a => exact Or.inl iy.1
    rw [ab_bn _ b01]
    refine h _ _ (fun j hj => pk_un (by omega)) (fun j hj => by rw [pk_un (by omega), pk_un (by omega)]) ?_
    cases vy with
    | none => show upd _ i _ i = 1; rw [pk_us]; exact iy
    | some a => exact ⟨by rw [pk_us]; exact iy.1, by rw [pk_us]; exact hw a rfl⟩
  refine br_f b20 (br_c (fun q => ⟨vy', fin _ ?_⟩) (fun q => ⟨vy', ?_⟩))
  · intro a ea
    rw [ea] at iy
    have e3 : k = 3 := by rw [ek] at q ⊢; exact (tk_e10 j0 (by omega)).mp q
    rw [cY, iy.2, e3]; rfl
  · have n3 : ¬ k = 3 := fun z => q (by rw [z]; decide)
    have e4 : k = 4 := by
      have : ¬ j0 = 3 := fun z => n3 (by rw [ek, z]; rfl)
      rw [ek, show j0 = 4 from by omega]; rfl
    rw [cY]
    refine br_c (fun z => fin _ ?_) (fun z => fin _ ?_)
    · intro a ea
      rw [ea] at iy
      rw [iy.2] at z
      rw [if_pos e4, if_pos z]
    · intro a ea
      rw [ea] at iy
      rw [iy.2] at z
      rw [if_pos e4, if_neg z]
end
end
section
/-! Y's work, the rest: and, or, choose, leaves, the loop -/
section
variable {xs xu xc : Int32} {th cx sx kd nm ct : Nat → Int32} {op : Nat → Int64} {pa mx rx : Nat → Int32} {yd yu yc yf : Int32} {cy cn sy os ny sz ln py ry fy my nw : Nat → Int32}
theorem ye_357 {post : SY → Prop} {i : Nat} {o dec last b : Int32} {v : Option Int32} (hi : i < 24) (hb : b = 0 ∨ b = 1) (h : yw_F post yd yu yc yf cy cn sy os ny sz ln py ry fy my nw i v)
    (hv : yv_is (upd ry i (if dec = 0 then (if last = 0 then 0 else 1) else o - 28)) (upd (upd fy i 0) i b) i v) :
    wY_workPart_357 post (nI i) o dec last b (nI i) yd yu yc yf cy cn sy os ny sz ln py ry (upd fy i 0) my nw := by
  have ci : (nI i).toNatClampNeg = i := nI_clamp (by omega)
  have vi : vp_in (nI i) 24 := vp_in_nI (by omega) (by omega)
  refine ⟨vi, nm_r (by rw [ci, ab_bn b hb]) ?_⟩
  have fin : ∀ w : Int32, w = (if dec = 0 then (if last = 0 then 0 else 1) else o - 28) → (vp_in (nI i) 24 ∧ ∀ ry1, ry1 = upd ry (nI i).toNatClampNeg w → post (yd, yu, yc, yf, cy, cn, sy, os, ny, sz, ln, py, ry1, (upd (upd fy i 0) i b), my, nw)) := by
    intro w hw
    refine ⟨vi, nm_r (by rw [ci, hw]) ?_⟩
    exact h _ _ (fun j hj => pk_un (by omega)) (fun j hj => by rw [pk_un (by omega), pk_un (by omega)]) hv
  refine br_c (fun q => br_c (fun z => fin _ (by rw [if_pos q, if_pos z])) (fun z => fin _ (by rw [if_pos q, if_neg z]))) (fun q => fin _ (by rw [if_neg q]))
theorem ye_320 {post : SY → Prop} {i x y : Nat} {o dec last : Int32} {v vx vy : Option Int32} (hi : i < 24) (hx : x < i) (hy : y < i)
    (ix : yv_is ry fy x vx) (iy : yv_is ry fy y vy) (h : yw_F post yd yu yc yf cy cn sy os ny sz ln py ry fy my nw i v)
    (hn : vx = none → v = none) (hd : ¬ vx = none → ¬ dec = 0 → v = some (o - 28)) (h0 : ¬ vx = none → dec = 0 → (vy = none → v = none) ∧ (¬ vy = none → v = some (if last = 0 then 0 else 1))) :
    wY_workPart_320 post (nI i) o (nI y) (nI x) dec last yd yu yc yf cy cn sy os ny sz ln py ry (upd fy i 0) my nw := by
  have cx : (nI x).toNatClampNeg = x := nI_clamp (by omega)
  have cY : (nI y).toNatClampNeg = y := nI_clamp (by omega)
  refine ⟨vp_in_nI (by omega) (by omega), ?_⟩
  rw [cx, cY, pk_un (f := fy) (by omega), pk_un (f := fy) (by omega)]
  cases hvx : vx with
  | none =>
    rw [hvx] at ix
    have fx : fy x = 1 := ix
    refine br_f (by rw [fx]; decide) (ye_357 hi (Or.inr rfl) h ?_)
    rw [hn hvx]; exact pk_us
  | some a =>
    rw [hvx] at ix hd h0
    refine br_t ix.1 (br_c (fun q => ⟨vp_in_nI (by omega) (by omega), ?_⟩) (fun q => ye_357 hi (Or.inl rfl) h ?_))
    · have h0' := h0 (by simp) q
      cases hvy : vy with
      | none =>
        rw [hvy] at iy
        have f1 : fy y = 1 := iy
        refine br_f (by rw [f1]; decide) (ye_357 hi (Or.inr rfl) h ?_)
        rw [h0'.1 hvy]; exact pk_us
      | some b =>
        rw [hvy] at iy
        refine br_t iy.1 (ye_357 hi (Or.inl rfl) h ?_)
        rw [h0'.2 (by rw [hvy]; simp)]
        exact ⟨pk_us, by rw [pk_us, if_pos q]⟩
    · rw [hd (by simp) q]
      exact ⟨pk_us, by rw [pk_us, if_neg q]⟩
theorem ye_lg {post : SY → Prop} {e i x y j0 : Nat} {k : Int32} {vx vy : Option Int32} (ek : k = nI j0) (h13 : 13 ≤ j0) (h14 : j0 ≤ 14) (hi : i < 24) (hx : x < i) (hy : y < i)
    (ix : yv_is ry fy x vx) (iy : yv_is ry fy y vy) (h : yw_F post yd yu yc yf cy cn sy os ny sz ln py ry fy my nw i (tm_two k vx vy)) :
    wY_workPart_113 post (nI e) (nI i) (tm_yk k) (nI y) (nI x) yd yu yc yf cy cn sy os ny sz ln py ry (upd fy i 0) my nw := by
  have cx : (nI x).toNatClampNeg = x := nI_clamp (by omega)
  have cY : (nI y).toNatClampNeg = y := nI_clamp (by omega)
  have b20 : 20 ≤ tm_yk k := by rw [ek]; exact (tk_20 j0 (by omega)).mpr (nI_lt (a := 4) (by omega) (by omega))
  have b28 : 28 ≤ tm_yk k := by rw [ek]; exact (tk_28 j0 (by omega)).mpr (nI_lt (a := 12) (by omega) (by omega))
  have b30 : ¬ 30 ≤ tm_yk k := by rw [ek, tk_30 j0 (by omega)]; exact nI_nlt (a := 14) (by omega) (by omega)
  have vxi : vp_in (nI x) 24 := vp_in_nI (by omega) (by omega)
  have vyi : vp_in (nI y) 24 := vp_in_nI (by omega) (by omega)
  have bin : ∀ a b : Int32, tm_bin k a b = if b = 0 then 0 else 1 := by
    intro a b
    rcases (by omega : j0 = 13 ∨ j0 = 14) with q | q <;> (rw [ek, q]; rfl)
  have n8 : ¬ k = 8 := by rw [ek]; intro q; have := (nI_eq (b := 8) (by omega) (by omega)).mp q; omega
  -- from the decision on
  have go : ∀ dec : Int32, (∀ a, vx = some a → (dec = 0 ↔ ¬ ((k = 13 ∧ a = 0) ∨ (k = 14 ∧ ¬ a = 0)))) → wY_workPart_303 post (nI i) (tm_yk k) (nI y) (nI x) dec yd yu yc yf cy cn sy os ny sz ln py ry (upd fy i 0) my nw := by
    intro dec hdec
    have go2 : ∀ last : Int32, (∀ b, vy = some b → (last = 0 ↔ b = 0)) → wY_workPart_320 post (nI i) (tm_yk k) (nI y) (nI x) dec last yd yu yc yf cy cn sy os ny sz ln py ry (upd fy i 0) my nw := by
      intro last hl
      refine ye_320 hi hx hy ix iy h (fun q => by rw [q]; cases vy <;> rfl) (fun q z => ?_) (fun q z => ?_)
      · obtain ⟨a, ea⟩ := Option.ne_none_iff_exists'.mp q
        have hd := hdec a ea
        have hd' : (k = 13 ∧ a = 0) ∨ (k = 14 ∧ ¬ a = 0) := Classical.byContradiction (fun w => z (hd.mpr w))
        rw [ea]
        rcases hd' with w | w
        · have : tm_two k (some a) vy = some 0 := by cases vy <;> simp only [tm_two, if_pos w]
          rw [this, w.1]; rfl
        · have w' : ¬ (k = 13 ∧ a = 0) := fun q => w.2 q.2
          have : tm_two k (some a) vy = some 1 := by cases vy <;> simp only [tm_two, if_neg w', if_pos w]
          rw [this, w.1]; rfl
      · obtain ⟨a, ea⟩ := Option.ne_none_iff_exists'.mp q
        have hd := (hdec a ea).mp z
        have w1 : ¬ (k = 13 ∧ a = 0) := fun w => hd (Or.inl w)
        have w2 : ¬ (k = 14 ∧ ¬ a = 0) := fun w => hd (Or.inr w)
        rw [ea]
        constructor
        · intro w; rw [w]; simp only [tm_two, if_neg w1, if_neg w2]
        · intro w
          obtain ⟨b, eb⟩ := Option.ne_none_iff_exists'.mp w
          have n8' : ¬ (k = 8 ∧ b = 0) := fun q => n8 q.1
          rw [eb]
          simp only [tm_two, if_neg w1, if_neg w2, if_neg n8', bin]
          have := hl b eb
          by_cases zb : b = 0
          · rw [if_pos zb, if_pos (this.mpr zb)]
          · rw [if_neg zb, if_neg (fun q => zb (this.mp q))]
    refine ⟨vyi, ?_⟩
    rw [cY]
    refine br_c (fun z => go2 0 (fun b eb => ?_)) (fun z => go2 1 (fun b eb => ?_))
    · rw [eb] at iy; rw [iy.2] at z; exact ⟨fun _ => z, fun _ => rfl⟩
    · rw [eb] at iy; rw [iy.2] at z; exact ⟨fun q => absurd q (by decide), fun q => absurd q z⟩
  have go3 : ∀ z0 : Int32, (z0 = 1 ↔ k = 13) → (z0 = 0 ↔ k = 14) → wY_workPart_280 post (nI i) (tm_yk k) (nI y) (nI x) z0 yd yu yc yf cy cn sy os ny sz ln py ry (upd fy i 0) my nw := by
    intro z0 hz1 hz0
    refine ⟨vxi, ?_⟩
    rw [cx]
    refine br_c (fun z => br_c (fun w => go 1 (fun a ea => ?_)) (fun w => go 0 (fun a ea => ?_))) (fun z => br_c (fun w => go 1 (fun a ea => ?_)) (fun w => go 0 (fun a ea => ?_)))
    · rw [ea] at ix; rw [ix.2] at z
      exact ⟨fun q => absurd q (by decide), fun q => absurd (Or.inl ⟨hz1.mp w, z⟩) q⟩
    · rw [ea] at ix; rw [ix.2] at z
      refine ⟨fun _ q => ?_, fun _ => rfl⟩
      rcases q with q | q
      · exact w (hz1.mpr q.1)
      · exact q.2 z
    · rw [ea] at ix; rw [ix.2] at z
      exact ⟨fun q => absurd q (by decide), fun q => absurd (Or.inr ⟨hz0.mp w, z⟩) q⟩
    · rw [ea] at ix; rw [ix.2] at z
      refine ⟨fun _ q => ?_, fun _ => rfl⟩
      rcases q with q | q
      · exact z q.2
      · exact w (hz0.mpr q.1)
  refine br_t b20 (br_t b28 (br_f b30 (br_c (fun q => go3 1 ?_ ?_) (fun q => go3 0 ?_ ?_))))
  · have e : k = 13 := by rw [ek] at q ⊢; exact (tk_e28 j0 (by omega)).mp q
    exact ⟨fun _ => e, fun _ => rfl⟩
  · have e : k = 13 := by rw [ek] at q ⊢; exact (tk_e28 j0 (by omega)).mp q
    exact ⟨fun z => absurd z (by decide), fun z => absurd (e.symm.trans z) (by decide)⟩
  · have e : ¬ k = 13 := fun z => q (by rw [z]; decide)
    exact ⟨fun z => absurd z (by decide), fun z => absurd z e⟩
  · have e : ¬ k = 13 := fun z => q (by rw [z]; decide)
    have : ¬ j0 = 13 := fun z => e (by rw [ek, z]; rfl)
    exact ⟨fun _ => by rw [ek, show j0 = 14 from by omega]; rfl, fun _ => rfl⟩
theorem ye_ch {post : SY → Prop} {e i x y c : Nat} {vx vy vc : Option Int32} (he : e < 10) (hi : i < 24) (hx : x < i) (hy : y < i) (hc : c < x)
    (ic : yv_is ry fy c vc) (ix : yv_is ry fy x vx) (iy : yv_is ry fy y vy) (hz : sz (24 * e + x) = nI (x - c)) (h : yw_F post yd yu yc yf cy cn sy os ny sz ln py ry fy my nw i (tm_ch vc vx vy)) :
    wY_workPart_113 post (nI e) (nI i) 30 (nI y) (nI x) yd yu yc yf cy cn sy os ny sz ln py ry (upd fy i 0) my nw := by
  have cx : (nI x).toNatClampNeg = x := nI_clamp (by omega)
  have cY : (nI y).toNatClampNeg = y := nI_clamp (by omega)
  have ci : (nI i).toNatClampNeg = i := nI_clamp (by omega)
  have cc : (nI c).toNatClampNeg = c := nI_clamp (by omega)
  have vi : vp_in (nI i) 24 := vp_in_nI (by omega) (by omega)
  refine br_t (by decide) (br_t (by decide) (br_t (by decide) ⟨pk_in (24 * e + x) 240 (by omega) (ab_l24 e x), nm_r (e' := nI c) ?_ ⟨vp_in_nI (by omega) (by omega), ?_⟩⟩))
  · rw [ab_l24, nI_clamp (by omega), hz, pk_sub (by omega)]
    exact congrArg nI (by omega)
  have go : ∀ (z : Nat) (vz : Option Int32), z < i → yv_is ry fy z vz → (¬ vc = none → tm_ch vc vx vy = vz) → wY_workPart_424 post (nI i) (nI c) (nI z) yd yu yc yf cy cn sy os ny sz ln py ry (upd fy i 0) my nw := by
    intro z vz hz iz ez
    have cz : (nI z).toNatClampNeg = z := nI_clamp (by omega)
    refine ⟨vp_in_nI (by omega) (by omega), vi, nm_r (by rw [ci, cz]) ⟨vp_in_nI (by omega) (by omega), ?_⟩⟩
    rw [cc, cz, ci, pk_un (f := fy) (by omega), pk_un (f := fy) (by omega)]
    have fin : ∀ b : Int32, yv_is (upd ry i (ry z)) (upd (upd fy i 0) i b) i (tm_ch vc vx vy) → post (yd, yu, yc, yf, cy, cn, sy, os, ny, sz, ln, py, (upd ry i (ry z)), (upd (upd fy i 0) i b), my, nw) := by
      intro b hv
      exact h _ _ (fun j hj => pk_un (by omega)) (fun j hj => by rw [pk_un (by omega), pk_un (by omega)]) hv
    cases vc with
    | none =>
      have f1 : fy c = 1 := ic
      exact br_f (by rw [f1]; decide) ⟨vi, nm_e (fin _ pk_us)⟩
    | some a =>
      refine br_t ic.1 ⟨vp_in_nI (by omega) (by omega), ?_⟩
      rw [ez (by simp)] at fin
      cases vz with
      | none =>
        have f1 : fy z = 1 := iz
        exact br_f (by rw [f1]; decide) ⟨vi, nm_e (fin _ pk_us)⟩
      | some w =>
        exact br_t iz.1 ⟨vi, nm_e (fin _ ⟨pk_us, by rw [pk_us]; exact iz.2⟩)⟩
  rw [cc]
  refine br_c (fun q => go y vy hy iy (fun w => ?_)) (fun q => go x vx hx ix (fun w => ?_))
  · obtain ⟨a, ea⟩ := Option.ne_none_iff_exists'.mp w
    rw [ea] at ic ⊢
    rw [ic.2] at q
    simp only [tm_ch, if_pos q]
  · obtain ⟨a, ea⟩ := Option.ne_none_iff_exists'.mp w
    rw [ea] at ic ⊢
    rw [ic.2] at q
    simp only [tm_ch, if_neg q]
end
section
variable {xs xu xc : Int32} {th cx sx kd nm ct : Nat → Int32} {op : Nat → Int64} {pa mx rx : Nat → Int32} {yd yu yc yf : Int32} {cy cn sy os ny sz ln py ry fy my nw : Nat → Int32}
theorem yw_part {post : SY → Prop} {e i t r L : Nat} {row K N Z : Nat → Int32} (he : e < 10) (ht : t < 6) (hr : r < 40) (hW : tm_W K N Z L) (hi : i < L)
    (hK : os (24 * e + i) = tm_yk (K i)) (hN : ny (24 * e + i) = N i) (hZ : ∀ j, j < L → sz (24 * e + j) = Z j) (hrow : ∀ c, c < 4 → cy (160 * t + 4 * r + c) = row c)
    (hI : ∀ j, j < i → yv_is ry fy j (tm_V K N row py j))
    (h : ∀ ry' fy', (∀ j, j < i + 1 → yv_is ry' fy' j (tm_V K N row py j)) → post (yd, yu, yc, yf, cy, cn, sy, os, ny, sz, ln, py, ry', fy', my, nw)) :
    wpY_workPart post (yd, yu, yc, yf, cy, cn, sy, os, ny, sz, ln, py, ry, fy, my, nw) (nI e) (nI i) (nI t) (nI r) := by
  have hL := hW.1
  obtain ⟨⟨k0, k15⟩, har, hlen, h1, h2, hz⟩ := hW.2 i hi
  obtain ⟨j0, hj0, ek⟩ := tm_16 k0 k15
  have ci : (nI i).toNatClampNeg = i := nI_clamp (by omega)
  have vi : vp_in (nI i) 24 := vp_in_nI (by omega) (by omega)
  have hF : yw_F post yd yu yc yf cy cn sy os ny sz ln py ry fy my nw i (tm_V K N row py i) := fun ry' fy' a b c => h ry' fy' (yv_to hI a b c)
  refine ⟨pk_in (24 * e + i) 240 (by omega) (ab_l24 e i), nm_r (e' := tm_yk (K i)) (by rw [ab_l24, nI_clamp (by omega)]; exact hK) ⟨pk_in (24 * e + i) 240 (by omega) (ab_l24 e i), nm_r (e' := N i) (by rw [ab_l24, nI_clamp (by omega)]; exact hN) ⟨vi, nm_r (e' := upd fy i 0) (by rw [ci]; rfl) ?_⟩⟩⟩
  have e3 := tk_3 j0 hj0
  have e20 := tk_20 j0 hj0
  rw [← ek] at e3 e20
  have hm := tm_map K N row py i
  by_cases a : 2 < K i
  · refine br_t (e3.mpr a) ?_
    have hp1 : 1 ≤ (tm_ps K i).length := by
      have : 1 ≤ tm_ar (K i) := by
        unfold tm_ar; rw [if_pos a]; split
        · split <;> omega
        · omega
      omega
    obtain ⟨i', rfl⟩ : ∃ i', i = i' + 1 := by
      match i, hp1 with
      | i' + 1, _ => exact ⟨i', rfl⟩
    have eps : tm_ps K (i' + 1) = (i' + 1) :: (tm_ps K i').drop (tm_ar (K i')) := rfl
    have iy := hI i' (by omega)
    refine nm_r (nI_pred i') ?_
    by_cases b : 4 < K (i' + 1)
    · have esz : Z i' = nI (i' + 1 - ((tm_ps K i').drop (tm_ar (K i'))).headD 0) := (hW.2 i' (by omega)).2.2.2.2.2
      have ha2 : 2 ≤ tm_ar (K (i' + 1)) := by
        unfold tm_ar; rw [if_pos a, if_pos b]; split <;> omega
      have hq : ∃ q S, tm_ps K (i' + 1) = (i' + 1) :: q :: S := by
        rw [eps] at har ⊢
        match (tm_ps K i').drop (tm_ar (K i')), har with
        | q :: S, _ => exact ⟨q, S, rfl⟩
        | [], har => simp at har; omega
      obtain ⟨q, S, hqS⟩ := hq
      have edr : (tm_ps K i').drop (tm_ar (K i')) = q :: S := by
        rw [eps] at hqS; exact (List.cons.inj hqS).2
      rw [edr] at esz
      have hqm := tm_mem (K := K) (i := i') (q := q) (List.mem_of_mem_drop (by rw [edr]; exact List.mem_cons_self))
      have esz' : Z i' = nI (i' + 1 - q) := esz
      have hqs : tm_ps K q = q :: S := tm_suf (l := [i' + 1]) hqS
      have ix := hI (q - 1) (by omega)
      refine br_t (e20.mpr b) ⟨pk_in (24 * e + i') 240 (by omega) (ab_l24 e i'), ?_⟩
      have exx : nI i' - sz (24 * nI e + nI i').toNatClampNeg = nI (q - 1) := by
        rw [ab_l24, nI_clamp (by omega), hZ i' (by omega), esz', pk_sub (by omega)]
        exact congrArg nI (by omega)
      rw [exx]
      rw [hqS] at hm
      by_cases c : 14 < K (i' + 1)
      · have e15 : K (i' + 1) = 15 := by
          rw [ek] at c ⊢
          have : 14 < j0 := (nI_ltI (a := 14) (by omega) (by omega)).mp c
          rw [show j0 = 15 from by omega]; rfl
        have ha3 : tm_ar (K (i' + 1)) = 3 := by unfold tm_ar; rw [if_pos a, if_pos b, if_pos c]
        have hq2 : ∃ q2 S2, S = q2 :: S2 := by
          rw [hqS, ha3] at har
          match S, har with
          | q2 :: S2, _ => exact ⟨q2, S2, rfl⟩
          | [], har => simp at har
        obtain ⟨q2, S2, rfl⟩ := hq2
        have ezx : Z (q - 1) = nI (q - q2) := tm_sz hW hqm.1 (by omega) hqs
        have hm2 := tm_mem (K := K) (i := q) (q := q2) (by rw [hqs]; simp)
        have hlt : q2 < q := by
          obtain ⟨q', rfl⟩ : ∃ q', q = q' + 1 := ⟨q - 1, by omega⟩
          have e9 : (q' + 1) :: (tm_ps K q').drop (tm_ar (K q')) = (q' + 1) :: q2 :: S2 := hqs
          have e10 := (List.cons.inj e9).2
          have := tm_mem (K := K) (i := q') (q := q2) (List.mem_of_mem_drop (by rw [e10]; exact List.mem_cons_self))
          omega
        have hV : tm_V K N row py (i' + 1) = tm_ch (tm_V K N row py (q2 - 1)) (tm_V K N row py (q - 1)) (tm_V K N row py i') := by
          unfold tm_V
          rw [tm_v, if_pos a, if_pos b, if_pos c, hm]
          rfl
        rw [hV] at hF
        rw [e15]
        refine ye_ch he (by omega) (by omega) (by omega) (by omega) (hI (q2 - 1) (by omega)) ix iy ?_ hF
        rw [hZ (q - 1) (by omega), ezx]
        exact congrArg nI (by omega)
      · have hV : tm_V K N row py (i' + 1) = tm_two (K (i' + 1)) (tm_V K N row py (q - 1)) (tm_V K N row py i') := by
          unfold tm_V
          rw [tm_v, if_pos a, if_pos b, if_neg c, hm]
          rfl
        rw [hV] at hF
        have l5 : 4 < j0 := by rw [ek] at b; exact (nI_ltI (a := 4) (by omega) (by omega)).mp b
        have l14 : ¬ 14 < j0 := fun z => c (by rw [ek]; exact nI_lt (a := 14) z (by omega))
        by_cases g : j0 ≤ 12
        · exact ye_ar ek (by omega) g (by omega) (by omega) (by omega) ix iy hF
        · exact ye_lg ek (by omega) (by omega) (by omega) (by omega) (by omega) ix iy hF
    · refine br_f (fun z => b (e20.mp z)) ?_
      rw [eps] at hm
      have hV : tm_V K N row py (i' + 1) = tm_one (K (i' + 1)) (tm_V K N row py i') := by
        unfold tm_V
        rw [tm_v, if_pos a, if_neg b, hm]
        rfl
      rw [hV] at hF
      have l2 : 2 < j0 := by rw [ek] at a; exact (nI_ltI (a := 2) (by omega) (by omega)).mp a
      have l4 : ¬ 4 < j0 := fun z => b (by rw [ek]; exact nI_lt (a := 4) z (by omega))
      exact ye_one ek (by omega) (by omega) (by omega) (by omega) iy hF
  · refine br_f (fun z => a (e3.mp z)) ?_
    have hV : tm_V K N row py i = some (tm_lf (K i) (N i) row py) := by
      unfold tm_V
      rw [tm_v, if_neg a]
    rw [hV] at hF
    have t0 := tk_e0 j0 hj0
    have t1 := tk_e1 j0 hj0
    rw [← ek] at t0 t1
    have fin : ∀ w : Int32, w = tm_lf (K i) (N i) row py → (vp_in (nI i) 24 ∧ ∀ ry1, ry1 = upd ry (nI i).toNatClampNeg w → post (yd, yu, yc, yf, cy, cn, sy, os, ny, sz, ln, py, ry1, (upd fy i 0), my, nw)) := by
      intro w hw
      refine ⟨vi, nm_r (by rw [ci]) ?_⟩
      exact hF _ _ (fun j hj => pk_un (by omega)) (fun j hj => pk_un (by omega)) ⟨pk_us, by rw [pk_us, hw]⟩
    refine br_c (fun q => fin _ (by rw [tm_lf, if_pos (t0.mp q)])) (fun q => br_c (fun q1 => ?_) (fun q1 => ?_))
    · have q1' := t1.mp q1
      obtain ⟨c, hc, ec⟩ := h1 q1'
      rw [ec]
      refine ⟨pk_in (160 * t + 4 * r + c) 960 (by omega) (ab_cell t r c), ?_⟩
      refine fin _ ?_
      rw [ab_cell, nI_clamp (by omega), hrow c hc, tm_lf, if_neg (fun z => q (t0.mpr z)), if_pos q1', ec, nI_clamp (by omega)]
    · have q0' : ¬ K i = 0 := fun z => q (t0.mpr z)
      have q1' : ¬ K i = 1 := fun z => q1 (t1.mpr z)
      have q2 : K i = 2 := by
        rw [ek] at a q0' q1' ⊢
        have : ¬ (2 : Nat) < j0 := fun z => a (nI_lt (a := 2) z (by omega))
        have : ¬ j0 = 0 := fun z => q0' (by rw [z]; rfl)
        have : ¬ j0 = 1 := fun z => q1' (by rw [z]; rfl)
        rw [show j0 = 2 from by omega]; rfl
      obtain ⟨c, hc, ec⟩ := h2 q2
      rw [ec]
      refine ⟨vp_in_nI (by omega) (by omega), fin _ ?_⟩
      rw [tm_lf, if_neg q0', if_neg q1', ec]
theorem yw_loop {post : Int32 → SY → Prop} {e t r L : Nat} {row K N Z : Nat → Int32} (he : e < 10) (ht : t < 6) (hr : r < 40) (hW : tm_W K N Z L) (hL1 : 1 ≤ L)
    (hK : ∀ i, i < L → os (24 * e + i) = tm_yk (K i)) (hN : ∀ i, i < L → ny (24 * e + i) = N i) (hZ : ∀ j, j < L → sz (24 * e + j) = Z j) (hl : ln e = nI L)
    (hrow : ∀ c, c < 4 → cy (160 * t + 4 * r + c) = row c)
    (h : ∀ ry' fy' w f, yv_is (fun _ => w) (fun _ => f) 0 (tm_V K N row py (L - 1)) → post w (yd, yu, yc, f, cy, cn, sy, os, ny, sz, ln, py, ry', fy', my, nw)) :
    ∀ d i n ry fy, i + d = L → d < n → (∀ j, j < i → yv_is ry fy j (tm_V K N row py j)) → wY_work_3 post (nI e) (nI t) (nI r) n (nI i) yd yu yc yf cy cn sy os ny sz ln py ry fy my nw := by
  have hL := hW.1
  have ce : (nI e).toNatClampNeg = e := nI_clamp (by omega)
  intro d
  induction d with
  | zero =>
    intro i n ry fy hi hn hI
    obtain ⟨n, rfl⟩ : ∃ m, n = m + 1 := ⟨n - 1, by omega⟩
    obtain rfl : i = L := by omega
    have ve : vp_in (nI e) 10 := vp_in_nI (by omega) (by omega)
    refine ⟨ve, ?_⟩
    have el : ln (nI e).toNatClampNeg = nI i := by rw [ce]; exact hl
    have em : nI i - 1 = nI (i - 1) := pk_sub (b := 1) hL1
    have cm : (nI (i - 1)).toNatClampNeg = i - 1 := nI_clamp (by omega)
    rw [el, em, cm]
    have hv := hI (i - 1) (by omega)
    have vm : vp_in (nI (i - 1)) 24 := vp_in_nI (by omega) (by omega)
    have b01 : fy (i - 1) = 0 ∨ fy (i - 1) = 1 := by
      cases hV : tm_V K N row py (i - 1) with
      | none => rw [hV] at hv; exact Or.inr hv
      | some a => rw [hV] at hv; exact Or.inl hv.1
    refine br_t (Int32.le_refl _) ⟨ve, vm, nm_e ⟨ab_nb b01, ab_fb b01, ve, vm, h _ _ _ _ ?_⟩⟩
    cases hV : tm_V K N row py (i - 1) with
    | none => rw [hV] at hv; exact hv
    | some a => rw [hV] at hv; exact hv
  | succ d ih =>
    intro i n ry fy hi hn hI
    obtain ⟨n, rfl⟩ : ∃ m, n = m + 1 := ⟨n - 1, by omega⟩
    have ve : vp_in (nI e) 10 := vp_in_nI (by omega) (by omega)
    refine ⟨ve, ?_⟩
    have el : ln (nI e).toNatClampNeg = nI L := by rw [ce]; exact hl
    rw [el]
    refine br_f (nI_ge (by omega) (by omega)) ?_
    refine yw_part he ht hr hW (by omega) (hK i (by omega)) (hN i (by omega)) hZ hrow hI (fun ry' fy' hI' => ?_)
    exact nm_r (nI_1 i) (ih (i + 1) n ry' fy' (by omega) (by omega) hI')
theorem yw_work {post : Int32 → SY → Prop} {e t r L : Nat} {row K N Z : Nat → Int32} (he : e < 10) (ht : t < 6) (hr : r < 40) (hW : tm_W K N Z L) (hL1 : 1 ≤ L)
    (hK : ∀ i, i < L → os (24 * e + i) = tm_yk (K i)) (hN : ∀ i, i < L → ny (24 * e + i) = N i) (hZ : ∀ j, j < L → sz (24 * e + j) = Z j) (hl : ln e = nI L)
    (hrow : ∀ c, c < 4 → cy (160 * t + 4 * r + c) = row c)
    (h : ∀ ry' fy' w f, yv_is (fun _ => w) (fun _ => f) 0 (tm_V K N row py (L - 1)) → post w (yd, yu, yc, f, cy, cn, sy, os, ny, sz, ln, py, ry', fy', my, nw)) :
    wpY_work post (yd, yu, yc, yf, cy, cn, sy, os, ny, sz, ln, py, ry, fy, my, nw) (nI e) (nI t) (nI r) :=
  ⟨L + 1, yw_loop he ht hr hW hL1 hK hN hZ hl hrow h L 0 (L + 1) ry fy (by omega) (by omega) (fun j hj => absurd hj (by omega))⟩
end
end
section
/-! tables: what copying does to them -/
section
variable {xs xu xc : Int32} {th cx sx kd nm ct : Nat → Int32} {op : Nat → Int64} {pa mx rx : Nat → Int32} {yd yu yc yf : Int32} {cy cn sy os ny sz ln py ry fy my nw : Nat → Int32}
theorem rt_cg {th' cx' cn' cy' : Nat → Int32} {p p' t t' : Nat} (h : rt_R th cx p cn cy t) (h1 : ∀ s, s < 101 → th' (p' * 101 + s) = th (p * 101 + s))
    (h2 : ∀ s, s < 101 → ∀ c, c < 4 → cx' ((p' * 101 + s) * 4 + c) = cx ((p * 101 + s) * 4 + c)) (h3 : cn' t' = cn t) (h4 : ∀ i, i < 160 → cy' (160 * t' + i) = cy (160 * t + i)) : rt_R th' cx' p' cn' cy' t' := by
  obtain ⟨a, b⟩ := h
  have := ta_cg (xt' := vx_t th' p') (xr' := vx_r cx' p') (yr' := vy_r cy' t') b (fun s hs => by show th _ = 0 ↔ th' _ = 0; rw [h1 s hs]) (fun s hs _ c hc => h2 s hs c hc) (fun r hr c hc => by
    show cy' (160 * t' + 4 * r + c) = cy (160 * t + 4 * r + c)
    rw [Nat.add_assoc, Nat.add_assoc]
    exact h4 (4 * r + c) (by omega))
  exact ⟨by rw [h3, a, this.1], this.2⟩
def bo_A (th : Nat → Int32) : Prop := ∀ j, th j = 0 ∨ th j = 1
theorem bo_u {k : Nat} {x : Int32} (h : bo_A th) (hx : x = 0 ∨ x = 1) : bo_A (upd th k x) := by
  intro j
  by_cases e : j = k
  · subst e; rw [pk_us]; exact hx
  · rw [pk_un e]; exact h j
/-- the current table and the four places -/
def tb_A (th cx cn cy : Nat → Int32) : Prop := rt_R th cx 4 cn cy 0 ∧ ∀ p, p < 4 → rt_R th cx p cn cy (p + 1)
theorem tb_keep {th' cx' cn' cy' : Nat → Int32} (h : tb_A th cx cn cy) (h1 : ∀ j, j < 505 → th' j = th j) (h2 : ∀ j, j < 2020 → cx' j = cx j) (h3 : ∀ t, t < 5 → cn' t = cn t) (h4 : ∀ j, j < 800 → cy' j = cy j) : tb_A th' cx' cn' cy' :=
  ⟨rt_cg h.1 (fun s hs => h1 _ (by omega)) (fun s hs c hc => h2 _ (by omega)) (h3 0 (by omega)) (fun i hi => h4 _ (by omega)),
   fun p hp => rt_cg (h.2 p hp) (fun s hs => h1 _ (by omega)) (fun s hs c hc => h2 _ (by omega)) (h3 _ (by omega)) (fun i hi => h4 _ (by omega))⟩
def cp_T (th cx th' cx' : Nat → Int32) (p q : Nat) : Prop :=
  (∀ s, s < 101 → th' (q * 101 + s) = th (p * 101 + s)) ∧ (∀ j, j < q * 101 ∨ q * 101 + 101 ≤ j → th' j = th j) ∧
  (∀ s, s < 101 → ∀ c, c < 4 → cx' ((q * 101 + s) * 4 + c) = cx ((p * 101 + s) * 4 + c)) ∧ (∀ j, j < q * 404 ∨ q * 404 + 404 ≤ j → cx' j = cx j)
theorem cp_bo {th' cx' : Nat → Int32} {p q : Nat} (h : cp_T th cx th' cx' p q) (hb : bo_A th) : bo_A th' := by
  intro j
  by_cases e : j < q * 101 ∨ q * 101 + 101 ≤ j
  · rw [h.2.1 j e]; exact hb j
  · have : j = q * 101 + (j - q * 101) := by omega
    rw [this, h.1 (j - q * 101) (by omega)]; exact hb _
theorem xc_rows_l {post : Int32 → Prop} {p : Nat} (hp : p < 6) (h : post (nI (ra_k (vx_t th p) 101))) :
    ∀ d i n, i + d = 101 → d < n → wX_countRows_7 post (nI p) xs xu xc th cx sx kd nm ct op pa mx rx n (nI (ra_k (vx_t th p) i)) (nI (p * 101 + i)) := by
  have eb : nI p * 101 + 101 = nI (p * 101 + 101) := ab_m101 p 101
  intro d
  induction d with
  | zero =>
    intro i n hi hn
    obtain ⟨n, rfl⟩ : ∃ m, n = m + 1 := ⟨n - 1, by omega⟩
    obtain rfl : i = 101 := by omega
    exact br_t (by rw [eb]; exact Int32.le_refl _) h
  | succ d ih =>
    intro i n hi hn
    obtain ⟨n, rfl⟩ : ∃ m, n = m + 1 := ⟨n - 1, by omega⟩
    have ci : (nI (p * 101 + i)).toNatClampNeg = p * 101 + i := nI_clamp (by omega)
    refine br_f (by rw [eb]; exact nI_ge (by omega) (by omega)) ⟨vp_in_nI (by omega) (by omega), ?_⟩
    rw [ci]
    refine br_c (fun z => nm_r (nI_1 _) ?_) (fun z => nm_r (nI_1 _) (nm_r (nI_1 _) ?_))
    · have := ih (i + 1) n (by omega) (by omega)
      rw [ra_s0 (t := vx_t th p) z] at this
      exact this
    · have := ih (i + 1) n (by omega) (by omega)
      rw [ra_s1 (t := vx_t th p) z] at this
      exact this
theorem xc_rows {post : Int32 → Prop} {p : Nat} (hp : p < 6) (h : post (nI (ra_k (vx_t th p) 101))) : wpX_countRows post (xs, xu, xc, th, cx, sx, kd, nm, ct, op, pa, mx, rx) (nI p) :=
  nm_r (pk_mul p 101) ⟨102, xc_rows_l hp h 101 0 102 (by omega) (by omega)⟩
theorem xc_slot_l {post : SX → Prop} {a b : Nat} (ha : a < 606) (hb : b < 606)
    (h : ∀ cx', (∀ c, c < 4 → cx' (b * 4 + c) = cx (a * 4 + c)) → (∀ j, j < b * 4 ∨ b * 4 + 4 ≤ j → cx' j = cx j) → post (xs, xu, xc, th, cx', sx, kd, nm, ct, op, pa, mx, rx)) :
    ∀ d i n cx1, i + d = 4 → d < n → (∀ c, c < i → cx1 (b * 4 + c) = cx (a * 4 + c)) → (∀ j, j < b * 4 ∨ b * 4 + i ≤ j → cx1 j = cx j) → wX_copySlot_14 post (nI a) (nI b) xs xu xc n (nI i) th cx1 sx kd nm ct op pa mx rx := by
  intro d
  induction d with
  | zero =>
    intro i n cx1 hi hn h1 h2
    obtain ⟨n, rfl⟩ : ∃ m, n = m + 1 := ⟨n - 1, by omega⟩
    obtain rfl : i = 4 := by omega
    exact br_t (by decide) (h cx1 h1 h2)
  | succ d ih =>
    intro i n cx1 hi hn h1 h2
    obtain ⟨n, rfl⟩ : ∃ m, n = m + 1 := ⟨n - 1, by omega⟩
    refine br_f (nI_ge (b := 4) (by omega) (by omega)) ⟨pk_in (a * 4 + i) 2424 (by omega) (ab_m4 a i), pk_in (b * 4 + i) 2424 (by omega) (ab_m4 b i), nm_r (e' := upd cx1 (b * 4 + i) (cx (a * 4 + i))) ?_ (nm_r (nI_1 i) ?_)⟩
    · rw [ab_m4, ab_m4, nI_clamp (by omega), nI_clamp (by omega), h2 (a * 4 + i) (by omega)]
    · refine ih (i + 1) n _ (by omega) (by omega) (fun c hc => ?_) (fun j hj => ?_)
      · by_cases e : c = i
        · subst e; rw [pk_us]
        · rw [pk_un (by omega)]; exact h1 c (by omega)
      · rw [pk_un (by omega)]; exact h2 j (by omega)
theorem xc_slot {post : SX → Prop} {a b : Nat} (ha : a < 606) (hb : b < 606) (hbo : th a = 0 ∨ th a = 1)
    (h : ∀ cx', (∀ c, c < 4 → cx' (b * 4 + c) = cx (a * 4 + c)) → (∀ j, j < b * 4 ∨ b * 4 + 4 ≤ j → cx' j = cx j) → post (xs, xu, xc, (upd th b (th a)), cx', sx, kd, nm, ct, op, pa, mx, rx)) : wpX_copySlot post (xs, xu, xc, th, cx, sx, kd, nm, ct, op, pa, mx, rx) (nI a) (nI b) := by
  refine ⟨vp_in_nI (by omega) (by omega), vp_in_nI (by omega) (by omega), nm_r (e' := upd th b (th a)) ?_ ⟨5, ?_⟩⟩
  · rw [nI_clamp (by omega), nI_clamp (by omega), ab_bn _ hbo]
  · exact xc_slot_l ha hb h 4 0 5 cx (by omega) (by omega) (fun c hc => absurd hc (by omega)) (fun j hj => rfl)
theorem xc_tab_l {post : SX → Prop} {p q : Nat} (hp : p < 6) (hq : q < 6) (hpq : p ≠ q) (hb : bo_A th)
    (h : ∀ th' cx', cp_T th cx th' cx' p q → post (xs, xu, xc, th', cx', sx, kd, nm, ct, op, pa, mx, rx)) :
    ∀ d i n th1 cx1, i + d = 101 → d < n → (∀ s, s < i → th1 (q * 101 + s) = th (p * 101 + s)) → (∀ j, j < q * 101 ∨ q * 101 + i ≤ j → th1 j = th j) →
      (∀ s, s < i → ∀ c, c < 4 → cx1 ((q * 101 + s) * 4 + c) = cx ((p * 101 + s) * 4 + c)) → (∀ j, j < q * 404 ∨ q * 404 + i * 4 ≤ j → cx1 j = cx j) →
      wX_copyTable_2 post (nI p) (nI q) n (nI i) xs xu xc th1 cx1 sx kd nm ct op pa mx rx := by
  intro d
  induction d with
  | zero =>
    intro i n th1 cx1 hi hn h1 h2 h3 h4
    obtain ⟨n, rfl⟩ : ∃ m, n = m + 1 := ⟨n - 1, by omega⟩
    obtain rfl : i = 101 := by omega
    exact br_t (by decide) (h th1 cx1 ⟨h1, h2, h3, fun j hj => h4 j (by omega)⟩)
  | succ d ih =>
    intro i n th1 cx1 hi hn h1 h2 h3 h4
    obtain ⟨n, rfl⟩ : ∃ m, n = m + 1 := ⟨n - 1, by omega⟩
    refine br_f (nI_ge (b := 101) (by omega) (by omega)) ?_
    rw [ab_m101, ab_m101]
    have e1 : th1 (p * 101 + i) = th (p * 101 + i) := h2 _ (by omega)
    refine xc_slot (by omega) (by omega) (by rw [e1]; exact hb _) (fun cx' k1 k2 => nm_r (nI_1 i) (ih (i + 1) n _ cx' (by omega) (by omega) (fun s hs => ?_) (fun j hj => ?_) (fun s hs c hc => ?_) (fun j hj => ?_)))
    · by_cases e : s = i
      · subst e; rw [pk_us, e1]
      · rw [pk_un (by omega)]; exact h1 s (by omega)
    · rw [pk_un (by omega)]; exact h2 j (by omega)
    · by_cases e : s = i
      · subst e; rw [k1 c hc]; exact h4 _ (by omega)
      · rw [k2 _ (by omega)]; exact h3 s (by omega) c hc
    · rw [k2 _ (by omega)]; exact h4 j (by omega)
theorem xc_tab {post : SX → Prop} {p q : Nat} (hp : p < 6) (hq : q < 6) (hpq : p ≠ q) (hb : bo_A th)
    (h : ∀ th' cx', cp_T th cx th' cx' p q → post (xs, xu, xc, th', cx', sx, kd, nm, ct, op, pa, mx, rx)) : wpX_copyTable post (xs, xu, xc, th, cx, sx, kd, nm, ct, op, pa, mx, rx) (nI p) (nI q) :=
  ⟨102, xc_tab_l hp hq hpq hb h 101 0 102 th cx (by omega) (by omega) (fun s hs => absurd hs (by omega)) (fun j _ => rfl) (fun s hs => absurd hs (by omega)) (fun j _ => rfl)⟩
def cl_T (cy cn cy' cn' : Nat → Int32) (t u : Nat) : Prop :=
  (∀ i, i < 160 → cy' (160 * u + i) = cy (160 * t + i)) ∧ (∀ j, j < 160 * u ∨ 160 * u + 160 ≤ j → cy' j = cy j) ∧ cn' = upd cn u (cn t)
theorem yc_list_l {post : SY → Prop} {t u : Nat} (ht : t < 6) (hu : u < 6) (htu : t ≠ u)
    (h : ∀ cy' cn', cl_T cy cn cy' cn' t u → post (yd, yu, yc, yf, cy', cn', sy, os, ny, sz, ln, py, ry, fy, my, nw)) :
    ∀ d i n cy1, i + d = 160 → d < n → (∀ c, c < i → cy1 (160 * u + c) = cy (160 * t + c)) → (∀ j, j < 160 * u ∨ 160 * u + i ≤ j → cy1 j = cy j) → wY_copyList_2 post (nI t) (nI u) yd yu yc yf n (nI i) cy1 cn sy os ny sz ln py ry fy my nw := by
  intro d
  induction d with
  | zero =>
    intro i n cy1 hi hn h1 h2
    obtain ⟨n, rfl⟩ : ∃ m, n = m + 1 := ⟨n - 1, by omega⟩
    obtain rfl : i = 160 := by omega
    refine br_t (by decide) ⟨vp_in_nI (by omega) (by omega), vp_in_nI (by omega) (by omega), nm_r (e' := upd cn u (cn t)) ?_ (h cy1 _ ⟨h1, h2, rfl⟩)⟩
    rw [nI_clamp (by omega), nI_clamp (by omega)]
  | succ d ih =>
    intro i n cy1 hi hn h1 h2
    obtain ⟨n, rfl⟩ : ∃ m, n = m + 1 := ⟨n - 1, by omega⟩
    refine br_f (nI_ge (b := 160) (by omega) (by omega)) ⟨pk_in (160 * t + i) 960 (by omega) (ab_l160 t i), pk_in (160 * u + i) 960 (by omega) (ab_l160 u i), nm_r (e' := upd cy1 (160 * u + i) (cy (160 * t + i))) ?_ (nm_r (nI_1 i) ?_)⟩
    · rw [ab_l160, ab_l160, nI_clamp (by omega), nI_clamp (by omega), h2 (160 * t + i) (by omega)]
    · refine ih (i + 1) n _ (by omega) (by omega) (fun c hc => ?_) (fun j hj => ?_)
      · by_cases e : c = i
        · subst e; rw [pk_us]
        · rw [pk_un (by omega)]; exact h1 c (by omega)
      · rw [pk_un (by omega)]; exact h2 j (by omega)
theorem yc_list {post : SY → Prop} {t u : Nat} (ht : t < 6) (hu : u < 6) (htu : t ≠ u)
    (h : ∀ cy' cn', cl_T cy cn cy' cn' t u → post (yd, yu, yc, yf, cy', cn', sy, os, ny, sz, ln, py, ry, fy, my, nw)) : wpY_copyList post (yd, yu, yc, yf, cy, cn, sy, os, ny, sz, ln, py, ry, fy, my, nw) (nI t) (nI u) :=
  ⟨161, yc_list_l ht hu htu h 160 0 161 cy (by omega) (by omega) (fun s hs => absurd hs (by omega)) (fun j _ => rfl)⟩
theorem yc_cell {post : Int32 → Prop} {t r c : Nat} (ht : t < 6) (hr : r < 40) (hc : c < 4) (h : post (cy (160 * t + 4 * r + c))) : wpY_cell post (yd, yu, yc, yf, cy, cn, sy, os, ny, sz, ln, py, ry, fy, my, nw) (nI t) (nI r) (nI c) := by
  refine ⟨pk_in (160 * t + 4 * r + c) 960 (by omega) (ab_cell t r c), ?_⟩
  rw [ab_cell, nI_clamp (by omega)]
  exact h
/-- arguments -/
theorem xa_exp {post : Int32 → Prop} {e : Nat} (he : e < 8) (h : post 1) : wpX_isExpression post (nI e) := br_f (nI_pos (by omega)) (br_f (nI_ge (b := 8) he (by omega)) h)
theorem xa_expN {post : Int32 → Prop} {x : Int32} (hx : x < 0 ∨ nI 8 ≤ x) (h : post 0) : wpX_isExpression post x := by
  by_cases z : x < 0
  · exact br_t z h
  · exact br_f z (br_t (hx.resolve_left z) h)
theorem ya_exp {post : Int32 → Prop} {e : Nat} (he : e < 8) (h : post 1) : wpY_isExpression post (yd, yu, yc, yf, cy, cn, sy, os, ny, sz, ln, py, ry, fy, my, nw) (nI e) := br_f (nI_pos (by omega)) (br_f (nI_nlt (a := 7) (by omega) (by omega)) h)
theorem ya_expN {post : Int32 → Prop} {x : Int32} (hx : x < 0 ∨ nI 8 ≤ x) (h : post 0) : wpY_isExpression post (yd, yu, yc, yf, cy, cn, sy, os, ny, sz, ln, py, ry, fy, my, nw) x := by
  by_cases z : x < 0
  · exact br_t z h
  · refine br_f z (br_t ?_ h)
    have h8 := Int32.le_iff_toInt_le.mp (hx.resolve_left z)
    rw [nI_toInt (by omega)] at h8
    exact Int32.lt_iff_toInt_lt.mpr (by rw [show (7 : Int32).toInt = 7 from by decide]; omega)
theorem xa_col {post : Int32 → Prop} {e : Nat} (he : e < 4) (h : post 1) : wpX_isColumn post (nI e) := br_f (nI_pos (by omega)) (br_f (nI_ge (b := 4) he (by omega)) h)
theorem xa_colN {post : Int32 → Prop} {x : Int32} (hx : x < 0 ∨ nI 4 ≤ x) (h : post 0) : wpX_isColumn post x := by
  by_cases z : x < 0
  · exact br_t z h
  · exact br_f z (br_t (hx.resolve_left z) h)
theorem xa_pl {post : Int32 → Prop} {e : Nat} (he : e < 4) (h : post 1) : wpX_isPlace post (nI e) := br_f (nI_pos (by omega)) (br_f (nI_ge (b := 4) he (by omega)) h)
theorem xa_plN {post : Int32 → Prop} {x : Int32} (hx : x < 0 ∨ nI 4 ≤ x) (h : post 0) : wpX_isPlace post x := by
  by_cases z : x < 0
  · exact br_t z h
  · exact br_f z (br_t (hx.resolve_left z) h)
theorem ya_pl {post : Int32 → Prop} {e : Nat} (he : e < 4) (h : post 1) : wpY_isPlace post (yd, yu, yc, yf, cy, cn, sy, os, ny, sz, ln, py, ry, fy, my, nw) (nI e) := br_f (nI_pos (by omega)) (br_f (nI_nlt (a := 3) (by omega) (by omega)) h)
theorem ya_gt3 {x : Int32} (h : nI 4 ≤ x) : 3 < x := by
  have h8 := Int32.le_iff_toInt_le.mp h
  rw [nI_toInt (by omega)] at h8
  exact Int32.lt_iff_toInt_lt.mpr (by rw [show (3 : Int32).toInt = 3 from by decide]; omega)
theorem ya_plN {post : Int32 → Prop} {x : Int32} (hx : x < 0 ∨ nI 4 ≤ x) (h : post 0) : wpY_isPlace post (yd, yu, yc, yf, cy, cn, sy, os, ny, sz, ln, py, ry, fy, my, nw) x := by
  by_cases z : x < 0
  · exact br_t z h
  · exact br_f z (br_t (ya_gt3 (hx.resolve_left z)) h)
theorem xa_key {post : Int32 → Prop} {s : Nat} (hs : s < 101) (h : post 1) : wpX_isKey post (nI s - 50) := br_f (ab_k1 hs) (br_f (ab_k2 hs) h)
theorem xa_keyN {post : Int32 → Prop} {x : Int32} (hx : x < -50 ∨ 50 < x) (h : post 0) : wpX_isKey post x := by
  by_cases z : x < -50
  · exact br_t z h
  · exact br_f z (br_t (hx.resolve_left z) h)
theorem xa_free {post : Int32 → Prop} {p s : Nat} (hp : p < 6) (hs : s < 101) (h : th (p * 101 + s) = 0 → post 1) (h' : ¬ th (p * 101 + s) = 0 → post 0) : wpX_isFree post (xs, xu, xc, th, cx, sx, kd, nm, ct, op, pa, mx, rx) (nI p) (nI s - 50) := by
  unfold wpX_isFree
  dsimp only
  refine xa_key hs (br_f (by decide) ?_)
  show vp_in (nI p * 101 + (nI s - 50) - (-50)) 606 ∧ _
  rw [ab_so, nI_clamp (by omega)]
  exact ⟨vp_in_nI (by omega) (by omega), br_c h h'⟩
theorem xa_freeN {post : Int32 → Prop} {p : Int32} {x : Int32} (hx : x < -50 ∨ 50 < x) (h : post 0) : wpX_isFree post (xs, xu, xc, th, cx, sx, kd, nm, ct, op, pa, mx, rx) p x := by
  unfold wpX_isFree
  dsimp only
  exact xa_keyN hx (br_t rfl h)
end
end
section
/-! selection: X's selectRows, selectResults; Y's findMeets, findValues; each against the machine's value -/
section
variable {xs xu xc : Int32} {th cx sx kd nm ct : Nat → Int32} {op : Nat → Int64} {pa mx rx : Nat → Int32} {yd yu yc yf : Int32} {cy cn sy os ny sz ln py ry fy my nw : Nat → Int32}
def te_X (kd nm ct K N Z : Nat → Int32) (e L : Nat) : Prop :=
  e < 10 ∧ tm_W K N Z L ∧ (tm_ps K L).length = 1 ∧ (∀ i, i < L → kd (e * 24 + i) = K i) ∧ (∀ i, i < L → nm (e * 24 + i) = N i) ∧ ct e = nI L
def te_Y (os ny sz ln K N Z : Nat → Int32) (e L : Nat) : Prop :=
  e < 10 ∧ tm_W K N Z L ∧ 1 ≤ L ∧ (∀ i, i < L → os (24 * e + i) = tm_yk (K i)) ∧ (∀ i, i < L → ny (24 * e + i) = N i) ∧ (∀ j, j < L → sz (24 * e + j) = Z j) ∧ ln e = nI L
def pv_T (K N : Nat → Int32) (L : Nat) (par row : Nat → Int32) : Option Int32 := tm_V K N row par (L - 1)
theorem te_out {post : Int64 → SX → Prop} {e L p s : Nat} {K N Z : Nat → Int32} (T : te_X kd nm ct K N Z e L) (hp : p < 6) (hs : s < 101)
    (h : ∀ op', post (tm_e (pv_T K N L pa (vx_r cx p s))) (xs, xu, xc, th, cx, sx, kd, nm, ct, op', pa, mx, rx)) : wpX_workOut post (xs, xu, xc, th, cx, sx, kd, nm, ct, op, pa, mx, rx) (nI e) (nI (p * 101 + s)) :=
  xw_out T.1 (by omega) T.2.1 T.2.2.1 T.2.2.2.1 T.2.2.2.2.1 T.2.2.2.2.2 (fun _ _ => rfl) h
theorem te_work {post : Int32 → SY → Prop} {e L t r : Nat} {K N Z : Nat → Int32} (T : te_Y os ny sz ln K N Z e L) (ht : t < 6) (hr : r < 40)
    (h : ∀ ry' fy' w f, yv_is (fun _ => w) (fun _ => f) 0 (pv_T K N L py (vy_r cy t r)) → post w (yd, yu, yc, f, cy, cn, sy, os, ny, sz, ln, py, ry', fy', my, nw)) : wpY_work post (yd, yu, yc, yf, cy, cn, sy, os, ny, sz, ln, py, ry, fy, my, nw) (nI e) (nI t) (nI r) :=
  yw_work T.1 ht hr T.2.1 T.2.2.1 T.2.2.2.1 T.2.2.2.2.1 T.2.2.2.2.2.1 T.2.2.2.2.2.2 (fun _ _ => rfl) h
theorem tm_cg {K N Z : Nat → Int32} {L : Nat} {row row' par : Nat → Int32} (hW : tm_W K N Z L) (h : ∀ c, c < 4 → row c = row' c) : ∀ i, i ≤ L → tm_vs K N row par i = tm_vs K N row' par i := by
  intro i
  induction i with
  | zero => intro _; rfl
  | succ i ih =>
    intro hi
    have e := ih (by omega)
    obtain ⟨_, _, _, h1, _, _⟩ := hW.2 i (by omega)
    have : ∀ S, tm_v (K i) (N i) row par S = tm_v (K i) (N i) row' par S := by
      intro S
      unfold tm_v tm_lf
      by_cases k1 : K i = 1
      · obtain ⟨c, hc, ec⟩ := h1 k1
        rw [ec, nI_clamp (by omega), h c hc]
      · simp only [if_neg k1]
    show tm_v _ _ _ _ _ :: _ = tm_v _ _ _ _ _ :: _
    rw [e, this]
theorem pv_cg {K N Z : Nat → Int32} {L : Nat} {row row' par : Nat → Int32} (hW : tm_W K N Z L) (hL : 1 ≤ L) (h : ∀ c, c < 4 → row c = row' c) : pv_T K N L par row = pv_T K N L par row' := by
  have := tm_cg (par := par) hW h L (Nat.le_refl _)
  obtain ⟨L, rfl⟩ : ∃ m, L = m + 1 := ⟨L - 1, by omega⟩
  exact (List.cons.inj this).1
/-- X's selectRows -/
theorem xs_rows_l {post : Int32 → SX → Prop} {e L : Nat} {K N Z : Nat → Int32} (T : te_X kd nm ct K N Z e L)
    (hF : (∃ s, s < 101 ∧ ¬ vx_t th 4 s = 0 ∧ pv_T K N L pa (vx_r cx 4 s) = none) → ∀ op' mx', post (-1000000005) (xs, xu, xc, th, cx, sx, kd, nm, ct, op', pa, mx', rx))
    (hS : ∀ op' mx', (∀ s, s < 101 → ¬ vx_t th 4 s = 0 → ∃ v, pv_T K N L pa (vx_r cx 4 s) = some v ∧ mx' s = if v = 0 then 0 else 1) → (∀ s, s < 101 → vx_t th 4 s = 0 → mx' s = 0) → post (nI (ra_k mx' 101)) (xs, xu, xc, th, cx, sx, kd, nm, ct, op', pa, mx', rx)) :
    ∀ d i n op mx, i + d = 101 → d < n → (∀ s, s < i → ¬ vx_t th 4 s = 0 → ∃ v, pv_T K N L pa (vx_r cx 4 s) = some v ∧ mx s = if v = 0 then 0 else 1) → (∀ s, s < i → vx_t th 4 s = 0 → mx s = 0) →
      wX_selectRows_4 post (nI e) n (nI (ra_k mx i)) (nI i) xs xu xc th cx sx kd nm ct op pa mx rx := by
  intro d
  induction d with
  | zero =>
    intro i n op mx hi hn h1 h2
    obtain ⟨n, rfl⟩ : ∃ m, n = m + 1 := ⟨n - 1, by omega⟩
    obtain rfl : i = 101 := by omega
    exact br_t (by decide) (hS op mx h1 h2)
  | succ d ih =>
    intro i n op mx hi hn h1 h2
    obtain ⟨n, rfl⟩ : ∃ m, n = m + 1 := ⟨n - 1, by omega⟩
    have ci : (nI i).toNatClampNeg = i := nI_clamp (by omega)
    have e4 : 404 + nI i = nI (404 + i) := nI_add 404 i
    have c4 : (nI (404 + i)).toNatClampNeg = 404 + i := nI_clamp (by omega)
    have vi : vp_in (nI i) 101 := vp_in_nI (by omega) (by omega)
    have keep : ∀ (x : Int32) (mx1 : Nat → Int32), mx1 = upd mx i x → (∀ s, s < i → mx1 s = mx s) ∧ ra_k mx1 i = ra_k mx i := by
      intro x mx1 e1
      have a : ∀ s, s < i → mx1 s = mx s := fun s hs => by rw [e1, pk_un (by omega)]
      exact ⟨a, ra_cg (fun j hj => by rw [a j hj])⟩
    have k0 := keep 0 (upd mx i 0) rfl
    refine br_f (nI_ge (b := 101) (by omega) (by omega)) ⟨vi, nm_r (e' := upd mx i 0) (by rw [ci]; rfl) ⟨pk_in (404 + i) 606 (by omega) e4, ?_⟩⟩
    rw [e4, c4]
    refine br_c (fun z => nm_r (nI_1 i) ?_) (fun z => ?_)
    · have := ih (i + 1) n op (upd mx i 0) (by omega) (by omega) (fun s hs => ?_) (fun s hs hz => ?_)
      · rw [ra_s0 (t := upd mx i 0) pk_us, k0.2] at this
        exact this
      · intro hz
        by_cases q : s = i
        · subst q; exact absurd z hz
        · rw [k0.1 s (by omega)]; exact h1 s (by omega) hz
      · by_cases q : s = i
        · subst q; exact pk_us
        · rw [k0.1 s (by omega)]; exact h2 s (by omega) hz
    · refine te_out (p := 4) T (by omega) (by omega) (fun op' => ?_)
      cases hV : pv_T K N L pa (vx_r cx 4 i) with
      | none => exact br_t rfl (hF ⟨i, by omega, z, hV⟩ _ _)
      | some v =>
        refine br_f (tm_ne v) ?_
        by_cases v0 : v = 0
        · refine br_t ((tm_e0 v).mpr v0) (nm_r (nI_1 i) ?_)
          have := ih (i + 1) n op' (upd mx i 0) (by omega) (by omega) (fun s hs => ?_) (fun s hs hz => ?_)
          · rw [ra_s0 (t := upd mx i 0) pk_us, k0.2] at this
            exact this
          · intro hz
            by_cases q : s = i
            · subst q; exact ⟨v, hV, by rw [pk_us, if_pos v0]⟩
            · rw [k0.1 s (by omega)]; exact h1 s (by omega) hz
          · by_cases q : s = i
            · subst q; exact absurd hz z
            · rw [k0.1 s (by omega)]; exact h2 s (by omega) hz
        · refine br_f (fun q => v0 ((tm_e0 v).mp q)) ⟨vi, nm_r (e' := upd mx i 1) ?_ (nm_r (nI_1 _) (nm_r (nI_1 i) ?_))⟩
          · rw [ci]
            funext j
            by_cases q : j = i
            · subst q; rw [pk_us, pk_us]; rfl
            · rw [pk_un q, pk_un q, pk_un q]
          · have k1 := keep 1 (upd mx i 1) rfl
            have := ih (i + 1) n op' (upd mx i 1) (by omega) (by omega) (fun s hs => ?_) (fun s hs hz => ?_)
            · rw [ra_s1 (t := upd mx i 1) (by rw [pk_us]; decide), k1.2] at this
              exact this
            · intro hz
              by_cases q : s = i
              · subst q; exact ⟨v, hV, by rw [pk_us, if_neg v0]⟩
              · rw [k1.1 s (by omega)]; exact h1 s (by omega) hz
            · by_cases q : s = i
              · subst q; exact absurd hz z
              · rw [k1.1 s (by omega)]; exact h2 s (by omega) hz
theorem xs_rows {post : Int32 → SX → Prop} {e L : Nat} {K N Z : Nat → Int32} (T : te_X kd nm ct K N Z e L)
    (hF : (∃ s, s < 101 ∧ ¬ vx_t th 4 s = 0 ∧ pv_T K N L pa (vx_r cx 4 s) = none) → ∀ op' mx', post (-1000000005) (xs, xu, xc, th, cx, sx, kd, nm, ct, op', pa, mx', rx))
    (hS : ∀ op' mx', (∀ s, s < 101 → ¬ vx_t th 4 s = 0 → ∃ v, pv_T K N L pa (vx_r cx 4 s) = some v ∧ mx' s = if v = 0 then 0 else 1) → (∀ s, s < 101 → vx_t th 4 s = 0 → mx' s = 0) → post (nI (ra_k mx' 101)) (xs, xu, xc, th, cx, sx, kd, nm, ct, op', pa, mx', rx)) :
    wpX_selectRows post (xs, xu, xc, th, cx, sx, kd, nm, ct, op, pa, mx, rx) (nI e) :=
  ⟨102, xs_rows_l T hF hS 101 0 102 op mx (by omega) (by omega) (fun s hs => absurd hs (by omega)) (fun s hs => absurd hs (by omega))⟩
theorem nf_5 {n : Nat} (h : n ≤ 101) : ¬ nI n = (-1000000005) := by
  intro e
  have := congrArg Int32.toInt e
  rw [nI_toInt (by omega), show (-1000000005 : Int32).toInt = -1000000005 from by decide] at this
  omega
theorem xs_res_l {post : Int32 → SX → Prop} {e L : Nat} {met : Int32} {K N Z : Nat → Int32} (T : te_X kd nm ct K N Z e L)
    (hF : (∃ s, s < 101 ∧ ¬ mx s = 0 ∧ pv_T K N L pa (vx_r cx 4 s) = none) → ∀ op' rx', post (-1000000005) (xs, xu, xc, th, cx, sx, kd, nm, ct, op', pa, mx, rx'))
    (hS : ∀ op' rx', (∀ s, s < 101 → ¬ mx s = 0 → pv_T K N L pa (vx_r cx 4 s) = some (rx' s)) → post met (xs, xu, xc, th, cx, sx, kd, nm, ct, op', pa, mx, rx')) :
    ∀ d i n op rx, i + d = 101 → d < n → (∀ s, s < i → ¬ mx s = 0 → pv_T K N L pa (vx_r cx 4 s) = some (rx s)) → wX_selectResults_18 post (nI e) met n (nI i) xs xu xc th cx sx kd nm ct op pa mx rx := by
  intro d
  induction d with
  | zero =>
    intro i n op rx hi hn h1
    obtain ⟨n, rfl⟩ : ∃ m, n = m + 1 := ⟨n - 1, by omega⟩
    obtain rfl : i = 101 := by omega
    exact br_t (by decide) (hS op rx h1)
  | succ d ih =>
    intro i n op rx hi hn h1
    obtain ⟨n, rfl⟩ : ∃ m, n = m + 1 := ⟨n - 1, by omega⟩
    have ci : (nI i).toNatClampNeg = i := nI_clamp (by omega)
    have e4 : 404 + nI i = nI (404 + i) := nI_add 404 i
    have vi : vp_in (nI i) 101 := vp_in_nI (by omega) (by omega)
    refine br_f (nI_ge (b := 101) (by omega) (by omega)) ⟨vi, ?_⟩
    rw [ci, e4]
    refine br_c (fun z => nm_r (nI_1 i) (ih (i + 1) n op rx (by omega) (by omega) (fun s hs hz => ?_))) (fun z => ?_)
    · by_cases q : s = i
      · subst q; exact absurd z hz
      · exact h1 s (by omega) hz
    · refine te_out (p := 4) T (by omega) (by omega) (fun op' => ?_)
      cases hV : pv_T K N L pa (vx_r cx 4 i) with
      | none => exact br_t rfl (hF ⟨i, by omega, z, hV⟩ _ _)
      | some v =>
        refine br_f (tm_ne v) ⟨vi, nm_r (e' := upd rx i v) (by rw [show tm_e (some v) = v.toInt64 from rfl, tm_bk]) (nm_r (nI_1 i) (ih (i + 1) n op' _ (by omega) (by omega) (fun s hs hz => ?_)))⟩
        by_cases q : s = i
        · subst q; rw [pk_us]; exact hV
        · rw [pk_un q]; exact h1 s (by omega) hz
/-- X's selectResults -/
theorem xs_res {post : Int32 → SX → Prop} {w Lw e L : Nat} {Kw Nw Zw K N Z : Nat → Int32} (Tw : te_X kd nm ct Kw Nw Zw w Lw) (T : te_X kd nm ct K N Z e L)
    (hF : (∃ s, s < 101 ∧ ¬ vx_t th 4 s = 0 ∧ pv_T Kw Nw Lw pa (vx_r cx 4 s) = none) ∨ (∃ s, s < 101 ∧ ¬ vx_t th 4 s = 0 ∧ (∃ v, pv_T Kw Nw Lw pa (vx_r cx 4 s) = some v ∧ ¬ v = 0) ∧ pv_T K N L pa (vx_r cx 4 s) = none) → ∀ op' mx' rx', post (-1000000005) (xs, xu, xc, th, cx, sx, kd, nm, ct, op', pa, mx', rx'))
    (hS : ∀ op' mx' rx', (∀ s, s < 101 → ¬ vx_t th 4 s = 0 → ∃ v, pv_T Kw Nw Lw pa (vx_r cx 4 s) = some v ∧ mx' s = if v = 0 then 0 else 1) → (∀ s, s < 101 → vx_t th 4 s = 0 → mx' s = 0) → (∀ s, s < 101 → ¬ mx' s = 0 → pv_T K N L pa (vx_r cx 4 s) = some (rx' s)) → post (nI (ra_k mx' 101)) (xs, xu, xc, th, cx, sx, kd, nm, ct, op', pa, mx', rx')) :
    wpX_selectResults post (xs, xu, xc, th, cx, sx, kd, nm, ct, op, pa, mx, rx) (nI w) (nI e) := by
  unfold wpX_selectResults
  dsimp only
  refine xs_rows Tw (fun hb op' mx' => br_t rfl (hF (Or.inl hb) op' mx' rx)) (fun op' mx' h1 h2 => br_f (nf_5 (ra_le mx' 101)) ⟨102, ?_⟩)
  refine xs_res_l T (fun hb op'' rx' => hF (Or.inr ?_) op'' mx' rx') (fun op'' rx' h3 => hS op'' mx' rx' h1 h2 h3) 101 0 102 op' rx (by omega) (by omega) (fun s hs => absurd hs (by omega))
  obtain ⟨s, hs, hm, hn⟩ := hb
  have ht : ¬ vx_t th 4 s = 0 := fun z => hm (h2 s hs z)
  obtain ⟨v, hv, em⟩ := h1 s hs ht
  exact ⟨s, hs, ht, ⟨v, hv, fun z => hm (by rw [em, if_pos z])⟩, hn⟩
end
end
section
/-! selection: Y's findMeets and findValues -/
section
variable {xs xu xc : Int32} {th cx sx kd nm ct : Nat → Int32} {op : Nat → Int64} {pa mx rx : Nat → Int32} {yd yu yc yf : Int32} {cy cn sy os ny sz ln py ry fy my nw : Nat → Int32}
theorem ys_57 {post : Int32 → SY → Prop} {J : Int32 → Int32 → Int32 → Int32 → Int32 → Int32 → Int32 → (Nat → Int32) → (Nat → Int32) → (Nat → Int32) → (Nat → Int32) → (Nat → Int32) → (Nat → Int32) → (Nat → Int32) → (Nat → Int32) → (Nat → Int32) → (Nat → Int32) → (Nat → Int32) → (Nat → Int32) → Prop} {x1 x2 z0 : Int32} {i : Nat} (hi : i < 40)
    (h0 : my i = 0 → J x2 z0 (nI (i + 1)) yd yu yc yf cy cn sy os ny sz ln py ry fy my nw) (h1 : ¬ my i = 0 → J (x2 + 1) z0 (nI (i + 1)) yd yu yc yf cy cn sy os ny sz ln py ry fy my nw) : wY_findMeets_57 post J x1 x2 (nI i) z0 yd yu yc yf cy cn sy os ny sz ln py ry fy my nw := by
  refine ⟨vp_in_nI (by omega) (by omega), ?_⟩
  rw [nI_clamp (by omega)]
  exact br_c (fun z => nm_r (nI_1 i) (h0 z)) (fun z => nm_e (nm_r (nI_1 i) (h1 z)))
theorem ys_rows_l {post : Int32 → SY → Prop} {e L m : Nat} {K N Z : Nat → Int32} (T : te_Y os ny sz ln K N Z e L) (hm : m ≤ 40) (hc : cn 0 = nI m)
    (hF : (∃ r, r < m ∧ pv_T K N L py (vy_r cy 0 r) = none) → ∀ yf' ry' fy' my', post (-1000000005) (yd, yu, yc, yf', cy, cn, sy, os, ny, sz, ln, py, ry', fy', my', nw))
    (hS : ∀ yf' ry' fy' my', (∀ r, r < m → ∃ v, pv_T K N L py (vy_r cy 0 r) = some v ∧ my' r = if v = 0 then 0 else 1) → post (nI (ra_k my' m)) (yd, yu, yc, yf', cy, cn, sy, os, ny, sz, ln, py, ry', fy', my', nw)) :
    ∀ d i n x2 x3 yf ry fy my, i + d = m → d < n →
      ((x3 = 0 ∧ (∀ r, r < i → ∃ v, pv_T K N L py (vy_r cy 0 r) = some v ∧ my r = if v = 0 then 0 else 1) ∧ x2 = nI (ra_k my i)) ∨ (x3 = 1 ∧ ∃ r, r < m ∧ pv_T K N L py (vy_r cy 0 r) = none)) →
      wY_findMeets_7 post (nI e) n x2 x3 (nI i) yd yu yc yf cy cn sy os ny sz ln py ry fy my nw := by
  intro d
  induction d with
  | zero =>
    intro i n x2 x3 yf ry fy my hi hn hI
    obtain ⟨n, rfl⟩ : ∃ m, n = m + 1 := ⟨n - 1, by omega⟩
    obtain rfl : i = m := by omega
    refine br_t (by rw [hc]; exact Int32.le_refl _) ?_
    rcases hI with ⟨h3, h1, h2⟩ | ⟨h3, hb⟩
    · rw [h2]; exact br_t h3 (hS _ _ _ _ h1)
    · exact br_f (by rw [h3]; decide) (hF hb _ _ _ _)
  | succ d ih =>
    intro i n x2 x3 yf ry fy my hi hn hI
    obtain ⟨n, rfl⟩ : ∃ m, n = m + 1 := ⟨n - 1, by omega⟩
    have ci : (nI i).toNatClampNeg = i := nI_clamp (by omega)
    refine br_f (by rw [hc]; exact nI_ge (by omega) (by omega)) ?_
    refine te_work (t := 0) T (by omega) (by omega) (fun ry' fy' w f hv => ?_)
    have step : ∀ z : Int32, (z = 0 ∨ z = 1) → (z = 0 ↔ w = 0) → wY_findMeets_40 post (wY_findMeets_7 post (nI e) n) (nI e) x2 x3 (nI i) z (nI i) yd yu yc f cy cn sy os ny sz ln py ry' fy' my nw := by
      intro z hz ez
      refine ⟨vp_in_nI (by omega) (by omega), nm_r (e' := upd my i z) (by rw [ci, ab_bn z hz]) ?_⟩
      have wr : ∀ x2', (∃ r, r < m ∧ pv_T K N L py (vy_r cy 0 r) = none) → wY_findMeets_7 post (nI e) n x2' 1 (nI (i + 1)) yd yu yc f cy cn sy os ny sz ln py ry' fy' (upd my i z) nw :=
        fun x2' hb => ih (i + 1) n x2' 1 f ry' fy' _ (by omega) (by omega) (Or.inr ⟨rfl, hb⟩)
      rcases hI with ⟨h3, h1, h2⟩ | ⟨h3, hb⟩
      · refine br_t h3 ?_
        cases hV : pv_T K N L py (vy_r cy 0 i) with
        | none =>
          rw [hV] at hv
          have f1 : f = 1 := hv
          have hb : ∃ r, r < m ∧ pv_T K N L py (vy_r cy 0 r) = none := ⟨i, by omega, hV⟩
          exact br_f (by rw [f1]; decide) (ys_57 (by omega) (fun _ => wr _ hb) (fun _ => wr _ hb))
        | some v =>
          rw [hV] at hv
          obtain ⟨f0, wv⟩ := hv
          have wv' : w = v := wv
          have e1 : upd my i z i = z := pk_us
          have old : ∀ s, s < i → upd my i z s = my s := fun s hs => pk_un (by omega)
          have oldR : ra_k (upd my i z) i = ra_k my i := ra_cg (fun j hj => by rw [old j hj])
          have new : ∀ r, r < i + 1 → ∃ v, pv_T K N L py (vy_r cy 0 r) = some v ∧ upd my i z r = if v = 0 then 0 else 1 := by
            intro r hr
            by_cases q : r = i
            · subst q
              refine ⟨v, hV, ?_⟩
              rw [e1]
              by_cases v0 : v = 0
              · rw [if_pos v0]; exact ez.mpr (by rw [wv', v0])
              · rw [if_neg v0]; exact hz.resolve_left (fun q => v0 (by rw [← wv']; exact ez.mp q))
            · rw [old r (by omega)]; exact h1 r (by omega)
          refine br_t f0 (ys_57 (by omega) (fun q => ?_) (fun q => ?_))
          · refine ih (i + 1) n x2 0 f ry' fy' _ (by omega) (by omega) (Or.inl ⟨rfl, new, ?_⟩)
            rw [ra_s0 q, oldR]; exact h2
          · refine ih (i + 1) n (x2 + 1) 0 f ry' fy' _ (by omega) (by omega) (Or.inl ⟨rfl, new, ?_⟩)
            rw [ra_s1 q, oldR, h2, nI_1]
      · exact br_f (by rw [h3]; decide) (ys_57 (by omega) (fun _ => wr _ hb) (fun _ => wr _ hb))
    exact br_c (fun q => step 0 (Or.inl rfl) ⟨fun _ => q, fun _ => rfl⟩) (fun q => step 1 (Or.inr rfl) ⟨fun z => absurd z (by decide), fun z => absurd z q⟩)
theorem ys_rows {post : Int32 → SY → Prop} {e L m : Nat} {K N Z : Nat → Int32} (T : te_Y os ny sz ln K N Z e L) (hm : m ≤ 40) (hc : cn 0 = nI m)
    (hF : (∃ r, r < m ∧ pv_T K N L py (vy_r cy 0 r) = none) → ∀ yf' ry' fy' my', post (-1000000005) (yd, yu, yc, yf', cy, cn, sy, os, ny, sz, ln, py, ry', fy', my', nw))
    (hS : ∀ yf' ry' fy' my', (∀ r, r < m → ∃ v, pv_T K N L py (vy_r cy 0 r) = some v ∧ my' r = if v = 0 then 0 else 1) → post (nI (ra_k my' m)) (yd, yu, yc, yf', cy, cn, sy, os, ny, sz, ln, py, ry', fy', my', nw)) :
    wpY_findMeets post (yd, yu, yc, yf, cy, cn, sy, os, ny, sz, ln, py, ry, fy, my, nw) (nI e) :=
  ⟨m + 1, ys_rows_l T hm hc hF hS m 0 (m + 1) 0 0 yf ry fy my (by omega) (by omega) (Or.inl ⟨rfl, fun s hs => absurd hs (by omega), rfl⟩)⟩
theorem ys_res_l {post : Int32 → SY → Prop} {e L m : Nat} {met : Int32} {K N Z : Nat → Int32} (T : te_Y os ny sz ln K N Z e L) (hm : m ≤ 40) (hc : cn 0 = nI m)
    (hF : (∃ r, r < m ∧ ¬ my r = 0 ∧ pv_T K N L py (vy_r cy 0 r) = none) → ∀ yf' ry' fy' nw', post (-1000000005) (yd, yu, yc, yf', cy, cn, sy, os, ny, sz, ln, py, ry', fy', my, nw'))
    (hS : ∀ yf' ry' fy' nw', (∀ r, r < m → ¬ my r = 0 → pv_T K N L py (vy_r cy 0 r) = some (nw' r)) → post met (yd, yu, yc, yf', cy, cn, sy, os, ny, sz, ln, py, ry', fy', my, nw')) :
    ∀ d i n x4 yf ry fy nw, i + d = m → d < n →
      ((x4 = 0 ∧ (∀ r, r < i → ¬ my r = 0 → pv_T K N L py (vy_r cy 0 r) = some (nw r))) ∨ (x4 = 1 ∧ ∃ r, r < m ∧ ¬ my r = 0 ∧ pv_T K N L py (vy_r cy 0 r) = none)) →
      wY_findValues_21 post (nI e) met n x4 (nI i) yd yu yc yf cy cn sy os ny sz ln py ry fy my nw := by
  intro d
  induction d with
  | zero =>
    intro i n x4 yf ry fy nw hi hn hI
    obtain ⟨n, rfl⟩ : ∃ m, n = m + 1 := ⟨n - 1, by omega⟩
    obtain rfl : i = m := by omega
    refine br_t (by rw [hc]; exact Int32.le_refl _) ?_
    rcases hI with ⟨h3, h1⟩ | ⟨h3, hb⟩
    · exact br_t h3 (hS _ _ _ _ h1)
    · exact br_f (by rw [h3]; decide) (hF hb _ _ _ _)
  | succ d ih =>
    intro i n x4 yf ry fy nw hi hn hI
    obtain ⟨n, rfl⟩ : ∃ m, n = m + 1 := ⟨n - 1, by omega⟩
    have ci : (nI i).toNatClampNeg = i := nI_clamp (by omega)
    refine br_f (by rw [hc]; exact nI_ge (by omega) (by omega)) ⟨vp_in_nI (by omega) (by omega), ?_⟩
    rw [ci]
    refine br_c (fun z => nm_r (nI_1 i) (ih (i + 1) n x4 yf ry fy nw (by omega) (by omega) ?_)) (fun z => ?_)
    · rcases hI with ⟨h3, h1⟩ | ⟨h3, hb⟩
      · refine Or.inl ⟨h3, fun r hr hz => ?_⟩
        by_cases q : r = i
        · subst q; exact absurd z hz
        · exact h1 r (by omega) hz
      · exact Or.inr ⟨h3, hb⟩
    · refine te_work (t := 0) T (by omega) (by omega) (fun ry' fy' w f hv => ?_)
      refine ⟨vp_in_nI (by omega) (by omega), nm_e ?_⟩
      have wr : (∃ r, r < m ∧ ¬ my r = 0 ∧ pv_T K N L py (vy_r cy 0 r) = none) → wY_findValues_21 post (nI e) met n 1 (nI (i + 1)) yd yu yc f cy cn sy os ny sz ln py ry' fy' my (upd nw i w) :=
        fun hb => ih (i + 1) n 1 f ry' fy' _ (by omega) (by omega) (Or.inr ⟨rfl, hb⟩)
      rcases hI with ⟨h3, h1⟩ | ⟨h3, hb⟩
      · refine br_t h3 ?_
        cases hV : pv_T K N L py (vy_r cy 0 i) with
        | none =>
          rw [hV] at hv
          have f1 : f = 1 := hv
          exact br_f (by rw [f1]; decide) (nm_r (nI_1 i) (wr ⟨i, by omega, z, hV⟩))
        | some v =>
          rw [hV] at hv
          obtain ⟨f0, wv⟩ := hv
          have wv' : w = v := wv
          refine br_t f0 (nm_r (nI_1 i) (ih (i + 1) n 0 f ry' fy' _ (by omega) (by omega) (Or.inl ⟨rfl, fun r hr hz => ?_⟩)))
          by_cases q : r = i
          · subst q; rw [pk_us, wv']; exact hV
          · rw [pk_un q]; exact h1 r (by omega) hz
      · exact br_f (by rw [h3]; decide) (nm_r (nI_1 i) (wr hb))
theorem ys_res {post : Int32 → SY → Prop} {w Lw e L m : Nat} {Kw Nw Zw K N Z : Nat → Int32} (Tw : te_Y os ny sz ln Kw Nw Zw w Lw) (T : te_Y os ny sz ln K N Z e L) (hm : m ≤ 40) (hc : cn 0 = nI m)
    (hF : (∃ r, r < m ∧ pv_T Kw Nw Lw py (vy_r cy 0 r) = none) ∨ (∃ r, r < m ∧ (∃ v, pv_T Kw Nw Lw py (vy_r cy 0 r) = some v ∧ ¬ v = 0) ∧ pv_T K N L py (vy_r cy 0 r) = none) → ∀ yf' ry' fy' my' nw', post (-1000000005) (yd, yu, yc, yf', cy, cn, sy, os, ny, sz, ln, py, ry', fy', my', nw'))
    (hS : ∀ yf' ry' fy' my' nw', (∀ r, r < m → ∃ v, pv_T Kw Nw Lw py (vy_r cy 0 r) = some v ∧ my' r = if v = 0 then 0 else 1) → (∀ r, r < m → ¬ my' r = 0 → pv_T K N L py (vy_r cy 0 r) = some (nw' r)) → post (nI (ra_k my' m)) (yd, yu, yc, yf', cy, cn, sy, os, ny, sz, ln, py, ry', fy', my', nw')) :
    wpY_findValues post (yd, yu, yc, yf, cy, cn, sy, os, ny, sz, ln, py, ry, fy, my, nw) (nI w) (nI e) := by
  unfold wpY_findValues
  dsimp only
  refine ys_rows Tw hm hc (fun hb yf' ry' fy' my' => br_t rfl (hF (Or.inl hb) yf' ry' fy' my' nw)) (fun yf' ry' fy' my' h1 => br_f (nf_5 (Nat.le_trans (ra_le my' m) (by omega))) ⟨m + 1, ?_⟩)
  refine ys_res_l T hm hc (fun hb yf'' ry'' fy'' nw' => hF (Or.inr ?_) yf'' ry'' fy'' my' nw') (fun yf'' ry'' fy'' nw' h3 => hS yf'' ry'' fy'' my' nw' h1 h3) m 0 (m + 1) 0 yf' ry' fy' nw (by omega) (by omega) (Or.inl ⟨rfl, fun s hs => absurd hs (by omega)⟩)
  obtain ⟨r, hr, hmr, hn⟩ := hb
  obtain ⟨v, hv, em⟩ := h1 r hr
  exact ⟨r, hr, ⟨v, hv, fun z => hmr (by rw [em, if_pos z])⟩, hn⟩
end
end
section
/-! the relation; Y's selection from X's -/
section
variable {xs xu xc : Int32} {th cx sx kd nm ct : Nat → Int32} {op : Nat → Int64} {pa mx rx : Nat → Int32} {yd yu yc yf : Int32} {cy cn sy os ny sz ln py ry fy my nw : Nat → Int32}
def te_ok (kd nm sz ct : Nat → Int32) (e : Nat) : Prop :=
  ∃ L, 1 ≤ L ∧ ct e = nI L ∧ tm_W (fun i => kd (e * 24 + i)) (fun i => nm (e * 24 + i)) (fun i => sz (e * 24 + i)) L ∧ (tm_ps (fun i => kd (e * 24 + i)) L).length = 1
def te_st (kd nm sz ct : Nat → Int32) (xs : Int32) : Prop :=
  ∃ L, ct 9 = nI L ∧ tm_W (fun i => kd (9 * 24 + i)) (fun i => nm (9 * 24 + i)) (fun i => sz (9 * 24 + i)) L ∧ xs = nI (tm_ps (fun i => kd (9 * 24 + i)) L).length
def te_A (kd nm sz ct : Nat → Int32) (xs xc : Int32) : Prop :=
  (∀ e, e < 8 → te_ok kd nm sz ct e) ∧ (¬ xc = 0 → te_ok kd nm sz ct 8) ∧ te_st kd nm sz ct xs
def re_R (xs xu xc : Int32) (th cx sx kd nm ct pa : Nat → Int32) (yd yu yc : Int32) (cy cn sy os ny sz ln py : Nat → Int32) : Prop :=
  yd = xs ∧ yu = xu ∧ yc = xc ∧ ny = nm ∧ ln = ct ∧ py = pa ∧ bo_A th ∧ tb_A th cx cn cy ∧ (∀ s, s < 4 → sy (s + 1) = sx s) ∧ (∀ j, os j = tm_yk (kd j)) ∧ te_A kd nm sz ct xs xc
def i_Rel (k : Nat) (u : SX) (v : SY) : Prop := match u, v with
  | (xs, xu, xc, th, cx, sx, kd, nm, ct, op, pa, mx, rx), (yd, yu, yc, yf, cy, cn, sy, os, ny, sz, ln, py, ry, fy, my, nw) => re_R xs xu xc th cx sx kd nm ct pa yd yu yc cy cn sy os ny sz ln py
theorem i_up {k : Nat} {u : SX} {v : SY} (h : i_Rel k u v) : i_Rel (k + 5) u v := h
theorem te_get {e : Nat} (he : e < 10) (h : te_ok kd nm sz ct e) (ho : ∀ j, os j = tm_yk (kd j)) :
    ∃ (K N Z : Nat → Int32) (L : Nat), te_X kd nm ct K N Z e L ∧ te_Y os nm sz ct K N Z e L := by
  obtain ⟨L, h1, h2, h3, h4⟩ := h
  refine ⟨_, _, _, L, ⟨he, h3, h4, fun _ _ => rfl, fun _ _ => rfl, h2⟩, ⟨he, h3, h1, fun i _ => ?_, fun i _ => ?_, fun i _ => ?_, h2⟩⟩
  · show os (24 * e + i) = tm_yk (kd (e * 24 + i)); rw [ho, Nat.mul_comm]
  · show nm (24 * e + i) = nm (e * 24 + i); rw [Nat.mul_comm]
  · show sz (24 * e + i) = sz (e * 24 + i); rw [Nat.mul_comm]
theorem jo_pv {K N Z : Nat → Int32} {p t e L s : Nat} (T : te_Y os ny sz ln K N Z e L) (hR : rt_R th cx p cn cy t) (hs : s < 101) (h : ¬ vx_t th p s = 0) :
    pv_T K N L pa (vy_r cy t (ra_k (vx_t th p) s)) = pv_T K N L pa (vx_r cx p s) := pv_cg T.2.1 T.2.2.1 (hR.2.2 s hs h).2
/-- X's meets and Y's -/
def jo_M (xt mx my : Nat → Int32) : Prop := ∀ s, s < 101 → (xt s = 0 → mx s = 0) ∧ (¬ xt s = 0 → mx s = my (ra_k xt s))
theorem jo_ra {xt mx my : Nat → Int32} (h : jo_M xt mx my) : ∀ n, n ≤ 101 → ra_k mx n = ra_k my (ra_k xt n) := by
  intro n
  induction n with
  | zero => intro _; rfl
  | succ n ih =>
    intro hn
    have e := ih (by omega)
    by_cases z : xt n = 0
    · rw [ra_s0 z, ra_s0 ((h n (by omega)).1 z), e]
    · have em := (h n (by omega)).2 z
      rw [ra_s1 z]
      by_cases y : mx n = 0
      · rw [ra_s0 y, ra_s0 (by rw [← em]; exact y), e]
      · rw [ra_s1 y, ra_s1 (by rw [← em]; exact y), e]
theorem jo_yF {post : Int32 → SY → Prop} {e L : Nat} {K N Z : Nat → Int32} (T : te_Y os ny sz ln K N Z e L) (hR : rt_R th cx 4 cn cy 0)
    (hb : ∃ s, s < 101 ∧ ¬ vx_t th 4 s = 0 ∧ pv_T K N L py (vx_r cx 4 s) = none) (h : ∀ yf' ry' fy' my', post (-1000000005) (yd, yu, yc, yf', cy, cn, sy, os, ny, sz, ln, py, ry', fy', my', nw)) : wpY_findMeets post (yd, yu, yc, yf, cy, cn, sy, os, ny, sz, ln, py, ry, fy, my, nw) (nI e) := by
  refine ys_rows T hR.2.1 hR.1 (fun _ => h) (fun yf' ry' fy' my' h1 => ?_)
  obtain ⟨s, hs, ht, hn⟩ := hb
  obtain ⟨v, hv, _⟩ := h1 (ra_k (vx_t th 4) s) (ra_lt hs ht)
  rw [jo_pv T hR hs ht, hn] at hv
  exact absurd hv (by simp)
theorem jo_yS {post : Int32 → SY → Prop} {e L : Nat} {K N Z : Nat → Int32} {mx' : Nat → Int32} (T : te_Y os ny sz ln K N Z e L) (hR : rt_R th cx 4 cn cy 0)
    (h1 : ∀ s, s < 101 → ¬ vx_t th 4 s = 0 → ∃ v, pv_T K N L py (vx_r cx 4 s) = some v ∧ mx' s = if v = 0 then 0 else 1) (h2 : ∀ s, s < 101 → vx_t th 4 s = 0 → mx' s = 0)
    (h : ∀ yf' ry' fy' my', jo_M (vx_t th 4) mx' my' → post (nI (ra_k mx' 101)) (yd, yu, yc, yf', cy, cn, sy, os, ny, sz, ln, py, ry', fy', my', nw)) : wpY_findMeets post (yd, yu, yc, yf, cy, cn, sy, os, ny, sz, ln, py, ry, fy, my, nw) (nI e) := by
  refine ys_rows T hR.2.1 hR.1 (fun hb => ?_) (fun yf' ry' fy' my' h3 => ?_)
  · obtain ⟨r, hr, hn⟩ := hb
    obtain ⟨s, hs, ht, rfl⟩ := ra_inv hr
    obtain ⟨v, hv, _⟩ := h1 s hs ht
    rw [← jo_pv T hR hs ht, hn] at hv
    exact absurd hv (by simp)
  · have hM : jo_M (vx_t th 4) mx' my' := by
      intro s hs
      refine ⟨h2 s hs, fun ht => ?_⟩
      obtain ⟨v, hv, ev⟩ := h1 s hs ht
      obtain ⟨w, hw, ew⟩ := h3 _ (ra_lt hs ht)
      rw [jo_pv T hR hs ht, hv] at hw
      rw [ev, ew, Option.some.inj hw]
    rw [← jo_ra hM 101 (by omega)]
    exact h yf' ry' fy' my' hM
theorem jo_yF2 {post : Int32 → SY → Prop} {w Lw e L : Nat} {Kw Nw Zw K N Z : Nat → Int32} (Tw : te_Y os ny sz ln Kw Nw Zw w Lw) (T : te_Y os ny sz ln K N Z e L) (hR : rt_R th cx 4 cn cy 0)
    (hb : (∃ s, s < 101 ∧ ¬ vx_t th 4 s = 0 ∧ pv_T Kw Nw Lw py (vx_r cx 4 s) = none) ∨ (∃ s, s < 101 ∧ ¬ vx_t th 4 s = 0 ∧ (∃ v, pv_T Kw Nw Lw py (vx_r cx 4 s) = some v ∧ ¬ v = 0) ∧ pv_T K N L py (vx_r cx 4 s) = none))
    (h : ∀ yf' ry' fy' my' nw', post (-1000000005) (yd, yu, yc, yf', cy, cn, sy, os, ny, sz, ln, py, ry', fy', my', nw')) : wpY_findValues post (yd, yu, yc, yf, cy, cn, sy, os, ny, sz, ln, py, ry, fy, my, nw) (nI w) (nI e) := by
  refine ys_res Tw T hR.2.1 hR.1 (fun _ => h) (fun yf' ry' fy' my' nw' h1 h2 => ?_)
  rcases hb with ⟨s, hs, ht, hn⟩ | ⟨s, hs, ht, ⟨v, hv, v0⟩, hn⟩
  · obtain ⟨v, hv, _⟩ := h1 (ra_k (vx_t th 4) s) (ra_lt hs ht)
    rw [jo_pv Tw hR hs ht, hn] at hv
    exact absurd hv (by simp)
  · obtain ⟨v', hv', em⟩ := h1 (ra_k (vx_t th 4) s) (ra_lt hs ht)
    rw [jo_pv Tw hR hs ht, hv] at hv'
    rw [← Option.some.inj hv', if_neg v0] at em
    have := h2 _ (ra_lt hs ht) (by rw [em]; decide)
    rw [jo_pv T hR hs ht, hn] at this
    exact absurd this (by simp)
theorem jo_yS2 {post : Int32 → SY → Prop} {w Lw e L : Nat} {Kw Nw Zw K N Z : Nat → Int32} {mx' rx' : Nat → Int32} (Tw : te_Y os ny sz ln Kw Nw Zw w Lw) (T : te_Y os ny sz ln K N Z e L) (hR : rt_R th cx 4 cn cy 0)
    (h1 : ∀ s, s < 101 → ¬ vx_t th 4 s = 0 → ∃ v, pv_T Kw Nw Lw py (vx_r cx 4 s) = some v ∧ mx' s = if v = 0 then 0 else 1) (h2 : ∀ s, s < 101 → vx_t th 4 s = 0 → mx' s = 0)
    (h3 : ∀ s, s < 101 → ¬ mx' s = 0 → pv_T K N L py (vx_r cx 4 s) = some (rx' s))
    (h : ∀ yf' ry' fy' my' nw', jo_M (vx_t th 4) mx' my' → (∀ s, s < 101 → ¬ mx' s = 0 → nw' (ra_k (vx_t th 4) s) = rx' s) → post (nI (ra_k mx' 101)) (yd, yu, yc, yf', cy, cn, sy, os, ny, sz, ln, py, ry', fy', my', nw')) : wpY_findValues post (yd, yu, yc, yf, cy, cn, sy, os, ny, sz, ln, py, ry, fy, my, nw) (nI w) (nI e) := by
  refine ys_res Tw T hR.2.1 hR.1 (fun hb => ?_) (fun yf' ry' fy' my' nw' h4 h5 => ?_)
  · rcases hb with ⟨r, hr, hn⟩ | ⟨r, hr, ⟨v, hv, v0⟩, hn⟩
    · obtain ⟨s, hs, ht, rfl⟩ := ra_inv hr
      obtain ⟨v, hv, _⟩ := h1 s hs ht
      rw [← jo_pv Tw hR hs ht, hn] at hv
      exact absurd hv (by simp)
    · obtain ⟨s, hs, ht, rfl⟩ := ra_inv hr
      obtain ⟨v', hv', em⟩ := h1 s hs ht
      rw [← jo_pv Tw hR hs ht, hv] at hv'
      rw [← Option.some.inj hv', if_neg v0] at em
      have := h3 s hs (by rw [em]; decide)
      rw [← jo_pv T hR hs ht, hn] at this
      exact absurd this (by simp)
  · have hM : jo_M (vx_t th 4) mx' my' := by
      intro s hs
      refine ⟨h2 s hs, fun ht => ?_⟩
      obtain ⟨v, hv, ev⟩ := h1 s hs ht
      obtain ⟨w, hw, ew⟩ := h4 _ (ra_lt hs ht)
      rw [jo_pv Tw hR hs ht, hv] at hw
      rw [ev, ew, Option.some.inj hw]
    rw [← jo_ra hM 101 (by omega)]
    refine h yf' ry' fy' my' nw' hM (fun s hs hm => ?_)
    have ht : ¬ vx_t th 4 s = 0 := fun z => hm (h2 s hs z)
    have a := h5 _ (ra_lt hs ht) (by rw [← (hM s hs).2 ht]; exact hm)
    rw [jo_pv T hR hs ht, h3 s hs hm] at a
    exact (Option.some.inj a).symm
end
section
theorem i_vc_rows {k : Nat} {u : SX} {v : SY} (I : i_Rel k u v) (hk : k + 5 ≤ 2560) : wpX_rows (fun r => wpY_rows (fun r' => r' = r ∧ i_Rel (k + 5) u v) v) u := by
  obtain ⟨xs, xu, xc, th, cx, sx, kd, nm, ct, op, pa, mx, rx⟩ := u
  obtain ⟨yd, yu, yc, yf, cy, cn, sy, os, ny, sz, ln, py, ry, fy, my, nw⟩ := v
  have J := I
  obtain ⟨rfl, rfl, rfl, rfl, rfl, rfl, hb, ht, hs, ho, hT⟩ := I
  unfold wpX_rows
  dsimp only
  exact xc_rows (p := 4) (by omega) ⟨ht.1.1, J⟩
theorem i_vc_parameter {k : Nat} {u : SX} {v : SY} (I : i_Rel k u v) (hk : k + 5 ≤ 2560) (v1 : Int32) (v2 : Int32) : wpX_parameter (fun r u' => wpY_parameter (fun r' v' => r' = r ∧ i_Rel (k + 5) u' v') v v1 v2) u v1 v2 := by
  obtain ⟨xs, xu, xc, th, cx, sx, kd, nm, ct, op, pa, mx, rx⟩ := u
  obtain ⟨yd, yu, yc, yf, cy, cn, sy, os, ny, sz, ln, py, ry, fy, my, nw⟩ := v
  have J := I
  obtain ⟨rfl, rfl, rfl, rfl, rfl, rfl, hb, ht, hs, ho, hT⟩ := I
  by_cases h0 : v1 < 0
  · exact br_t h0 (br_t h0 ⟨rfl, J⟩)
  · by_cases h3 : v1 < 3
    · have h2 : v1 ≤ 2 := by
        have := Int32.lt_iff_toInt_lt.mp h3
        rw [show (3 : Int32).toInt = 3 from by decide] at this
        exact Int32.le_iff_toInt_le.mpr (by rw [show (2 : Int32).toInt = 2 from by decide]; omega)
      obtain ⟨j, hj, rfl⟩ := nI_of2 (n := 2) (by decide) h0 h2
      have vi : vp_in (nI j) 3 := vp_in_nI (by omega) (by omega)
      refine br_f h0 (br_t h3 ⟨vi, nm_e (br_f h0 (br_t h2 ⟨vi, nm_e ⟨rfl, ?_⟩⟩))⟩)
      exact ⟨rfl, rfl, rfl, rfl, rfl, rfl, hb, ht, hs, ho, hT⟩
    · have h2 : ¬ v1 ≤ 2 := by
        intro q
        have := Int32.le_iff_toInt_le.mp q
        rw [show (2 : Int32).toInt = 2 from by decide] at this
        exact h3 (Int32.lt_iff_toInt_lt.mpr (by rw [show (3 : Int32).toInt = 3 from by decide]; omega))
      exact br_f h0 (br_f h3 (br_f h0 (br_f h2 ⟨rfl, J⟩)))
theorem i_vc_uncheck {k : Nat} {u : SX} {v : SY} (I : i_Rel k u v) (hk : k + 5 ≤ 2560) : wpX_uncheck (fun r u' => wpY_uncheck (fun r' v' => r' = r ∧ i_Rel (k + 5) u' v') v) u := by
  obtain ⟨xs, xu, xc, th, cx, sx, kd, nm, ct, op, pa, mx, rx⟩ := u
  obtain ⟨yd, yu, yc, yf, cy, cn, sy, os, ny, sz, ln, py, ry, fy, my, nw⟩ := v
  obtain ⟨rfl, rfl, rfl, rfl, rfl, rfl, hb, ht, hs, ho, hT⟩ := I
  have hT' : te_A kd ny sz ln yd 0 := ⟨hT.1, fun z => absurd rfl z, hT.2.2⟩
  by_cases h0 : yc = 0
  · exact br_t h0 (br_t h0 ⟨rfl, rfl, rfl, rfl, rfl, rfl, rfl, hb, ht, hs, ho, hT'⟩)
  · exact br_f h0 (br_f h0 ⟨rfl, rfl, rfl, rfl, rfl, rfl, rfl, hb, ht, hs, ho, hT'⟩)
theorem i_vc_count {k : Nat} {u : SX} {v : SY} (I : i_Rel k u v) (hk : k + 5 ≤ 2560) (v1 : Int32) : wpX_count (fun r u' => wpY_count (fun r' v' => r' = r ∧ i_Rel (k + 5) u' v') v v1) u v1 := by
  obtain ⟨xs, xu, xc, th, cx, sx, kd, nm, ct, op, pa, mx, rx⟩ := u
  obtain ⟨yd, yu, yc, yf, cy, cn, sy, os, ny, sz, ln, py, ry, fy, my, nw⟩ := v
  have J := I
  obtain ⟨rfl, rfl, rfl, rfl, rfl, rfl, hb, ht, hs, ho, hT⟩ := I
  unfold wpX_count wpY_count
  dsimp only
  rcases pk_ix v1 (n := 8) (by omega) with hx | hx | ⟨e, he, rfl⟩
  · exact xa_expN (Or.inl hx) (br_t rfl (ya_expN (Or.inl hx) (br_t rfl ⟨rfl, J⟩)))
  · exact xa_expN (Or.inr hx) (br_t rfl (ya_expN (Or.inr hx) (br_t rfl ⟨rfl, J⟩)))
  · obtain ⟨K, N, Z, L, TX', TY'⟩ := te_get (by omega) (hT.1 e he) ho
    refine xa_exp he (br_f (by decide) (xs_rows TX' (fun hb op' mx' => ?_) (fun op' mx' h1 h2 => ?_)))
    · exact ya_exp he (br_f (by decide) (jo_yF TY' ht.1 hb (fun yf' ry' fy' my' => ⟨rfl, J⟩)))
    · exact ya_exp he (br_f (by decide) (jo_yS TY' ht.1 h1 h2 (fun yf' ry' fy' my' hM => ⟨rfl, J⟩)))
end
end
section
/-! find, value, sum, greatest, different -/
section
variable {xs xu xc : Int32} {th cx sx kd nm ct : Nat → Int32} {op : Nat → Int64} {pa mx rx : Nat → Int32} {yd yu yc yf : Int32} {cy cn sy os ny sz ln py ry fy my nw : Nat → Int32}
theorem yf_l {post : Int32 → Prop} {p t : Nat} {k : Int32} (ht : t < 6) (hR : rt_R th cx p cn cy t)
    (h1 : ∀ s, s < 101 → ¬ vx_t th p s = 0 → k = nI s - 50 → post (nI (ra_k (vx_t th p) s))) (h0 : (∀ s, s < 101 → ¬ vx_t th p s = 0 → ¬ k = nI s - 50) → post (-1)) :
    ∀ d i n, i + d = ra_k (vx_t th p) 101 → d < n → (∀ s, s < 101 → ¬ vx_t th p s = 0 → ra_k (vx_t th p) s < i → ¬ k = nI s - 50) → wY_find_2 post (nI t) k yd yu yc yf cy cn sy os ny sz ln py ry fy my nw n (nI i) := by
  have hm := hR.2.1
  have ct' : (nI t).toNatClampNeg = t := nI_clamp (by omega)
  intro d
  induction d with
  | zero =>
    intro i n hi hn hI
    obtain ⟨n, rfl⟩ : ∃ m, n = m + 1 := ⟨n - 1, by omega⟩
    refine ⟨vp_in_nI (by omega) (by omega), ?_⟩
    rw [ct', hR.1]
    refine br_t (nI_le (by omega) (by omega)) (h0 (fun s hs hz => hI s hs hz ?_))
    have := ra_lt hs hz
    omega
  | succ d ih =>
    intro i n hi hn hI
    obtain ⟨n, rfl⟩ : ∃ m, n = m + 1 := ⟨n - 1, by omega⟩
    refine ⟨vp_in_nI (by omega) (by omega), ?_⟩
    rw [ct', hR.1]
    refine br_f (nI_ge (by omega) (by omega)) ?_
    obtain ⟨s, hs, hz, er⟩ := ra_inv (t := vx_t th p) (r := i) (n := 101) (by omega)
    have ec : cy (160 * t + 4 * i + 0) = nI s - 50 := by
      have := hR.2.2 s hs hz
      rw [er] at this
      have a := this.2 0 (by omega)
      rw [this.1] at a
      exact a
    refine yc_cell (c := 0) ht (by omega) (by omega) ?_
    rw [ec]
    refine br_c (fun q => ?_) (fun q => nm_r (nI_1 i) (ih (i + 1) n (by omega) (by omega) (fun s' hs' hz' hr => ?_)))
    · rw [← er]; exact h1 s hs hz q.symm
    · by_cases e : ra_k (vx_t th p) s' = i
      · have : s' = s := ra_inj hz' hz (by rw [e, er])
        rw [this]; exact fun z => q z.symm
      · exact hI s' hs' hz' (by omega)
theorem yf_find {post : Int32 → Prop} {p t : Nat} {k : Int32} (ht : t < 6) (hR : rt_R th cx p cn cy t)
    (h1 : ∀ s, s < 101 → ¬ vx_t th p s = 0 → k = nI s - 50 → post (nI (ra_k (vx_t th p) s))) (h0 : (∀ s, s < 101 → ¬ vx_t th p s = 0 → ¬ k = nI s - 50) → post (-1)) : wpY_find post (yd, yu, yc, yf, cy, cn, sy, os, ny, sz, ln, py, ry, fy, my, nw) (nI t) k :=
  ⟨ra_k (vx_t th p) 101 + 1, yf_l ht hR h1 h0 (ra_k (vx_t th p) 101) 0 _ (by omega) (by omega) (fun s hs hz hr => absurd hr (by omega))⟩
/-- folds over what meets -/
theorem jo_fold {α : Type} {xt mx my : Nat → Int32} {G H : Nat → α → α} {a : α} (hM : jo_M xt mx my) (h : ∀ s, s < 101 → ¬ mx s = 0 → ∀ x, H (ra_k xt s) x = G s x) :
    fo_y (fun r x => if my r = 0 then x else H r x) a (ra_k xt 101) = fo_g mx G a 101 := by
  have e : ∀ n, n ≤ 101 → fo_g mx G a n = fo_g xt (fun s x => if mx s = 0 then x else G s x) a n := by
    intro n
    induction n with
    | zero => intro _; rfl
    | succ n ih =>
      intro hn
      have e := ih (by omega)
      by_cases z : xt n = 0
      · rw [fo_g0 z, fo_g0 ((hM n (by omega)).1 z), e]
      · rw [fo_g1 z, ← e]
        by_cases y : mx n = 0
        · rw [fo_g0 y, if_pos y]
        · rw [fo_g1 y, if_neg y]
  rw [e 101 (by omega)]
  refine (fo_eq (fun s hs hz x => ?_)).symm
  have em := (hM s hs).2 hz
  by_cases y : mx s = 0
  · rw [if_pos y, if_pos (by rw [← em]; exact y)]
  · rw [if_neg y, if_neg (by rw [← em]; exact y)]; exact h s hs y x
theorem xk_sum {post : Int32 → SX → Prop} (h : post (fo_g mx (fun s a => a + rx s) 0 101) (xs, xu, xc, th, cx, sx, kd, nm, ct, op, pa, mx, rx)) :
    ∀ d i n, i + d = 101 → d < n → wX_sum_39 post xs xu xc th cx sx kd nm ct op pa mx rx n (fo_g mx (fun s a => a + rx s) 0 i) (nI i) := by
  intro d
  induction d with
  | zero =>
    intro i n hi hn
    obtain ⟨n, rfl⟩ : ∃ m, n = m + 1 := ⟨n - 1, by omega⟩
    obtain rfl : i = 101 := by omega
    exact br_t (by decide) h
  | succ d ih =>
    intro i n hi hn
    obtain ⟨n, rfl⟩ : ∃ m, n = m + 1 := ⟨n - 1, by omega⟩
    have vi : vp_in (nI i) 101 := vp_in_nI (by omega) (by omega)
    have := ih (i + 1) n (by omega) (by omega)
    refine br_f (nI_ge (b := 101) (by omega) (by omega)) ⟨vi, ?_⟩
    rw [nI_clamp (by omega)]
    refine br_c (fun z => nm_r (nI_1 i) ?_) (fun z => ⟨vi, nm_e (nm_r (nI_1 i) ?_)⟩)
    · rw [fo_g0 z] at this; exact this
    · rw [fo_g1 z] at this; exact this
theorem yk_sum {post : Int32 → SY → Prop} {m : Nat} (hm : m ≤ 40) (hc : cn 0 = nI m) (h : post (fo_y (fun r a => if my r = 0 then a else a + nw r) 0 m) (yd, yu, yc, yf, cy, cn, sy, os, ny, sz, ln, py, ry, fy, my, nw)) :
    ∀ d i n, i + d = m → d < n → wY_sum_38 post yd yu yc yf cy cn sy os ny sz ln py ry fy my nw n (fo_y (fun r a => if my r = 0 then a else a + nw r) 0 i) (nI i) := by
  intro d
  induction d with
  | zero =>
    intro i n hi hn
    obtain ⟨n, rfl⟩ : ∃ m, n = m + 1 := ⟨n - 1, by omega⟩
    obtain rfl : i = m := by omega
    exact br_t (by rw [hc]; exact Int32.le_refl _) h
  | succ d ih =>
    intro i n hi hn
    obtain ⟨n, rfl⟩ : ∃ m, n = m + 1 := ⟨n - 1, by omega⟩
    have vi : vp_in (nI i) 40 := vp_in_nI (by omega) (by omega)
    have := ih (i + 1) n (by omega) (by omega)
    unfold fo_y at this
    refine br_f (by rw [hc]; exact nI_ge (by omega) (by omega)) ⟨vi, ?_⟩
    rw [nI_clamp (by omega)]
    refine br_c (fun z => nm_r (nI_1 i) ?_) (fun z => ⟨vi, nm_e (nm_r (nI_1 i) ?_)⟩)
    · rw [if_pos z] at this; exact this
    · rw [if_neg z] at this; exact this
theorem xk_gr {post : Int32 → SX → Prop} {a0 : Int32} (h : post (fo_g mx (fun s a => if rx s ≤ a then a else rx s) a0 101) (xs, xu, xc, th, cx, sx, kd, nm, ct, op, pa, mx, rx)) :
    ∀ d i n, i + d = 101 → d < n → wX_greatest_47 post xs xu xc th cx sx kd nm ct op pa mx rx n (fo_g mx (fun s a => if rx s ≤ a then a else rx s) a0 i) (nI i) := by
  intro d
  induction d with
  | zero =>
    intro i n hi hn
    obtain ⟨n, rfl⟩ : ∃ m, n = m + 1 := ⟨n - 1, by omega⟩
    obtain rfl : i = 101 := by omega
    exact br_t (by decide) h
  | succ d ih =>
    intro i n hi hn
    obtain ⟨n, rfl⟩ : ∃ m, n = m + 1 := ⟨n - 1, by omega⟩
    have vi : vp_in (nI i) 101 := vp_in_nI (by omega) (by omega)
    have := ih (i + 1) n (by omega) (by omega)
    refine br_f (nI_ge (b := 101) (by omega) (by omega)) ⟨vi, ?_⟩
    rw [nI_clamp (by omega)]
    refine br_c (fun z => nm_r (nI_1 i) ?_) (fun z => ⟨vi, br_c (fun y => nm_r (nI_1 i) ?_) (fun y => ⟨vi, nm_e (nm_r (nI_1 i) ?_)⟩)⟩)
    · rw [fo_g0 z] at this; exact this
    · rw [fo_g1 z, if_pos y] at this; exact this
    · rw [fo_g1 z, if_neg y] at this; exact this
theorem yk_gr {post : Int32 → SY → Prop} {m : Nat} {a0 : Int32} (hm : m ≤ 40) (hc : cn 0 = nI m) (h : post (fo_y (fun r a => if my r = 0 then a else if nw r ≤ a then a else nw r) a0 m) (yd, yu, yc, yf, cy, cn, sy, os, ny, sz, ln, py, ry, fy, my, nw)) :
    ∀ d i n, i + d = m → d < n → wY_greatest_55 post yd yu yc yf cy cn sy os ny sz ln py ry fy my nw n (fo_y (fun r a => if my r = 0 then a else if nw r ≤ a then a else nw r) a0 i) (nI i) := by
  intro d
  induction d with
  | zero =>
    intro i n hi hn
    obtain ⟨n, rfl⟩ : ∃ m, n = m + 1 := ⟨n - 1, by omega⟩
    obtain rfl : i = m := by omega
    exact br_t (by rw [hc]; exact Int32.le_refl _) h
  | succ d ih =>
    intro i n hi hn
    obtain ⟨n, rfl⟩ : ∃ m, n = m + 1 := ⟨n - 1, by omega⟩
    have vi : vp_in (nI i) 40 := vp_in_nI (by omega) (by omega)
    have := ih (i + 1) n (by omega) (by omega)
    unfold fo_y at this
    refine br_f (by rw [hc]; exact nI_ge (by omega) (by omega)) ⟨vi, ?_⟩
    rw [nI_clamp (by omega)]
    refine br_c (fun z => nm_r (nI_1 i) ?_) (fun z => ⟨vi, br_c (fun y => nm_r (nI_1 i) ?_) (fun y => ⟨vi, nm_e (nm_r (nI_1 i) ?_)⟩)⟩)
    · rw [if_pos z] at this; exact this
    · rw [if_neg z, if_pos y] at this; exact this
    · rw [if_neg z, if_neg y] at this; exact this
theorem xk_new {post : Int32 → Prop} {s : Nat} (hs : s < 101) (h1 : (∀ q, q < s → ¬ mx q = 0 → ¬ rx q = rx s) → post 1) (h0 : ¬ (∀ q, q < s → ¬ mx q = 0 → ¬ rx q = rx s) → post 0) :
    ∀ d i n, i + d = s → d < n → (∀ q, q < i → ¬ mx q = 0 → ¬ rx q = rx s) → wX_isNewResult_2 post (nI s) xs xu xc th cx sx kd nm ct op pa mx rx n (nI i) := by
  intro d
  induction d with
  | zero =>
    intro i n hi hn hI
    obtain ⟨n, rfl⟩ : ∃ m, n = m + 1 := ⟨n - 1, by omega⟩
    obtain rfl : i = s := by omega
    exact br_t (Int32.le_refl _) (h1 hI)
  | succ d ih =>
    intro i n hi hn hI
    obtain ⟨n, rfl⟩ : ∃ m, n = m + 1 := ⟨n - 1, by omega⟩
    have vi : vp_in (nI i) 101 := vp_in_nI (by omega) (by omega)
    refine br_f (nI_ge (by omega) (by omega)) ⟨vi, ?_⟩
    rw [nI_clamp (n := i) (by omega), nI_clamp (n := s) (by omega)]
    refine br_c (fun z => nm_r (nI_1 i) (ih (i + 1) n (by omega) (by omega) (fun q hq hz => ?_))) (fun z => ⟨vi, vp_in_nI (by omega) (by omega), br_c (fun y => h0 (fun a => a i (by omega) z y)) (fun y => nm_r (nI_1 i) (ih (i + 1) n (by omega) (by omega) (fun q hq hz => ?_)))⟩)
    · by_cases e : q = i
      · subst e; exact absurd z hz
      · exact hI q (by omega) hz
    · by_cases e : q = i
      · subst e; exact y
      · exact hI q (by omega) hz
theorem xk_df {post : Int32 → SX → Prop} (h : post (fo_g mx (fun s a => if ∀ q, q < s → ¬ mx q = 0 → ¬ rx q = rx s then a + 1 else a) 0 101) (xs, xu, xc, th, cx, sx, kd, nm, ct, op, pa, mx, rx)) :
    ∀ d i n, i + d = 101 → d < n → wX_different_39 post xs xu xc th cx sx kd nm ct op pa mx rx n (fo_g mx (fun s a => if ∀ q, q < s → ¬ mx q = 0 → ¬ rx q = rx s then a + 1 else a) 0 i) (nI i) := by
  intro d
  induction d with
  | zero =>
    intro i n hi hn
    obtain ⟨n, rfl⟩ : ∃ m, n = m + 1 := ⟨n - 1, by omega⟩
    obtain rfl : i = 101 := by omega
    exact br_t (by decide) h
  | succ d ih =>
    intro i n hi hn
    obtain ⟨n, rfl⟩ : ∃ m, n = m + 1 := ⟨n - 1, by omega⟩
    have vi : vp_in (nI i) 101 := vp_in_nI (by omega) (by omega)
    have := ih (i + 1) n (by omega) (by omega)
    refine br_f (nI_ge (b := 101) (by omega) (by omega)) ⟨vi, ?_⟩
    rw [nI_clamp (by omega)]
    refine br_c (fun z => nm_r (nI_1 i) ?_) (fun z => ⟨i + 1, xk_new (by omega) (fun a => br_f (by decide) (nm_e (nm_r (nI_1 i) ?_))) (fun a => br_t rfl (nm_r (nI_1 i) ?_)) i 0 (i + 1) (by omega) (by omega) (fun q hq => absurd hq (by omega))⟩)
    · rw [fo_g0 z] at this; exact this
    · rw [fo_g1 z, if_pos a] at this; exact this
    · rw [fo_g1 z, if_neg a] at this; exact this
theorem yk_in {post : Int32 → SY → Prop} {J : Int32 → Int32 → Prop} {x3 : Int32} {r : Nat} (hr : r < 40)
    (h1 : (¬ my r = 0 ∧ ∀ q, q < r → ¬ my q = 0 → ¬ nw q = nw r) → J (x3 + 1) (nI (r + 1))) (h0 : ¬ (¬ my r = 0 ∧ ∀ q, q < r → ¬ my q = 0 → ¬ nw q = nw r) → J x3 (nI (r + 1))) :
    ∀ d i n x5, i + d = r → d < n → (x5 = 0 ↔ ¬ (¬ my r = 0 ∧ ∀ q, q < i → ¬ my q = 0 → ¬ nw q = nw r)) → wY_different_61 post J x3 (nI r) yd yu yc yf cy cn sy os ny sz ln py ry fy my nw n x5 (nI i) := by
  intro d
  induction d with
  | zero =>
    intro i n x5 hi hn hI
    obtain ⟨n, rfl⟩ : ∃ m, n = m + 1 := ⟨n - 1, by omega⟩
    obtain rfl : i = r := by omega
    refine br_t (Int32.le_refl _) (br_c (fun z => nm_r (nI_1 i) (h0 (hI.mp z))) (fun z => nm_e (nm_r (nI_1 i) (h1 (Classical.byContradiction (fun q => z (hI.mpr q)))))))
  | succ d ih =>
    intro i n x5 hi hn hI
    obtain ⟨n, rfl⟩ : ∃ m, n = m + 1 := ⟨n - 1, by omega⟩
    have vi : vp_in (nI i) 40 := vp_in_nI (by omega) (by omega)
    refine br_f (nI_ge (by omega) (by omega)) (br_c (fun z => nm_r (nI_1 i) (ih (i + 1) n 0 (by omega) (by omega) ⟨fun _ a => ?_, fun _ => rfl⟩)) (fun z => ⟨vi, ?_⟩))
    · exact hI.mp z ⟨a.1, fun q hq => a.2 q (by omega)⟩
    have hI' : ¬ my r = 0 ∧ ∀ q, q < i → ¬ my q = 0 → ¬ nw q = nw r := Classical.byContradiction (fun q => z (hI.mpr q))
    rw [nI_clamp (n := i) (by omega), nI_clamp (n := r) (by omega)]
    refine br_c (fun y => nm_r (nI_1 i) (ih (i + 1) n 1 (by omega) (by omega) ⟨fun q => absurd q (by decide), fun q => absurd ?_ q⟩)) (fun y => ⟨vi, vp_in_nI (by omega) (by omega), br_c (fun w => nm_r (nI_1 i) (ih (i + 1) n 0 (by omega) (by omega) ⟨fun _ a => a.2 i (by omega) y w, fun _ => rfl⟩)) (fun w => nm_r (nI_1 i) (ih (i + 1) n 1 (by omega) (by omega) ⟨fun q => absurd q (by decide), fun q => absurd ?_ q⟩))⟩)
    · refine ⟨hI'.1, fun q hq hz => ?_⟩
      by_cases e : q = i
      · subst e; exact absurd y hz
      · exact hI'.2 q (by omega) hz
    · refine ⟨hI'.1, fun q hq hz => ?_⟩
      by_cases e : q = i
      · subst e; exact w
      · exact hI'.2 q (by omega) hz
theorem yk_df {post : Int32 → SY → Prop} {m : Nat} (hm : m ≤ 40) (hc : cn 0 = nI m) (h : post (fo_y (fun r a => if my r = 0 then a else if ∀ q, q < r → ¬ my q = 0 → ¬ nw q = nw r then a + 1 else a) 0 m) (yd, yu, yc, yf, cy, cn, sy, os, ny, sz, ln, py, ry, fy, my, nw)) :
    ∀ d i n, i + d = m → d < n → wY_different_38 post yd yu yc yf cy cn sy os ny sz ln py ry fy my nw n (fo_y (fun r a => if my r = 0 then a else if ∀ q, q < r → ¬ my q = 0 → ¬ nw q = nw r then a + 1 else a) 0 i) (nI i) := by
  intro d
  induction d with
  | zero =>
    intro i n hi hn
    obtain ⟨n, rfl⟩ : ∃ m, n = m + 1 := ⟨n - 1, by omega⟩
    obtain rfl : i = m := by omega
    exact br_t (by rw [hc]; exact Int32.le_refl _) h
  | succ d ih =>
    intro i n hi hn
    obtain ⟨n, rfl⟩ : ∃ m, n = m + 1 := ⟨n - 1, by omega⟩
    have vi : vp_in (nI i) 40 := vp_in_nI (by omega) (by omega)
    have := ih (i + 1) n (by omega) (by omega)
    unfold fo_y at this
    refine br_f (by rw [hc]; exact nI_ge (by omega) (by omega)) ⟨vi, nm_r (e' := my i) (by rw [nI_clamp (by omega)]) ⟨i + 1, ?_⟩⟩
    refine yk_in (by omega) (fun a => ?_) (fun a => ?_) i 0 (i + 1) _ (by omega) (by omega) ⟨fun z a => a.1 z, fun a => ?_⟩
    · rw [if_neg a.1, if_pos a.2] at this; exact this
    · by_cases z : my i = 0
      · rw [if_pos z] at this; exact this
      · rw [if_neg z, if_neg (fun q => a ⟨z, q⟩)] at this; exact this
    · exact Classical.byContradiction (fun z => a ⟨z, fun q hq => absurd hq (by omega)⟩)
end
end
section
/-! value, sum, greatest, different, key -/
section
variable {xs xu xc : Int32} {th cx sx kd nm ct : Nat → Int32} {op : Nat → Int64} {pa mx rx : Nat → Int32} {yd yu yc yf : Int32} {cy cn sy os ny sz ln py ry fy my nw : Nat → Int32}
theorem xk_key {post : Int32 → SX → Prop} {b : Nat} (hb : b ≤ 101) (h1 : ∀ s, s < 101 → ¬ mx s = 0 → b = ra_k mx s → post (nI s - 50) (xs, xu, xc, th, cx, sx, kd, nm, ct, op, pa, mx, rx)) (h0 : (∀ s, s < 101 → ¬ mx s = 0 → ¬ b = ra_k mx s) → post (-1000000004) (xs, xu, xc, th, cx, sx, kd, nm, ct, op, pa, mx, rx)) :
    ∀ d i n, i + d = 101 → d < n → ra_k mx i ≤ b → (∀ s, s < i → ¬ mx s = 0 → ¬ b = ra_k mx s) → wX_key_59 post xs xu xc th cx sx kd nm ct op pa mx rx n (nI (b - ra_k mx i)) (nI i) := by
  intro d
  induction d with
  | zero =>
    intro i n hi hn hr hI
    obtain ⟨n, rfl⟩ : ∃ m, n = m + 1 := ⟨n - 1, by omega⟩
    obtain rfl : i = 101 := by omega
    exact br_t (by decide) (h0 hI)
  | succ d ih =>
    intro i n hi hn hr hI
    obtain ⟨n, rfl⟩ : ∃ m, n = m + 1 := ⟨n - 1, by omega⟩
    have vi : vp_in (nI i) 101 := vp_in_nI (by omega) (by omega)
    refine br_f (nI_ge (b := 101) (by omega) (by omega)) ⟨vi, ?_⟩
    rw [nI_clamp (by omega)]
    refine br_c (fun z => nm_r (nI_1 i) ?_) (fun z => ?_)
    · have := ih (i + 1) n (by omega) (by omega) (by rw [ra_s0 z]; exact hr) (fun s hs hz => ?_)
      · rw [ra_s0 z] at this; exact this
      · by_cases e : s = i
        · subst e; exact absurd z hz
        · exact hI s (by omega) hz
    · by_cases e : b = ra_k mx i
      · refine br_t (by rw [e, Nat.sub_self]; rfl) ?_
        rw [ab_n50]
        exact h1 i (by omega) z e
      · have e1 : b - ra_k mx i = (b - ra_k mx (i + 1)) + 1 := by rw [ra_s1 z]; omega
        refine br_f (nI_ne0 (by omega) (by omega)) (nm_r (e' := nI (b - ra_k mx (i + 1))) (by rw [e1, pk_m1]) (nm_r (nI_1 i) (ih (i + 1) n (by omega) (by omega) (by rw [ra_s1 z]; omega) (fun s hs hz => ?_))))
        by_cases q : s = i
        · subst q; exact e
        · exact hI s (by omega) hz
theorem ab_s0 {a b : Int32} (h : a - b = 0) : a = b := by
  have := congrArg (· + b) h
  simpa [Int32.sub_add_cancel] using this
theorem ab_s1 (a : Int32) (n : Nat) : a - nI n - 1 = a - nI (n + 1) := by
  rw [← nI_1, Int32.sub_eq_add_neg, Int32.sub_eq_add_neg, Int32.sub_eq_add_neg, Int32.neg_add, Int32.add_assoc, Int32.sub_eq_add_neg]
theorem yk_91 {post : Int32 → SY → Prop} {J : Int32 → Int32 → Prop} {x3 x5 : Int32} {i r : Nat} (hr : r < 40) (h0 : my r = 0 → J x5 (nI (i + 1))) (h1 : ¬ my r = 0 → J (x5 - 1) (nI (i + 1))) :
    wY_key_91 post J x3 x5 (nI i) (nI r) yd yu yc yf cy cn sy os ny sz ln py ry fy my nw := by
  refine ⟨vp_in_nI (by omega) (by omega), ?_⟩
  rw [nI_clamp (by omega)]
  exact br_c (fun z => nm_r (nI_1 i) (h0 z)) (fun z => nm_e (nm_r (nI_1 i) (h1 z)))
theorem yk_65 {post : Int32 → SY → Prop} {J : Int32 → Int32 → Prop} {x3 x5 : Int32} {i r : Nat} (hr : r < 40) (h0 : my r = 0 → J x5 (nI (i + 1))) (h1 : ¬ my r = 0 → ¬ x5 = 0 → J (x5 - 1) (nI (i + 1)))
    (h2 : ¬ my r = 0 → x5 = 0 → post (cy (160 * 0 + 4 * r + 0)) (yd, yu, yc, yf, cy, cn, sy, os, ny, sz, ln, py, ry, fy, my, nw)) : wY_key_65 post J x3 x5 (nI i) (nI r) yd yu yc yf cy cn sy os ny sz ln py ry fy my nw := by
  refine ⟨vp_in_nI (by omega) (by omega), ?_⟩
  rw [nI_clamp (by omega)]
  exact br_c (fun z => yk_91 hr h0 (fun y => absurd z y)) (fun z => br_c (fun y => yc_cell (t := 0) (c := 0) (by omega) hr (by omega) (h2 z y)) (fun y => yk_91 hr h0 (fun _ => h1 z y)))
theorem yk_up {post : Int32 → SY → Prop} {m : Nat} {q1 : Int32} (hm : m ≤ 40) (hc : cn 0 = nI m) (h1 : ∀ r, r < m → ¬ my r = 0 → q1 = nI (ra_k my r) → post (cy (160 * 0 + 4 * r + 0)) (yd, yu, yc, yf, cy, cn, sy, os, ny, sz, ln, py, ry, fy, my, nw))
    (h0 : (∀ r, r < m → ¬ my r = 0 → ¬ q1 = nI (ra_k my r)) → post (-1000000004) (yd, yu, yc, yf, cy, cn, sy, os, ny, sz, ln, py, ry, fy, my, nw)) :
    ∀ d i n, i + d = m → d < n → (∀ r, r < i → ¬ my r = 0 → ¬ q1 = nI (ra_k my r)) → wY_key_34 post 0 yd yu yc yf cy cn sy os ny sz ln py ry fy my nw n (q1 - nI (ra_k my i)) (nI i) := by
  intro d
  induction d with
  | zero =>
    intro i n hi hn hI
    obtain ⟨n, rfl⟩ : ∃ m, n = m + 1 := ⟨n - 1, by omega⟩
    obtain rfl : i = m := by omega
    exact br_t (by rw [hc]; exact Int32.le_refl _) (h0 hI)
  | succ d ih =>
    intro i n hi hn hI
    obtain ⟨n, rfl⟩ : ∃ m, n = m + 1 := ⟨n - 1, by omega⟩
    have step : (¬ my i = 0 → ¬ q1 = nI (ra_k my i)) → wY_key_34 post 0 yd yu yc yf cy cn sy os ny sz ln py ry fy my nw n (q1 - nI (ra_k my (i + 1))) (nI (i + 1)) := by
      intro a
      refine ih (i + 1) n (by omega) (by omega) (fun r hr hz => ?_)
      by_cases e : r = i
      · subst e; exact a hz
      · exact hI r (by omega) hz
    refine br_f (by rw [hc]; exact nI_ge (by omega) (by omega)) (br_t rfl (yk_65 (by omega) (fun z => ?_) (fun z y => ?_) (fun z y => h1 i (by omega) z (ab_s0 y))))
    · have := step (fun y => absurd z y)
      rw [ra_s0 z] at this; exact this
    · have := step (fun _ w => y (by rw [w, Int32.sub_self]))
      rw [ab_s1]
      rw [ra_s1 z] at this; exact this
theorem yk_dn {post : Int32 → SY → Prop} {m : Nat} {q1 x3 : Int32} (h3 : ¬ x3 = 0) (hm : m ≤ 40) (hc : cn 0 = nI m) (h1 : ∀ r, r < m → ¬ my r = 0 → q1 = nI (ra_k my m - ra_k my (r + 1)) → post (cy (160 * 0 + 4 * r + 0)) (yd, yu, yc, yf, cy, cn, sy, os, ny, sz, ln, py, ry, fy, my, nw))
    (h0 : (∀ r, r < m → ¬ my r = 0 → ¬ q1 = nI (ra_k my m - ra_k my (r + 1))) → post (-1000000004) (yd, yu, yc, yf, cy, cn, sy, os, ny, sz, ln, py, ry, fy, my, nw)) :
    ∀ d i n, i + d = m → d < n → (∀ r, r < m → m - i ≤ r → ¬ my r = 0 → ¬ q1 = nI (ra_k my m - ra_k my (r + 1))) → wY_key_34 post x3 yd yu yc yf cy cn sy os ny sz ln py ry fy my nw n (q1 - nI (ra_k my m - ra_k my (m - i))) (nI i) := by
  intro d
  induction d with
  | zero =>
    intro i n hi hn hI
    obtain ⟨n, rfl⟩ : ∃ m, n = m + 1 := ⟨n - 1, by omega⟩
    obtain rfl : i = m := by omega
    exact br_t (by rw [hc]; exact Int32.le_refl _) (h0 (fun r hr => hI r hr (by omega)))
  | succ d ih =>
    intro i n hi hn hI
    obtain ⟨n, rfl⟩ : ∃ m, n = m + 1 := ⟨n - 1, by omega⟩
    obtain ⟨r, er⟩ : ∃ r, m - i = r + 1 := ⟨m - i - 1, by omega⟩
    have e1 : m - (i + 1) = r := by omega
    have step : (¬ my r = 0 → ¬ q1 = nI (ra_k my m - ra_k my (r + 1))) → wY_key_34 post x3 yd yu yc yf cy cn sy os ny sz ln py ry fy my nw n (q1 - nI (ra_k my m - ra_k my r)) (nI (i + 1)) := by
      intro a
      have := ih (i + 1) n (by omega) (by omega) (fun r' hr hl hz => ?_)
      · rw [e1] at this; exact this
      · by_cases e : r' = r
        · subst e; exact a hz
        · exact hI r' hr (by omega) hz
    have hle : ra_k my (r + 1) ≤ ra_k my m := ra_mono my (by omega)
    have ez : cn 0 - 1 - nI i = nI r := by
      rw [hc, show (1 : Int32) = nI 1 from rfl, pk_sub (by omega), pk_sub (by omega)]
      exact congrArg nI (by omega)
    refine br_f (by rw [hc]; exact nI_ge (by omega) (by omega)) (br_f h3 ?_)
    rw [ez, er]
    refine yk_65 (by omega) (fun z => ?_) (fun z y => ?_) (fun z y => h1 r (by omega) z (ab_s0 y))
    · have := step (fun y => absurd z y)
      rw [ra_s0 z]; exact this
    · have := step (fun _ w => y (by rw [w, Int32.sub_self]))
      rw [ab_s1]
      have e2 : ra_k my m - ra_k my (r + 1) + 1 = ra_k my m - ra_k my r := by
        rw [ra_s1 z] at hle ⊢; omega
      rw [e2]; exact this
theorem yk_key {post : Int32 → SY → Prop} {e L : Nat} {K N Z : Nat → Int32} {mx' : Nat → Int32} {q2 q3 : Int32} (he : e < 8) (T : te_Y os ny sz ln K N Z e L) (hR : rt_R th cx 4 cn cy 0)
    (h1 : ∀ s, s < 101 → ¬ vx_t th 4 s = 0 → ∃ v, pv_T K N L py (vx_r cx 4 s) = some v ∧ mx' s = if v = 0 then 0 else 1) (h2 : ∀ s, s < 101 → vx_t th 4 s = 0 → mx' s = 0)
    (hn : (∀ j, j < ra_k mx' 101 → ¬ q2 = nI j) → ∀ yf' ry' fy' my', post (-1000000004) (yd, yu, yc, yf', cy, cn, sy, os, ny, sz, ln, py, ry', fy', my', nw))
    (hy : ∀ j s, j < ra_k mx' 101 → q2 = nI j → s < 101 → ¬ mx' s = 0 → ra_k mx' s = (if q3 = 0 then j else ra_k mx' 101 - 1 - j) → ∀ yf' ry' fy' my', post (nI s - 50) (yd, yu, yc, yf', cy, cn, sy, os, ny, sz, ln, py, ry', fy', my', nw)) :
    wpY_key post (yd, yu, yc, yf, cy, cn, sy, os, ny, sz, ln, py, ry, fy, my, nw) (nI e) q2 q3 := by
  unfold wpY_key
  dsimp only
  have hm := hR.2.1
  have hn5 : ¬ nI (ra_k mx' 101) = -1000000005 := nf_5 (ra_le mx' 101)
  have h101 := ra_le mx' 101
  refine ya_exp he (br_f (by decide) (jo_yS T hR h1 h2 (fun yf' ry' fy' my' hM => br_f hn5 ⟨ra_k (vx_t th 4) 101 + 1, ?_⟩)))
  have em := jo_ra hM 101 (by omega)
  have slot : ∀ r, r < ra_k (vx_t th 4) 101 → ¬ my' r = 0 → ∃ s, s < 101 ∧ ¬ mx' s = 0 ∧ ra_k mx' s = ra_k my' r ∧ cy (160 * 0 + 4 * r + 0) = nI s - 50 := by
    intro r hr hz'
    obtain ⟨s', hs2, ht2, rfl⟩ := ra_inv hr
    have hmx : ¬ mx' s' = 0 := by rw [(hM s' hs2).2 ht2]; exact hz'
    have a := hR.2.2 s' hs2 ht2
    have a2 := a.2 0 (by omega)
    rw [a.1] at a2
    exact ⟨s', hs2, hmx, jo_ra hM s' (by omega), a2⟩
  by_cases h3 : q3 = 0
  · rw [h3]
    have e0 : q2 - nI (ra_k my' 0) = q2 := Int32.sub_zero _
    have := yk_up (q1 := q2) (post := post) (yd := yd) (yu := yu) (yc := yc) (yf := yf') (cy := cy) (sy := sy) (os := os) (ny := ny) (sz := sz) (ln := ln) (py := py) (ry := ry') (fy := fy') (my := my') (nw := nw) hm hR.1 (fun r hr hz' eq => ?_) (fun hno => hn (fun j hj eq => ?_) _ _ _ _) (ra_k (vx_t th 4) 101) 0 (ra_k (vx_t th 4) 101 + 1) (by omega) (by omega) (fun r hr => absurd hr (by omega))
    · rw [e0] at this; exact this
    · obtain ⟨s, a1, a2, a3, a4⟩ := slot r hr hz'
      rw [a4]
      exact hy (ra_k my' r) s (by rw [em]; exact ra_lt hr hz') eq a1 a2 (by rw [if_pos h3, a3]) _ _ _ _
    · obtain ⟨r, a1, a2, a3⟩ := ra_inv (t := my') (r := j) (n := ra_k (vx_t th 4) 101) (by rw [← em]; exact hj)
      exact hno r a1 a2 (by rw [eq, a3])
  · have e0 : q2 - nI (ra_k my' (ra_k (vx_t th 4) 101) - ra_k my' (ra_k (vx_t th 4) 101 - 0)) = q2 := by rw [Nat.sub_zero, Nat.sub_self]; exact Int32.sub_zero _
    have := yk_dn (q1 := q2) (post := post) (yd := yd) (yu := yu) (yc := yc) (yf := yf') (cy := cy) (sy := sy) (os := os) (ny := ny) (sz := sz) (ln := ln) (py := py) (ry := ry') (fy := fy') (my := my') (nw := nw) h3 hm hR.1 (fun r hr hz' eq => ?_) (fun hno => hn (fun j hj eq => ?_) _ _ _ _) (ra_k (vx_t th 4) 101) 0 (ra_k (vx_t th 4) 101 + 1) (by omega) (by omega) (fun r hr hl => absurd hl (by omega))
    · rw [e0] at this; exact this
    · obtain ⟨s, a1, a2, a3, a4⟩ := slot r hr hz'
      rw [a4]
      have b2 : ra_k my' (r + 1) = ra_k my' r + 1 := ra_s1 hz'
      have b1 := ra_mono my' (a := r + 1) (b := ra_k (vx_t th 4) 101) hr
      exact hy _ s (by omega) eq a1 a2 (by rw [if_neg h3, a3]; omega) _ _ _ _
    · obtain ⟨r, a1, a2, a3⟩ := ra_inv (t := my') (r := ra_k mx' 101 - 1 - j) (n := ra_k (vx_t th 4) 101) (by omega)
      have b2 : ra_k my' (r + 1) = ra_k my' r + 1 := ra_s1 a2
      exact hno r a1 a2 (by rw [eq]; exact congrArg nI (by omega))
end
section
theorem i_vc_key {k : Nat} {u : SX} {v : SY} (I : i_Rel k u v) (hk : k + 5 ≤ 2560) (v1 : Int32) (v2 : Int32) (v3 : Int32) : wpX_key (fun r u' => wpY_key (fun r' v' => r' = r ∧ i_Rel (k + 5) u' v') v v1 v2 v3) u v1 v2 v3 := by
  obtain ⟨xs, xu, xc, th, cx, sx, kd, nm, ct, op, pa, mx, rx⟩ := u
  obtain ⟨yd, yu, yc, yf, cy, cn, sy, os, ny, sz, ln, py, ry, fy, my, nw⟩ := v
  have J := I
  obtain ⟨rfl, rfl, rfl, rfl, rfl, rfl, hb, ht, hs, ho, hT⟩ := I
  unfold wpX_key
  dsimp only
  rcases pk_ix v1 (n := 8) (by omega) with hx | hx | ⟨e, he, rfl⟩
  · refine xa_expN (Or.inl hx) (br_t rfl ?_)
    unfold wpY_key
    dsimp only
    exact ya_expN (Or.inl hx) (br_t rfl ⟨rfl, J⟩)
  · refine xa_expN (Or.inr hx) (br_t rfl ?_)
    unfold wpY_key
    dsimp only
    exact ya_expN (Or.inr hx) (br_t rfl ⟨rfl, J⟩)
  · obtain ⟨K, N, Z, L, TX', TY'⟩ := te_get (by omega) (hT.1 e he) ho
    refine xa_exp he (br_f (by decide) (xs_rows TX' (fun hb op' mx' => ?_) (fun op' mx' h1 h2 => ?_)))
    · refine br_t rfl ?_
      unfold wpY_key
      dsimp only
      exact ya_exp he (br_f (by decide) (jo_yF TY' ht.1 hb (fun yf' ry' fy' my' => br_t rfl ⟨rfl, J⟩)))
    · have h101 := ra_le mx' 101
      have hn5 : ¬ nI (ra_k mx' 101) = -1000000005 := nf_5 (ra_le mx' 101)
      refine br_f hn5 ?_
      by_cases n0 : v2 < 0
      · refine br_t n0 (yk_key he TY' ht.1 h1 h2 (fun _ yf' ry' fy' my' => ⟨rfl, J⟩) (fun j s hj eq => absurd n0 ?_))
        rw [eq]; exact nI_pos (by omega)
      · obtain ⟨j, hj, rfl⟩ := nI_of n0
        refine br_f n0 ?_
        by_cases hjm : j < ra_k mx' 101
        · refine br_t (nI_lt hjm (by omega)) ?_
          have main : ∀ b, b < ra_k mx' 101 → b = (if v3 = 0 then j else ra_k mx' 101 - 1 - j) → ∃ n59, wX_key_59 (fun r u' => wpY_key (fun r' v' => r' = r ∧ i_Rel (k + 5) u' v') (yd, yu, yc, yf, cy, cn, sy, os, ny, sz, ln, py, ry, fy, my, nw) (nI e) (nI j) v3) yd yu yc th cx sx kd ny ln op' py mx' rx n59 (nI b) 0 := by
            intro b hb' eb
            refine ⟨102, xk_key (b := b) (by omega) (fun s hs' hz er => ?_) (fun hno => ?_) 101 0 102 (by omega) (by omega) (Nat.zero_le _) (fun s hs => absurd hs (by omega))⟩
            · refine yk_key he TY' ht.1 h1 h2 (fun hno => absurd rfl (hno j hjm)) (fun j' s' hj' eq hs2 hz2 er2 yf' ry' fy' my' => ⟨?_, J⟩)
              have ej : j = j' := (nI_eq (by omega) (by omega)).mp eq
              subst ej
              have : s' = s := ra_inj hz2 hz (by rw [er2, ← eb, er])
              rw [this]
            · obtain ⟨s, a1, a2, a3⟩ := ra_inv hb'
              exact absurd a3.symm (hno s a1 a2)
          refine br_c (fun h3 => main j hjm (by rw [if_pos h3])) (fun h3 => nm_r (e' := nI (ra_k mx' 101 - 1 - j)) ?_ (main _ (by omega) (by rw [if_neg h3])))
          rw [show (1 : Int32) = nI 1 from rfl, pk_sub (by omega), pk_sub (by omega)]
        · refine br_f (nI_nlt (by omega) hj) (yk_key he TY' ht.1 h1 h2 (fun _ yf' ry' fy' my' => ⟨rfl, J⟩) (fun j' s hj' eq => ?_))
          have ej : j = j' := (nI_eq (by omega) (by omega)).mp eq
          omega
end
end
section
/-! sum, greatest, different, value, save, differences -/
section
theorem i_vc_sum {k : Nat} {u : SX} {v : SY} (I : i_Rel k u v) (hk : k + 5 ≤ 2560) (v1 : Int32) (v2 : Int32) : wpX_sum (fun r u' => wpY_sum (fun r' v' => r' = r ∧ i_Rel (k + 5) u' v') v v1 v2) u v1 v2 := by
  obtain ⟨xs, xu, xc, th, cx, sx, kd, nm, ct, op, pa, mx, rx⟩ := u
  obtain ⟨yd, yu, yc, yf, cy, cn, sy, os, ny, sz, ln, py, ry, fy, my, nw⟩ := v
  have J := I
  obtain ⟨rfl, rfl, rfl, rfl, rfl, rfl, hb, ht, hs, ho, hT⟩ := I
  have hR := ht.1
  have hm := hR.2.1
  unfold wpX_sum wpY_sum
  dsimp only
  rcases pk_ix v1 (n := 8) (by omega) with hx | hx | ⟨w, hw, rfl⟩
  · exact xa_expN (Or.inl hx) (br_t rfl (ya_expN (Or.inl hx) (br_t rfl ⟨rfl, J⟩)))
  · exact xa_expN (Or.inr hx) (br_t rfl (ya_expN (Or.inr hx) (br_t rfl ⟨rfl, J⟩)))
  · refine xa_exp hw (br_f (by decide) ?_)
    rcases pk_ix v2 (n := 8) (by omega) with hx | hx | ⟨e, he, rfl⟩
    · exact xa_expN (Or.inl hx) (br_t rfl (ya_exp hw (br_f (by decide) (ya_expN (Or.inl hx) (br_t rfl ⟨rfl, J⟩)))))
    · exact xa_expN (Or.inr hx) (br_t rfl (ya_exp hw (br_f (by decide) (ya_expN (Or.inr hx) (br_t rfl ⟨rfl, J⟩)))))
    · refine xa_exp he (br_f (by decide) ?_)
      obtain ⟨Kw, Nw, Zw, Lw, TXw, TYw⟩ := te_get (by omega) (hT.1 w hw) ho
      obtain ⟨K, N, Z, L, TX', TY'⟩ := te_get (by omega) (hT.1 e he) ho
      refine xs_res TXw TX' (fun hb op' mx' rx' => ?_) (fun op' mx' rx' h1 h2 h3 => ?_)
      · exact br_t rfl (ya_exp hw (br_f (by decide) (ya_exp he (br_f (by decide) (jo_yF2 TYw TY' ht.1 hb (fun yf' ry' fy' my' nw' => br_t rfl ⟨rfl, J⟩))))))
      · have hn5 : ¬ nI (ra_k mx' 101) = -1000000005 := nf_5 (ra_le mx' 101)
        refine br_f hn5 ⟨102, xk_sum ?_ 101 0 102 (by omega) (by omega)⟩
        refine ya_exp hw (br_f (by decide) (ya_exp he (br_f (by decide) (jo_yS2 TYw TY' ht.1 h1 h2 h3 (fun yf' ry' fy' my' nw' hM hV => br_f hn5 ⟨ra_k (vx_t th 4) 101 + 1, yk_sum hm hR.1 ⟨?_, J⟩ (ra_k (vx_t th 4) 101) 0 _ (by omega) (by omega)⟩)))))
        refine jo_fold hM (fun s hs hz x => ?_)
        dsimp only at hz ⊢
        rw [hV s hs hz]
theorem i_vc_greatest {k : Nat} {u : SX} {v : SY} (I : i_Rel k u v) (hk : k + 5 ≤ 2560) (v1 : Int32) (v2 : Int32) : wpX_greatest (fun r u' => wpY_greatest (fun r' v' => r' = r ∧ i_Rel (k + 5) u' v') v v1 v2) u v1 v2 := by
  obtain ⟨xs, xu, xc, th, cx, sx, kd, nm, ct, op, pa, mx, rx⟩ := u
  obtain ⟨yd, yu, yc, yf, cy, cn, sy, os, ny, sz, ln, py, ry, fy, my, nw⟩ := v
  have J := I
  obtain ⟨rfl, rfl, rfl, rfl, rfl, rfl, hb, ht, hs, ho, hT⟩ := I
  have hR := ht.1
  have hm := hR.2.1
  unfold wpX_greatest wpY_greatest
  dsimp only
  rcases pk_ix v1 (n := 8) (by omega) with hx | hx | ⟨w, hw, rfl⟩
  · exact xa_expN (Or.inl hx) (br_t rfl (ya_expN (Or.inl hx) (br_t rfl ⟨rfl, J⟩)))
  · exact xa_expN (Or.inr hx) (br_t rfl (ya_expN (Or.inr hx) (br_t rfl ⟨rfl, J⟩)))
  · refine xa_exp hw (br_f (by decide) ?_)
    rcases pk_ix v2 (n := 8) (by omega) with hx | hx | ⟨e, he, rfl⟩
    · exact xa_expN (Or.inl hx) (br_t rfl (ya_exp hw (br_f (by decide) (ya_expN (Or.inl hx) (br_t rfl ⟨rfl, J⟩)))))
    · exact xa_expN (Or.inr hx) (br_t rfl (ya_exp hw (br_f (by decide) (ya_expN (Or.inr hx) (br_t rfl ⟨rfl, J⟩)))))
    · refine xa_exp he (br_f (by decide) ?_)
      obtain ⟨Kw, Nw, Zw, Lw, TXw, TYw⟩ := te_get (by omega) (hT.1 w hw) ho
      obtain ⟨K, N, Z, L, TX', TY'⟩ := te_get (by omega) (hT.1 e he) ho
      refine xs_res TXw TX' (fun hb op' mx' rx' => ?_) (fun op' mx' rx' h1 h2 h3 => ?_)
      · exact br_t rfl (ya_exp hw (br_f (by decide) (ya_exp he (br_f (by decide) (jo_yF2 TYw TY' ht.1 hb (fun yf' ry' fy' my' nw' => br_t rfl (br_f (by decide) ⟨rfl, J⟩)))))))
      · have hn5 : ¬ nI (ra_k mx' 101) = -1000000005 := nf_5 (ra_le mx' 101)
        by_cases h0 : nI (ra_k mx' 101) = 0
        · exact br_f hn5 (br_t h0 (ya_exp hw (br_f (by decide) (ya_exp he (br_f (by decide) (jo_yS2 TYw TY' ht.1 h1 h2 h3 (fun yf' ry' fy' my' nw' hM hV => br_f hn5 (br_t h0 (br_t h0 ⟨rfl, J⟩)))))))))
        · refine br_f hn5 (br_f h0 ⟨102, xk_gr ?_ 101 0 102 (by omega) (by omega)⟩)
          refine ya_exp hw (br_f (by decide) (ya_exp he (br_f (by decide) (jo_yS2 TYw TY' ht.1 h1 h2 h3 (fun yf' ry' fy' my' nw' hM hV => br_f hn5 (br_f h0 ⟨ra_k (vx_t th 4) 101 + 1, yk_gr hm hR.1 ⟨?_, J⟩ (ra_k (vx_t th 4) 101) 0 _ (by omega) (by omega)⟩))))))
          refine jo_fold hM (fun s hs hz x => ?_)
          dsimp only at hz ⊢
          have e := hV s hs hz
          by_cases z : rx' s ≤ x
          · rw [if_pos z, if_pos (by rw [e]; exact z)]
          · rw [if_neg z, if_neg (by rw [e]; exact z), e]
theorem i_vc_different {k : Nat} {u : SX} {v : SY} (I : i_Rel k u v) (hk : k + 5 ≤ 2560) (v1 : Int32) (v2 : Int32) : wpX_different (fun r u' => wpY_different (fun r' v' => r' = r ∧ i_Rel (k + 5) u' v') v v1 v2) u v1 v2 := by
  obtain ⟨xs, xu, xc, th, cx, sx, kd, nm, ct, op, pa, mx, rx⟩ := u
  obtain ⟨yd, yu, yc, yf, cy, cn, sy, os, ny, sz, ln, py, ry, fy, my, nw⟩ := v
  have J := I
  obtain ⟨rfl, rfl, rfl, rfl, rfl, rfl, hb, ht, hs, ho, hT⟩ := I
  have hR := ht.1
  have hm := hR.2.1
  unfold wpX_different wpY_different
  dsimp only
  rcases pk_ix v1 (n := 8) (by omega) with hx | hx | ⟨w, hw, rfl⟩
  · exact xa_expN (Or.inl hx) (br_t rfl (ya_expN (Or.inl hx) (br_t rfl ⟨rfl, J⟩)))
  · exact xa_expN (Or.inr hx) (br_t rfl (ya_expN (Or.inr hx) (br_t rfl ⟨rfl, J⟩)))
  · refine xa_exp hw (br_f (by decide) ?_)
    rcases pk_ix v2 (n := 8) (by omega) with hx | hx | ⟨e, he, rfl⟩
    · exact xa_expN (Or.inl hx) (br_t rfl (ya_exp hw (br_f (by decide) (ya_expN (Or.inl hx) (br_t rfl ⟨rfl, J⟩)))))
    · exact xa_expN (Or.inr hx) (br_t rfl (ya_exp hw (br_f (by decide) (ya_expN (Or.inr hx) (br_t rfl ⟨rfl, J⟩)))))
    · refine xa_exp he (br_f (by decide) ?_)
      obtain ⟨Kw, Nw, Zw, Lw, TXw, TYw⟩ := te_get (by omega) (hT.1 w hw) ho
      obtain ⟨K, N, Z, L, TX', TY'⟩ := te_get (by omega) (hT.1 e he) ho
      refine xs_res TXw TX' (fun hb op' mx' rx' => ?_) (fun op' mx' rx' h1 h2 h3 => ?_)
      · exact br_t rfl (ya_exp hw (br_f (by decide) (ya_exp he (br_f (by decide) (jo_yF2 TYw TY' ht.1 hb (fun yf' ry' fy' my' nw' => br_t rfl ⟨rfl, J⟩))))))
      · have hn5 : ¬ nI (ra_k mx' 101) = -1000000005 := nf_5 (ra_le mx' 101)
        refine br_f hn5 ⟨102, xk_df ?_ 101 0 102 (by omega) (by omega)⟩
        refine ya_exp hw (br_f (by decide) (ya_exp he (br_f (by decide) (jo_yS2 TYw TY' ht.1 h1 h2 h3 (fun yf' ry' fy' my' nw' hM hV => br_f hn5 ⟨ra_k (vx_t th 4) 101 + 1, yk_df hm hR.1 ⟨?_, J⟩ (ra_k (vx_t th 4) 101) 0 _ (by omega) (by omega)⟩)))))
        refine jo_fold hM (fun s hs hz x => ?_)
        dsimp only at hz ⊢
        have ht' : ¬ vx_t th 4 s = 0 := fun z => hz ((hM s hs).1 z)
        have e : (∀ q, q < ra_k (vx_t th 4) s → ¬ my' q = 0 → ¬ nw' q = nw' (ra_k (vx_t th 4) s)) ↔ (∀ q, q < s → ¬ mx' q = 0 → ¬ rx' q = rx' s) := by
          constructor
          · intro a q hq hzq
            have htq : ¬ vx_t th 4 q = 0 := fun z => hzq ((hM q (by omega)).1 z)
            have := a (ra_k (vx_t th 4) q) (ra_lt hq htq) (by rw [← (hM q (by omega)).2 htq]; exact hzq)
            rw [hV q (by omega) hzq, hV s hs hz] at this
            exact this
          · intro a r hr hzr
            obtain ⟨q, hq, htq, rfl⟩ := ra_inv hr
            have hzq : ¬ mx' q = 0 := by rw [(hM q (by omega)).2 htq]; exact hzr
            rw [hV q (by omega) hzq, hV s hs hz]
            exact a q hq hzq
        by_cases z : ∀ q, q < s → ¬ mx' q = 0 → ¬ rx' q = rx' s
        · rw [if_pos z, if_pos (e.mpr z)]
        · rw [if_neg z, if_neg (fun y => z (e.mp y))]
theorem i_vc_value {k : Nat} {u : SX} {v : SY} (I : i_Rel k u v) (hk : k + 5 ≤ 2560) (v1 : Int32) (v2 : Int32) : wpX_value (fun r => wpY_value (fun r' => r' = r ∧ i_Rel (k + 5) u v) v v1 v2) u v1 v2 := by
  obtain ⟨xs, xu, xc, th, cx, sx, kd, nm, ct, op, pa, mx, rx⟩ := u
  obtain ⟨yd, yu, yc, yf, cy, cn, sy, os, ny, sz, ln, py, ry, fy, my, nw⟩ := v
  have J := I
  obtain ⟨rfl, rfl, rfl, rfl, rfl, rfl, hb, ht, hs, ho, hT⟩ := I
  have hR := ht.1
  have hm := hR.2.1
  unfold wpX_value
  dsimp only
  rcases pk_ix v2 (n := 4) (by omega) with hx | hx | ⟨c, hc, rfl⟩
  · exact xa_colN (Or.inl hx) (br_t rfl (br_t hx ⟨rfl, J⟩))
  · have h0 : ¬ v2 < 0 := Int32.not_lt.mpr (Int32.le_trans (show (0 : Int32) ≤ nI 4 from by decide) hx)
    exact xa_colN (Or.inr hx) (br_t rfl (br_f h0 (br_f (Int32.not_le.mpr (ya_gt3 hx)) ⟨rfl, J⟩)))
  · have c0 : ¬ nI c < 0 := nI_pos (by omega)
    have c3 : nI c ≤ 3 := nI_le (b := 3) (by omega) (by omega)
    refine xa_col hc (br_f (by decide) ?_)
    rcases ab_slot v1 with hx | hx | ⟨s, hs', rfl⟩
    · refine xa_keyN (Or.inl hx) (br_t rfl (br_f c0 (br_t c3 (yf_find (t := 0) (by omega) hR (fun s hs' hz e => ?_) (fun _ => br_f (by decide) ⟨rfl, J⟩)))))
      exact absurd hx (by rw [e]; exact ab_k1 hs')
    · refine xa_keyN (Or.inr hx) (br_t rfl (br_f c0 (br_t c3 (yf_find (t := 0) (by omega) hR (fun s hs' hz e => ?_) (fun _ => br_f (by decide) ⟨rfl, J⟩)))))
      exact absurd hx (by rw [e]; exact ab_k2 hs')
    · refine xa_key hs' (br_f (by decide) ?_)
      show vp_in (nI 4 * 101 + (nI s - 50) - (-50)) 606 ∧ _
      rw [show (4 : Int32) = nI 4 from rfl, ab_so, nI_clamp (by omega)]
      refine ⟨vp_in_nI (by omega) (by omega), br_c (fun z => ?_) (fun z => ?_)⟩
      · refine br_f c0 (br_t c3 (yf_find (t := 0) (by omega) hR (fun s2 hs2 hz e => ?_) (fun _ => br_f (by decide) ⟨rfl, J⟩)))
        rw [ab_keyI hs' hs2 e] at z
        exact absurd z hz
      · have em : nI (4 * 101 + s) * nI 4 + nI c = nI ((4 * 101 + s) * 4 + c) := ab_m4 _ _
        rw [em, nI_clamp (by omega)]
        refine ⟨vp_in_nI (by omega) (by omega), br_f c0 (br_t c3 (yf_find (t := 0) (by omega) hR (fun s2 hs2 hz e => ?_) (fun hno => absurd rfl (hno s hs' z))))⟩
        have e2 := ab_keyI hs' hs2 e
        subst e2
        have hlt : ra_k (vx_t th 4) s < 40 := Nat.lt_of_lt_of_le (ra_lt hs' hz) hm
        refine br_t (nI_pos' (by omega)) (yc_cell (t := 0) (by omega) hlt hc ⟨?_, J⟩)
        exact (hR.2.2 s hs' hz).2 c hc
end
end
section
/-! save, differences -/
section
variable {xs xu xc : Int32} {th cx sx kd nm ct : Nat → Int32} {op : Nat → Int64} {pa mx rx : Nat → Int32} {yd yu yc yf : Int32} {cy cn sy os ny sz ln py ry fy my nw : Nat → Int32}
theorem xd_same_l {post : Int32 → Prop} {a b : Nat} (ha : a < 606) (hb : b < 606) (h1 : (∀ c, c < 4 → cx (a * 4 + c) = cx (b * 4 + c)) → post 1) (h0 : ¬ (∀ c, c < 4 → cx (a * 4 + c) = cx (b * 4 + c)) → post 0) :
    ∀ d i n, i + d = 4 → d < n → (∀ c, c < i → cx (a * 4 + c) = cx (b * 4 + c)) → wX_isSameSlot_41 post (nI a) (nI b) xs xu xc th cx sx kd nm ct op pa mx rx n (nI i) := by
  intro d
  induction d with
  | zero =>
    intro i n hi hn hI
    obtain ⟨n, rfl⟩ : ∃ m, n = m + 1 := ⟨n - 1, by omega⟩
    obtain rfl : i = 4 := by omega
    exact br_t (by decide) (h1 hI)
  | succ d ih =>
    intro i n hi hn hI
    obtain ⟨n, rfl⟩ : ∃ m, n = m + 1 := ⟨n - 1, by omega⟩
    refine br_f (nI_ge (b := 4) (by omega) (by omega)) ⟨pk_in (a * 4 + i) 2424 (by omega) (ab_m4 a i), pk_in (b * 4 + i) 2424 (by omega) (ab_m4 b i), ?_⟩
    rw [ab_m4, ab_m4, nI_clamp (by omega), nI_clamp (by omega)]
    refine br_c (fun z => nm_r (nI_1 i) (ih (i + 1) n (by omega) (by omega) (fun c hc => ?_))) (fun z => h0 (fun q => z (q i (by omega))))
    by_cases e : c = i
    · subst e; exact z
    · exact hI c (by omega)
/-- two slots alike -/
def di_S (th cx : Nat → Int32) (a b : Nat) : Prop := (th a = 0 ∧ th b = 0) ∨ (¬ th a = 0 ∧ ¬ th b = 0 ∧ ∀ c, c < 4 → cx (a * 4 + c) = cx (b * 4 + c))
theorem xd_same {post : Int32 → Prop} {a b : Nat} (ha : a < 606) (hb : b < 606) (h1 : di_S th cx a b → post 1) (h0 : ¬ di_S th cx a b → post 0) : wpX_isSameSlot post (xs, xu, xc, th, cx, sx, kd, nm, ct, op, pa, mx, rx) (nI a) (nI b) := by
  have ca : (nI a).toNatClampNeg = a := nI_clamp (by omega)
  have cb : (nI b).toNatClampNeg = b := nI_clamp (by omega)
  have va : vp_in (nI a) 606 := vp_in_nI (by omega) (by omega)
  have vb : vp_in (nI b) 606 := vp_in_nI (by omega) (by omega)
  have go : th a = 0 ∨ th b = 0 → wX_isSameSlot_18 post (nI a) (nI b) xs xu xc th cx sx kd nm ct op pa mx rx := by
    intro hz
    refine ⟨va, vb, ?_⟩
    rw [ca, cb]
    refine br_c (fun e => h1 (Or.inl ?_)) (fun e => h0 (fun q => ?_))
    · rcases hz with z | z
      · exact ⟨z, by rw [← e]; exact z⟩
      · exact ⟨by rw [e]; exact z, z⟩
    · rcases q with q | q
      · exact e (by rw [q.1, q.2])
      · rcases hz with z | z
        · exact q.1 z
        · exact q.2.1 z
  refine ⟨va, ?_⟩
  rw [ca, cb]
  refine br_c (fun z => go (Or.inl z)) (fun z => ⟨vb, br_c (fun y => go (Or.inr y)) (fun y => ⟨5, xd_same_l ha hb (fun q => h1 (Or.inr ⟨z, y, q⟩)) (fun q => h0 (fun w => ?_)) 4 0 5 (by omega) (by omega) (fun c hc => absurd hc (by omega))⟩)⟩)
  rcases w with w | w
  · exact z w.1
  · exact q w.2.2
noncomputable def di_D (th cx : Nat → Int32) (p : Nat) : Nat → Int32 := fun s => @ite Int32 (di_S th cx (4 * 101 + s) (p * 101 + s)) (Classical.propDecidable _) 0 1
theorem di_0 {p s : Nat} (h : di_S th cx (4 * 101 + s) (p * 101 + s)) : di_D th cx p s = 0 := if_pos h
theorem di_1 {p s : Nat} (h : ¬ di_S th cx (4 * 101 + s) (p * 101 + s)) : ¬ di_D th cx p s = 0 := by
  have : di_D th cx p s = 1 := if_neg h
  rw [this]; decide
theorem xd_l {post : Int32 → Prop} {p : Nat} (hp : p < 4) (h : post (nI (ra_k (di_D th cx p) 101))) :
    ∀ d i n, i + d = 101 → d < n → wX_differences_26 post (nI p) xs xu xc th cx sx kd nm ct op pa mx rx n (nI (ra_k (di_D th cx p) i)) (nI i) := by
  intro d
  induction d with
  | zero =>
    intro i n hi hn
    obtain ⟨n, rfl⟩ : ∃ m, n = m + 1 := ⟨n - 1, by omega⟩
    obtain rfl : i = 101 := by omega
    exact br_t (by decide) h
  | succ d ih =>
    intro i n hi hn
    obtain ⟨n, rfl⟩ : ∃ m, n = m + 1 := ⟨n - 1, by omega⟩
    have := ih (i + 1) n (by omega) (by omega)
    refine br_f (nI_ge (b := 101) (by omega) (by omega)) ?_
    rw [show 404 + nI i = nI (4 * 101 + i) from nI_add 404 i, ab_m101]
    refine xd_same (by omega) (by omega) (fun q => br_f (by decide) (nm_r (nI_1 i) ?_)) (fun q => br_t rfl (nm_r (nI_1 _) (nm_r (nI_1 i) ?_)))
    · rw [ra_s0 (di_0 q)] at this; exact this
    · rw [ra_s1 (di_1 q)] at this; exact this
theorem yd_same {post : Int32 → Prop} {t r t' r' : Nat} (ht : t < 6) (hr : r < 40) (ht' : t' < 6) (hr' : r' < 40) (h1 : (∀ c, 1 ≤ c → c < 4 → vy_r cy t r c = vy_r cy t' r' c) → post 1) (h0 : ¬ (∀ c, 1 ≤ c → c < 4 → vy_r cy t r c = vy_r cy t' r' c) → post 0) :
    wpY_isSame post (yd, yu, yc, yf, cy, cn, sy, os, ny, sz, ln, py, ry, fy, my, nw) (nI t) (nI r) (nI t') (nI r') := by
  unfold wpY_isSame
  dsimp only
  refine yc_cell (c := 1) ht hr (by omega) (yc_cell (c := 1) ht' hr' (by omega) (br_c (fun e1 => ?_) (fun e1 => h0 (fun q => e1 (q 1 (by omega) (by omega))))))
  refine yc_cell (c := 2) ht hr (by omega) (yc_cell (c := 2) ht' hr' (by omega) (br_c (fun e2 => ?_) (fun e2 => h0 (fun q => e2 (q 2 (by omega) (by omega))))))
  refine yc_cell (c := 3) ht hr (by omega) (yc_cell (c := 3) ht' hr' (by omega) (br_c (fun e3 => h1 (fun c c1 c4 => ?_)) (fun e3 => h0 (fun q => e3 (q 3 (by omega) (by omega))))))
  rcases (by omega : c = 1 ∨ c = 2 ∨ c = 3) with rfl | rfl | rfl
  · exact e1
  · exact e2
  · exact e3
theorem ab_k5 (s : Nat) : nI s - 50 + 1 = nI (s + 1) - 50 := by
  rw [← nI_1, Int32.sub_eq_add_neg, Int32.sub_eq_add_neg, Int32.add_assoc, Int32.add_assoc, Int32.add_comm (-50) 1]
theorem yd_101 {post : Int32 → Prop} {J : Int32 → Int32 → Prop} {x1 x2 x6 z0 : Int32} {s : Nat} (h0 : ¬ x6 = 0 ∨ ¬ z0 = 0 → J x2 (nI (s + 1) - 50)) (h1 : x6 = 0 → z0 = 0 → J (x2 + 1) (nI (s + 1) - 50)) :
    wY_differences_101 post J x1 x2 (nI s - 50) x6 z0 yd yu yc yf cy cn sy os ny sz ln py ry fy my nw :=
  br_c (fun a => br_c (fun b => nm_e (nm_r (ab_k5 s) (h1 a b))) (fun b => nm_r (ab_k5 s) (h0 (Or.inr b)))) (fun a => nm_r (ab_k5 s) (h0 (Or.inl a)))
theorem ab_neg {r : Nat} (h : r < 101) : ¬ nI r < 0 := nI_pos (by omega)
theorem yd_l {post : Int32 → Prop} {p : Nat} (hp : p < 4) (hR : rt_R th cx 4 cn cy 0) (hR' : rt_R th cx p cn cy (p + 1)) (h : post (nI (ra_k (di_D th cx p) 101))) :
    ∀ d i n, i + d = 101 → d < n → wY_differences_30 post (nI p) yd yu yc yf cy cn sy os ny sz ln py ry fy my nw n (nI (ra_k (di_D th cx p) i)) (nI i - 50) := by
  intro d
  induction d with
  | zero =>
    intro i n hi hn
    obtain ⟨n, rfl⟩ : ∃ m, n = m + 1 := ⟨n - 1, by omega⟩
    obtain rfl : i = 101 := by omega
    exact br_t (by decide) h
  | succ d ih =>
    intro i n hi hn
    obtain ⟨n, rfl⟩ : ∃ m, n = m + 1 := ⟨n - 1, by omega⟩
    have hi' : i < 101 := by omega
    have nxt := ih (i + 1) n (by omega) (by omega)
    have yes : di_S th cx (4 * 101 + i) (p * 101 + i) → wY_differences_30 post (nI p) yd yu yc yf cy cn sy os ny sz ln py ry fy my nw n (nI (ra_k (di_D th cx p) i)) (nI (i + 1) - 50) := fun q => by rw [ra_s0 (di_0 q)] at nxt; exact nxt
    have no : ¬ di_S th cx (4 * 101 + i) (p * 101 + i) → wY_differences_30 post (nI p) yd yu yc yf cy cn sy os ny sz ln py ry fy my nw n (nI (ra_k (di_D th cx p) i) + 1) (nI (i + 1) - 50) := fun q => by rw [nI_1]; rw [ra_s1 (di_1 q)] at nxt; exact nxt
    have e1 : nI p + 1 = nI (p + 1) := nI_1 p
    refine br_f (ab_k2 hi') ?_
    rw [e1]
    refine yf_find (t := 0) (by omega) hR (fun s hs hz e => ?_) (fun hno => ?_)
    · have e2 := ab_keyI hi' hs e
      subst e2
      have r0 : 0 ≤ nI (ra_k (vx_t th 4) i) := nI_pos' (by have := ra_le (vx_t th 4) i; omega)
      have r0' : ¬ nI (ra_k (vx_t th 4) i) < 0 := Int32.not_lt.mpr r0
      have l0 : ra_k (vx_t th 4) i < 40 := Nat.lt_of_lt_of_le (ra_lt hs hz) hR.2.1
      refine yf_find (t := p + 1) (by omega) hR' (fun s2 hs2 hz2 e => ?_) (fun hno => ?_)
      · have e2 := ab_keyI hi' hs2 e
        subst e2
        have l1 : ra_k (vx_t th p) i < 40 := Nat.lt_of_lt_of_le (ra_lt hs2 hz2) hR'.2.1
        have r1' : ¬ nI (ra_k (vx_t th p) i) < 0 := nI_pos (by omega)
        refine br_t r0 (br_f r0' (br_f r1' ?_))
        rw [e1]
        have a := hR.2.2 i hs hz
        have b := hR'.2.2 i hs2 hz2
        refine yd_same (t := 0) (t' := p + 1) (by omega) l0 (by omega) l1 (fun q => br_f (by decide) (yd_101 (fun _ => yes (Or.inr ⟨hz, hz2, fun c hc => ?_⟩)) (fun _ z => absurd z (by decide)))) (fun q => br_t rfl (yd_101 (fun z => absurd z (by decide)) (fun _ _ => no (fun w => q (fun c c1 c4 => ?_)))))
        · by_cases c0 : c = 0
          · subst c0; exact a.1.trans b.1.symm
          · have := q c (by omega) hc
            rw [a.2 c hc, b.2 c hc] at this
            exact this
        · rcases w with w | w
          · exact absurd w.1 hz
          · rw [a.2 c c4, b.2 c c4]; exact w.2.2 c c4
      · refine br_t r0 (br_f r0' (br_t (by decide) (yd_101 (fun z => absurd z (by decide)) (fun _ _ => no (fun w => ?_)))))
        rcases w with w | w
        · exact hz w.1
        · exact hno i hi' w.2.1 rfl
    · have hz : vx_t th 4 i = 0 := Classical.byContradiction (fun z => hno i hi' z rfl)
      refine yf_find (t := p + 1) (by omega) hR' (fun s2 hs2 hz2 e => ?_) (fun hno2 => ?_)
      · have e2 := ab_keyI hi' hs2 e
        subst e2
        have r1 : 0 ≤ nI (ra_k (vx_t th p) i) := nI_pos' (by have := ra_le (vx_t th p) i; omega)
        refine br_f (by decide) (br_t r1 (br_t (by decide) (yd_101 (fun z => absurd z (by decide)) (fun _ _ => no (fun w => ?_)))))
        rcases w with w | w
        · exact hz2 w.2
        · exact w.1 hz
      · have hz2 : vx_t th p i = 0 := Classical.byContradiction (fun z => hno2 i hi' z rfl)
        exact br_f (by decide) (br_f (by decide) (br_t (by decide) (yd_101 (fun _ => yes (Or.inl ⟨hz, hz2⟩)) (fun z => absurd z (by decide)))))
end
section
theorem i_vc_differences {k : Nat} {u : SX} {v : SY} (I : i_Rel k u v) (hk : k + 5 ≤ 2560) (v1 : Int32) : wpX_differences (fun r => wpY_differences (fun r' => r' = r ∧ i_Rel (k + 5) u v) v v1) u v1 := by
  obtain ⟨xs, xu, xc, th, cx, sx, kd, nm, ct, op, pa, mx, rx⟩ := u
  obtain ⟨yd, yu, yc, yf, cy, cn, sy, os, ny, sz, ln, py, ry, fy, my, nw⟩ := v
  have J := I
  obtain ⟨rfl, rfl, rfl, rfl, rfl, rfl, hb, ht, hs, ho, hT⟩ := I
  unfold wpX_differences wpY_differences
  dsimp only
  rcases pk_ix v1 (n := 4) (by omega) with hx | hx | ⟨p, hp, rfl⟩
  · exact xa_plN (Or.inl hx) (br_t rfl (ya_plN (Or.inl hx) (br_t rfl ⟨rfl, J⟩)))
  · exact xa_plN (Or.inr hx) (br_t rfl (ya_plN (Or.inr hx) (br_t rfl ⟨rfl, J⟩)))
  · have cp : (nI p).toNatClampNeg = p := nI_clamp (by omega)
    have e1 : nI p + 1 = nI (p + 1) := nI_1 p
    have cp1 : (nI (p + 1)).toNatClampNeg = p + 1 := nI_clamp (by omega)
    have es := hs p hp
    rw [cp, e1, cp1, es]
    refine xa_pl hp (br_f (by decide) ⟨vp_in_nI (by omega) (by omega), br_c (fun z => ?_) (fun z => ⟨102, xd_l hp ?_ 101 0 102 (by omega) (by omega)⟩)⟩)
    · exact ya_pl hp (br_f (by decide) ⟨vp_in_nI (by omega) (by omega), br_t z ⟨rfl, J⟩⟩)
    · exact ya_pl hp (br_f (by decide) ⟨vp_in_nI (by omega) (by omega), br_f z ⟨102, yd_l hp ht.1 (ht.2 p hp) ⟨rfl, J⟩ 101 0 102 (by omega) (by omega)⟩⟩)
theorem i_vc_save {k : Nat} {u : SX} {v : SY} (I : i_Rel k u v) (hk : k + 5 ≤ 2560) (v1 : Int32) : wpX_save (fun r u' => wpY_save (fun r' v' => r' = r ∧ i_Rel (k + 5) u' v') v v1) u v1 := by
  obtain ⟨xs, xu, xc, th, cx, sx, kd, nm, ct, op, pa, mx, rx⟩ := u
  obtain ⟨yd, yu, yc, yf, cy, cn, sy, os, ny, sz, ln, py, ry, fy, my, nw⟩ := v
  have J := I
  obtain ⟨rfl, rfl, rfl, rfl, rfl, rfl, hb, ht, hs, ho, hT⟩ := I
  unfold wpX_save wpY_save
  dsimp only
  rcases pk_ix v1 (n := 4) (by omega) with hx | hx | ⟨p, hp, rfl⟩
  · exact xa_plN (Or.inl hx) (br_t rfl (ya_plN (Or.inl hx) (br_t rfl ⟨rfl, J⟩)))
  · exact xa_plN (Or.inr hx) (br_t rfl (ya_plN (Or.inr hx) (br_t rfl ⟨rfl, J⟩)))
  · have cp : (nI p).toNatClampNeg = p := nI_clamp (by omega)
    have e1 : nI p + 1 = nI (p + 1) := nI_1 p
    have cp1 : (nI (p + 1)).toNatClampNeg = p + 1 := nI_clamp (by omega)
    rw [cp, e1, cp1]
    refine xa_pl hp (br_f (by decide) (xc_tab (p := 4) (by omega) (by omega) (by omega) hb (fun th' cx' hc => ⟨vp_in_nI (by omega) (by omega), nm_e (xc_rows (p := 4) (by omega) ?_)⟩)))
    refine ya_pl hp (br_f (by decide) (yc_list (t := 0) (by omega) (by omega) (by omega) (fun cy' cn' hl => ⟨vp_in_nI (by omega) (by omega), nm_e ⟨?_, rfl, rfl, rfl, rfl, rfl, rfl, cp_bo hc hb, ?_, ?_, ho, hT⟩⟩)))
    · have e4 : ra_k (vx_t th' 4) 101 = ra_k (vx_t th 4) 101 := ra_cg (fun j hj => by show th' _ = 0 ↔ th _ = 0; rw [hc.2.1 _ (by omega)])
      show cn' 0 = _
      rw [hl.2.2, pk_un (by omega), e4]; exact ht.1.1
    · show tb_A th' cx' cn' cy'
      refine ⟨rt_cg ht.1 (fun s hs => hc.2.1 _ (by omega)) (fun s hs c hc' => hc.2.2.2 _ (by omega)) (by rw [hl.2.2, pk_un (by omega)]) (fun i hi => hl.2.1 _ (by omega)), fun q hq => ?_⟩
      by_cases e : q = p
      · subst e
        exact rt_cg ht.1 (fun s hs => hc.1 s hs) (fun s hs c hc' => hc.2.2.1 s hs c hc') (by rw [hl.2.2, pk_us]) (fun i hi => hl.1 i hi)
      · exact rt_cg (ht.2 q hq) (fun s hs => hc.2.1 _ (by omega)) (fun s hs c hc' => hc.2.2.2 _ (by omega)) (by rw [hl.2.2, pk_un (by omega)]) (fun i hi => hl.2.1 _ (by omega))
    · intro s hs'
      by_cases e : s = p
      · subst e; rw [pk_us, pk_us]
      · rw [pk_un (by omega), pk_un (by omega)]; exact hs s hs'
end
end
section
/-! the conditions: unique, check; takeNext and settle -/
section
variable {xs xu xc : Int32} {th cx sx kd nm ct : Nat → Int32} {op : Nat → Int64} {pa mx rx : Nat → Int32} {yd yu yc yf : Int32} {cy cn sy os ny sz ln py ry fy my nw : Nat → Int32}
def un_ok (xt : Nat → Int32) (xr : Nat → Nat → Int32) : Prop := ∀ s s', s < s' → s' < 101 → ¬ xt s = 0 → ¬ xt s' = 0 → ¬ xr s 3 = xr s' 3
def am_ok (K N : Nat → Int32) (L : Nat) (par : Nat → Int32) (xt : Nat → Int32) (xr : Nat → Nat → Int32) : Prop := ∀ s, s < 101 → ¬ xt s = 0 → ∃ v, pv_T K N L par (xr s) = some v ∧ ¬ v = 0
theorem xu_ear {post : Int32 → Prop} {p s : Nat} {c : Int32} (hp : p < 6) (hs : s < 101) (h0 : (∀ q, q < s → ¬ vx_t th p q = 0 → ¬ vx_r cx p q 3 = c) → post 0) (h1 : (∃ q, q < s ∧ ¬ vx_t th p q = 0 ∧ vx_r cx p q 3 = c) → post 1) :
    ∀ d i n, i + d = s → d < n → (∀ q, q < i → ¬ vx_t th p q = 0 → ¬ vx_r cx p q 3 = c) → wX_hasEarlierC_14 post (nI (p * 101 + s)) c xs xu xc th cx sx kd nm ct op pa mx rx n (nI (p * 101 + i)) := by
  intro d
  induction d with
  | zero =>
    intro i n hi hn hI
    obtain ⟨n, rfl⟩ : ∃ m, n = m + 1 := ⟨n - 1, by omega⟩
    obtain rfl : i = s := by omega
    exact br_t (Int32.le_refl _) (h0 hI)
  | succ d ih =>
    intro i n hi hn hI
    obtain ⟨n, rfl⟩ : ∃ m, n = m + 1 := ⟨n - 1, by omega⟩
    have em : nI (p * 101 + i) * 4 + 3 = nI ((p * 101 + i) * 4 + 3) := ab_m4 _ 3
    refine br_f (nI_ge (by omega) (by omega)) ⟨vp_in_nI (by omega) (by omega), ?_⟩
    rw [em, nI_clamp (n := p * 101 + i) (by omega), nI_clamp (n := (p * 101 + i) * 4 + 3) (by omega)]
    refine br_c (fun z => nm_r (nI_1 _) (ih (i + 1) n (by omega) (by omega) (fun q hq hz => ?_))) (fun z => ⟨vp_in_nI (by omega) (by omega), br_c (fun y => h1 ⟨i, by omega, z, y⟩) (fun y => nm_r (nI_1 _) (ih (i + 1) n (by omega) (by omega) (fun q hq hz => ?_)))⟩)
    · by_cases e : q = i
      · subst e; exact absurd z hz
      · exact hI q (by omega) hz
    · by_cases e : q = i
      · subst e; exact y
      · exact hI q (by omega) hz
theorem xu_l {post : Int32 → Prop} {p : Nat} (hp : p < 6) (h1 : un_ok (vx_t th p) (vx_r cx p) → post 1) (h0 : ¬ un_ok (vx_t th p) (vx_r cx p) → post 0) :
    ∀ d i n, i + d = 101 → d < n → (∀ s s', s < s' → s' < i → ¬ vx_t th p s = 0 → ¬ vx_t th p s' = 0 → ¬ vx_r cx p s 3 = vx_r cx p s' 3) → wX_isUnique_7 post (nI (p * 101)) xs xu xc th cx sx kd nm ct op pa mx rx n (nI (p * 101 + i)) := by
  have eb : nI (p * 101) + 101 = nI (p * 101 + 101) := nI_add (p * 101) 101
  intro d
  induction d with
  | zero =>
    intro i n hi hn hI
    obtain ⟨n, rfl⟩ : ∃ m, n = m + 1 := ⟨n - 1, by omega⟩
    obtain rfl : i = 101 := by omega
    exact br_t (by rw [eb]; exact Int32.le_refl _) (h1 hI)
  | succ d ih =>
    intro i n hi hn hI
    obtain ⟨n, rfl⟩ : ∃ m, n = m + 1 := ⟨n - 1, by omega⟩
    have em : nI (p * 101 + i) * 4 + 3 = nI ((p * 101 + i) * 4 + 3) := ab_m4 _ 3
    refine br_f (by rw [eb]; exact nI_ge (by omega) (by omega)) ⟨vp_in_nI (by omega) (by omega), ?_⟩
    rw [nI_clamp (n := p * 101 + i) (by omega)]
    refine br_c (fun z => nm_r (nI_1 _) (ih (i + 1) n (by omega) (by omega) (fun s s' hs hs' hz hz' => ?_))) (fun z => ?_)
    · by_cases e : s' = i
      · subst e; exact absurd z hz'
      · exact hI s s' hs (by omega) hz hz'
    · refine ⟨pk_in ((p * 101 + i) * 4 + 3) 2424 (by omega) em, nm_r (e' := vx_r cx p i 3) (by rw [em, nI_clamp (by omega)]; rfl) ⟨i + 1, ?_⟩⟩
      refine xu_ear (s := i) hp (by omega) (fun q => br_t rfl (nm_r (nI_1 _) (ih (i + 1) n (by omega) (by omega) (fun s s' hs hs' hz hz' => ?_)))) (fun q => br_f (by decide) (h0 (fun w => ?_))) i 0 (i + 1) (by omega) (by omega) (fun q hq => absurd hq (by omega))
      · by_cases e : s' = i
        · subst e; exact q s hs hz
        · exact hI s s' hs (by omega) hz hz'
      · obtain ⟨q, hq, hz, e⟩ := q
        exact w q i hq (by omega) hz z e
theorem xu_un {post : Int32 → Prop} {p : Nat} (hp : p < 6) (h1 : un_ok (vx_t th p) (vx_r cx p) → post 1) (h0 : ¬ un_ok (vx_t th p) (vx_r cx p) → post 0) : wpX_isUnique post (xs, xu, xc, th, cx, sx, kd, nm, ct, op, pa, mx, rx) (nI p) :=
  nm_r (pk_mul p 101) ⟨102, xu_l hp h1 h0 101 0 102 (by omega) (by omega) (fun s s' _ hs' => absurd hs' (by omega))⟩
theorem yu_in {post : Int32 → Prop} {J : Int32 → Prop} {t r : Nat} (ht : t < 6) (hr : r < 40) (hJ : (∀ q, q < r → ¬ vy_r cy t r 3 = vy_r cy t q 3) → J (nI (r + 1))) (h1 : (∃ q, q < r ∧ vy_r cy t r 3 = vy_r cy t q 3) → post 1) :
    ∀ d i n, i + d = r → d < n → (∀ q, q < i → ¬ vy_r cy t r 3 = vy_r cy t q 3) → wY_hasDouble_14 post J (nI t) (nI r) yd yu yc yf cy cn sy os ny sz ln py ry fy my nw n (nI i) := by
  intro d
  induction d with
  | zero =>
    intro i n hi hn hI
    obtain ⟨n, rfl⟩ : ∃ m, n = m + 1 := ⟨n - 1, by omega⟩
    obtain rfl : i = r := by omega
    exact br_t (Int32.le_refl _) (nm_r (nI_1 i) (hJ hI))
  | succ d ih =>
    intro i n hi hn hI
    obtain ⟨n, rfl⟩ : ∃ m, n = m + 1 := ⟨n - 1, by omega⟩
    refine br_f (nI_ge (by omega) (by omega)) (yc_cell (c := 3) ht hr (by omega) (yc_cell (c := 3) ht (by omega) (by omega) (br_c (fun e => h1 ⟨i, by omega, e⟩) (fun e => nm_r (nI_1 i) (ih (i + 1) n (by omega) (by omega) (fun q hq => ?_))))))
    by_cases z : q = i
    · subst z; exact e
    · exact hI q (by omega)
theorem yu_l {post : Int32 → Prop} {t m : Nat} (ht : t < 6) (hm : m ≤ 40) (hc : cn t = nI m) (h0 : (∀ q r, q < r → r < m → ¬ vy_r cy t r 3 = vy_r cy t q 3) → post 0) (h1 : (∃ q r, q < r ∧ r < m ∧ vy_r cy t r 3 = vy_r cy t q 3) → post 1) :
    ∀ d i n, i + d = m → d < n → (∀ q r, q < r → r < i → ¬ vy_r cy t r 3 = vy_r cy t q 3) → wY_hasDouble_2 post (nI t) yd yu yc yf cy cn sy os ny sz ln py ry fy my nw n (nI i) := by
  have ct' : (nI t).toNatClampNeg = t := nI_clamp (by omega)
  intro d
  induction d with
  | zero =>
    intro i n hi hn hI
    obtain ⟨n, rfl⟩ : ∃ m, n = m + 1 := ⟨n - 1, by omega⟩
    obtain rfl : i = m := by omega
    refine ⟨vp_in_nI (by omega) (by omega), ?_⟩
    rw [ct', hc]
    exact br_t (Int32.le_refl _) (h0 hI)
  | succ d ih =>
    intro i n hi hn hI
    obtain ⟨n, rfl⟩ : ∃ m, n = m + 1 := ⟨n - 1, by omega⟩
    refine ⟨vp_in_nI (by omega) (by omega), ?_⟩
    rw [ct', hc]
    refine br_f (nI_ge (by omega) (by omega)) ⟨i + 1, yu_in ht (by omega) (fun a => ih (i + 1) n (by omega) (by omega) (fun q r hq hr => ?_)) (fun a => ?_) i 0 (i + 1) (by omega) (by omega) (fun q hq => absurd hq (by omega))⟩
    · by_cases e : r = i
      · subst e; exact a q hq
      · exact hI q r hq (by omega)
    · obtain ⟨q, hq, e⟩ := a
      exact h1 ⟨q, i, hq, by omega, e⟩
theorem yu_un {post : Int32 → Prop} {p t : Nat} (ht : t < 6) (hR : rt_R th cx p cn cy t) (h0 : un_ok (vx_t th p) (vx_r cx p) → post 0) (h1 : ¬ un_ok (vx_t th p) (vx_r cx p) → post 1) : wpY_hasDouble post (yd, yu, yc, yf, cy, cn, sy, os, ny, sz, ln, py, ry, fy, my, nw) (nI t) := by
  refine ⟨_, yu_l ht hR.2.1 hR.1 (fun a => h0 (fun s s' hs hs' hz hz' e => ?_)) (fun a => h1 (fun w => ?_)) (ra_k (vx_t th p) 101) 0 (ra_k (vx_t th p) 101 + 1) (by omega) (by omega) (fun q r _ hr => absurd hr (by omega))⟩
  · refine a _ _ (ra_lt hs hz) (ra_lt hs' hz') ?_
    rw [(hR.2.2 s (by omega) hz).2 3 (by omega), (hR.2.2 s' hs' hz').2 3 (by omega), e]
  · obtain ⟨q, r, hq, hr, e⟩ := a
    obtain ⟨s', hs', hz', rfl⟩ := ra_inv hr
    obtain ⟨s, hs, hz, rfl⟩ := ra_inv hq
    rw [(hR.2.2 s (by omega) hz).2 3 (by omega), (hR.2.2 s' hs' hz').2 3 (by omega)] at e
    exact w s s' hs hs' hz hz' e.symm
theorem xm_l {post : Int32 → SX → Prop} {e L p : Nat} {K N Z : Nat → Int32} (hp : p < 6) (T : te_X kd nm ct K N Z e L)
    (h1 : am_ok K N L pa (vx_t th p) (vx_r cx p) → ∀ op', post 1 (xs, xu, xc, th, cx, sx, kd, nm, ct, op', pa, mx, rx)) (h0 : ¬ am_ok K N L pa (vx_t th p) (vx_r cx p) → ∀ op', post 0 (xs, xu, xc, th, cx, sx, kd, nm, ct, op', pa, mx, rx)) :
    ∀ d i n op, i + d = 101 → d < n → (∀ s, s < i → ¬ vx_t th p s = 0 → ∃ v, pv_T K N L pa (vx_r cx p s) = some v ∧ ¬ v = 0) → wX_allMeet_5 post (nI p) (nI e) n (nI (p * 101 + i)) xs xu xc th cx sx kd nm ct op pa mx rx := by
  have eb : nI p * 101 + 101 = nI (p * 101 + 101) := ab_m101 p 101
  intro d
  induction d with
  | zero =>
    intro i n op hi hn hI
    obtain ⟨n, rfl⟩ : ∃ m, n = m + 1 := ⟨n - 1, by omega⟩
    obtain rfl : i = 101 := by omega
    exact br_t (by rw [eb]; exact Int32.le_refl _) (h1 hI op)
  | succ d ih =>
    intro i n op hi hn hI
    obtain ⟨n, rfl⟩ : ∃ m, n = m + 1 := ⟨n - 1, by omega⟩
    refine br_f (by rw [eb]; exact nI_ge (by omega) (by omega)) ⟨vp_in_nI (by omega) (by omega), ?_⟩
    rw [nI_clamp (by omega)]
    refine br_c (fun z => nm_r (nI_1 _) (ih (i + 1) n op (by omega) (by omega) (fun s hs hz => ?_))) (fun z => ?_)
    · by_cases e : s = i
      · subst e; exact absurd z hz
      · exact hI s (by omega) hz
    · refine te_out T hp (by omega) (fun op' => ?_)
      cases hV : pv_T K N L pa (vx_r cx p i) with
      | none =>
        refine br_t rfl (h0 (fun w => ?_) op')
        obtain ⟨v, hv, _⟩ := w i (by omega) z
        rw [hV] at hv
        exact absurd hv (by simp)
      | some v =>
        refine br_f (tm_ne v) (br_c (fun q => h0 (fun w => ?_) op') (fun q => nm_r (nI_1 _) (ih (i + 1) n op' (by omega) (by omega) (fun s hs hz => ?_))))
        · obtain ⟨v', hv, n0⟩ := w i (by omega) z
          rw [hV] at hv
          exact n0 (by rw [← Option.some.inj hv]; exact (tm_e0 v).mp q)
        · by_cases e : s = i
          · subst e; exact ⟨v, hV, fun y => q ((tm_e0 v).mpr y)⟩
          · exact hI s (by omega) hz
theorem xm_all {post : Int32 → SX → Prop} {e L p : Nat} {K N Z : Nat → Int32} (hp : p < 6) (T : te_X kd nm ct K N Z e L)
    (h1 : am_ok K N L pa (vx_t th p) (vx_r cx p) → ∀ op', post 1 (xs, xu, xc, th, cx, sx, kd, nm, ct, op', pa, mx, rx)) (h0 : ¬ am_ok K N L pa (vx_t th p) (vx_r cx p) → ∀ op', post 0 (xs, xu, xc, th, cx, sx, kd, nm, ct, op', pa, mx, rx)) : wpX_allMeet post (xs, xu, xc, th, cx, sx, kd, nm, ct, op, pa, mx, rx) (nI p) (nI e) :=
  nm_r (pk_mul p 101) ⟨102, xm_l hp T h1 h0 101 0 102 op (by omega) (by omega) (fun s hs => absurd hs (by omega))⟩
theorem ym_l {post : Int32 → SY → Prop} {e L t m : Nat} {K N Z : Nat → Int32} (ht : t < 6) (hm : m ≤ 40) (hc : cn t = nI m) (T : te_Y os ny sz ln K N Z e L)
    (h1 : (∀ r, r < m → ∃ v, pv_T K N L py (vy_r cy t r) = some v ∧ ¬ v = 0) → ∀ yf' ry' fy', post 1 (yd, yu, yc, yf', cy, cn, sy, os, ny, sz, ln, py, ry', fy', my, nw)) (h0 : ¬ (∀ r, r < m → ∃ v, pv_T K N L py (vy_r cy t r) = some v ∧ ¬ v = 0) → ∀ yf' ry' fy', post 0 (yd, yu, yc, yf', cy, cn, sy, os, ny, sz, ln, py, ry', fy', my, nw)) :
    ∀ d i n yf ry fy, i + d = m → d < n → (∀ r, r < i → ∃ v, pv_T K N L py (vy_r cy t r) = some v ∧ ¬ v = 0) → wY_areChecked_2 post (nI t) (nI e) n (nI i) yd yu yc yf cy cn sy os ny sz ln py ry fy my nw := by
  have ct' : (nI t).toNatClampNeg = t := nI_clamp (by omega)
  intro d
  induction d with
  | zero =>
    intro i n yf ry fy hi hn hI
    obtain ⟨n, rfl⟩ : ∃ m, n = m + 1 := ⟨n - 1, by omega⟩
    obtain rfl : i = m := by omega
    refine ⟨vp_in_nI (by omega) (by omega), ?_⟩
    rw [ct', hc]
    exact br_t (Int32.le_refl _) (h1 hI _ _ _)
  | succ d ih =>
    intro i n yf ry fy hi hn hI
    obtain ⟨n, rfl⟩ : ∃ m, n = m + 1 := ⟨n - 1, by omega⟩
    refine ⟨vp_in_nI (by omega) (by omega), ?_⟩
    rw [ct', hc]
    refine br_f (nI_ge (by omega) (by omega)) (te_work T ht (by omega) (fun ry' fy' w f hv => ?_))
    cases hV : pv_T K N L py (vy_r cy t i) with
    | none =>
      rw [hV] at hv
      have f1 : f = 1 := hv
      have bad : ¬ (∀ r, r < m → ∃ v, pv_T K N L py (vy_r cy t r) = some v ∧ ¬ v = 0) := by
        intro w
        obtain ⟨v, hv, _⟩ := w i (by omega)
        rw [hV] at hv
        exact absurd hv (by simp)
      exact br_c (fun _ => h0 bad _ _ _) (fun _ => br_f (by rw [f1]; decide) (h0 bad _ _ _))
    | some v =>
      rw [hV] at hv
      obtain ⟨f0, wv⟩ := hv
      have wv' : w = v := wv
      refine br_c (fun q => h0 (fun w' => ?_) _ _ _) (fun q => br_t f0 (nm_r (nI_1 i) (ih (i + 1) n f ry' fy' (by omega) (by omega) (fun r hr => ?_))))
      · obtain ⟨v', hv, n0⟩ := w' i (by omega)
        rw [hV] at hv
        exact n0 (by rw [← Option.some.inj hv, ← wv']; exact q)
      · by_cases e : r = i
        · subst e; exact ⟨v, hV, by rw [← wv']; exact q⟩
        · exact hI r (by omega)
theorem ym_all {post : Int32 → SY → Prop} {e L p t : Nat} {K N Z : Nat → Int32} (ht : t < 6) (hR : rt_R th cx p cn cy t) (T : te_Y os ny sz ln K N Z e L)
    (h1 : am_ok K N L py (vx_t th p) (vx_r cx p) → ∀ yf' ry' fy', post 1 (yd, yu, yc, yf', cy, cn, sy, os, ny, sz, ln, py, ry', fy', my, nw)) (h0 : ¬ am_ok K N L py (vx_t th p) (vx_r cx p) → ∀ yf' ry' fy', post 0 (yd, yu, yc, yf', cy, cn, sy, os, ny, sz, ln, py, ry', fy', my, nw)) : wpY_areChecked post (yd, yu, yc, yf, cy, cn, sy, os, ny, sz, ln, py, ry, fy, my, nw) (nI t) (nI e) := by
  have iff : (∀ r, r < ra_k (vx_t th p) 101 → ∃ v, pv_T K N L py (vy_r cy t r) = some v ∧ ¬ v = 0) ↔ am_ok K N L py (vx_t th p) (vx_r cx p) := by
    constructor
    · intro a s hs hz
      have := a _ (ra_lt hs hz)
      rw [jo_pv T hR hs hz] at this
      exact this
    · intro a r hr
      obtain ⟨s, hs, hz, rfl⟩ := ra_inv hr
      rw [jo_pv T hR hs hz]
      exact a s hs hz
  exact ⟨_, ym_l ht hR.2.1 hR.1 T (fun a => h1 (iff.mp a)) (fun a => h0 (fun w => a (iff.mpr w))) (ra_k (vx_t th p) 101) 0 (ra_k (vx_t th p) 101 + 1) yf ry fy (by omega) (by omega) (fun r hr => absurd hr (by omega))⟩
/-- X's takeNext, Y's settle -/
theorem xt_take {post : Int32 → SX → Prop} {a : Int32} {L : Nat} {K N Z : Nat → Int32} (hb : bo_A th) (T : ¬ xc = 0 → te_X kd nm ct K N Z 8 L)
    (hU : ¬ xu = 0 → ¬ un_ok (vx_t th 5) (vx_r cx 5) → post (-1000000007) (xs, xu, xc, th, cx, sx, kd, nm, ct, op, pa, mx, rx))
    (hC : (xu = 0 ∨ un_ok (vx_t th 5) (vx_r cx 5)) → ¬ xc = 0 → ¬ am_ok K N L pa (vx_t th 5) (vx_r cx 5) → ∀ op', post (-1000000008) (xs, xu, xc, th, cx, sx, kd, nm, ct, op', pa, mx, rx))
    (hO : (xu = 0 ∨ un_ok (vx_t th 5) (vx_r cx 5)) → (xc = 0 ∨ am_ok K N L pa (vx_t th 5) (vx_r cx 5)) → ∀ op' th' cx', cp_T th cx th' cx' 5 4 → post a (xs, xu, xc, th', cx', sx, kd, nm, ct, op', pa, mx, rx)) : wpX_takeNext post (xs, xu, xc, th, cx, sx, kd, nm, ct, op, pa, mx, rx) a := by
  have cpy : (xu = 0 ∨ un_ok (vx_t th 5) (vx_r cx 5)) → (xc = 0 ∨ am_ok K N L pa (vx_t th 5) (vx_r cx 5)) → ∀ op', wX_takeNext_38 post a xs xu xc th cx sx kd nm ct op' pa mx rx := by
    intro c1 c2 op'
    unfold wX_takeNext_38
    exact xc_tab (p := 5) (q := 4) (by omega) (by omega) (by omega) hb (fun th' cx' hc => hO c1 c2 op' th' cx' hc)
  have snd : (xu = 0 ∨ un_ok (vx_t th 5) (vx_r cx 5)) → wX_takeNext_18 post a xs xu xc th cx sx kd nm ct op pa mx rx := by
    intro c1
    refine br_c (fun z => cpy c1 (Or.inl z) op) (fun z => ?_)
    exact xm_all (p := 5) (by omega) (T z) (fun w op' => br_f (by decide) (cpy c1 (Or.inr w) op')) (fun w op' => br_t rfl (hC c1 z w op'))
  refine br_c (fun z => snd (Or.inl z)) (fun z => ?_)
  exact xu_un (p := 5) (by omega) (fun w => br_f (by decide) (snd (Or.inr w))) (fun w => br_t rfl (hU z w))
theorem yt_take {post : Int32 → SY → Prop} {a : Int32} {L t : Nat} {K N Z : Nat → Int32} (ht : t < 6) (ht0 : t ≠ 0) (hR : rt_R th cx 5 cn cy t) (T : ¬ yc = 0 → te_Y os ny sz ln K N Z 8 L)
    (hU : ¬ yu = 0 → ¬ un_ok (vx_t th 5) (vx_r cx 5) → post (-1000000007) (yd, yu, yc, yf, cy, cn, sy, os, ny, sz, ln, py, ry, fy, my, nw))
    (hC : (yu = 0 ∨ un_ok (vx_t th 5) (vx_r cx 5)) → ¬ yc = 0 → ¬ am_ok K N L py (vx_t th 5) (vx_r cx 5) → ∀ yf' ry' fy', post (-1000000008) (yd, yu, yc, yf', cy, cn, sy, os, ny, sz, ln, py, ry', fy', my, nw))
    (hO : (yu = 0 ∨ un_ok (vx_t th 5) (vx_r cx 5)) → (yc = 0 ∨ am_ok K N L py (vx_t th 5) (vx_r cx 5)) → ∀ yf' ry' fy' cy' cn', cl_T cy cn cy' cn' t 0 → post a (yd, yu, yc, yf', cy', cn', sy, os, ny, sz, ln, py, ry', fy', my, nw)) : wpY_settle post (yd, yu, yc, yf, cy, cn, sy, os, ny, sz, ln, py, ry, fy, my, nw) (nI t) a := by
  have cpy : (yu = 0 ∨ un_ok (vx_t th 5) (vx_r cx 5)) → (yc = 0 ∨ am_ok K N L py (vx_t th 5) (vx_r cx 5)) → ∀ yf' ry' fy', wY_settle_38 post (nI t) a yd yu yc yf' cy cn sy os ny sz ln py ry' fy' my nw := by
    intro c1 c2 yf' ry' fy'
    unfold wY_settle_38
    exact yc_list (u := 0) ht (by omega) ht0 (fun cy' cn' hl => hO c1 c2 yf' ry' fy' cy' cn' hl)
  have snd : (yu = 0 ∨ un_ok (vx_t th 5) (vx_r cx 5)) → wY_settle_18 post (nI t) a yd yu yc yf cy cn sy os ny sz ln py ry fy my nw := by
    intro c1
    refine br_c (fun z => cpy c1 (Or.inl z) yf ry fy) (fun z => ?_)
    exact ym_all ht hR (T z) (fun w yf' ry' fy' => br_f (by decide) (cpy c1 (Or.inr w) yf' ry' fy')) (fun w yf' ry' fy' => br_t rfl (hC c1 z w yf' ry' fy'))
  refine br_c (fun z => snd (Or.inl z)) (fun z => ?_)
  exact yu_un ht hR (fun w => br_t rfl (snd (Or.inr w))) (fun w => br_f (by decide) (hU z w))
theorem tk_tb {th' cx' cn' cy' : Nat → Int32} {t : Nat} (h : tb_A th cx cn cy) (hR : rt_R th cx 5 cn cy t) (hc : cp_T th cx th' cx' 5 4) (hl : cl_T cy cn cy' cn' t 0) : tb_A th' cx' cn' cy' := by
  refine ⟨rt_cg hR (fun s hs => hc.1 s hs) (fun s hs c hc' => hc.2.2.1 s hs c hc') (by rw [hl.2.2, pk_us]) (fun i hi => hl.1 i hi), fun q hq => ?_⟩
  exact rt_cg (h.2 q hq) (fun s hs => hc.2.1 _ (by omega)) (fun s hs c hc' => hc.2.2.2 _ (by omega)) (by rw [hl.2.2, pk_un (by omega)]) (fun i hi => hl.2.1 _ (by omega))
/-- the check's term, if it is on -/
theorem te_8 (h : ¬ xc = 0 → te_ok kd nm sz ct 8) (ho : ∀ j, os j = tm_yk (kd j)) :
    ∃ (K N Z : Nat → Int32) (L : Nat), (¬ xc = 0 → te_X kd nm ct K N Z 8 L) ∧ (¬ xc = 0 → te_Y os nm sz ct K N Z 8 L) := by
  by_cases z : xc = 0
  · exact ⟨fun _ => 0, fun _ => 0, fun _ => 0, 0, fun q => absurd z q, fun q => absurd z q⟩
  · obtain ⟨K, N, Z, L, a, b⟩ := te_get (by omega) (h z) ho
    exact ⟨K, N, Z, L, fun _ => a, fun _ => b⟩
end
section
theorem i_vc_unique {k : Nat} {u : SX} {v : SY} (I : i_Rel k u v) (hk : k + 5 ≤ 2560) (v1 : Int32) : wpX_unique (fun r u' => wpY_unique (fun r' v' => r' = r ∧ i_Rel (k + 5) u' v') v v1) u v1 := by
  obtain ⟨xs, xu, xc, th, cx, sx, kd, nm, ct, op, pa, mx, rx⟩ := u
  obtain ⟨yd, yu, yc, yf, cy, cn, sy, os, ny, sz, ln, py, ry, fy, my, nw⟩ := v
  have J := I
  obtain ⟨rfl, rfl, rfl, rfl, rfl, rfl, hb, ht, hs, ho, hT⟩ := I
  by_cases z : v1 = 0
  · exact br_t z (br_t z (br_t z (br_t z ⟨rfl, rfl, rfl, rfl, rfl, rfl, rfl, hb, ht, hs, ho, hT⟩)))
  · refine br_f z (xu_un (p := 4) (by omega) (fun w => br_f (by decide) (br_f z (br_f z ?_))) (fun w => br_t rfl (br_f z ?_)))
    · exact yu_un (t := 0) (by omega) ht.1 (fun _ => br_t rfl (br_f z ⟨rfl, rfl, rfl, rfl, rfl, rfl, rfl, hb, ht, hs, ho, hT⟩)) (fun q => absurd w q)
    · exact yu_un (t := 0) (by omega) ht.1 (fun q => absurd q w) (fun _ => br_f (by decide) ⟨rfl, J⟩)
theorem i_vc_load {k : Nat} {u : SX} {v : SY} (I : i_Rel k u v) (hk : k + 5 ≤ 2560) (v1 : Int32) : wpX_load (fun r u' => wpY_load (fun r' v' => r' = r ∧ i_Rel (k + 5) u' v') v v1) u v1 := by
  obtain ⟨xs, xu, xc, th, cx, sx, kd, nm, ct, op, pa, mx, rx⟩ := u
  obtain ⟨yd, yu, yc, yf, cy, cn, sy, os, ny, sz, ln, py, ry, fy, my, nw⟩ := v
  have J := I
  obtain ⟨rfl, rfl, rfl, rfl, rfl, rfl, hb, ht, hs, ho, hT⟩ := I
  unfold wpX_load wpY_load
  dsimp only
  rcases pk_ix v1 (n := 4) (by omega) with hx | hx | ⟨p, hp, rfl⟩
  · exact xa_plN (Or.inl hx) (br_t rfl (ya_plN (Or.inl hx) (br_t rfl ⟨rfl, J⟩)))
  · exact xa_plN (Or.inr hx) (br_t rfl (ya_plN (Or.inr hx) (br_t rfl ⟨rfl, J⟩)))
  · have cp : (nI p).toNatClampNeg = p := nI_clamp (by omega)
    have e1 : nI p + 1 = nI (p + 1) := nI_1 p
    have cp1 : (nI (p + 1)).toNatClampNeg = p + 1 := nI_clamp (by omega)
    have es := hs p hp
    rw [cp, e1, cp1, es]
    refine xa_pl hp (br_f (by decide) ⟨vp_in_nI (by omega) (by omega), br_c (fun z => ?_) (fun z => ?_)⟩)
    · exact ya_pl hp (br_f (by decide) ⟨vp_in_nI (by omega) (by omega), br_t z ⟨rfl, J⟩⟩)
    · refine xc_tab (q := 5) (by omega) (by omega) (by omega) hb (fun th' cx' hc => xc_rows (p := 5) (by omega) ?_)
      have hR : rt_R th' cx' 5 cn cy (p + 1) := rt_cg (ht.2 p hp) (fun s hs => hc.1 s hs) (fun s hs c hc' => hc.2.2.1 s hs c hc') rfl (fun _ _ => rfl)
      have hB : tb_A th' cx' cn cy := tb_keep ht (fun j hj => hc.2.1 j (by omega)) (fun j hj => hc.2.2.2 j (by omega)) (fun _ _ => rfl) (fun _ _ => rfl)
      have hb' := cp_bo hc hb
      obtain ⟨K, N, Z, L, TX', TY'⟩ := te_8 hT.2.1 ho
      have ya : ∀ {post : Int32 → SY → Prop}, wpY_settle post (yd, yu, yc, yf, cy, cn, sy, os, ny, sz, ln, py, ry, fy, my, nw) (nI (p + 1)) (nI (ra_k (vx_t th' 5) 101)) → (vp_in (nI (p + 1)) 6 ∧ wpY_settle post (yd, yu, yc, yf, cy, cn, sy, os, ny, sz, ln, py, ry, fy, my, nw) (nI (p + 1)) (cn (p + 1))) := by
        intro post hq
        rw [hR.1]
        exact ⟨vp_in_nI (by omega) (by omega), hq⟩
      refine xt_take hb' TX' (fun a b => ?_) (fun a b c op' => ?_) (fun a b op' th2 cx2 hc2 => ?_)
      · refine ya_pl hp (br_f (by decide) ⟨vp_in_nI (by omega) (by omega), br_f z (ya (yt_take (by omega) (by omega) hR TY' (fun _ _ => ⟨rfl, rfl, rfl, rfl, rfl, rfl, rfl, hb', hB, hs, ho, hT⟩) (fun a' => ?_) (fun a' => ?_)))⟩)
        · rcases a' with q | q
          · exact absurd q a
          · exact absurd q b
        · rcases a' with q | q
          · exact absurd q a
          · exact absurd q b
      · refine ya_pl hp (br_f (by decide) ⟨vp_in_nI (by omega) (by omega), br_f z (ya (yt_take (by omega) (by omega) hR TY' (fun a' b' => ?_) (fun _ _ _ yf' ry' fy' => ⟨rfl, rfl, rfl, rfl, rfl, rfl, rfl, hb', hB, hs, ho, hT⟩) (fun a' b' => ?_)))⟩)
        · rcases a with q | q
          · exact absurd q a'
          · exact absurd q b'
        · rcases b' with q | q
          · exact absurd q b
          · exact absurd q c
      · refine ya_pl hp (br_f (by decide) ⟨vp_in_nI (by omega) (by omega), br_f z (ya (yt_take (by omega) (by omega) hR TY' (fun a' b' => ?_) (fun _ a' b' => ?_) (fun _ _ yf' ry' fy' cy' cn' hl => ⟨rfl, rfl, rfl, rfl, rfl, rfl, rfl, cp_bo hc2 hb', tk_tb hB hR hc2 hl, hs, ho, hT⟩)))⟩)
        · rcases a with q | q
          · exact absurd q a'
          · exact absurd q b'
        · rcases b with q | q
          · exact absurd q a'
          · exact absurd q b'
end
end
section
/-! rows, counting, sorting: pure -/
section
abbrev ro_T : Type := Int32 × Int32 × Int32 × Int32
def cp_n (P : ro_T → Bool) (g : Nat → ro_T) : Nat → Nat
  | 0 => 0
  | n + 1 => cp_n P g n + if P (g n) = true then 1 else 0
theorem cp_1 {P : ro_T → Bool} {g : Nat → ro_T} {n : Nat} (h : P (g n) = true) : cp_n P g (n + 1) = cp_n P g n + 1 := by simp [cp_n, h]
theorem cp_0 {P : ro_T → Bool} {g : Nat → ro_T} {n : Nat} (h : ¬ P (g n) = true) : cp_n P g (n + 1) = cp_n P g n := by simp [cp_n, h]
theorem cp_cg {P : ro_T → Bool} {g g' : Nat → ro_T} : ∀ {n : Nat}, (∀ j, j < n → g j = g' j) → cp_n P g n = cp_n P g' n := by
  intro n
  induction n with
  | zero => intro _; rfl
  | succ n ih =>
    intro h
    have e := ih (fun j hj => h j (by omega))
    show cp_n P g n + _ = cp_n P g' n + _
    rw [e, h n (by omega)]
theorem cp_mono {P : ro_T → Bool} {g : Nat → ro_T} {a b : Nat} (h : a ≤ b) : cp_n P g a ≤ cp_n P g b := by
  induction b with
  | zero => have : a = 0 := by omega
            subst this; exact Nat.le_refl _
  | succ b ih =>
    by_cases e : a = b + 1
    · subst e; exact Nat.le_refl _
    · have := ih (by omega)
      by_cases h : P (g b) = true
      · rw [cp_1 h]; omega
      · rw [cp_0 h]; omega
theorem cp_ge {P : ro_T → Bool} {g : Nat → ro_T} {j n : Nat} (hj : j < n) (h : P (g j) = true) : 1 ≤ cp_n P g n := by
  have := cp_mono (P := P) (g := g) (a := j + 1) (b := n) hj
  rw [cp_1 h] at this
  omega
theorem cp_ge2 {P : ro_T → Bool} {g : Nat → ro_T} {i j n : Nat} (hij : i < j) (hj : j < n) (h : P (g i) = true) (h' : P (g j) = true) : 2 ≤ cp_n P g n := by
  have a := cp_ge (P := P) (g := g) hij h
  have := cp_mono (P := P) (g := g) (a := j + 1) (b := n) hj
  rw [cp_1 h'] at this
  omega
theorem cp_ex {P : ro_T → Bool} {g : Nat → ro_T} : ∀ {n : Nat}, 1 ≤ cp_n P g n → ∃ j, j < n ∧ P (g j) = true := by
  intro n
  induction n with
  | zero => intro h; exact absurd h (by simp [cp_n])
  | succ n ih =>
    intro h
    by_cases z : P (g n) = true
    · exact ⟨n, by omega, z⟩
    · rw [cp_0 z] at h
      obtain ⟨j, hj, e⟩ := ih h
      exact ⟨j, by omega, e⟩
theorem cp_ex2 {P : ro_T → Bool} {g : Nat → ro_T} : ∀ {n : Nat}, 2 ≤ cp_n P g n → ∃ i j, i < j ∧ j < n ∧ P (g i) = true ∧ P (g j) = true := by
  intro n
  induction n with
  | zero => intro h; exact absurd h (by simp [cp_n])
  | succ n ih =>
    intro h
    by_cases z : P (g n) = true
    · rw [cp_1 z] at h
      obtain ⟨i, hi, e⟩ := cp_ex (P := P) (g := g) (n := n) (by omega)
      exact ⟨i, n, hi, by omega, e, z⟩
    · rw [cp_0 z] at h
      obtain ⟨i, j, hi, hj, e, e'⟩ := ih h
      exact ⟨i, j, hi, by omega, e, e'⟩
/-- rows r and r + 1 exchanged -/
def sw_g (g : Nat → ro_T) (r : Nat) : Nat → ro_T := fun j => if j = r then g (r + 1) else if j = r + 1 then g r else g j
theorem sw_a {g : Nat → ro_T} {r : Nat} : sw_g g r r = g (r + 1) := if_pos rfl
theorem sw_b {g : Nat → ro_T} {r : Nat} : sw_g g r (r + 1) = g r := by simp [sw_g]
theorem sw_o {g : Nat → ro_T} {r j : Nat} (h : j ≠ r) (h' : j ≠ r + 1) : sw_g g r j = g j := by simp [sw_g, h, h']
theorem sw_cp {P : ro_T → Bool} {g : Nat → ro_T} {r : Nat} : ∀ d, cp_n P (sw_g g r) (r + 2 + d) = cp_n P g (r + 2 + d) := by
  intro d
  induction d with
  | zero =>
    have e : cp_n P (sw_g g r) r = cp_n P g r := cp_cg (fun j hj => sw_o (by omega) (by omega))
    show cp_n P (sw_g g r) r + (if P (sw_g g r r) = true then 1 else 0) + (if P (sw_g g r (r + 1)) = true then 1 else 0) = cp_n P g r + (if P (g r) = true then 1 else 0) + (if P (g (r + 1)) = true then 1 else 0)
    rw [e, sw_a, sw_b]
    omega
  | succ d ih =>
    show cp_n P (sw_g g r) (r + 2 + d) + (if P (sw_g g r (r + 2 + d)) = true then 1 else 0) = cp_n P g (r + 2 + d) + (if P (g (r + 2 + d)) = true then 1 else 0)
    rw [ih, sw_o (by omega) (by omega)]
def pm_E (g g' : Nat → ro_T) (m : Nat) : Prop := ∀ P : ro_T → Bool, cp_n P g' m = cp_n P g m
theorem pm_in {g g' : Nat → ro_T} {m : Nat} (h : pm_E g g' m) {j : Nat} (hj : j < m) : ∃ i, i < m ∧ g i = g' j := by
  have a := h (fun x => decide (x = g' j))
  have b : 1 ≤ cp_n (fun x => decide (x = g' j)) g' m := cp_ge hj (by simp)
  rw [a] at b
  obtain ⟨i, hi, e⟩ := cp_ex b
  exact ⟨i, hi, of_decide_eq_true e⟩
theorem pm_sy {g g' : Nat → ro_T} {m : Nat} (h : pm_E g g' m) : pm_E g' g m := fun P => (h P).symm
/-- keys in their range, and all different -/
def gd_K (g : Nat → ro_T) (m : Nat) : Prop := (∀ j, j < m → ∃ s, s < 101 ∧ (g j).1 = nI s - 50) ∧ (∀ a b, a < b → b < m → ¬ (g a).1 = (g b).1)
theorem gd_pm {g g' : Nat → ro_T} {m : Nat} (h : pm_E g g' m) (hg : gd_K g m) : gd_K g' m := by
  refine ⟨fun j hj => ?_, fun a b hab hb e => ?_⟩
  · obtain ⟨i, hi, e⟩ := pm_in h hj
    rw [← e]
    exact hg.1 i hi
  · have h2 : 2 ≤ cp_n (fun x => decide (x.1 = (g' b).1)) g' m := cp_ge2 hab hb (by simp [e]) (by simp)
    rw [h] at h2
    obtain ⟨i, j, hij, hj, e1, e2⟩ := cp_ex2 h2
    have e1' := of_decide_eq_true e1
    have e2' := of_decide_eq_true e2
    exact hg.2 i j hij hj (e1'.trans e2'.symm)
def so_R (g : Nat → ro_T) (m : Nat) : Prop := ∀ a b, a < b → b < m → (g a).1 ≤ (g b).1
/-- the table that holds a list's rows, when they are sorted -/
def xr_T (xr : Nat → Nat → Int32) (s : Nat) : ro_T := (xr s 0, xr s 1, xr s 2, xr s 3)
def nx_H (xt : Nat → Int32) (xr : Nat → Nat → Int32) (f : Nat → ro_T) (m : Nat) : Prop :=
  (∀ i, i < m → ∃ s, s < 101 ∧ ¬ xt s = 0 ∧ f i = xr_T xr s) ∧ (∀ s, s < 101 → ¬ xt s = 0 → xr s 0 = nI s - 50 ∧ ∃ i, i < m ∧ f i = xr_T xr s) ∧ (∀ a b, a < b → b < m → ¬ (f a).1 = (f b).1)
theorem nx_gd {xt : Nat → Int32} {xr : Nat → Nat → Int32} {f : Nat → ro_T} {m : Nat} (h : nx_H xt xr f m) : gd_K f m := by
  refine ⟨fun j hj => ?_, h.2.2⟩
  obtain ⟨s, hs, hz, e⟩ := h.1 j hj
  exact ⟨s, hs, by rw [e]; exact (h.2.1 s hs hz).1⟩
theorem nx_ta {xt : Nat → Int32} {xr : Nat → Nat → Int32} {f g : Nat → ro_T} {m : Nat} (hm : m ≤ 40) (h : nx_H xt xr f m) (hp : pm_E f g m) (hs : so_R g m) :
    ra_k xt 101 = m ∧ ∀ s, s < 101 → ¬ xt s = 0 → g (ra_k xt s) = xr_T xr s := by
  have hg := gd_pm hp (nx_gd h)
  have lt : ∀ a b, a < b → b < m → (g a).1.toInt < (g b).1.toInt := by
    intro a b hab hb
    have h1 := Int32.le_iff_toInt_le.mp (hs a b hab hb)
    have h2 : ¬ (g a).1.toInt = (g b).1.toInt := fun e => hg.2 a b hab hb (Int32.toInt_inj.mp e)
    omega
  have into : ∀ j, j < m → ∃ s, s < 101 ∧ ¬ xt s = 0 ∧ g j = xr_T xr s ∧ (g j).1.toInt = (s : Int) - 50 := by
    intro j hj
    obtain ⟨i, hi, e⟩ := pm_in hp hj
    obtain ⟨s, hs, hz, e2⟩ := h.1 i hi
    have e3 : g j = xr_T xr s := by rw [← e, e2]
    refine ⟨s, hs, hz, e3, ?_⟩
    rw [e3]
    show (xr s 0).toInt = _
    rw [(h.2.1 s hs hz).1, ab_key hs]
  have onto : ∀ s, s < 101 → ¬ xt s = 0 → ∃ j, j < m ∧ g j = xr_T xr s ∧ (g j).1.toInt = (s : Int) - 50 := by
    intro s hs' hz
    obtain ⟨k0, i, hi, e⟩ := h.2.1 s hs' hz
    obtain ⟨j, hj, e2⟩ := pm_in (pm_sy hp) hi
    have e3 : g j = xr_T xr s := by rw [e2, e]
    refine ⟨j, hj, e3, ?_⟩
    rw [e3]
    show (xr s 0).toInt = _
    rw [k0, ab_key hs']
  have hatS : ∀ s, s < 101 → ra_k xt s ≤ m → (∀ j, ra_k xt s ≤ j → j < m → (s : Int) - 50 ≤ (g j).1.toInt) → (∀ j, j < ra_k xt s → (g j).1.toInt < (s : Int) - 50) → ¬ xt s = 0 → ra_k xt s < m ∧ g (ra_k xt s) = xr_T xr s ∧ (g (ra_k xt s)).1.toInt = (s : Int) - 50 := by
    intro s hs' hle hup hlo hz
    obtain ⟨j, hj, e, ek⟩ := onto s hs' hz
    have hj2 : ra_k xt s ≤ j := by
      apply Classical.byContradiction
      intro q
      have := hlo j (by omega)
      omega
    have : j = ra_k xt s := by
      apply Classical.byContradiction
      intro q
      have a := lt (ra_k xt s) j (by omega) hj
      have b := hup (ra_k xt s) (Nat.le_refl _) (by omega)
      omega
    rw [← this]
    exact ⟨hj, e, ek⟩
  have all : ∀ s, s ≤ 101 → ra_k xt s ≤ m ∧ (∀ j, ra_k xt s ≤ j → j < m → (s : Int) - 50 ≤ (g j).1.toInt) ∧ (∀ j, j < ra_k xt s → (g j).1.toInt < (s : Int) - 50) := by
    intro s
    induction s with
    | zero =>
      intro _
      refine ⟨Nat.zero_le _, fun j _ hj => ?_, fun j hj => absurd hj (Nat.not_lt_zero _)⟩
      obtain ⟨s, _, _, _, e⟩ := into j hj
      omega
    | succ s ih =>
      intro hs'
      obtain ⟨i1, i2, i3⟩ := ih (by omega)
      by_cases z : xt s = 0
      · rw [ra_s0 z]
        refine ⟨i1, fun j hj hj' => ?_, fun j hj => ?_⟩
        · have a := i2 j hj hj'
          obtain ⟨s2, h2, z2, _, e2⟩ := into j hj'
          have : s2 ≠ s := fun q => z2 (by rw [q]; exact z)
          omega
        · have := i3 j hj; omega
      · rw [ra_s1 z]
        obtain ⟨b1, b2, b3⟩ := hatS s (by omega) i1 i2 i3 z
        refine ⟨b1, fun j hj hj' => ?_, fun j hj => ?_⟩
        · have := lt (ra_k xt s) j (by omega) hj'
          omega
        · by_cases q : j = ra_k xt s
          · subst q; omega
          · have := i3 j (by omega); omega
  constructor
  · obtain ⟨i1, i2, i3⟩ := all 101 (by omega)
    apply Classical.byContradiction
    intro q
    have a := i2 (ra_k xt 101) (Nat.le_refl _) (by omega)
    obtain ⟨s, h2, _, _, e⟩ := into (ra_k xt 101) (by omega)
    omega
  · intro s hs' hz
    obtain ⟨i1, i2, i3⟩ := all s (by omega)
    exact (hatS s hs' i1 i2 i3 hz).2.1
end
end
section
/-! Y's exchange and order -/
section
variable {xs xu xc : Int32} {th cx sx kd nm ct : Nat → Int32} {op : Nat → Int64} {pa mx rx : Nat → Int32} {yd yu yc yf : Int32} {cy cn sy os ny sz ln py ry fy my nw : Nat → Int32}
def or_r (cy : Nat → Int32) : Nat → ro_T := fun j => (cy (800 + 4 * j), cy (800 + 4 * j + 1), cy (800 + 4 * j + 2), cy (800 + 4 * j + 3))
theorem yx_l {post : SY → Prop} {r : Nat} (hr : r + 1 < 40)
    (h : ∀ cy', (∀ j, j < 800 → cy' j = cy j) → (∀ j, or_r cy' j = sw_g (or_r cy) r j) → post (yd, yu, yc, yf, cy', cn, sy, os, ny, sz, ln, py, ry, fy, my, nw)) :
    ∀ d i n cy1, i + d = 4 → d < n → (∀ c, c < i → cy1 (804 + 4 * r + c) = cy (800 + 4 * r + c)) → (∀ c, c < i → cy1 (800 + 4 * r + c) = cy (804 + 4 * r + c)) →
      (∀ j, (j < 804 + 4 * r ∨ 804 + 4 * r + i ≤ j) → (j < 800 + 4 * r ∨ 800 + 4 * r + i ≤ j) → cy1 j = cy j) → wY_exchange_2 post (nI (804 + 4 * r)) yd yu yc yf n (nI (804 + 4 * r + i)) cy1 cn sy os ny sz ln py ry fy my nw := by
  intro d
  induction d with
  | zero =>
    intro i n cy1 hi hn h1 h2 h3
    obtain ⟨n, rfl⟩ : ∃ m, n = m + 1 := ⟨n - 1, by omega⟩
    obtain rfl : i = 4 := by omega
    refine br_t (by rw [show nI (804 + 4 * r) + 4 = nI (804 + 4 * r + 4) from nI_add _ 4]; exact Int32.le_refl _) (h cy1 (fun j hj => h3 j (by omega) (by omega)) (fun j => ?_))
    by_cases e : j = r
    · subst e
      rw [sw_a]
      have a0 := h2 0 (by omega)
      have a1 := h2 1 (by omega)
      have a2 := h2 2 (by omega)
      have a3 := h2 3 (by omega)
      show (cy1 (800 + 4 * j), cy1 (800 + 4 * j + 1), cy1 (800 + 4 * j + 2), cy1 (800 + 4 * j + 3)) = (cy (800 + 4 * (j + 1)), cy (800 + 4 * (j + 1) + 1), cy (800 + 4 * (j + 1) + 2), cy (800 + 4 * (j + 1) + 3))
      rw [show 800 + 4 * (j + 1) = 804 + 4 * j from by omega, a1, a2, a3]
      exact congrArg (fun x => (x, _)) a0
    · by_cases e2 : j = r + 1
      · subst e2
        rw [sw_b]
        have a0 := h1 0 (by omega)
        have a1 := h1 1 (by omega)
        have a2 := h1 2 (by omega)
        have a3 := h1 3 (by omega)
        show (cy1 (800 + 4 * (r + 1)), cy1 (800 + 4 * (r + 1) + 1), cy1 (800 + 4 * (r + 1) + 2), cy1 (800 + 4 * (r + 1) + 3)) = (cy (800 + 4 * r), cy (800 + 4 * r + 1), cy (800 + 4 * r + 2), cy (800 + 4 * r + 3))
        rw [show 800 + 4 * (r + 1) = 804 + 4 * r from by omega, a1, a2, a3]
        exact congrArg (fun x => (x, _)) a0
      · rw [sw_o e e2]
        show (cy1 (800 + 4 * j), cy1 (800 + 4 * j + 1), cy1 (800 + 4 * j + 2), cy1 (800 + 4 * j + 3)) = (cy (800 + 4 * j), cy (800 + 4 * j + 1), cy (800 + 4 * j + 2), cy (800 + 4 * j + 3))
        rw [h3 (800 + 4 * j) (by omega) (by omega), h3 (800 + 4 * j + 1) (by omega) (by omega), h3 (800 + 4 * j + 2) (by omega) (by omega), h3 (800 + 4 * j + 3) (by omega) (by omega)]
  | succ d ih =>
    intro i n cy1 hi hn h1 h2 h3
    obtain ⟨n, rfl⟩ : ∃ m, n = m + 1 := ⟨n - 1, by omega⟩
    have ci : (nI (804 + 4 * r + i)).toNatClampNeg = 804 + 4 * r + i := nI_clamp (by omega)
    have e4 : nI (804 + 4 * r + i) - 4 = nI (800 + 4 * r + i) := by
      rw [show (4 : Int32) = nI 4 from rfl, pk_sub (by omega)]
      exact congrArg nI (by omega)
    have c4 : (nI (800 + 4 * r + i)).toNatClampNeg = 800 + 4 * r + i := nI_clamp (by omega)
    have vi : vp_in (nI (804 + 4 * r + i)) 960 := vp_in_nI (by omega) (by omega)
    have v4 : vp_in (nI (804 + 4 * r + i) - 4) 960 := by rw [e4]; exact vp_in_nI (by omega) (by omega)
    refine br_f (by rw [show nI (804 + 4 * r) + 4 = nI (804 + 4 * r + 4) from nI_add _ 4]; exact nI_ge (by omega) (by omega)) ⟨vi, nm_r (e' := cy1 (804 + 4 * r + i)) (by rw [ci]) ⟨v4, vi, nm_r (e' := upd cy1 (804 + 4 * r + i) (cy1 (800 + 4 * r + i))) (by rw [ci, e4, c4]) ⟨v4, nm_r (e' := upd (upd cy1 (804 + 4 * r + i) (cy1 (800 + 4 * r + i))) (800 + 4 * r + i) (cy1 (804 + 4 * r + i))) (by rw [e4, c4]) (nm_r (nI_1 _) ?_)⟩⟩⟩
    refine ih (i + 1) n _ (by omega) (by omega) (fun c hc => ?_) (fun c hc => ?_) (fun j hj hj' => ?_)
    · rw [pk_un (by omega)]
      by_cases e : c = i
      · subst e; rw [pk_us]; exact h3 _ (by omega) (by omega)
      · rw [pk_un (by omega)]; exact h1 c (by omega)
    · by_cases e : c = i
      · subst e; rw [pk_us]; exact h3 _ (by omega) (by omega)
      · rw [pk_un (by omega), pk_un (by omega)]; exact h2 c (by omega)
    · rw [pk_un (by omega), pk_un (by omega)]; exact h3 j (by omega) (by omega)
theorem yx_ex {post : SY → Prop} {r : Nat} (hr : r + 1 < 40)
    (h : ∀ cy', (∀ j, j < 800 → cy' j = cy j) → (∀ j, or_r cy' j = sw_g (or_r cy) r j) → post (yd, yu, yc, yf, cy', cn, sy, os, ny, sz, ln, py, ry, fy, my, nw)) : wpY_exchange post (yd, yu, yc, yf, cy, cn, sy, os, ny, sz, ln, py, ry, fy, my, nw) (nI (804 + 4 * r)) :=
  ⟨5, yx_l hr h 4 0 5 cy (by omega) (by omega) (fun c hc => absurd hc (by omega)) (fun c hc => absurd hc (by omega)) (fun _ _ _ => rfl)⟩
/-- the row that moves down -/
def in_I (g : Nat → ro_T) (i r : Nat) : Prop := (∀ a b, a < b → b ≤ i → a ≠ r → b ≠ r → (g a).1 ≤ (g b).1) ∧ (∀ b, r < b → b ≤ i → (g r).1 ≤ (g b).1)
theorem in_0 {g : Nat → ro_T} {i : Nat} (h : in_I g i 0) : so_R g (i + 1) := by
  intro a b hab hb
  by_cases e : a = 0
  · subst e; exact h.2 b hab (by omega)
  · exact h.1 a b hab (by omega) e (by omega)
theorem in_x {g : Nat → ro_T} {i r : Nat} (hr : r + 1 ≤ i) (h : in_I g i (r + 1)) (hk : (g r).1 ≤ (g (r + 1)).1) : so_R g (i + 1) := by
  intro a b hab hb
  by_cases e : a = r + 1
  · subst e; exact h.2 b hab (by omega)
  · by_cases e2 : b = r + 1
    · subst e2
      by_cases e3 : a = r
      · subst e3; exact hk
      · exact Int32.le_trans (h.1 a r (by omega) (by omega) e (by omega)) hk
    · exact h.1 a b hab (by omega) e e2
theorem in_s {g g' : Nat → ro_T} {i r : Nat} (hr : r + 1 ≤ i) (h : in_I g i (r + 1)) (hk : ¬ (g r).1 ≤ (g (r + 1)).1) (hg : ∀ j, g' j = sw_g g r j) : in_I g' i r := by
  have hlt : (g (r + 1)).1 ≤ (g r).1 := Int32.le_of_lt (Int32.not_le.mp hk)
  refine ⟨fun a b hab hb ha hb' => ?_, fun b hb hbi => ?_⟩
  · rw [hg a, hg b]
    by_cases e : a = r + 1
    · subst e
      rw [sw_b, sw_o hb' (by omega)]
      exact h.1 r b (by omega) hb (by omega) (by omega)
    · rw [sw_o ha e]
      by_cases e2 : b = r + 1
      · subst e2
        rw [sw_b]
        exact h.1 a r (by omega) (by omega) e (by omega)
      · rw [sw_o hb' e2]
        exact h.1 a b hab hb e e2
  · rw [hg r, hg b, sw_a]
    by_cases e : b = r + 1
    · subst e; rw [sw_b]; exact hlt
    · rw [sw_o (by omega) e]; exact h.2 b (by omega) hbi
theorem yo_in {post : Int32 → SY → Prop} {J : Int32 → Int32 → Int32 → Int32 → Int32 → (Nat → Int32) → (Nat → Int32) → (Nat → Int32) → (Nat → Int32) → (Nat → Int32) → (Nat → Int32) → (Nat → Int32) → (Nat → Int32) → (Nat → Int32) → (Nat → Int32) → (Nat → Int32) → (Nat → Int32) → Prop} {i m : Nat} (hi : i < m) (hm : m ≤ 40)
    (hJ : ∀ cy', (∀ j, j < 800 → cy' j = cy j) → pm_E (or_r cy) (or_r cy') m → so_R (or_r cy') (i + 1) → J (nI (i + 1)) yd yu yc yf cy' cn sy os ny sz ln py ry fy my nw) :
    ∀ r n cy1, r ≤ i → r < n → (∀ j, j < 800 → cy1 j = cy j) → pm_E (or_r cy) (or_r cy1) m → in_I (or_r cy1) i r → wY_order_14 post J (nI i) n (nI r) yd yu yc yf cy1 cn sy os ny sz ln py ry fy my nw := by
  intro r
  induction r with
  | zero =>
    intro n cy1 hri hn h1 h2 h3
    obtain ⟨n, rfl⟩ : ∃ m, n = m + 1 := ⟨n - 1, by omega⟩
    exact br_t (by decide) (nm_r (nI_1 i) (hJ cy1 h1 h2 (in_0 h3)))
  | succ r ih =>
    intro n cy1 hri hn h1 h2 h3
    obtain ⟨n, rfl⟩ : ∃ m, n = m + 1 := ⟨n - 1, by omega⟩
    refine br_f (nI_nle (by omega) (by omega)) (yc_cell (t := 5) (c := 0) (by omega) (by omega) (by omega) ?_)
    rw [nI_pred]
    refine yc_cell (t := 5) (c := 0) (by omega) (by omega) (by omega) ?_
    have k1 : cy1 (160 * 5 + 4 * (r + 1) + 0) = (or_r cy1 (r + 1)).1 := rfl
    have k0 : cy1 (160 * 5 + 4 * r + 0) = (or_r cy1 r).1 := rfl
    rw [k1, k0]
    refine br_c (fun q => nm_r (nI_1 i) (hJ cy1 h1 h2 (in_x hri h3 q))) (fun q => ?_)
    have e8 : 800 + 4 * nI (r + 1) = nI (804 + 4 * r) := by
      show nI 800 + nI 4 * nI (r + 1) = _
      rw [pk_mul, nI_add]
      exact congrArg nI (by omega)
    rw [e8]
    refine yx_ex (by omega) (fun cy2 a1 a2 => nm_r (pk_m1 r) (ih n cy2 (by omega) (by omega) (fun j hj => by rw [a1 j hj, h1 j hj]) (fun P => ?_) (in_s hri h3 q a2)))
    rw [← h2 P]
    have e1 : cp_n P (or_r cy2) m = cp_n P (sw_g (or_r cy1) r) m := cp_cg (fun j _ => a2 j)
    rw [e1]
    have := sw_cp (P := P) (g := or_r cy1) (r := r) (m - (r + 2))
    rw [show r + 2 + (m - (r + 2)) = m from by omega] at this
    exact this
theorem yo_ck {post : Int32 → SY → Prop} {m : Nat} (hm : m ≤ 40) (hc : cn 5 = nI m) (hso : so_R (or_r cy) m) (h1 : gd_K (or_r cy) m → post 1 (yd, yu, yc, yf, cy, cn, sy, os, ny, sz, ln, py, ry, fy, my, nw)) (h0 : ¬ gd_K (or_r cy) m → post 0 (yd, yu, yc, yf, cy, cn, sy, os, ny, sz, ln, py, ry, fy, my, nw)) :
    ∀ d i n, i + d = m → d < n → (∀ j, j < i → ∃ s, s < 101 ∧ (or_r cy j).1 = nI s - 50) → (∀ a b, a < b → b < i → ¬ (or_r cy a).1 = (or_r cy b).1) → wY_order_62 post yd yu yc yf cy cn sy os ny sz ln py ry fy my nw n (nI i) := by
  intro d
  induction d with
  | zero =>
    intro i n hi hn a1 a2
    obtain ⟨n, rfl⟩ : ∃ m, n = m + 1 := ⟨n - 1, by omega⟩
    obtain rfl : i = m := by omega
    exact br_t (by rw [hc]; exact Int32.le_refl _) (h1 ⟨a1, a2⟩)
  | succ d ih =>
    intro i n hi hn a1 a2
    obtain ⟨n, rfl⟩ : ∃ m, n = m + 1 := ⟨n - 1, by omega⟩
    refine br_f (by rw [hc]; exact nI_ge (by omega) (by omega)) (yc_cell (t := 5) (c := 0) (by omega) (by omega) (by omega) ?_)
    have k1 : cy (160 * 5 + 4 * i + 0) = (or_r cy i).1 := rfl
    rw [k1]
    rcases ab_slot (or_r cy i).1 with hx | hx | ⟨s, hs, es⟩
    · refine br_t hx (h0 (fun w => ?_))
      obtain ⟨s, hs, e⟩ := w.1 i (by omega)
      rw [e] at hx
      exact ab_k1 hs hx
    · have n1 : ¬ (or_r cy i).1 < -50 := by
        have := Int32.lt_iff_toInt_lt.mp hx
        rw [show (50 : Int32).toInt = 50 from by decide] at this
        intro q
        have q' := Int32.lt_iff_toInt_lt.mp q
        rw [show (-50 : Int32).toInt = -50 from by decide] at q'
        omega
      refine br_f n1 (br_t hx (h0 (fun w => ?_)))
      obtain ⟨s, hs, e⟩ := w.1 i (by omega)
      rw [e] at hx
      exact ab_k2 hs hx
    · have n1 : ¬ (or_r cy i).1 < -50 := by rw [es]; exact ab_k1 hs
      have n2 : ¬ 50 < (or_r cy i).1 := by rw [es]; exact ab_k2 hs
      refine br_f n1 (br_f n2 ?_)
      have b1 : ∀ j, j < i + 1 → ∃ s, s < 101 ∧ (or_r cy j).1 = nI s - 50 := by
        intro j hj
        by_cases e : j = i
        · subst e; exact ⟨s, hs, es⟩
        · exact a1 j (by omega)
      match i, hi, a1, a2, b1, k1, n1, n2, es with
      | 0, hi, a1, a2, b1, _, _, _, _ =>
        exact br_t (by decide) (nm_r (nI_1 0) (ih 1 n (by omega) (by omega) b1 (fun a b hab hb => absurd hab (by omega))))
      | i + 1, hi, a1, a2, b1, _, _, _, _ =>
        refine br_f (nI_nle (by omega) (by omega)) ?_
        rw [nI_pred]
        refine yc_cell (t := 5) (c := 0) (by omega) (by omega) (by omega) ?_
        have k0 : cy (160 * 5 + 4 * i + 0) = (or_r cy i).1 := rfl
        rw [k0]
        refine br_c (fun q => h0 (fun w => w.2 i (i + 1) (by omega) (by omega) q.symm)) (fun q => nm_r (nI_1 (i + 1)) (ih (i + 2) n (by omega) (by omega) b1 (fun a b hab hb e => ?_)))
        by_cases eb : b = i + 1
        · subst eb
          by_cases ea : a = i
          · subst ea; exact q e.symm
          · have s1 := Int32.le_iff_toInt_le.mp (hso a i (by omega) (by omega))
            have s2 := Int32.le_iff_toInt_le.mp (hso i (i + 1) (by omega) (by omega))
            have s3 := congrArg Int32.toInt e
            exact q (Int32.toInt_inj.mp (by omega))
        · exact a2 a b hab (by omega) e
theorem yo_l {post : Int32 → SY → Prop} {m : Nat} (hm : m ≤ 40) (hc : cn 5 = nI m)
    (h1 : gd_K (or_r cy) m → ∀ cy', (∀ j, j < 800 → cy' j = cy j) → pm_E (or_r cy) (or_r cy') m → so_R (or_r cy') m → post 1 (yd, yu, yc, yf, cy', cn, sy, os, ny, sz, ln, py, ry, fy, my, nw))
    (h0 : ¬ gd_K (or_r cy) m → ∀ cy', (∀ j, j < 800 → cy' j = cy j) → post 0 (yd, yu, yc, yf, cy', cn, sy, os, ny, sz, ln, py, ry, fy, my, nw)) :
    ∀ d i n cy1, 1 ≤ i → (i + d = m ∨ (d = 0 ∧ m ≤ i ∧ i ≤ 1)) → d < n → (∀ j, j < 800 → cy1 j = cy j) → pm_E (or_r cy) (or_r cy1) m → so_R (or_r cy1) i → wY_order_2 post n (nI i) yd yu yc yf cy1 cn sy os ny sz ln py ry fy my nw := by
  intro d
  induction d with
  | zero =>
    intro i n cy1 hi1 hi hn a1 a2 a3
    obtain ⟨n, rfl⟩ : ∃ m, n = m + 1 := ⟨n - 1, by omega⟩
    have hso : so_R (or_r cy1) m := fun a b hab hb => a3 a b hab (by omega)
    refine br_t (by rw [hc]; exact nI_le (by omega) (by omega)) ⟨m + 1, ?_⟩
    exact yo_ck hm hc hso (fun g => h1 (gd_pm (pm_sy a2) g) cy1 a1 a2 hso) (fun g => h0 (fun w => g (gd_pm a2 w)) cy1 a1) m 0 (m + 1) (by omega) (by omega) (fun j hj => absurd hj (by omega)) (fun a b hab hb => absurd hb (by omega))
  | succ d ih =>
    intro i n cy1 hi1 hi hn a1 a2 a3
    obtain ⟨n, rfl⟩ : ∃ m, n = m + 1 := ⟨n - 1, by omega⟩
    have him : i < m := by omega
    refine br_f (by rw [hc]; exact nI_ge (by omega) (by omega)) ⟨i + 1, yo_in him hm (fun cy' b1 b2 b3 => ih (i + 1) n cy' (by omega) (by omega) (by omega) (fun j hj => by rw [b1 j hj, a1 j hj]) (fun P => by rw [b2 P, a2 P]) b3) i (i + 1) cy1 (Nat.le_refl _) (by omega) (fun _ _ => rfl) (fun P => rfl) ⟨fun a b hab hb ha hb' => a3 a b hab (by omega), fun b hb hbi => absurd hb (by omega)⟩⟩
theorem yo_order {post : Int32 → SY → Prop} {m : Nat} (hm : m ≤ 40) (hc : cn 5 = nI m)
    (h1 : gd_K (or_r cy) m → ∀ cy', (∀ j, j < 800 → cy' j = cy j) → pm_E (or_r cy) (or_r cy') m → so_R (or_r cy') m → post 1 (yd, yu, yc, yf, cy', cn, sy, os, ny, sz, ln, py, ry, fy, my, nw))
    (h0 : ¬ gd_K (or_r cy) m → ∀ cy', (∀ j, j < 800 → cy' j = cy j) → post 0 (yd, yu, yc, yf, cy', cn, sy, os, ny, sz, ln, py, ry, fy, my, nw)) : wpY_order post (yd, yu, yc, yf, cy, cn, sy, os, ny, sz, ln, py, ry, fy, my, nw) :=
  ⟨m + 1, yo_l hm hc h1 h0 (m - 1) 1 (m + 1) cy (by omega) (by omega) (by omega) (fun _ _ => rfl) (fun _ => rfl) (fun a b hab hb => absurd hb (by omega))⟩
theorem or_v {cy : Nat → Int32} {j : Nat} : or_r cy j = (vy_r cy 5 j 0, vy_r cy 5 j 1, vy_r cy 5 j 2, vy_r cy 5 j 3) := rfl
/-- NEXT holds the list's rows, and Y has sorted them: the tables are alike -/
theorem nx_rt {f : Nat → ro_T} {m : Nat} {cy' : Nat → Int32} (hm : m ≤ 40) (hc : cn 5 = nI m) (h : nx_H (vx_t th 5) (vx_r cx 5) f m) (hp : pm_E f (or_r cy') m) (hs : so_R (or_r cy') m) : rt_R th cx 5 cn cy' 5 := by
  obtain ⟨a, b⟩ := nx_ta hm h hp hs
  refine ⟨by rw [a]; exact hc, by rw [a]; exact hm, fun s hs' hz => ⟨(h.2.1 s hs' hz).1, fun c hc' => ?_⟩⟩
  have e := b s hs' hz
  rw [or_v] at e
  have e0 := congrArg (fun x : ro_T => x.1) e
  have e1 := congrArg (fun x : ro_T => x.2.1) e
  have e2 := congrArg (fun x : ro_T => x.2.2.1) e
  have e3 := congrArg (fun x : ro_T => x.2.2.2) e
  rcases (by omega : c = 0 ∨ c = 1 ∨ c = 2 ∨ c = 3) with rfl | rfl | rfl | rfl
  · exact e0
  · exact e1
  · exact e2
  · exact e3
end
end
section
/-! X's NEXT, row by row -/
section
variable {xs xu xc : Int32} {th cx sx kd nm ct : Nat → Int32} {op : Nat → Int64} {pa mx rx : Nat → Int32} {yd yu yc yf : Int32} {cy cn sy os ny sz ln py ry fy my nw : Nat → Int32}
theorem nx_s {xt xt' : Nat → Int32} {xr xr' : Nat → Nat → Int32} {f : Nat → ro_T} {j s0 : Nat} (h : nx_H xt xr f j) (hs : s0 < 101) (hz : xt s0 = 0) (hk : (f j).1 = nI s0 - 50)
    (ht : ∀ s, s < 101 → s ≠ s0 → xt' s = xt s) (ht0 : ¬ xt' s0 = 0) (hr : ∀ s, s < 101 → s ≠ s0 → ∀ c, c < 4 → xr' s c = xr s c) (hr0 : xr_T xr' s0 = f j) : nx_H xt' xr' f (j + 1) := by
  have same : ∀ s, s < 101 → s ≠ s0 → xr_T xr' s = xr_T xr s := by
    intro s a b
    unfold xr_T
    rw [hr s a b 0 (by omega), hr s a b 1 (by omega), hr s a b 2 (by omega), hr s a b 3 (by omega)]
  refine ⟨fun i hi => ?_, fun s hs' hz' => ?_, fun a b hab hb e => ?_⟩
  · by_cases e : i = j
    · subst e; exact ⟨s0, hs, ht0, hr0.symm⟩
    · obtain ⟨s, a, b, c⟩ := h.1 i (by omega)
      have ns : s ≠ s0 := fun q => b (by rw [q]; exact hz)
      exact ⟨s, a, by rw [ht s a ns]; exact b, by rw [same s a ns]; exact c⟩
  · by_cases e : s = s0
    · subst e
      refine ⟨?_, j, by omega, hr0.symm⟩
      have := congrArg (fun x : ro_T => x.1) hr0
      rw [← hk]; exact this
    · rw [ht s hs' e] at hz'
      obtain ⟨a, i, b, c⟩ := h.2.1 s hs' hz'
      refine ⟨by rw [hr s hs' e 0 (by omega)]; exact a, i, by omega, by rw [same s hs' e]; exact c⟩
  · by_cases eb : b = j
    · subst eb
      obtain ⟨s, a1, b1, c1⟩ := h.1 a hab
      have k1 : (f a).1 = nI s - 50 := by rw [c1]; exact (h.2.1 s a1 b1).1
      have : s = s0 := ab_keyI a1 hs (by rw [← k1, e, hk])
      exact b1 (by rw [this]; exact hz)
    · exact h.2.2 a b hab (by omega) e
theorem nx_f1 {xt : Nat → Int32} {xr : Nat → Nat → Int32} {f : Nat → ro_T} {j m s0 : Nat} (h : nx_H xt xr f j) (hj : j < m) (hs : s0 < 101) (hz : ¬ xt s0 = 0) (hk : (f j).1 = nI s0 - 50) : ¬ gd_K f m := by
  intro g
  obtain ⟨a, i, b, c⟩ := h.2.1 s0 hs hz
  refine g.2 i j b hj ?_
  rw [c, hk]
  exact a
theorem nx_f2 {f : Nat → ro_T} {j m : Nat} (hj : j < m) (hk : (f j).1 < -50 ∨ 50 < (f j).1) : ¬ gd_K f m := by
  intro g
  obtain ⟨s, hs, e⟩ := g.1 j hj
  rw [e] at hk
  rcases hk with q | q
  · exact ab_k1 hs q
  · exact ab_k2 hs q
theorem ra_fun {α : Type} (t : Nat → Int32) (F : Nat → α) (d : α) : ∀ n, ∃ f : Nat → α, ∀ s, s < n → ¬ t s = 0 → f (ra_k t s) = F s := by
  intro n
  induction n with
  | zero => exact ⟨fun _ => d, fun s hs => absurd hs (by omega)⟩
  | succ n ih =>
    obtain ⟨f, hf⟩ := ih
    by_cases z : t n = 0
    · refine ⟨f, fun s hs hz => ?_⟩
      by_cases e : s = n
      · subst e; exact absurd z hz
      · exact hf s (by omega) hz
    · refine ⟨fun r => if r = ra_k t n then F n else f r, fun s hs hz => ?_⟩
      by_cases e : s = n
      · subst e; simp
      · have : ra_k t s ≠ ra_k t n := fun q => e (ra_inj hz z q)
        simp only [if_neg this]
        exact hf s (by omega) hz
theorem nx_base {xt xt' : Nat → Int32} {xr xr' : Nat → Nat → Int32} {f : Nat → ro_T} (hk : ∀ s, s < 101 → ¬ xt s = 0 → xr s 0 = nI s - 50) (ht : ∀ s, s < 101 → xt' s = xt s) (hr : ∀ s, s < 101 → ∀ c, c < 4 → xr' s c = xr s c)
    (hf : ∀ s, s < 101 → ¬ xt s = 0 → f (ra_k xt s) = xr_T xr s) : nx_H xt' xr' f (ra_k xt 101) := by
  have same : ∀ s, s < 101 → xr_T xr' s = xr_T xr s := by
    intro s a
    unfold xr_T
    rw [hr s a 0 (by omega), hr s a 1 (by omega), hr s a 2 (by omega), hr s a 3 (by omega)]
  refine ⟨fun i hi => ?_, fun s hs' hz' => ?_, fun a b hab hb e => ?_⟩
  · obtain ⟨s, hs, hz, rfl⟩ := ra_inv hi
    exact ⟨s, hs, by rw [ht s hs]; exact hz, by rw [same s hs]; exact hf s hs hz⟩
  · rw [ht s hs'] at hz'
    exact ⟨by rw [hr s hs' 0 (by omega)]; exact hk s hs' hz', ra_k xt s, ra_lt hs' hz', by rw [same s hs']; exact hf s hs' hz'⟩
  · obtain ⟨s, hs, hz, ea⟩ := ra_inv (t := xt) (r := a) (n := 101) (by omega)
    obtain ⟨s', hs', hz', eb⟩ := ra_inv hb
    rw [← ea, ← eb, hf s hs hz, hf s' hs' hz'] at e
    have e' : xr s 0 = xr s' 0 := e
    rw [hk s hs hz, hk s' hs' hz'] at e'
    have := ab_keyI hs hs' e'
    subst this
    omega
theorem nx_0 {xt : Nat → Int32} {xr : Nat → Nat → Int32} {f : Nat → ro_T} (h : ∀ s, s < 101 → xt s = 0) : nx_H xt xr f 0 :=
  ⟨fun i hi => absurd hi (by omega), fun s hs hz => absurd (h s hs) hz, fun a b _ hb => absurd hb (by omega)⟩
theorem xa_slot {post : Int32 → Prop} {p s : Nat} (h : post (nI (p * 101 + s))) : wpX_slotOf post (nI p) (nI s - 50) := by
  unfold wpX_slotOf
  rw [ab_so]
  exact h
/-- placeInNext -/
theorem xp_nx {post : Int32 → SX → Prop} {s j m : Nat} {f : Nat → ro_T} {k : Int32} (hs : s < 101) (hb : bo_A th) (hz : ¬ vx_t th 4 s = 0) (hj : j < m) (H : nx_H (vx_t th 5) (vx_r cx 5) f j) (hk : (f j).1 = k)
    (h0 : ¬ gd_K f m → post 0 (xs, xu, xc, th, cx, sx, kd, nm, ct, op, pa, mx, rx))
    (h1 : ∀ s0 cx', s0 < 101 → k = nI s0 - 50 → vx_t th 5 s0 = 0 → vx_r cx' 5 s0 0 = k → (∀ c, 1 ≤ c → c < 4 → vx_r cx' 5 s0 c = vx_r cx 4 s c) → (∀ j, j < (5 * 101 + s0) * 4 ∨ (5 * 101 + s0) * 4 + 4 ≤ j → cx' j = cx j) → post 1 (xs, xu, xc, (upd th (5 * 101 + s0) 1), cx', sx, kd, nm, ct, op, pa, mx, rx)) :
    wpX_placeInNext post (xs, xu, xc, th, cx, sx, kd, nm, ct, op, pa, mx, rx) (nI s) k := by
  unfold wpX_placeInNext
  dsimp only
  rcases ab_slot k with hx | hx | ⟨s0, hs0, rfl⟩
  · exact xa_freeN (Or.inl hx) (br_t rfl (h0 (nx_f2 hj (by rw [hk]; exact Or.inl hx))))
  · exact xa_freeN (Or.inr hx) (br_t rfl (h0 (nx_f2 hj (by rw [hk]; exact Or.inr hx))))
  · refine xa_free (p := 5) (by omega) hs0 (fun z => br_f (by decide) ?_) (fun z => br_t rfl (h0 (nx_f1 H hj hs0 z hk)))
    refine xa_slot (p := 5) ?_
    rw [show 404 + nI s = nI (4 * 101 + s) from nI_add 404 s]
    have e1 : th (4 * 101 + s) = 1 := (hb (4 * 101 + s)).resolve_left hz
    refine xc_slot (by omega) (by omega) (hb _) (fun cx' k1 k2 => ?_)
    rw [e1]
    have em : nI (5 * 101 + s0) * 4 = nI ((5 * 101 + s0) * 4) := pk_mul _ 4
    refine ⟨pk_in ((5 * 101 + s0) * 4) 2424 (by omega) em, nm_r (e' := upd cx' ((5 * 101 + s0) * 4) (nI s0 - 50)) ?_ (h1 s0 _ hs0 rfl z ?_ (fun c c1 c4 => ?_) (fun j hj => ?_))⟩
    · dsimp only
      rw [em, nI_clamp (by omega)]
    · exact pk_us
    · show upd cx' ((5 * 101 + s0) * 4) (nI s0 - 50) ((5 * 101 + s0) * 4 + c) = _
      rw [pk_un (by omega)]; exact k1 c c4
    · rw [pk_un (by omega)]; exact k2 j hj
theorem xr_e {xr : Nat → Nat → Int32} {s : Nat} {r : ro_T} (h0 : xr s 0 = r.1) (h1 : xr s 1 = r.2.1) (h2 : xr s 2 = r.2.2.1) (h3 : xr s 3 = r.2.2.2) : xr_T xr s = r := by
  unfold xr_T; rw [h0, h1, h2, h3]
/-- what building NEXT leaves alone -/
def fr_X (th cx th' cx' : Nat → Int32) : Prop := (∀ j, j < 505 → th' j = th j) ∧ (∀ j, j < 2020 → cx' j = cx j) ∧ bo_A th'
theorem fr_t {th' cx' : Nat → Int32} {p s : Nat} (h : fr_X th cx th' cx') (hp : p < 5) (hs : s < 101) : vx_t th' p s = vx_t th p s := h.1 _ (by omega)
theorem fr_r {th' cx' : Nat → Int32} {p s c : Nat} (h : fr_X th cx th' cx') (hp : p < 5) (hs : s < 101) (hc : c < 4) : vx_r cx' p s c = vx_r cx p s c := h.2.1 _ (by omega)
/-- buildCopied's loop -/
theorem xb_cp_l {post : Int32 → SX → Prop} {f : Nat → ro_T} {n0 : Nat} (hM : ∀ s, s < 101 → ¬ mx s = 0 → ¬ vx_t th 4 s = 0)
    (hf : ∀ s, s < 101 → ¬ mx s = 0 → f (n0 + ra_k mx s) = (rx s, vx_r cx 4 s 1, vx_r cx 4 s 2, vx_r cx 4 s 3))
    (h1 : ∀ th' cx', fr_X th cx th' cx' → nx_H (vx_t th' 5) (vx_r cx' 5) f (n0 + ra_k mx 101) → post 1 (xs, xu, xc, th', cx', sx, kd, nm, ct, op, pa, mx, rx))
    (h0 : ¬ gd_K f (n0 + ra_k mx 101) → ∀ th' cx', fr_X th cx th' cx' → post 0 (xs, xu, xc, th', cx', sx, kd, nm, ct, op, pa, mx, rx)) :
    ∀ d i n th1 cx1, i + d = 101 → d < n → fr_X th cx th1 cx1 → nx_H (vx_t th1 5) (vx_r cx1 5) f (n0 + ra_k mx i) → wX_buildCopied_8 post n (nI i) xs xu xc th1 cx1 sx kd nm ct op pa mx rx := by
  intro d
  induction d with
  | zero =>
    intro i n th1 cx1 hi hn F H
    obtain ⟨n, rfl⟩ : ∃ m, n = m + 1 := ⟨n - 1, by omega⟩
    obtain rfl : i = 101 := by omega
    exact br_t (by decide) (h1 th1 cx1 F H)
  | succ d ih =>
    intro i n th1 cx1 hi hn F H
    obtain ⟨n, rfl⟩ : ∃ m, n = m + 1 := ⟨n - 1, by omega⟩
    have vi : vp_in (nI i) 101 := vp_in_nI (by omega) (by omega)
    have hi' : i < 101 := by omega
    refine br_f (nI_ge (b := 101) (by omega) (by omega)) ⟨vi, ?_⟩
    rw [nI_clamp (by omega)]
    refine br_c (fun z => nm_r (nI_1 i) (ih (i + 1) n th1 cx1 (by omega) (by omega) F (by rw [ra_s0 z]; exact H))) (fun z => ⟨vi, ?_⟩)
    have ef := hf i hi' z
    have hj : n0 + ra_k mx i < n0 + ra_k mx 101 := by have := ra_lt hi' z; omega
    refine xp_nx hi' F.2.2 (by rw [fr_t F (by omega) hi']; exact hM i hi' z) hj H (by rw [ef]) (fun g => br_t rfl (h0 g th1 cx1 F)) (fun s0 cx' a1 a2 a3 a4 a5 a6 => br_f (by decide) (nm_r (nI_1 i) (ih (i + 1) n _ cx' (by omega) (by omega) ?_ ?_)))
    · exact ⟨fun j hj => by rw [pk_un (by omega)]; exact F.1 j hj, fun j hj => by rw [a6 j (by omega)]; exact F.2.1 j hj, bo_u F.2.2 (Or.inr rfl)⟩
    · rw [ra_s1 z, ← Nat.add_assoc]
      refine nx_s H a1 a3 (by rw [ef]; exact a2) (fun s hs hne => pk_un (by omega)) (by show ¬ upd th1 _ 1 _ = 0; rw [pk_us]; decide) (fun s hs hne c hc => a6 _ (by omega)) ?_
      rw [ef]
      refine xr_e a4 ?_ ?_ ?_
      · rw [a5 1 (by omega) (by omega), fr_r F (by omega) hi' (by omega)]
      · rw [a5 2 (by omega) (by omega), fr_r F (by omega) hi' (by omega)]
      · rw [a5 3 (by omega) (by omega), fr_r F (by omega) hi' (by omega)]
/-- clearNext -/
theorem xb_cl {post : SX → Prop} (hb : bo_A th) (h : ∀ th', (∀ j, j < 505 → th' j = th j) → bo_A th' → (∀ s, s < 101 → vx_t th' 5 s = 0) → post (xs, xu, xc, th', cx, sx, kd, nm, ct, op, pa, mx, rx)) :
    ∀ d i n th1, i + d = 101 → d < n → (∀ j, j < 505 → th1 j = th j) → bo_A th1 → (∀ s, s < i → vx_t th1 5 s = 0) → wX_clearNext_2 post xs xu xc n (nI i) th1 cx sx kd nm ct op pa mx rx := by
  intro d
  induction d with
  | zero =>
    intro i n th1 hi hn a1 a2 a3
    obtain ⟨n, rfl⟩ : ∃ m, n = m + 1 := ⟨n - 1, by omega⟩
    obtain rfl : i = 101 := by omega
    exact br_t (by decide) (h th1 a1 a2 a3)
  | succ d ih =>
    intro i n th1 hi hn a1 a2 a3
    obtain ⟨n, rfl⟩ : ∃ m, n = m + 1 := ⟨n - 1, by omega⟩
    have e5 : 505 + nI i = nI (5 * 101 + i) := nI_add 505 i
    refine br_f (nI_ge (b := 101) (by omega) (by omega)) ⟨pk_in (5 * 101 + i) 606 (by omega) e5, nm_r (e' := upd th1 (5 * 101 + i) 0) (by rw [e5, nI_clamp (by omega)]; rfl) (nm_r (nI_1 i) (ih (i + 1) n _ (by omega) (by omega) (fun j hj => ?_) (bo_u a2 (Or.inl rfl)) (fun s hs => ?_)))⟩
    · rw [pk_un (by omega)]; exact a1 j hj
    · show upd th1 _ 0 (5 * 101 + s) = 0
      by_cases e : s = i
      · subst e; exact pk_us
      · rw [pk_un (by omega)]; exact a3 s (by omega)
/-- a row with one column set -/
def up_r (xr : Nat → Nat → Int32) (mx rx : Nat → Int32) (col : Nat) : Nat → Nat → Int32 := fun s c => if c = col ∧ ¬ mx s = 0 then rx s else xr s c
theorem xb_61 {post : Int32 → SX → Prop} {J : Int32 → Int32 → Int32 → Int32 → (Nat → Int32) → (Nat → Int32) → (Nat → Int32) → (Nat → Int32) → (Nat → Int32) → (Nat → Int32) → (Nat → Int64) → (Nat → Int32) → (Nat → Int32) → (Nat → Int32) → Prop} {f : Nat → ro_T} {col i j m : Nat} {k : Int32} (hcol : col < 4) (hi : i < 101) (hb : bo_A th) (hz : ¬ vx_t th 4 i = 0) (hj : j < m)
    (H : nx_H (vx_t th 5) (vx_r cx 5) f j) (hf : f j = xr_T (up_r (vx_r cx 4) mx rx col) i) (hk : k = up_r (vx_r cx 4) mx rx col i 0)
    (h0 : ¬ gd_K f m → post 0 (xs, xu, xc, th, cx, sx, kd, nm, ct, op, pa, mx, rx)) (h1 : ∀ th' cx', fr_X th cx th' cx' → nx_H (vx_t th' 5) (vx_r cx' 5) f (j + 1) → J (nI (i + 1)) xs xu xc th' cx' sx kd nm ct op pa mx rx) :
    wX_buildUpdated_61 post J (nI col) (nI i) k xs xu xc th cx sx kd nm ct op pa mx rx := by
  have vi : vp_in (nI i) 101 := vp_in_nI (by omega) (by omega)
  have ci : (nI i).toNatClampNeg = i := nI_clamp (by omega)
  unfold wX_buildUpdated_61
  refine xp_nx hi hb hz hj H (by rw [hf, hk]; rfl) (fun g => br_t rfl (h0 g)) (fun s0 cx' a1 a2 a3 a4 a5 a6 => br_f (by decide) ⟨vi, ?_⟩)
  rw [ci]
  have ef : (f j).1 = nI s0 - 50 := by rw [hf, ← a2, hk]; rfl
  have fr : ∀ cx2, (∀ q, q < 2020 → cx2 q = cx q) → fr_X th cx (upd th (5 * 101 + s0) 1) cx2 := fun cx2 hq => ⟨fun q hq => pk_un (by omega), hq, bo_u hb (Or.inr rfl)⟩
  refine br_c (fun z => nm_r (nI_1 i) (h1 _ cx' (fr cx' (fun q hq => a6 q (by omega))) ?_)) (fun z => ?_)
  · have hn : ∀ c, ¬ (c = col ∧ ¬ mx i = 0) := fun c q => q.2 z
    refine nx_s H a1 a3 ef (fun s hs hne => pk_un (by omega)) (by show ¬ upd th _ 1 _ = 0; rw [pk_us]; decide) (fun s hs hne c hc => a6 _ (by omega)) ?_
    rw [hf]
    refine xr_e (a4.trans hk) ?_ ?_ ?_
    · rw [a5 1 (by omega) (by omega)]; exact (if_neg (hn 1)).symm
    · rw [a5 2 (by omega) (by omega)]; exact (if_neg (hn 2)).symm
    · rw [a5 3 (by omega) (by omega)]; exact (if_neg (hn 3)).symm
  · show vp_in (nI i) 101 ∧ vp_in ((nI 5 * 101 + k - (-50)) * 4 + nI col) 2424 ∧ _
    have e1 : (nI 5 * 101 + k - (-50)) * 4 + nI col = nI ((5 * 101 + s0) * 4 + col) := by rw [a2, ab_so, ab_m4]
    refine ⟨vi, pk_in ((5 * 101 + s0) * 4 + col) 2424 (by omega) e1, nm_r (e' := upd cx' ((5 * 101 + s0) * 4 + col) (rx i)) ?_ (nm_r (nI_1 i) (h1 _ _ (fr _ (fun q hq => by rw [pk_un (by omega)]; exact a6 q (by omega))) ?_))⟩
    · show upd cx' ((nI 5 * 101 + k - (-50)) * 4 + nI col).toNatClampNeg _ = _
      rw [e1, nI_clamp (by omega)]
    · refine nx_s H a1 a3 ef (fun s hs hne => pk_un (by omega)) (by show ¬ upd th _ 1 _ = 0; rw [pk_us]; decide) (fun s hs hne c hc => ?_) ?_
      · show upd cx' _ _ _ = _
        rw [pk_un (by omega)]; exact a6 _ (by omega)
      · rw [hf]
        have cell : ∀ c, c < 4 → vx_r (upd cx' ((5 * 101 + s0) * 4 + col) (rx i)) 5 s0 c = up_r (vx_r cx 4) mx rx col i c := by
          intro c hc
          show upd cx' ((5 * 101 + s0) * 4 + col) (rx i) ((5 * 101 + s0) * 4 + c) = if c = col ∧ ¬ mx i = 0 then rx i else vx_r cx 4 i c
          by_cases e : c = col
          · subst e; rw [pk_us, if_pos ⟨rfl, z⟩]
          · rw [pk_un (by omega), if_neg (fun q => e q.1)]
            by_cases c0 : c = 0
            · subst c0
              have q1 : up_r (vx_r cx 4) mx rx col i 0 = vx_r cx 4 i 0 := if_neg (fun q => e q.1)
              rw [← q1, ← hk]; exact a4
            · exact a5 c (by omega) hc
        exact xr_e (cell 0 (by omega)) (cell 1 (by omega)) (cell 2 (by omega)) (cell 3 (by omega))
theorem xb_up_l {post : Int32 → SX → Prop} {f : Nat → ro_T} {col : Nat} (hcol : col < 4) (hkey : ∀ s, s < 101 → ¬ vx_t th 4 s = 0 → vx_r cx 4 s 0 = nI s - 50)
    (hf : ∀ s, s < 101 → ¬ vx_t th 4 s = 0 → f (ra_k (vx_t th 4) s) = xr_T (up_r (vx_r cx 4) mx rx col) s)
    (h1 : ∀ th' cx', fr_X th cx th' cx' → nx_H (vx_t th' 5) (vx_r cx' 5) f (ra_k (vx_t th 4) 101) → post 1 (xs, xu, xc, th', cx', sx, kd, nm, ct, op, pa, mx, rx))
    (h0 : ¬ gd_K f (ra_k (vx_t th 4) 101) → ∀ th' cx', fr_X th cx th' cx' → post 0 (xs, xu, xc, th', cx', sx, kd, nm, ct, op, pa, mx, rx)) :
    ∀ d i n th1 cx1, i + d = 101 → d < n → fr_X th cx th1 cx1 → nx_H (vx_t th1 5) (vx_r cx1 5) f (ra_k (vx_t th 4) i) → wX_buildUpdated_6 post (nI col) n (nI i) xs xu xc th1 cx1 sx kd nm ct op pa mx rx := by
  intro d
  induction d with
  | zero =>
    intro i n th1 cx1 hi hn F H
    obtain ⟨n, rfl⟩ : ∃ m, n = m + 1 := ⟨n - 1, by omega⟩
    obtain rfl : i = 101 := by omega
    exact br_t (by decide) (h1 th1 cx1 F H)
  | succ d ih =>
    intro i n th1 cx1 hi hn F H
    obtain ⟨n, rfl⟩ : ∃ m, n = m + 1 := ⟨n - 1, by omega⟩
    have vi : vp_in (nI i) 101 := vp_in_nI (by omega) (by omega)
    have hi' : i < 101 := by omega
    have e4 : 404 + nI i = nI (4 * 101 + i) := nI_add 404 i
    have c4 : (nI (4 * 101 + i)).toNatClampNeg = 4 * 101 + i := nI_clamp (by omega)
    have et : th1 (4 * 101 + i) = vx_t th 4 i := fr_t F (by omega) hi'
    refine br_f (nI_ge (b := 101) (by omega) (by omega)) ⟨pk_in (4 * 101 + i) 606 (by omega) e4, ?_⟩
    rw [e4, c4, et, nI_clamp (n := i) (by omega)]
    refine br_c (fun z => nm_r (nI_1 i) (ih (i + 1) n th1 cx1 (by omega) (by omega) F (by rw [ra_s0 z]; exact H))) (fun z => ⟨vi, ?_⟩)
    have same : up_r (vx_r cx1 4) mx rx col i 0 = up_r (vx_r cx 4) mx rx col i 0 ∧ xr_T (up_r (vx_r cx1 4) mx rx col) i = xr_T (up_r (vx_r cx 4) mx rx col) i := by
      have q : ∀ c, c < 4 → up_r (vx_r cx1 4) mx rx col i c = up_r (vx_r cx 4) mx rx col i c := by
        intro c hc
        unfold up_r
        rw [fr_r F (by omega) hi' hc]
      refine ⟨q 0 (by omega), ?_⟩
      unfold xr_T
      rw [q 0 (by omega), q 1 (by omega), q 2 (by omega), q 3 (by omega)]
    have go : ∀ k, k = up_r (vx_r cx 4) mx rx col i 0 → wX_buildUpdated_61 post (wX_buildUpdated_6 post (nI col) n) (nI col) (nI i) k xs xu xc th1 cx1 sx kd nm ct op pa mx rx := by
      intro k hk
      refine xb_61 (m := ra_k (vx_t th 4) 101) hcol hi' F.2.2 (by show ¬ th1 _ = 0; rw [et]; exact z) (ra_lt hi' z) H (by rw [same.2]; exact hf i hi' z) (by rw [same.1]; exact hk) (fun g => h0 g th1 cx1 F) (fun th' cx' F' H' => ih (i + 1) n th' cx' (by omega) (by omega) ?_ (by rw [ra_s1 z]; exact H'))
      exact ⟨fun j hj => by rw [F'.1 j hj]; exact F.1 j hj, fun j hj => by rw [F'.2.1 j hj]; exact F.2.1 j hj, F'.2.2⟩
    have plain : ¬ (0 = col ∧ ¬ mx i = 0) → wX_buildUpdated_42 post (wX_buildUpdated_6 post (nI col) n) (nI col) (nI i) xs xu xc th1 cx1 sx kd nm ct op pa mx rx := by
      intro q
      refine br_t rfl (go _ ?_)
      rw [ab_n50, ← hkey i hi' z]
      exact (if_neg q).symm
    refine br_c (fun y => plain (fun q => q.2 y)) (fun y => br_c (fun w => br_f (by decide) ⟨vi, ?_⟩) (fun w => plain (fun q => w (by rw [← q.1]; rfl))))
    rw [nI_clamp (by omega)]
    have c0 : 0 = col := by
      have : nI col = nI 0 := w
      exact ((nI_eq (by omega) (by omega)).mp this).symm
    exact go _ (if_pos ⟨c0, y⟩).symm
theorem xb_up {post : Int32 → SX → Prop} {f : Nat → ro_T} {col : Nat} (hb : bo_A th) (hcol : col < 4) (hkey : ∀ s, s < 101 → ¬ vx_t th 4 s = 0 → vx_r cx 4 s 0 = nI s - 50)
    (hf : ∀ s, s < 101 → ¬ vx_t th 4 s = 0 → f (ra_k (vx_t th 4) s) = xr_T (up_r (vx_r cx 4) mx rx col) s)
    (h1 : ∀ th' cx', fr_X th cx th' cx' → nx_H (vx_t th' 5) (vx_r cx' 5) f (ra_k (vx_t th 4) 101) → post 1 (xs, xu, xc, th', cx', sx, kd, nm, ct, op, pa, mx, rx))
    (h0 : ¬ gd_K f (ra_k (vx_t th 4) 101) → ∀ th' cx', fr_X th cx th' cx' → post 0 (xs, xu, xc, th', cx', sx, kd, nm, ct, op, pa, mx, rx)) : wpX_buildUpdated post (xs, xu, xc, th, cx, sx, kd, nm, ct, op, pa, mx, rx) (nI col) := by
  unfold wpX_buildUpdated wpX_clearNext
  dsimp only
  refine ⟨102, xb_cl hb (fun th2 a1 a2 a3 => ⟨102, ?_⟩) 101 0 102 th (by omega) (by omega) (fun _ _ => rfl) hb (fun s hs => absurd hs (by omega))⟩
  have F2 : fr_X th cx th2 cx := ⟨a1, fun _ _ => rfl, a2⟩
  exact xb_up_l hcol hkey hf h1 h0 101 0 102 th2 cx (by omega) (by omega) F2 (nx_0 a3)
theorem xb_cp {post : Int32 → SX → Prop} {f : Nat → ro_T} (hb : bo_A th) (hkey : ∀ s, s < 101 → ¬ vx_t th 4 s = 0 → vx_r cx 4 s 0 = nI s - 50) (hM : ∀ s, s < 101 → ¬ mx s = 0 → ¬ vx_t th 4 s = 0)
    (hf0 : ∀ s, s < 101 → ¬ vx_t th 4 s = 0 → f (ra_k (vx_t th 4) s) = xr_T (vx_r cx 4) s)
    (hf : ∀ s, s < 101 → ¬ mx s = 0 → f (ra_k (vx_t th 4) 101 + ra_k mx s) = (rx s, vx_r cx 4 s 1, vx_r cx 4 s 2, vx_r cx 4 s 3))
    (h1 : ∀ th' cx', fr_X th cx th' cx' → nx_H (vx_t th' 5) (vx_r cx' 5) f (ra_k (vx_t th 4) 101 + ra_k mx 101) → post 1 (xs, xu, xc, th', cx', sx, kd, nm, ct, op, pa, mx, rx))
    (h0 : ¬ gd_K f (ra_k (vx_t th 4) 101 + ra_k mx 101) → ∀ th' cx', fr_X th cx th' cx' → post 0 (xs, xu, xc, th', cx', sx, kd, nm, ct, op, pa, mx, rx)) : wpX_buildCopied post (xs, xu, xc, th, cx, sx, kd, nm, ct, op, pa, mx, rx) := by
  unfold wpX_buildCopied
  dsimp only
  refine xc_tab (p := 4) (q := 5) (by omega) (by omega) (by omega) hb (fun th2 cx2 hc => ⟨102, ?_⟩)
  have F2 : fr_X th cx th2 cx2 := ⟨fun j hj => hc.2.1 j (by omega), fun j hj => hc.2.2.2 j (by omega), cp_bo hc hb⟩
  have H0 : nx_H (vx_t th2 5) (vx_r cx2 5) f (ra_k (vx_t th 4) 101) := nx_base hkey (fun s hs => hc.1 s hs) (fun s hs c hc' => hc.2.2.1 s hs c hc') hf0
  have z0 : ra_k mx 0 = 0 := rfl
  exact xb_cp_l hM hf h1 h0 101 0 102 th2 cx2 (by omega) (by omega) F2 (by rw [z0, Nat.add_zero]; exact H0)
end
end
section
/-! Y's table 5, built -/
section
variable {xs xu xc : Int32} {th cx sx kd nm ct : Nat → Int32} {op : Nat → Int64} {pa mx rx : Nat → Int32} {yd yu yc yf : Int32} {cy cn sy os ny sz ln py ry fy my nw : Nat → Int32}
theorem or_e {cy cy' : Nat → Int32} {j : Nat} (h : ∀ c, c < 4 → cy' (800 + 4 * j + c) = cy (800 + 4 * j + c)) : or_r cy' j = or_r cy j := by
  have h0 := h 0 (by omega)
  have h1 := h 1 (by omega)
  have h2 := h 2 (by omega)
  have h3 := h 3 (by omega)
  show (cy' (800 + 4 * j + 0), cy' (800 + 4 * j + 1), cy' (800 + 4 * j + 2), cy' (800 + 4 * j + 3)) = _
  rw [h0, h1, h2, h3]
  rfl
theorem yb_add {post : SY → Prop} {r : Nat} {k a b c : Int32} (hr : r < 40) (hc : cn 5 = nI r)
    (h : ∀ cy', or_r cy' r = (k, a, b, c) → (∀ j, j < 800 + 4 * r ∨ 804 + 4 * r ≤ j → cy' j = cy j) → post (yd, yu, yc, yf, cy', (upd cn 5 (nI (r + 1))), sy, os, ny, sz, ln, py, ry, fy, my, nw)) : wpY_addRow post (yd, yu, yc, yf, cy, cn, sy, os, ny, sz, ln, py, ry, fy, my, nw) k a b c := by
  have e0 : 800 + 4 * cn 5 = nI (800 + 4 * r) := by
    rw [hc]
    show nI 800 + nI 4 * nI r = _
    rw [pk_mul, nI_add]
  have e1 : nI (800 + 4 * r) + 1 = nI (800 + 4 * r + 1) := nI_add _ 1
  have e2 : nI (800 + 4 * r) + 2 = nI (800 + 4 * r + 2) := nI_add _ 2
  have e3 : nI (800 + 4 * r) + 3 = nI (800 + 4 * r + 3) := nI_add _ 3
  refine nm_r e0 ⟨vp_in_nI (by omega) (by omega), nm_r (e' := upd cy (800 + 4 * r) k) (by rw [nI_clamp (by omega)]) ⟨pk_in (800 + 4 * r + 1) 960 (by omega) e1, nm_r (e' := upd (upd cy (800 + 4 * r) k) (800 + 4 * r + 1) a) (by rw [e1, nI_clamp (by omega)]) ⟨pk_in (800 + 4 * r + 2) 960 (by omega) e2, nm_r (e' := upd (upd (upd cy (800 + 4 * r) k) (800 + 4 * r + 1) a) (800 + 4 * r + 2) b) (by rw [e2, nI_clamp (by omega)]) ⟨pk_in (800 + 4 * r + 3) 960 (by omega) e3, nm_r (e' := upd (upd (upd (upd cy (800 + 4 * r) k) (800 + 4 * r + 1) a) (800 + 4 * r + 2) b) (800 + 4 * r + 3) c) (by rw [e3, nI_clamp (by omega)]) (nm_r (e' := upd cn 5 (nI (r + 1))) (by rw [hc, nI_1]) (h _ ?_ (fun j hj => ?_)))⟩⟩⟩⟩
  · unfold or_r
    rw [pk_un (by omega), pk_un (by omega), pk_un (by omega), pk_us, pk_un (by omega), pk_un (by omega), pk_us, pk_un (by omega), pk_us, pk_us]
  · rw [pk_un (by omega), pk_un (by omega), pk_un (by omega), pk_un (by omega)]
theorem gd_cg {f g : Nat → ro_T} {m : Nat} (h : ∀ j, j < m → f j = g j) (hg : gd_K f m) : gd_K g m :=
  gd_pm (g := f) (fun P => (cp_cg h).symm) hg
theorem yb_fin {post : Int32 → SY → Prop} {m : Nat} {a : Int32} {f : Nat → ro_T} (hm : m ≤ 40) (hc : cn 5 = nI m) (hf : ∀ j, j < m → or_r cy j = f j)
    (hB : ¬ gd_K f m → ∀ cy', (∀ j, j < 800 → cy' j = cy j) → post (-1000000006) (yd, yu, yc, yf, cy', cn, sy, os, ny, sz, ln, py, ry, fy, my, nw))
    (hS : gd_K f m → ∀ cy', (∀ j, j < 800 → cy' j = cy j) → pm_E f (or_r cy') m → so_R (or_r cy') m → wpY_settle post (yd, yu, yc, yf, cy', cn, sy, os, ny, sz, ln, py, ry, fy, my, nw) (nI 5) a) :
    wpY_order (fun r_75 u => match u with | (yd, yu, yc, yf, cy, cn, sy, os, ny, sz, ln, py, ry, fy, my, nw) => ((r_75 = 0 → post (-1000000006) (yd, yu, yc, yf, cy, cn, sy, os, ny, sz, ln, py, ry, fy, my, nw)) ∧ (¬ r_75 = 0 → wpY_settle (fun r_93 u => match u with | (yd, yu, yc, yf, cy, cn, sy, os, ny, sz, ln, py, ry, fy, my, nw) => post r_93 (yd, yu, yc, yf, cy, cn, sy, os, ny, sz, ln, py, ry, fy, my, nw)) (yd, yu, yc, yf, cy, cn, sy, os, ny, sz, ln, py, ry, fy, my, nw) 5 a))) (yd, yu, yc, yf, cy, cn, sy, os, ny, sz, ln, py, ry, fy, my, nw) := by
  refine yo_order hm hc (fun g cy' b1 b2 b3 => br_f (by decide) (hS (gd_cg hf g) cy' b1 (fun P => ?_) b3)) (fun g cy' b1 => br_t rfl (hB (fun w => g (gd_cg (fun j hj => (hf j hj).symm) w)) cy' b1))
  rw [b2 P]
  exact cp_cg hf
theorem yb_up_l {post : Int32 → SY → Prop} {m col : Nat} {a : Int32} {f : Nat → ro_T} (hcol : col < 4) (hm : m ≤ 40) (hc0 : cn 0 = nI m) (hc5 : cn 5 = nI m)
    (hf : ∀ j, j < m → f j = xr_T (up_r (vy_r cy 5) my nw col) j)
    (hB : ¬ gd_K f m → ∀ cy', (∀ j, j < 800 → cy' j = cy j) → post (-1000000006) (yd, yu, yc, yf, cy', cn, sy, os, ny, sz, ln, py, ry, fy, my, nw))
    (hS : gd_K f m → ∀ cy', (∀ j, j < 800 → cy' j = cy j) → pm_E f (or_r cy') m → so_R (or_r cy') m → wpY_settle post (yd, yu, yc, yf, cy', cn, sy, os, ny, sz, ln, py, ry, fy, my, nw) (nI 5) a) :
    ∀ d i n cy1, i + d = m → d < n → (∀ j, j < 800 → cy1 j = cy j) → (∀ r, r < i → ∀ c, c < 4 → vy_r cy1 5 r c = up_r (vy_r cy 5) my nw col r c) → (∀ j, 800 + 4 * i ≤ j → cy1 j = cy j) → wY_update_55 post (nI col) a yd yu yc yf n (nI i) cy1 cn sy os ny sz ln py ry fy my nw := by
  intro d
  induction d with
  | zero =>
    intro i n cy1 hi hn a1 a2 a3
    obtain ⟨n, rfl⟩ : ∃ m, n = m + 1 := ⟨n - 1, by omega⟩
    obtain rfl : i = m := by omega
    refine br_t (by rw [hc0]; exact Int32.le_refl _) (yb_fin hm hc5 (fun j hj => ?_) (fun g cy' b1 => hB g cy' (fun j hj => by rw [b1 j hj, a1 j hj])) (fun g cy' b1 b2 b3 => hS g cy' (fun j hj => by rw [b1 j hj, a1 j hj]) b2 b3))
    rw [hf j hj, or_v]
    unfold xr_T
    rw [a2 j hj 0 (by omega), a2 j hj 1 (by omega), a2 j hj 2 (by omega), a2 j hj 3 (by omega)]
  | succ d ih =>
    intro i n cy1 hi hn a1 a2 a3
    obtain ⟨n, rfl⟩ : ∃ m, n = m + 1 := ⟨n - 1, by omega⟩
    have vi : vp_in (nI i) 40 := vp_in_nI (by omega) (by omega)
    refine br_f (by rw [hc0]; exact nI_ge (by omega) (by omega)) ⟨vi, ?_⟩
    rw [nI_clamp (by omega)]
    have old : ∀ c, c < 4 → vy_r cy1 5 i c = vy_r cy 5 i c := fun c hc => a3 _ (by omega)
    refine br_c (fun z => nm_r (nI_1 i) (ih (i + 1) n cy1 (by omega) (by omega) a1 (fun r hr c hc => ?_) (fun j hj => a3 j (by omega)))) (fun z => ⟨vi, ?_⟩)
    · by_cases e : r = i
      · subst e
        rw [old c hc]
        exact (if_neg (fun q => q.2 z)).symm
      · exact a2 r (by omega) c hc
    · have e8 : 800 + 4 * nI i + nI col = nI (800 + 4 * i + col) := by
        show nI 800 + nI 4 * nI i + nI col = _
        rw [pk_mul, nI_add, nI_add]
      refine ⟨pk_in (800 + 4 * i + col) 960 (by omega) e8, nm_r (e' := upd cy1 (800 + 4 * i + col) (nw i)) (by rw [e8, nI_clamp (by omega)]) (nm_r (nI_1 i) (ih (i + 1) n _ (by omega) (by omega) (fun j hj => ?_) (fun r hr c hc => ?_) (fun j hj => ?_)))⟩
      · rw [pk_un (by omega)]; exact a1 j hj
      · show upd cy1 (800 + 4 * i + col) (nw i) (160 * 5 + 4 * r + c) = _
        by_cases e : r = i
        · subst e
          by_cases ec : c = col
          · subst ec
            rw [show 160 * 5 + 4 * r + c = 800 + 4 * r + c from by omega, pk_us]
            exact (if_pos ⟨rfl, z⟩).symm
          · rw [pk_un (by omega)]
            have : up_r (vy_r cy 5) my nw col r c = vy_r cy 5 r c := if_neg (fun q => ec q.1)
            rw [this]; exact old c hc
        · rw [pk_un (by omega)]; exact a2 r (by omega) c hc
      · rw [pk_un (by omega)]; exact a3 j (by omega)
theorem yb_cp_l {post : Int32 → SY → Prop} {m : Nat} {a : Int32} {f : Nat → ro_T} (hc0 : cn 0 = nI m) (hm : m + ra_k my m ≤ 40)
    (hf0 : ∀ j, j < m → f j = or_r cy j) (hf : ∀ r, r < m → ¬ my r = 0 → f (m + ra_k my r) = (nw r, vy_r cy 0 r 1, vy_r cy 0 r 2, vy_r cy 0 r 3))
    (hB : ¬ gd_K f (m + ra_k my m) → ∀ cy' cn', (∀ j, j < 800 → cy' j = cy j) → (∀ t, t < 5 → cn' t = cn t) → post (-1000000006) (yd, yu, yc, yf, cy', cn', sy, os, ny, sz, ln, py, ry, fy, my, nw))
    (hS : gd_K f (m + ra_k my m) → ∀ cy' cn', (∀ j, j < 800 → cy' j = cy j) → (∀ t, t < 5 → cn' t = cn t) → cn' 5 = nI (m + ra_k my m) → pm_E f (or_r cy') (m + ra_k my m) → so_R (or_r cy') (m + ra_k my m) → wpY_settle post (yd, yu, yc, yf, cy', cn', sy, os, ny, sz, ln, py, ry, fy, my, nw) (nI 5) a) :
    ∀ d i n cy1 cn1, i + d = m → d < n → (∀ j, j < 800 → cy1 j = cy j) → (∀ t, t < 5 → cn1 t = cn t) → cn1 5 = nI (m + ra_k my i) → (∀ j, j < m + ra_k my i → or_r cy1 j = f j) → wY_copy_60 post a n (nI i) yd yu yc yf cy1 cn1 sy os ny sz ln py ry fy my nw := by
  intro d
  induction d with
  | zero =>
    intro i n cy1 cn1 hi hn a1 a2 a3 a4
    obtain ⟨n, rfl⟩ : ∃ m, n = m + 1 := ⟨n - 1, by omega⟩
    obtain rfl : i = m := by omega
    exact br_t (by rw [a2 0 (by omega), hc0]; exact Int32.le_refl _) (yb_fin hm a3 a4 (fun g cy' b1 => hB g cy' cn1 (fun j hj => by rw [b1 j hj, a1 j hj]) a2) (fun g cy' b1 b2 b3 => hS g cy' cn1 (fun j hj => by rw [b1 j hj, a1 j hj]) a2 a3 b2 b3))
  | succ d ih =>
    intro i n cy1 cn1 hi hn a1 a2 a3 a4
    obtain ⟨n, rfl⟩ : ∃ m, n = m + 1 := ⟨n - 1, by omega⟩
    have vi : vp_in (nI i) 40 := vp_in_nI (by omega) (by omega)
    refine br_f (by rw [a2 0 (by omega), hc0]; exact nI_ge (by omega) (by omega)) ⟨vi, ?_⟩
    rw [nI_clamp (by omega)]
    refine br_c (fun z => nm_r (nI_1 i) (ih (i + 1) n cy1 cn1 (by omega) (by omega) a1 a2 (by rw [ra_s0 z]; exact a3) (by rw [ra_s0 z]; exact a4))) (fun z => ⟨vi, ?_⟩)
    have hlt : ra_k my i < ra_k my m := ra_lt (by omega) z
    refine yc_cell (t := 0) (c := 1) (by omega) (by omega) (by omega) (yc_cell (t := 0) (c := 2) (by omega) (by omega) (by omega) (yc_cell (t := 0) (c := 3) (by omega) (by omega) (by omega) ?_))
    refine yb_add (r := m + ra_k my i) (by omega) a3 (fun cy' b1 b2 => nm_r (nI_1 i) (ih (i + 1) n cy' _ (by omega) (by omega) (fun j hj => ?_) (fun t ht => ?_) ?_ (fun j hj => ?_)))
    · rw [b2 j (by omega), a1 j hj]
    · rw [pk_un (by omega), a2 t ht]
    · rw [pk_us, ra_s1 z]; rfl
    · rw [ra_s1 z] at hj
      by_cases e : j = m + ra_k my i
      · subst e
        rw [b1, hf i (by omega) z, a1 _ (by omega), a1 _ (by omega), a1 _ (by omega)]
        rfl
      · rw [or_e (fun c hc => b2 _ (by omega))]; exact a4 j (by omega)
/-- delete's loop: the rows that are kept -/
def kp_F (my : Nat → Int32) : Nat → Int32 := fun r => if my r = 0 then 1 else 0
theorem kp_1 {r : Nat} (h : my r = 0) : ¬ kp_F my r = 0 := by
  have : kp_F my r = 1 := if_pos h
  rw [this]; decide
theorem kp_0 {r : Nat} (h : ¬ my r = 0) : kp_F my r = 0 := if_neg h
theorem yb_dl_l {post : Int32 → SY → Prop} {m : Nat} {a : Int32} (hc0 : cn 0 = nI m) (hm : m ≤ 40)
    (h : ∀ cy' cn', (∀ j, 160 ≤ j → j < 800 → cy' j = cy j) → (∀ t, 1 ≤ t → t < 5 → cn' t = cn t) → cn' 0 = nI (ra_k (kp_F my) m) → (∀ r, r < m → my r = 0 → ∀ c, c < 4 → vy_r cy' 0 (ra_k (kp_F my) r) c = vy_r cy 0 r c) → post a (yd, yu, yc, yf, cy', cn', sy, os, ny, sz, ln, py, ry, fy, my, nw)) :
    ∀ d i n cy1 cn1, i + d = m → d < n → (∀ j, j < 800 → cy1 j = cy j) → (∀ t, t < 5 → cn1 t = cn t) → cn1 5 = nI (ra_k (kp_F my) i) → (∀ r, r < i → my r = 0 → or_r cy1 (ra_k (kp_F my) r) = (vy_r cy 0 r 0, vy_r cy 0 r 1, vy_r cy 0 r 2, vy_r cy 0 r 3)) → wY_delete_35 post a n (nI i) yd yu yc yf cy1 cn1 sy os ny sz ln py ry fy my nw := by
  intro d
  induction d with
  | zero =>
    intro i n cy1 cn1 hi hn a1 a2 a3 a4
    obtain ⟨n, rfl⟩ : ∃ m, n = m + 1 := ⟨n - 1, by omega⟩
    obtain rfl : i = m := by omega
    refine br_t (by rw [a2 0 (by omega), hc0]; exact Int32.le_refl _) (yc_list (t := 5) (u := 0) (by omega) (by omega) (by omega) (fun cy' cn' hl => h cy' cn' (fun j h1 h2 => ?_) (fun t h1 h2 => ?_) ?_ (fun r hr hz c hc => ?_)))
    · rw [hl.2.1 j (by omega), a1 j h2]
    · rw [hl.2.2, pk_un (by omega), a2 t h2]
    · rw [hl.2.2, pk_us, a3]
    · have hle : ra_k (kp_F my) r < 40 := Nat.lt_of_le_of_lt (ra_le _ r) (by omega)
      have e := a4 r hr hz
      rw [or_v] at e
      have q : vy_r cy' 0 (ra_k (kp_F my) r) c = vy_r cy1 5 (ra_k (kp_F my) r) c := by
        show cy' (160 * 0 + 4 * _ + c) = cy1 (160 * 5 + 4 * _ + c)
        rw [Nat.add_assoc, Nat.add_assoc]
        exact hl.1 _ (by omega)
      rw [q]
      rcases (by omega : c = 0 ∨ c = 1 ∨ c = 2 ∨ c = 3) with rfl | rfl | rfl | rfl
      · exact congrArg (fun x : ro_T => x.1) e
      · exact congrArg (fun x : ro_T => x.2.1) e
      · exact congrArg (fun x : ro_T => x.2.2.1) e
      · exact congrArg (fun x : ro_T => x.2.2.2) e
  | succ d ih =>
    intro i n cy1 cn1 hi hn a1 a2 a3 a4
    obtain ⟨n, rfl⟩ : ∃ m, n = m + 1 := ⟨n - 1, by omega⟩
    have hle : ra_k (kp_F my) i ≤ i := ra_le _ i
    refine br_f (by rw [a2 0 (by omega), hc0]; exact nI_ge (by omega) (by omega)) ⟨vp_in_nI (by omega) (by omega), ?_⟩
    rw [nI_clamp (by omega)]
    refine br_c (fun z => ?_) (fun z => nm_r (nI_1 i) (ih (i + 1) n cy1 cn1 (by omega) (by omega) a1 a2 (by rw [ra_s0 (kp_0 z)]; exact a3) (fun r hr hz => ?_)))
    · refine yc_cell (t := 0) (c := 0) (by omega) (by omega) (by omega) (yc_cell (t := 0) (c := 1) (by omega) (by omega) (by omega) (yc_cell (t := 0) (c := 2) (by omega) (by omega) (by omega) (yc_cell (t := 0) (c := 3) (by omega) (by omega) (by omega) ?_)))
      refine yb_add (r := ra_k (kp_F my) i) (by omega) a3 (fun cy' b1 b2 => nm_r (nI_1 i) (ih (i + 1) n cy' _ (by omega) (by omega) (fun j hj => ?_) (fun t ht => ?_) ?_ (fun r hr hz => ?_)))
      · rw [b2 j (by omega), a1 j hj]
      · rw [pk_un (by omega), a2 t ht]
      · rw [pk_us, ra_s1 (kp_1 z)]
      · by_cases e : r = i
        · subst e
          rw [b1, a1 _ (by omega), a1 _ (by omega), a1 _ (by omega), a1 _ (by omega)]
          rfl
        · have : ra_k (kp_F my) r < ra_k (kp_F my) i := ra_lt (by omega) (kp_1 hz)
          rw [or_e (fun c hc => b2 _ (by omega))]; exact a4 r (by omega) hz
    · by_cases e : r = i
      · subst e; exact absurd hz z
      · exact a4 r (by omega) hz
end
end
section
/-! delete, insert, update, copy -/
section
variable {xs xu xc : Int32} {th cx sx kd nm ct : Nat → Int32} {op : Nat → Int64} {pa mx rx : Nat → Int32} {yd yu yc yf : Int32} {cy cn sy os ny sz ln py ry fy my nw : Nat → Int32}
theorem yt_U {post : Int32 → SY → Prop} {a : Int32} {L t : Nat} {K N Z : Nat → Int32} (ht : t < 6) (ht0 : t ≠ 0) (hR : rt_R th cx 5 cn cy t) (T : ¬ yc = 0 → te_Y os ny sz ln K N Z 8 L)
    (a1 : ¬ yu = 0) (b1 : ¬ un_ok (vx_t th 5) (vx_r cx 5)) (h : post (-1000000007) (yd, yu, yc, yf, cy, cn, sy, os, ny, sz, ln, py, ry, fy, my, nw)) : wpY_settle post (yd, yu, yc, yf, cy, cn, sy, os, ny, sz, ln, py, ry, fy, my, nw) (nI t) a :=
  yt_take ht ht0 hR T (fun _ _ => h) (fun q => absurd q (fun q => q.elim a1 b1)) (fun q => absurd q (fun q => q.elim a1 b1))
theorem yt_C {post : Int32 → SY → Prop} {a : Int32} {L t : Nat} {K N Z : Nat → Int32} (ht : t < 6) (ht0 : t ≠ 0) (hR : rt_R th cx 5 cn cy t) (T : ¬ yc = 0 → te_Y os ny sz ln K N Z 8 L)
    (a1 : yu = 0 ∨ un_ok (vx_t th 5) (vx_r cx 5)) (b1 : ¬ yc = 0) (c1 : ¬ am_ok K N L py (vx_t th 5) (vx_r cx 5)) (h : ∀ yf' ry' fy', post (-1000000008) (yd, yu, yc, yf', cy, cn, sy, os, ny, sz, ln, py, ry', fy', my, nw)) : wpY_settle post (yd, yu, yc, yf, cy, cn, sy, os, ny, sz, ln, py, ry, fy, my, nw) (nI t) a :=
  yt_take ht ht0 hR T (fun p q => (a1.elim p q).elim) (fun _ _ _ => h) (fun _ q => (q.elim b1 c1).elim)
theorem yt_O {post : Int32 → SY → Prop} {a : Int32} {L t : Nat} {K N Z : Nat → Int32} (ht : t < 6) (ht0 : t ≠ 0) (hR : rt_R th cx 5 cn cy t) (T : ¬ yc = 0 → te_Y os ny sz ln K N Z 8 L)
    (a1 : yu = 0 ∨ un_ok (vx_t th 5) (vx_r cx 5)) (b1 : yc = 0 ∨ am_ok K N L py (vx_t th 5) (vx_r cx 5)) (h : ∀ yf' ry' fy' cy' cn', cl_T cy cn cy' cn' t 0 → post a (yd, yu, yc, yf', cy', cn', sy, os, ny, sz, ln, py, ry', fy', my, nw)) : wpY_settle post (yd, yu, yc, yf, cy, cn, sy, os, ny, sz, ln, py, ry, fy, my, nw) (nI t) a :=
  yt_take ht ht0 hR T (fun p q => (a1.elim p q).elim) (fun _ p q => (b1.elim p q).elim) (fun _ _ => h)
theorem xd_dl {post : Int32 → SX → Prop} {a : Int32} (hb : bo_A th)
    (h : ∀ th', (∀ s, s < 101 → th' (4 * 101 + s) = if mx s = 0 then th (4 * 101 + s) else 0) → (∀ j, j < 404 ∨ 505 ≤ j → th' j = th j) → bo_A th' → post a (xs, xu, xc, th', cx, sx, kd, nm, ct, op, pa, mx, rx)) :
    ∀ d i n th1, i + d = 101 → d < n → (∀ s, s < i → th1 (4 * 101 + s) = if mx s = 0 then th (4 * 101 + s) else 0) → (∀ j, j < 404 ∨ 404 + i ≤ j → th1 j = th j) → bo_A th1 → wX_delete_27 post a xs xu xc n (nI i) th1 cx sx kd nm ct op pa mx rx := by
  intro d
  induction d with
  | zero =>
    intro i n th1 hi hn a1 a2 a3
    obtain ⟨n, rfl⟩ : ∃ m, n = m + 1 := ⟨n - 1, by omega⟩
    obtain rfl : i = 101 := by omega
    exact br_t (by decide) (h th1 a1 (fun j hj => a2 j (by omega)) a3)
  | succ d ih =>
    intro i n th1 hi hn a1 a2 a3
    obtain ⟨n, rfl⟩ : ∃ m, n = m + 1 := ⟨n - 1, by omega⟩
    have e4 : 404 + nI i = nI (4 * 101 + i) := nI_add 404 i
    refine br_f (nI_ge (b := 101) (by omega) (by omega)) ⟨vp_in_nI (by omega) (by omega), ?_⟩
    rw [nI_clamp (n := i) (by omega)]
    refine br_c (fun z => nm_r (nI_1 i) (ih (i + 1) n th1 (by omega) (by omega) (fun s hs => ?_) (fun j hj => a2 j (by omega)) a3)) (fun z => ⟨pk_in (4 * 101 + i) 606 (by omega) e4, nm_r (e' := upd th1 (4 * 101 + i) 0) (by rw [e4, nI_clamp (by omega)]; rfl) (nm_r (nI_1 i) (ih (i + 1) n _ (by omega) (by omega) (fun s hs => ?_) (fun j hj => ?_) (bo_u a3 (Or.inl rfl))))⟩)
    · by_cases e : s = i
      · subst e; rw [if_pos z]; exact a2 _ (by omega)
      · exact a1 s (by omega)
    · by_cases e : s = i
      · subst e; rw [pk_us, if_neg z]
      · rw [pk_un (by omega)]; exact a1 s (by omega)
    · rw [pk_un (by omega)]; exact a2 j (by omega)
theorem ra_del {xt xt' mx my : Nat → Int32} (hM : jo_M xt mx my) (h : ∀ s, s < 101 → xt' s = if mx s = 0 then xt s else 0) : ∀ n, n ≤ 101 → ra_k xt' n = ra_k (kp_F my) (ra_k xt n) := by
  intro n
  induction n with
  | zero => intro _; rfl
  | succ n ih =>
    intro hn
    have e := ih (by omega)
    have en := h n (by omega)
    by_cases z : xt n = 0
    · rw [ra_s0 z, ra_s0 (t := xt') (by rw [en, if_pos ((hM n (by omega)).1 z)]; exact z), e]
    · have em := (hM n (by omega)).2 z
      rw [ra_s1 z]
      by_cases y : mx n = 0
      · rw [ra_s1 (t := xt') (by rw [en, if_pos y]; exact z), ra_s1 (kp_1 (by rw [← em]; exact y)), e]
      · rw [ra_s0 (t := xt') (by rw [en, if_neg y]), ra_s0 (kp_0 (by rw [← em]; exact y)), e]
end
section
theorem i_vc_delete {k : Nat} {u : SX} {v : SY} (I : i_Rel k u v) (hk : k + 5 ≤ 2560) (v1 : Int32) : wpX_delete (fun r u' => wpY_delete (fun r' v' => r' = r ∧ i_Rel (k + 5) u' v') v v1) u v1 := by
  obtain ⟨xs, xu, xc, th, cx, sx, kd, nm, ct, op, pa, mx, rx⟩ := u
  obtain ⟨yd, yu, yc, yf, cy, cn, sy, os, ny, sz, ln, py, ry, fy, my, nw⟩ := v
  have J := I
  obtain ⟨rfl, rfl, rfl, rfl, rfl, rfl, hb, ht, hs, ho, hT⟩ := I
  have hR := ht.1
  have hm := hR.2.1
  unfold wpX_delete wpY_delete
  dsimp only
  rcases pk_ix v1 (n := 8) (by omega) with hx | hx | ⟨e, he, rfl⟩
  · exact xa_expN (Or.inl hx) (br_t rfl (ya_expN (Or.inl hx) (br_t rfl ⟨rfl, J⟩)))
  · exact xa_expN (Or.inr hx) (br_t rfl (ya_expN (Or.inr hx) (br_t rfl ⟨rfl, J⟩)))
  · obtain ⟨K, N, Z, L, TX', TY'⟩ := te_get (by omega) (hT.1 e he) ho
    refine xa_exp he (br_f (by decide) (xs_rows TX' (fun hb op' mx' => ?_) (fun op' mx' h1 h2 => ?_)))
    · exact br_t rfl (ya_exp he (br_f (by decide) (jo_yF TY' ht.1 hb (fun yf' ry' fy' my' => br_t rfl ⟨rfl, J⟩))))
    · have hn5 : ¬ nI (ra_k mx' 101) = -1000000005 := nf_5 (ra_le mx' 101)
      refine br_f hn5 ⟨102, xd_dl hb (fun th' a1 a2 a3 => ?_) 101 0 102 th (by omega) (by omega) (fun s hs => absurd hs (by omega)) (fun _ _ => rfl) hb⟩
      refine ya_exp he (br_f (by decide) (jo_yS TY' ht.1 h1 h2 (fun yf' ry' fy' my' hM => br_f hn5 (nm_e ⟨ra_k (vx_t th 4) 101 + 1, ?_⟩))))
      have hc0 : upd cn 5 0 0 = nI (ra_k (vx_t th 4) 101) := by rw [pk_un (by omega)]; exact hR.1
      refine yb_dl_l (m := ra_k (vx_t th 4) 101) hc0 hm (fun cy' cn' b1 b2 b3 b4 => ⟨rfl, rfl, rfl, rfl, rfl, rfl, rfl, a3, ?_, hs, ho, hT⟩) (ra_k (vx_t th 4) 101) 0 _ cy (upd cn 5 0) (by omega) (by omega) (fun _ _ => rfl) (fun _ _ => rfl) pk_us (fun r hr => absurd hr (by omega))
      show tb_A th' cx cn' cy'
      have er := ra_del (xt := vx_t th 4) (xt' := vx_t th' 4) hM (fun s hs => a1 s hs)
      refine ⟨⟨?_, ?_, fun s hs' hz => ?_⟩, fun p hp => ?_⟩
      · rw [b3, er 101 (by omega)]
      · rw [er 101 (by omega)]; exact Nat.le_trans (ra_le _ _) hm
      · have es : vx_t th' 4 s = if mx' s = 0 then vx_t th 4 s else 0 := a1 s hs'
        have m0 : mx' s = 0 := Classical.byContradiction (fun q => hz (by rw [es, if_neg q]))
        rw [es, if_pos m0] at hz
        obtain ⟨c1, c2⟩ := hR.2.2 s hs' hz
        refine ⟨c1, fun c hc => ?_⟩
        rw [er s (by omega), b4 _ (ra_lt hs' hz) (by show my' _ = 0; rw [← (hM s hs').2 hz]; exact m0) c hc]
        exact c2 c hc
      · refine rt_cg (ht.2 p hp) (fun s hs => a2 _ (by omega)) (fun s hs c hc => rfl) ?_ (fun i hi => b1 _ (by omega) (by omega))
        rw [b2 (p + 1) (by omega) (by omega), pk_un (by omega)]
end
section
variable {xs xu xc : Int32} {th cx sx kd nm ct : Nat → Int32} {op : Nat → Int64} {pa mx rx : Nat → Int32} {yd yu yc yf : Int32} {cy cn sy os ny sz ln py ry fy my nw : Nat → Int32}
/-- the two sides at the end of a statement that built NEXT and table 5 -/
theorem fi_tb {th1 cx1 cn1 cy1 : Nat → Int32} (ht : tb_A th cx cn cy) (F : fr_X th cx th1 cx1) (h1 : ∀ j, j < 800 → cy1 j = cy j) (h2 : ∀ t, t < 5 → cn1 t = cn t) : tb_A th1 cx1 cn1 cy1 :=
  tb_keep ht F.1 F.2.1 h2 h1
end
section
theorem i_vc_update {k : Nat} {u : SX} {v : SY} (I : i_Rel k u v) (hk : k + 5 ≤ 2560) (v1 : Int32) (v2 : Int32) (v3 : Int32) : wpX_update (fun r u' => wpY_update (fun r' v' => r' = r ∧ i_Rel (k + 5) u' v') v v1 v2 v3) u v1 v2 v3 := by
  obtain ⟨xs, xu, xc, th, cx, sx, kd, nm, ct, op, pa, mx, rx⟩ := u
  obtain ⟨yd, yu, yc, yf, cy, cn, sy, os, ny, sz, ln, py, ry, fy, my, nw⟩ := v
  have J := I
  obtain ⟨rfl, rfl, rfl, rfl, rfl, rfl, hb, ht, hs, ho, hT⟩ := I
  have hR := ht.1
  have hm := hR.2.1
  unfold wpX_update
  dsimp only
  rcases pk_ix v1 (n := 8) (by omega) with hx | hx | ⟨w, hw, rfl⟩
  · exact xa_expN (Or.inl hx) (br_t rfl (by unfold wpY_update; dsimp only; exact ya_expN (Or.inl hx) (br_t rfl ⟨rfl, J⟩)))
  · exact xa_expN (Or.inr hx) (br_t rfl (by unfold wpY_update; dsimp only; exact ya_expN (Or.inr hx) (br_t rfl ⟨rfl, J⟩)))
  refine xa_exp hw (br_f (by decide) ?_)
  rcases pk_ix v3 (n := 8) (by omega) with hx | hx | ⟨e, he, rfl⟩
  · exact xa_expN (Or.inl hx) (br_t rfl (by unfold wpY_update; dsimp only; exact ya_exp hw (br_f (by decide) (ya_expN (Or.inl hx) (br_t rfl ⟨rfl, J⟩)))))
  · exact xa_expN (Or.inr hx) (br_t rfl (by unfold wpY_update; dsimp only; exact ya_exp hw (br_f (by decide) (ya_expN (Or.inr hx) (br_t rfl ⟨rfl, J⟩)))))
  refine xa_exp he (br_f (by decide) ?_)
  rcases pk_ix v2 (n := 4) (by omega) with hx | hx | ⟨col, hcol, rfl⟩
  · exact xa_colN (Or.inl hx) (br_t rfl (by unfold wpY_update; dsimp only; exact ya_exp hw (br_f (by decide) (ya_exp he (br_f (by decide) (br_t hx ⟨rfl, J⟩))))))
  · have h0 : ¬ v2 < 0 := Int32.not_lt.mpr (Int32.le_trans (show (0 : Int32) ≤ nI 4 from by decide) hx)
    exact xa_colN (Or.inr hx) (br_t rfl (by unfold wpY_update; dsimp only; exact ya_exp hw (br_f (by decide) (ya_exp he (br_f (by decide) (br_f h0 (br_f (Int32.not_le.mpr (ya_gt3 hx)) ⟨rfl, J⟩)))))))
  have c0 : ¬ nI col < 0 := nI_pos (by omega)
  have c3 : nI col ≤ 3 := nI_le (b := 3) (by omega) (by omega)
  refine xa_col hcol (br_f (by decide) ?_)
  obtain ⟨Kw, Nw, Zw, Lw, TXw, TYw⟩ := te_get (by omega) (hT.1 w hw) ho
  obtain ⟨K, N, Z, L, TX', TY'⟩ := te_get (by omega) (hT.1 e he) ho
  obtain ⟨K8, N8, Z8, L8, TX8, TY8⟩ := te_8 hT.2.1 ho
  refine xs_res TXw TX' (fun hb op' mx' rx' => ?_) (fun op' mx' rx' h1 h2 h3 => ?_)
  · exact br_t rfl (by unfold wpY_update; dsimp only; exact ya_exp hw (br_f (by decide) (ya_exp he (br_f (by decide) (br_f c0 (br_t c3 (jo_yF2 TYw TY' ht.1 hb (fun yf' ry' fy' my' nw' => br_t rfl ⟨rfl, J⟩))))))))
  have hn5 : ¬ nI (ra_k mx' 101) = -1000000005 := nf_5 (ra_le mx' 101)
  obtain ⟨f, hf⟩ := ra_fun (vx_t th 4) (fun s => xr_T (up_r (vx_r cx 4) mx' rx' col) s) (0, 0, 0, 0) 101
  -- Y's side, whatever X did
  have ySide : ∀ {post : Int32 → SY → Prop},
      (∀ yf' ry' fy' my' nw' cy' cn', (∀ j, j < 800 → cy' j = cy j) → (∀ t, t < 5 → cn' t = cn t) → ¬ gd_K f (ra_k (vx_t th 4) 101) → post (-1000000006) (yd, yu, yc, yf', cy', cn', sy, os, ny, sz, ln, py, ry', fy', my', nw')) →
      (∀ yf' ry' fy' my' nw' cy' cn', (∀ j, j < 800 → cy' j = cy j) → (∀ t, t < 5 → cn' t = cn t) → cn' 5 = nI (ra_k (vx_t th 4) 101) → gd_K f (ra_k (vx_t th 4) 101) → pm_E f (or_r cy') (ra_k (vx_t th 4) 101) → so_R (or_r cy') (ra_k (vx_t th 4) 101) → wpY_settle post (yd, yu, yc, yf', cy', cn', sy, os, ny, sz, ln, py, ry', fy', my', nw') (nI 5) (nI (ra_k mx' 101))) →
      wpY_update post (yd, yu, yc, yf, cy, cn, sy, os, ny, sz, ln, py, ry, fy, my, nw) (nI w) (nI col) (nI e) := by
    intro post hB hS
    unfold wpY_update
    dsimp only
    refine ya_exp hw (br_f (by decide) (ya_exp he (br_f (by decide) (br_f c0 (br_t c3 (jo_yS2 TYw TY' ht.1 h1 h2 h3 (fun yf' ry' fy' my' nw' hM hV => br_f hn5 (yc_list (t := 0) (u := 5) (by omega) (by omega) (by omega) (fun cy2 cn2 hl => ⟨ra_k (vx_t th 4) 101 + 1, ?_⟩)))))))))
    have k5 : cn2 5 = nI (ra_k (vx_t th 4) 101) := by rw [hl.2.2, pk_us]; exact hR.1
    have kt : ∀ t, t < 5 → cn2 t = cn t := fun t ht => by rw [hl.2.2, pk_un (by omega)]
    have ky : ∀ j, j < 800 → cy2 j = cy j := fun j hj => hl.2.1 j (by omega)
    refine yb_up_l (f := f) hcol hm (by rw [kt 0 (by omega)]; exact hR.1) k5 (fun j hj => ?_) (fun g cy' b1 => hB _ _ _ _ _ _ _ (fun j hj => by rw [b1 j hj, ky j hj]) kt g) (fun g cy' b1 b2 b3 => hS _ _ _ _ _ _ _ (fun j hj => by rw [b1 j hj, ky j hj]) kt k5 g b2 b3) (ra_k (vx_t th 4) 101) 0 _ cy2 (by omega) (by omega) (fun _ _ => rfl) (fun r hr => absurd hr (by omega)) (fun _ _ => rfl)
    obtain ⟨s, hs', hz, rfl⟩ := ra_inv hj
    rw [hf s hs' hz]
    have q : ∀ c, c < 4 → up_r (vx_r cx 4) mx' rx' col s c = up_r (vy_r cy2 5) my' nw' col (ra_k (vx_t th 4) s) c := by
      intro c hc
      unfold up_r
      have em := (hM s hs').2 hz
      by_cases y : c = col ∧ ¬ mx' s = 0
      · rw [if_pos y, if_pos ⟨y.1, by rw [← em]; exact y.2⟩, hV s hs' y.2]
      · rw [if_neg y, if_neg (fun q => y ⟨q.1, by rw [em]; exact q.2⟩), ← (hR.2.2 s hs' hz).2 c hc]
        have hlt : ra_k (vx_t th 4) s < 40 := Nat.lt_of_lt_of_le (ra_lt hs' hz) hm
        show cy (160 * 0 + 4 * _ + c) = cy2 (160 * 5 + 4 * _ + c)
        rw [Nat.add_assoc, Nat.add_assoc]
        exact (hl.1 _ (by omega)).symm
    unfold xr_T
    rw [q 0 (by omega), q 1 (by omega), q 2 (by omega), q 3 (by omega)]
  refine br_f hn5 (xb_up hb hcol (fun s hs hz => (hR.2.2 s hs hz).1) hf (fun th1 cx1 F H => br_f (by decide) ?_) (fun g th1 cx1 F => br_t rfl ?_))
  · have hg := nx_gd H
    refine xt_take F.2.2 TX8 (fun a b => ?_) (fun a b c op2 => ?_) (fun a b op2 th2 cx2 hc2 => ?_)
    · refine ySide (fun _ _ _ _ _ _ _ _ _ g => absurd hg g) (fun yf' ry' fy' my' nw' cy' cn' b1 b2 b3 _ b4 b5 => ?_)
      exact yt_U (by omega) (by omega) (nx_rt hm b3 H b4 b5) TY8 a b ⟨rfl, rfl, rfl, rfl, rfl, rfl, rfl, F.2.2, fi_tb ht F b1 b2, hs, ho, hT⟩
    · refine ySide (fun _ _ _ _ _ _ _ _ _ g => absurd hg g) (fun yf' ry' fy' my' nw' cy' cn' b1 b2 b3 _ b4 b5 => ?_)
      exact yt_C (by omega) (by omega) (nx_rt hm b3 H b4 b5) TY8 a b c (fun _ _ _ => ⟨rfl, rfl, rfl, rfl, rfl, rfl, rfl, F.2.2, fi_tb ht F b1 b2, hs, ho, hT⟩)
    · refine ySide (fun _ _ _ _ _ _ _ _ _ g => absurd hg g) (fun yf' ry' fy' my' nw' cy' cn' b1 b2 b3 _ b4 b5 => ?_)
      have hR5 := nx_rt hm b3 H b4 b5
      exact yt_O (by omega) (by omega) hR5 TY8 a b (fun _ _ _ cy3 cn3 hl => ⟨rfl, rfl, rfl, rfl, rfl, rfl, rfl, cp_bo hc2 F.2.2, tk_tb (fi_tb ht F b1 b2) hR5 hc2 hl, hs, ho, hT⟩)
  · exact ySide (fun yf' ry' fy' my' nw' cy' cn' b1 b2 _ => ⟨rfl, rfl, rfl, rfl, rfl, rfl, rfl, F.2.2, fi_tb ht F b1 b2, hs, ho, hT⟩) (fun _ _ _ _ _ _ _ _ _ _ g' => absurd g' g)
end
end
section
/-! copy, insert -/
section
variable {xs xu xc : Int32} {th cx sx kd nm ct : Nat → Int32} {op : Nat → Int64} {pa mx rx : Nat → Int32} {yd yu yc yf : Int32} {cy cn sy os ny sz ln py ry fy my nw : Nat → Int32}
theorem xi_put {post : SX → Prop} {s0 : Nat} {a b c : Int32} (hs : s0 < 101)
    (h : ∀ cx', xr_T (vx_r cx' 5) s0 = (nI s0 - 50, a, b, c) → (∀ j, j < (5 * 101 + s0) * 4 ∨ (5 * 101 + s0) * 4 + 4 ≤ j → cx' j = cx j) → post (xs, xu, xc, (upd th (5 * 101 + s0) 1), cx', sx, kd, nm, ct, op, pa, mx, rx)) : wpX_putRow post (xs, xu, xc, th, cx, sx, kd, nm, ct, op, pa, mx, rx) (nI s0 - 50) a b c := by
  unfold wpX_putRow
  dsimp only
  refine xa_slot (p := 5) ?_
  have e0 : nI (5 * 101 + s0) * 4 = nI ((5 * 101 + s0) * 4) := pk_mul _ 4
  have e1 : nI (5 * 101 + s0) * 4 + 1 = nI ((5 * 101 + s0) * 4 + 1) := ab_m4 _ 1
  have e2 : nI (5 * 101 + s0) * 4 + 2 = nI ((5 * 101 + s0) * 4 + 2) := ab_m4 _ 2
  have e3 : nI (5 * 101 + s0) * 4 + 3 = nI ((5 * 101 + s0) * 4 + 3) := ab_m4 _ 3
  refine ⟨vp_in_nI (by omega) (by omega), nm_r (e' := upd th (5 * 101 + s0) 1) (by rw [nI_clamp (by omega)]; rfl) ⟨pk_in ((5 * 101 + s0) * 4) 2424 (by omega) e0, nm_r (e' := upd cx ((5 * 101 + s0) * 4) (nI s0 - 50)) (by rw [e0, nI_clamp (by omega)]) ⟨pk_in ((5 * 101 + s0) * 4 + 1) 2424 (by omega) e1, nm_r (e' := upd (upd cx ((5 * 101 + s0) * 4) (nI s0 - 50)) ((5 * 101 + s0) * 4 + 1) a) (by rw [e1, nI_clamp (by omega)]) ⟨pk_in ((5 * 101 + s0) * 4 + 2) 2424 (by omega) e2, nm_r (e' := upd (upd (upd cx ((5 * 101 + s0) * 4) (nI s0 - 50)) ((5 * 101 + s0) * 4 + 1) a) ((5 * 101 + s0) * 4 + 2) b) (by rw [e2, nI_clamp (by omega)]) ⟨pk_in ((5 * 101 + s0) * 4 + 3) 2424 (by omega) e3, nm_r (e' := upd (upd (upd (upd cx ((5 * 101 + s0) * 4) (nI s0 - 50)) ((5 * 101 + s0) * 4 + 1) a) ((5 * 101 + s0) * 4 + 2) b) ((5 * 101 + s0) * 4 + 3) c) (by rw [e3, nI_clamp (by omega)]) (h _ ?_ (fun j hj => ?_))⟩⟩⟩⟩⟩
  · refine xr_e ?_ ?_ ?_ ?_
    · show upd (upd (upd (upd cx ((5 * 101 + s0) * 4) (nI s0 - 50)) ((5 * 101 + s0) * 4 + 1) a) ((5 * 101 + s0) * 4 + 2) b) ((5 * 101 + s0) * 4 + 3) c ((5 * 101 + s0) * 4) = _
      rw [pk_un (by omega), pk_un (by omega), pk_un (by omega), pk_us]
    · show upd (upd (upd (upd cx ((5 * 101 + s0) * 4) (nI s0 - 50)) ((5 * 101 + s0) * 4 + 1) a) ((5 * 101 + s0) * 4 + 2) b) ((5 * 101 + s0) * 4 + 3) c ((5 * 101 + s0) * 4 + 1) = _
      rw [pk_un (by omega), pk_un (by omega), pk_us]
    · show upd (upd (upd (upd cx ((5 * 101 + s0) * 4) (nI s0 - 50)) ((5 * 101 + s0) * 4 + 1) a) ((5 * 101 + s0) * 4 + 2) b) ((5 * 101 + s0) * 4 + 3) c ((5 * 101 + s0) * 4 + 2) = _
      rw [pk_un (by omega), pk_us]
    · exact pk_us
  · rw [pk_un (by omega), pk_un (by omega), pk_un (by omega), pk_un (by omega)]
end
section
theorem i_vc_copy {k : Nat} {u : SX} {v : SY} (I : i_Rel k u v) (hk : k + 5 ≤ 2560) (v1 : Int32) (v2 : Int32) : wpX_copy (fun r u' => wpY_copy (fun r' v' => r' = r ∧ i_Rel (k + 5) u' v') v v1 v2) u v1 v2 := by
  obtain ⟨xs, xu, xc, th, cx, sx, kd, nm, ct, op, pa, mx, rx⟩ := u
  obtain ⟨yd, yu, yc, yf, cy, cn, sy, os, ny, sz, ln, py, ry, fy, my, nw⟩ := v
  have J := I
  obtain ⟨rfl, rfl, rfl, rfl, rfl, rfl, hb, ht, hs, ho, hT⟩ := I
  have hR := ht.1
  have hm := hR.2.1
  unfold wpX_copy
  dsimp only
  rcases pk_ix v1 (n := 8) (by omega) with hx | hx | ⟨w, hw, rfl⟩
  · exact xa_expN (Or.inl hx) (br_t rfl (by unfold wpY_copy; dsimp only; exact ya_expN (Or.inl hx) (br_t rfl ⟨rfl, J⟩)))
  · exact xa_expN (Or.inr hx) (br_t rfl (by unfold wpY_copy; dsimp only; exact ya_expN (Or.inr hx) (br_t rfl ⟨rfl, J⟩)))
  refine xa_exp hw (br_f (by decide) ?_)
  rcases pk_ix v2 (n := 8) (by omega) with hx | hx | ⟨e, he, rfl⟩
  · exact xa_expN (Or.inl hx) (br_t rfl (by unfold wpY_copy; dsimp only; exact ya_exp hw (br_f (by decide) (ya_expN (Or.inl hx) (br_t rfl ⟨rfl, J⟩)))))
  · exact xa_expN (Or.inr hx) (br_t rfl (by unfold wpY_copy; dsimp only; exact ya_exp hw (br_f (by decide) (ya_expN (Or.inr hx) (br_t rfl ⟨rfl, J⟩)))))
  refine xa_exp he (br_f (by decide) ?_)
  obtain ⟨Kw, Nw, Zw, Lw, TXw, TYw⟩ := te_get (by omega) (hT.1 w hw) ho
  obtain ⟨K, N, Z, L, TX', TY'⟩ := te_get (by omega) (hT.1 e he) ho
  obtain ⟨K8, N8, Z8, L8, TX8, TY8⟩ := te_8 hT.2.1 ho
  refine xs_res TXw TX' (fun hb op' mx' rx' => ?_) (fun op' mx' rx' h1 h2 h3 => ?_)
  · exact br_t rfl (by unfold wpY_copy; dsimp only; exact ya_exp hw (br_f (by decide) (ya_exp he (br_f (by decide) (jo_yF2 TYw TY' ht.1 hb (fun yf' ry' fy' my' nw' => br_t rfl ⟨rfl, J⟩))))))
  have hn5 : ¬ nI (ra_k mx' 101) = -1000000005 := nf_5 (ra_le mx' 101)
  have h101 := ra_le mx' 101
  have es : nI (ra_k (vx_t th 4) 101) + nI (ra_k mx' 101) = nI (ra_k (vx_t th 4) 101 + ra_k mx' 101) := nI_add _ _
  refine br_f hn5 (xc_rows (p := 4) (by omega) ?_)
  dsimp only
  rw [es]
  by_cases hfull : ra_k (vx_t th 4) 101 + ra_k mx' 101 ≤ 40
  case neg =>
    refine br_f (nI_ge (b := _) (a := 40) (by omega) (by omega)) ?_
    unfold wpY_copy
    dsimp only
    refine ya_exp hw (br_f (by decide) (ya_exp he (br_f (by decide) (jo_yS2 TYw TY' ht.1 h1 h2 h3 (fun yf' ry' fy' my' nw' hM hV => br_f hn5 (br_f ?_ ⟨rfl, J⟩))))))
    show ¬ cn 0 + nI (ra_k mx' 101) ≤ 40
    rw [hR.1, es]
    exact nI_ge (b := _) (a := 40) (by omega) (by omega)
  have le40 : nI (ra_k (vx_t th 4) 101 + ra_k mx' 101) ≤ 40 := nI_le (b := 40) hfull (by omega)
  refine br_t le40 ?_
  obtain ⟨f1, hf1⟩ := ra_fun (vx_t th 4) (fun s => xr_T (vx_r cx 4) s) (0, 0, 0, 0) 101
  obtain ⟨f2, hf2⟩ := ra_fun mx' (fun s => ((rx' s, vx_r cx 4 s 1, vx_r cx 4 s 2, vx_r cx 4 s 3) : ro_T)) (0, 0, 0, 0) 101
  have hfx : ∃ f : Nat → ro_T, (∀ j, j < ra_k (vx_t th 4) 101 → f j = f1 j) ∧ (∀ j, f (ra_k (vx_t th 4) 101 + j) = f2 j) := by
    refine ⟨fun j => if j < ra_k (vx_t th 4) 101 then f1 j else f2 (j - ra_k (vx_t th 4) 101), fun j hj => if_pos hj, fun j => ?_⟩
    have : ¬ ra_k (vx_t th 4) 101 + j < ra_k (vx_t th 4) 101 := by omega
    simp only [if_neg this, Nat.add_sub_cancel_left]
  obtain ⟨f, hfa, hfb⟩ := hfx
  have hf0 : ∀ s, s < 101 → ¬ vx_t th 4 s = 0 → f (ra_k (vx_t th 4) s) = xr_T (vx_r cx 4) s := fun s hs hz => by rw [hfa _ (ra_lt hs hz)]; exact hf1 s hs hz
  have hfn : ∀ s, s < 101 → ¬ mx' s = 0 → f (ra_k (vx_t th 4) 101 + ra_k mx' s) = (rx' s, vx_r cx 4 s 1, vx_r cx 4 s 2, vx_r cx 4 s 3) := fun s hs hz => by rw [hfb]; exact hf2 s hs hz
  have hMt : ∀ s, s < 101 → ¬ mx' s = 0 → ¬ vx_t th 4 s = 0 := fun s hs hz z => hz (h2 s hs z)
  -- Y's side, whatever X did
  have ySide : ∀ {post : Int32 → SY → Prop},
      (∀ yf' ry' fy' my' nw' cy' cn', (∀ j, j < 800 → cy' j = cy j) → (∀ t, t < 5 → cn' t = cn t) → ¬ gd_K f (ra_k (vx_t th 4) 101 + ra_k mx' 101) → post (-1000000006) (yd, yu, yc, yf', cy', cn', sy, os, ny, sz, ln, py, ry', fy', my', nw')) →
      (∀ yf' ry' fy' my' nw' cy' cn', (∀ j, j < 800 → cy' j = cy j) → (∀ t, t < 5 → cn' t = cn t) → cn' 5 = nI (ra_k (vx_t th 4) 101 + ra_k mx' 101) → gd_K f (ra_k (vx_t th 4) 101 + ra_k mx' 101) → pm_E f (or_r cy') (ra_k (vx_t th 4) 101 + ra_k mx' 101) → so_R (or_r cy') (ra_k (vx_t th 4) 101 + ra_k mx' 101) → wpY_settle post (yd, yu, yc, yf', cy', cn', sy, os, ny, sz, ln, py, ry', fy', my', nw') (nI 5) (nI (ra_k mx' 101))) →
      wpY_copy post (yd, yu, yc, yf, cy, cn, sy, os, ny, sz, ln, py, ry, fy, my, nw) (nI w) (nI e) := by
    intro post hB hS
    unfold wpY_copy
    dsimp only
    refine ya_exp hw (br_f (by decide) (ya_exp he (br_f (by decide) (jo_yS2 TYw TY' ht.1 h1 h2 h3 (fun yf' ry' fy' my' nw' hM hV => br_f hn5 (br_t ?_ (yc_list (t := 0) (u := 5) (by omega) (by omega) (by omega) (fun cy2 cn2 hl => ⟨ra_k (vx_t th 4) 101 + 1, ?_⟩))))))))
    · show cn 0 + nI (ra_k mx' 101) ≤ 40
      rw [hR.1, es]; exact le40
    have em := jo_ra hM 101 (by omega)
    have k5 : cn2 5 = nI (ra_k (vx_t th 4) 101) := by rw [hl.2.2, pk_us]; exact hR.1
    have kt : ∀ t, t < 5 → cn2 t = cn t := fun t ht => by rw [hl.2.2, pk_un (by omega)]
    have ky : ∀ j, j < 800 → cy2 j = cy j := fun j hj => hl.2.1 j (by omega)
    have k0 : ∀ j, j < 40 → ∀ c, c < 4 → vy_r cy2 5 j c = vy_r cy 0 j c := by
      intro j hj c hc
      show cy2 (160 * 5 + 4 * j + c) = cy (160 * 0 + 4 * j + c)
      rw [Nat.add_assoc, Nat.add_assoc]
      exact hl.1 _ (by omega)
    have k00 : ∀ j, j < 40 → ∀ c, c < 4 → vy_r cy2 0 j c = vy_r cy 0 j c := fun j hj c hc => ky _ (by omega)
    rw [em] at hB hS hfull
    have hrow : ∀ j, j < ra_k (vx_t th 4) 101 → f j = or_r cy2 j := by
      intro j hj
      obtain ⟨s, hs', hz, rfl⟩ := ra_inv hj
      have a := (hR.2.2 s hs' hz).2
      have hlt : ra_k (vx_t th 4) s < 40 := by omega
      rw [hf0 s hs' hz, or_v, k0 _ hlt 0 (by omega), k0 _ hlt 1 (by omega), k0 _ hlt 2 (by omega), k0 _ hlt 3 (by omega), a 0 (by omega), a 1 (by omega), a 2 (by omega), a 3 (by omega)]
      rfl
    rw [em]
    refine yb_cp_l (f := f) (m := ra_k (vx_t th 4) 101) (by rw [kt 0 (by omega)]; exact hR.1) hfull hrow (fun r hr hz => ?_) (fun g cy' cn' b1 b2 => hB _ _ _ _ _ _ _ (fun j hj => by rw [b1 j hj, ky j hj]) (fun t ht => by rw [b2 t ht, kt t ht]) g) (fun g cy' cn' b1 b2 b3 b4 b5 => hS _ _ _ _ _ _ _ (fun j hj => by rw [b1 j hj, ky j hj]) (fun t ht => by rw [b2 t ht, kt t ht]) b3 g b4 b5) (ra_k (vx_t th 4) 101) 0 _ cy2 cn2 (by omega) (by omega) (fun _ _ => rfl) (fun _ _ => rfl) ?_ (fun j hj => ?_)
    · obtain ⟨s, hs', hz', rfl⟩ := ra_inv hr
      have hmx : ¬ mx' s = 0 := by rw [(hM s hs').2 hz']; exact hz
      have a := (hR.2.2 s hs' hz').2
      have hlt : ra_k (vx_t th 4) s < 40 := by omega
      show f (ra_k (vx_t th 4) 101 + ra_k my' (ra_k (vx_t th 4) s)) = (nw' _, vy_r cy2 0 _ 1, vy_r cy2 0 _ 2, vy_r cy2 0 _ 3)
      rw [← jo_ra hM s (by omega), hfn s hs' hmx, hV s hs' hmx, k00 _ hlt 1 (by omega), k00 _ hlt 2 (by omega), k00 _ hlt 3 (by omega), a 1 (by omega), a 2 (by omega), a 3 (by omega)]
    · show cn2 5 = nI (ra_k (vx_t th 4) 101 + ra_k my' 0)
      exact k5
    · exact (hrow j hj).symm
  refine xb_cp hb (fun s hs hz => (hR.2.2 s hs hz).1) hMt hf0 hfn (fun th1 cx1 F H => br_f (by decide) ?_) (fun g th1 cx1 F => br_t rfl ?_)
  · have hg := nx_gd H
    refine xt_take F.2.2 TX8 (fun a b => ?_) (fun a b c op2 => ?_) (fun a b op2 th2 cx2 hc2 => ?_)
    · refine ySide (fun _ _ _ _ _ _ _ _ _ g => absurd hg g) (fun yf' ry' fy' my' nw' cy' cn' b1 b2 b3 _ b4 b5 => ?_)
      exact yt_U (by omega) (by omega) (nx_rt hfull b3 H b4 b5) TY8 a b ⟨rfl, rfl, rfl, rfl, rfl, rfl, rfl, F.2.2, fi_tb ht F b1 b2, hs, ho, hT⟩
    · refine ySide (fun _ _ _ _ _ _ _ _ _ g => absurd hg g) (fun yf' ry' fy' my' nw' cy' cn' b1 b2 b3 _ b4 b5 => ?_)
      exact yt_C (by omega) (by omega) (nx_rt hfull b3 H b4 b5) TY8 a b c (fun _ _ _ => ⟨rfl, rfl, rfl, rfl, rfl, rfl, rfl, F.2.2, fi_tb ht F b1 b2, hs, ho, hT⟩)
    · refine ySide (fun _ _ _ _ _ _ _ _ _ g => absurd hg g) (fun yf' ry' fy' my' nw' cy' cn' b1 b2 b3 _ b4 b5 => ?_)
      have hR5 := nx_rt hfull b3 H b4 b5
      exact yt_O (by omega) (by omega) hR5 TY8 a b (fun _ _ _ cy3 cn3 hl => ⟨rfl, rfl, rfl, rfl, rfl, rfl, rfl, cp_bo hc2 F.2.2, tk_tb (fi_tb ht F b1 b2) hR5 hc2 hl, hs, ho, hT⟩)
  · exact ySide (fun yf' ry' fy' my' nw' cy' cn' b1 b2 _ => ⟨rfl, rfl, rfl, rfl, rfl, rfl, rfl, F.2.2, fi_tb ht F b1 b2, hs, ho, hT⟩) (fun _ _ _ _ _ _ _ _ _ _ g' => absurd g' g)
end
end
section
/-! insert -/
section
theorem i_vc_insert {k : Nat} {u : SX} {v : SY} (I : i_Rel k u v) (hk : k + 5 ≤ 2560) (v1 : Int32) (v2 : Int32) (v3 : Int32) (v4 : Int32) : wpX_insert (fun r u' => wpY_insert (fun r' v' => r' = r ∧ i_Rel (k + 5) u' v') v v1 v2 v3 v4) u v1 v2 v3 v4 := by
  obtain ⟨xs, xu, xc, th, cx, sx, kd, nm, ct, op, pa, mx, rx⟩ := u
  obtain ⟨yd, yu, yc, yf, cy, cn, sy, os, ny, sz, ln, py, ry, fy, my, nw⟩ := v
  have J := I
  obtain ⟨rfl, rfl, rfl, rfl, rfl, rfl, hb, ht, hs, ho, hT⟩ := I
  have hR := ht.1
  have hm := hR.2.1
  unfold wpX_insert
  dsimp only
  rcases ab_slot v1 with hx | hx | ⟨s0, hs0, rfl⟩
  · exact xa_freeN (Or.inl hx) (br_t rfl (br_t hx ⟨rfl, J⟩))
  · have n1 : ¬ v1 < -50 := by
      have := Int32.lt_iff_toInt_lt.mp hx
      rw [show (50 : Int32).toInt = 50 from by decide] at this
      intro q
      have q' := Int32.lt_iff_toInt_lt.mp q
      rw [show (-50 : Int32).toInt = -50 from by decide] at q'
      omega
    exact xa_freeN (Or.inr hx) (br_t rfl (br_f n1 (br_t hx ⟨rfl, J⟩)))
  refine xa_free (p := 4) (by omega) hs0 (fun z => br_f (by decide) ?_) (fun z => br_t rfl ?_)
  rotate_left
  · refine br_f (ab_k1 hs0) (br_f (ab_k2 hs0) (yf_find (t := 0) (by omega) hR (fun s hs' hz e => ?_) (fun hno => absurd rfl (hno s0 hs0 z))))
    exact br_f (nI_pos (by have := ra_le (vx_t th 4) s; omega)) ⟨rfl, J⟩
  -- Y up to the tests
  have yHead : ∀ {post : Int32 → SY → Prop}, ((cn 0 = 40 → post (-1000000002) (yd, yu, yc, yf, cy, cn, sy, os, ny, sz, ln, py, ry, fy, my, nw)) ∧ (¬ cn 0 = 40 → wpY_copyList (fun u => match u with | (yd, yu, yc, yf, cy, cn, sy, os, ny, sz, ln, py, ry, fy, my, nw) => wpY_addRow (fun u => match u with | (yd, yu, yc, yf, cy, cn, sy, os, ny, sz, ln, py, ry, fy, my, nw) => wpY_order (fun _ u => match u with | (yd, yu, yc, yf, cy, cn, sy, os, ny, sz, ln, py, ry, fy, my, nw) => wpY_settle (fun r_73 u => match u with | (yd, yu, yc, yf, cy, cn, sy, os, ny, sz, ln, py, ry, fy, my, nw) => post r_73 (yd, yu, yc, yf, cy, cn, sy, os, ny, sz, ln, py, ry, fy, my, nw)) (yd, yu, yc, yf, cy, cn, sy, os, ny, sz, ln, py, ry, fy, my, nw) 5 (cn 0 + 1)) (yd, yu, yc, yf, cy, cn, sy, os, ny, sz, ln, py, ry, fy, my, nw)) (yd, yu, yc, yf, cy, cn, sy, os, ny, sz, ln, py, ry, fy, my, nw) (nI s0 - 50) v2 v3 v4) (yd, yu, yc, yf, cy, cn, sy, os, ny, sz, ln, py, ry, fy, my, nw) 0 5)) → wpY_insert post (yd, yu, yc, yf, cy, cn, sy, os, ny, sz, ln, py, ry, fy, my, nw) (nI s0 - 50) v2 v3 v4 := by
    intro post hq
    refine br_f (ab_k1 hs0) (br_f (ab_k2 hs0) (yf_find (t := 0) (by omega) hR (fun s hs' hz e => ?_) (fun hno => br_t (by decide) hq)))
    have := ab_keyI hs0 hs' e
    subst this
    exact absurd z hz
  refine xc_rows (p := 4) (by omega) ?_
  by_cases hfull : ra_k (vx_t th 4) 101 < 40
  case neg =>
    have e40 : ra_k (vx_t th 4) 101 = 40 := by omega
    refine br_f (nI_nlt (b := 40) (by omega) (by omega)) (yHead (br_t ?_ ⟨rfl, J⟩))
    rw [hR.1, e40]; rfl
  refine br_t (nI_lt (b := 40) hfull (by omega)) ?_
  have n40 : ¬ cn 0 = 40 := by
    rw [hR.1]
    intro q
    have := (nI_eq (b := 40) (by omega) (by omega)).mp q
    omega
  obtain ⟨K8, N8, Z8, L8, TX8, TY8⟩ := te_8 hT.2.1 ho
  obtain ⟨f1, hf1⟩ := ra_fun (vx_t th 4) (fun s => xr_T (vx_r cx 4) s) (0, 0, 0, 0) 101
  have hfx : ∃ f : Nat → ro_T, (∀ j, j < ra_k (vx_t th 4) 101 → f j = f1 j) ∧ f (ra_k (vx_t th 4) 101) = (nI s0 - 50, v2, v3, v4) := by
    refine ⟨fun j => if j < ra_k (vx_t th 4) 101 then f1 j else (nI s0 - 50, v2, v3, v4), fun j hj => if_pos hj, ?_⟩
    exact if_neg (Nat.lt_irrefl _)
  obtain ⟨f, hfa, hfb⟩ := hfx
  have hf0 : ∀ s, s < 101 → ¬ vx_t th 4 s = 0 → f (ra_k (vx_t th 4) s) = xr_T (vx_r cx 4) s := fun s hs hz => by rw [hfa _ (ra_lt hs hz)]; exact hf1 s hs hz
  refine xc_tab (p := 4) (q := 5) (by omega) (by omega) (by omega) hb (fun th1 cx1 hc => xi_put hs0 (fun cx2 p1 p2 => ?_))
  have H0 : nx_H (vx_t th1 5) (vx_r cx1 5) f (ra_k (vx_t th 4) 101) := nx_base (fun s hs hz => (hR.2.2 s hs hz).1) (fun s hs => hc.1 s hs) (fun s hs c hc' => hc.2.2.1 s hs c hc') hf0
  have z5 : vx_t th1 5 s0 = 0 := (hc.1 s0 hs0).trans z
  have H : nx_H (vx_t (upd th1 (5 * 101 + s0) 1) 5) (vx_r cx2 5) f (ra_k (vx_t th 4) 101 + 1) := by
    refine nx_s H0 hs0 z5 (by rw [hfb]) (fun s hs hne => pk_un (by omega)) (by show ¬ upd th1 _ 1 _ = 0; rw [pk_us]; decide) (fun s hs hne c hc => p2 _ (by omega)) (by rw [hfb]; exact p1)
  have F : fr_X th cx (upd th1 (5 * 101 + s0) 1) cx2 := ⟨fun j hj => by rw [pk_un (by omega)]; exact hc.2.1 j (by omega), fun j hj => by rw [p2 j (by omega)]; exact hc.2.2.2 j (by omega), bo_u (cp_bo hc hb) (Or.inr rfl)⟩
  have hg := nx_gd H
  have hm1 : ra_k (vx_t th 4) 101 + 1 ≤ 40 := hfull
  have e1 : nI (ra_k (vx_t th 4) 101) + 1 = nI (ra_k (vx_t th 4) 101 + 1) := nI_1 _
  have ySide : ∀ {post : Int32 → SY → Prop},
      (∀ cy' cn', (∀ j, j < 800 → cy' j = cy j) → (∀ t, t < 5 → cn' t = cn t) → cn' 5 = nI (ra_k (vx_t th 4) 101 + 1) → pm_E f (or_r cy') (ra_k (vx_t th 4) 101 + 1) → so_R (or_r cy') (ra_k (vx_t th 4) 101 + 1) → wpY_settle post (yd, yu, yc, yf, cy', cn', sy, os, ny, sz, ln, py, ry, fy, my, nw) (nI 5) (nI (ra_k (vx_t th 4) 101) + 1)) →
      wpY_insert post (yd, yu, yc, yf, cy, cn, sy, os, ny, sz, ln, py, ry, fy, my, nw) (nI s0 - 50) v2 v3 v4 := by
    intro post hS
    refine yHead (br_f n40 (yc_list (t := 0) (u := 5) (by omega) (by omega) (by omega) (fun cy2 cn2 hl => ?_)))
    have k5 : cn2 5 = nI (ra_k (vx_t th 4) 101) := by rw [hl.2.2, pk_us]; exact hR.1
    have kt : ∀ t, t < 5 → cn2 t = cn t := fun t ht => by rw [hl.2.2, pk_un (by omega)]
    have ky : ∀ j, j < 800 → cy2 j = cy j := fun j hj => hl.2.1 j (by omega)
    refine yb_add (r := ra_k (vx_t th 4) 101) hfull k5 (fun cy3 q1 q2 => ?_)
    have hrow : ∀ j, j < ra_k (vx_t th 4) 101 + 1 → or_r cy3 j = f j := by
      intro j hj
      by_cases ej : j = ra_k (vx_t th 4) 101
      · subst ej; rw [q1, hfb]
      · obtain ⟨s, hs', hz, rfl⟩ := ra_inv (t := vx_t th 4) (r := j) (n := 101) (by omega)
        have a := (hR.2.2 s hs' hz).2
        have k0 : ∀ c, c < 4 → vy_r cy3 5 (ra_k (vx_t th 4) s) c = vx_r cx 4 s c := by
          intro c hc'
          rw [← a c hc']
          show cy3 (160 * 5 + 4 * _ + c) = cy (160 * 0 + 4 * _ + c)
          rw [q2 _ (by omega), Nat.add_assoc, Nat.add_assoc]
          exact hl.1 _ (by omega)
        rw [hf0 s hs' hz, or_v, k0 0 (by omega), k0 1 (by omega), k0 2 (by omega), k0 3 (by omega)]
        rfl
    refine yo_order hm1 pk_us (fun g cy4 b1 b2 b3 => ?_) (fun g => absurd (gd_cg (fun j hj => (hrow j hj).symm) hg) g)
    have h := hS cy4 (upd cn2 5 (nI (ra_k (vx_t th 4) 101 + 1))) (fun j hj => by rw [b1 j hj, q2 j (by omega), ky j hj]) (fun t ht => by rw [pk_un (by omega), kt t ht]) pk_us (fun P => by rw [b2 P]; exact cp_cg hrow) b3
    have e0 : upd cn2 5 (nI (ra_k (vx_t th 4) 101 + 1)) 0 = nI (ra_k (vx_t th 4) 101) := by rw [pk_un (by omega), kt 0 (by omega)]; exact hR.1
    show wpY_settle _ _ 5 (upd cn2 5 (nI (ra_k (vx_t th 4) 101 + 1)) 0 + 1)
    rw [e0]
    exact h
  refine xt_take F.2.2 TX8 (fun a b => ?_) (fun a b c op2 => ?_) (fun a b op2 th2 cx3 hc2 => ?_)
  · refine ySide (fun cy' cn' b1 b2 b3 b4 b5 => ?_)
    exact yt_U (by omega) (by omega) (nx_rt hm1 b3 H b4 b5) TY8 a b ⟨rfl, rfl, rfl, rfl, rfl, rfl, rfl, F.2.2, fi_tb ht F b1 b2, hs, ho, hT⟩
  · refine ySide (fun cy' cn' b1 b2 b3 b4 b5 => ?_)
    exact yt_C (by omega) (by omega) (nx_rt hm1 b3 H b4 b5) TY8 a b c (fun _ _ _ => ⟨rfl, rfl, rfl, rfl, rfl, rfl, rfl, F.2.2, fi_tb ht F b1 b2, hs, ho, hT⟩)
  · refine ySide (fun cy' cn' b1 b2 b3 b4 b5 => ?_)
    have hR5 := nx_rt hm1 b3 H b4 b5
    exact yt_O (by omega) (by omega) hR5 TY8 a b (fun _ _ _ cy3 cn3 hl => ⟨rfl, rfl, rfl, rfl, rfl, rfl, rfl, cp_bo hc2 F.2.2, tk_tb (fi_tb ht F b1 b2) hR5 hc2 hl, hs, ho, hT⟩)
end
end
section
/-! building terms -/
section
variable {xs xu xc : Int32} {th cx sx kd nm ct : Nat → Int32} {op : Nat → Int64} {pa mx rx : Nat → Int32} {yd yu yc yf : Int32} {cy cn sy os ny sz ln py ry fy my nw : Nat → Int32}
theorem tm_pcg {K K' : Nat → Int32} {L : Nat} (h : ∀ i, i < L → K' i = K i) : ∀ i, i ≤ L → tm_ps K' i = tm_ps K i := by
  intro i
  induction i with
  | zero => intro _; rfl
  | succ i ih =>
    intro hi
    show (i + 1) :: (tm_ps K' i).drop (tm_ar (K' i)) = (i + 1) :: (tm_ps K i).drop (tm_ar (K i))
    rw [ih (by omega), h i (by omega)]
theorem tm_Wcg {K K' N N' Z Z' : Nat → Int32} {L : Nat} (hK : ∀ i, i < L → K' i = K i) (hN : ∀ i, i < L → N' i = N i) (hZ : ∀ i, i < L → Z' i = Z i) (h : tm_W K N Z L) : tm_W K' N' Z' L := by
  refine ⟨h.1, fun i hi => ?_⟩
  rw [hK i hi, hN i hi, hZ i hi, tm_pcg hK i (by omega), tm_pcg hK (i + 1) (by omega)]
  exact h.2 i hi
theorem te_mv {kd' nm' sz' ct' : Nat → Int32} {e e' : Nat} (h : te_ok kd nm sz ct e) (hk : ∀ i, i < 24 → kd' (e' * 24 + i) = kd (e * 24 + i)) (hn : ∀ i, i < 24 → nm' (e' * 24 + i) = nm (e * 24 + i))
    (hz : ∀ i, i < 24 → sz' (e' * 24 + i) = sz (e * 24 + i)) (hc : ct' e' = ct e) : te_ok kd' nm' sz' ct' e' := by
  obtain ⟨L, a, b, c, d⟩ := h
  have hL := c.1
  refine ⟨L, a, by rw [hc]; exact b, tm_Wcg (fun i hi => hk i (by omega)) (fun i hi => hn i (by omega)) (fun i hi => hz i (by omega)) c, ?_⟩
  rw [tm_pcg (K := fun i => kd (e * 24 + i)) (fun i hi => hk i (by omega)) L (Nat.le_refl _)]
  exact d
theorem xa_add {post : Int32 → SX → Prop} {L d t : Nat} {kind num : Int32} (hL : L < 24) (hc : ct 9 = nI L) (hd : xs = nI d) (htd : t ≤ d) (hd8 : d ≤ 8)
    (h : post (nI (d - t + 1)) ((nI (d - t + 1)), xu, xc, th, cx, sx, (upd kd (216 + L) kind), (upd nm (216 + L) num), (upd ct 9 (nI (L + 1))), op, pa, mx, rx)) : wpX_addPart post (xs, xu, xc, th, cx, sx, kd, nm, ct, op, pa, mx, rx) kind num (nI t) := by
  have e0 : 216 + ct 9 = nI (216 + L) := by rw [hc]; exact nI_add 216 L
  refine nm_r e0 ⟨vp_in_nI (by omega) (by omega), nm_r (e' := upd kd (216 + L) kind) (by rw [nI_clamp (by omega)]) ⟨vp_in_nI (by omega) (by omega), nm_r (e' := upd nm (216 + L) num) (by rw [nI_clamp (by omega)]) (nm_r (e' := upd ct 9 (nI (L + 1))) (by rw [hc, nI_1]) (nm_r (e' := nI (d - t + 1)) (by rw [hd, pk_sub htd, nI_1]) h))⟩⟩
theorem ya_sz_l {post : Int32 → SY → Prop} {L t : Nat} {opc num : Int32} {K N : Nat → Int32} (hL : L < 24) (hW : tm_W K N (fun i => sz (9 * 24 + i)) L) (ht : t ≤ (tm_ps K L).length)
    (h : ∀ n, wY_append_19 post opc num (nI t) (nI (216 + L)) yd yu yc yf cy cn sy os ny sz ln py ry fy my nw (n + 1) (nI (L + 1 - ((tm_ps K L).drop t).headD 0)) (nI t)) :
    ∀ dd i n, i + dd = t → dd < n → wY_append_19 post opc num (nI t) (nI (216 + L)) yd yu yc yf cy cn sy os ny sz ln py ry fy my nw n (nI (L + 1 - ((tm_ps K L).drop i).headD 0)) (nI i) := by
  have h8 := tm_W8 hW L (Nat.le_refl _)
  intro dd
  induction dd with
  | zero =>
    intro i n hi hn
    obtain ⟨n, rfl⟩ : ∃ m, n = m + 1 := ⟨n - 1, by omega⟩
    obtain rfl : i = t := by omega
    exact h n
  | succ dd ih =>
    intro i n hi hn
    obtain ⟨n, rfl⟩ : ∃ m, n = m + 1 := ⟨n - 1, by omega⟩
    have hd : ∃ q S, (tm_ps K L).drop i = q :: S := by
      match hh : (tm_ps K L).drop i with
      | q :: S => exact ⟨q, S, rfl⟩
      | [] =>
        have := congrArg List.length hh
        rw [List.length_drop] at this
        simp at this
        omega
    obtain ⟨q, S, hqS⟩ := hd
    have hdS : (tm_ps K L).drop (i + 1) = S := by
      rw [← List.drop_drop, hqS]; rfl
    have eq1 : tm_ps K L = (tm_ps K L).take i ++ q :: S := by rw [← hqS]; exact (List.take_append_drop i _).symm
    have hq := tm_mem (K := K) (i := L) (q := q) (by rw [eq1]; simp)
    have hps : tm_ps K q = q :: S := tm_suf eq1
    have ez : sz (9 * 24 + (q - 1)) = nI (q - S.headD 0) := tm_sz hW hq.1 hq.2 hps
    have hS : S.headD 0 ≤ q := by
      cases hSS : S with
      | nil => exact Nat.zero_le _
      | cons y S' => have := tm_mem (K := K) (i := q) (q := y) (by rw [hps, hSS]; simp); exact this.2
    have nxt := ih (i + 1) n (by omega) (by omega)
    rw [hdS] at nxt
    rw [hqS]
    have e1 : nI (216 + L) - nI (L + 1 - (q :: S).headD 0) = nI (9 * 24 + (q - 1)) := by
      show nI (216 + L) - nI (L + 1 - q) = _
      rw [pk_sub (by omega)]
      exact congrArg nI (by omega)
    refine br_f (nI_ge (by omega) (by omega)) ⟨?_, nm_r (e' := nI (L + 1 - S.headD 0)) ?_ (nm_r (nI_1 i) nxt)⟩
    · rw [e1]; exact vp_in_nI (by omega) (by omega)
    · rw [e1, nI_clamp (by omega), ez, nI_add]
      refine congrArg nI ?_
      show L + 1 - q + (q - S.headD 0) = _
      omega
theorem ya_add {post : Int32 → SY → Prop} {L d t : Nat} {opc num : Int32} {K N : Nat → Int32} (hL : L < 24) (hc : ln 9 = nI L) (hW : tm_W K N (fun i => sz (9 * 24 + i)) L) (hl : (tm_ps K L).length = d) (hd : yd = nI d) (htd : t ≤ d) (hd8 : d ≤ 8)
    (h : post (nI (d - t + 1)) ((nI (d - t + 1)), yu, yc, yf, cy, cn, sy, (upd os (216 + L) opc), (upd ny (216 + L) num), (upd sz (216 + L) (nI (L + 1 - ((tm_ps K L).drop t).headD 0))), (upd ln 9 (nI (L + 1))), py, ry, fy, my, nw)) : wpY_append post (yd, yu, yc, yf, cy, cn, sy, os, ny, sz, ln, py, ry, fy, my, nw) opc num (nI t) := by
  have e0 : 216 + ln 9 = nI (216 + L) := by rw [hc]; exact nI_add 216 L
  have s0 : (1 : Int32) = nI (L + 1 - ((tm_ps K L).drop 0).headD 0) := by
    rw [List.drop_zero]
    match L with
    | 0 => rfl
    | L + 1 =>
      show (1 : Int32) = nI (L + 1 + 1 - (L + 1))
      rw [show L + 1 + 1 - (L + 1) = 1 from by omega]; rfl
  refine nm_r e0 ⟨t + 1, ?_⟩
  have vp : vp_in (nI (216 + L)) 240 := vp_in_nI (by omega) (by omega)
  have cp : (nI (216 + L)).toNatClampNeg = 216 + L := nI_clamp (by omega)
  have go := ya_sz_l (post := post) (opc := opc) (num := num) (yd := yd) (yu := yu) (yc := yc) (yf := yf) (cy := cy) (cn := cn) (sy := sy) (os := os) (ny := ny) (sz := sz) (ln := ln) (py := py) (ry := ry) (fy := fy) (my := my) (nw := nw) (t := t) hL hW (by omega) (fun n => ?_) t 0 (t + 1) (by omega) (by omega)
  · rw [← s0] at go; exact go
  · refine br_t (Int32.le_refl _) ⟨vp, nm_r (e' := upd os (216 + L) opc) (by rw [cp]) ⟨vp, nm_r (e' := upd ny (216 + L) num) (by rw [cp]) ⟨vp, nm_r (e' := upd sz (216 + L) (nI (L + 1 - ((tm_ps K L).drop t).headD 0))) (by rw [cp]) (nm_r (e' := upd ln 9 (nI (L + 1))) (by rw [hc, nI_1]) (nm_r (e' := nI (d - t + 1)) ?_ h))⟩⟩⟩
    rw [hd, nI_1, pk_sub (by omega)]
    exact congrArg nI (by omega)
theorem te_push {L d t : Nat} {kind num z : Int32} (hA : te_A kd nm sz ct xs xc) (hL : L < 24) (hc : ct 9 = nI L) (hd : (tm_ps (fun i => kd (9 * 24 + i)) L).length = d) (ht : tm_ar kind = t) (htd : t ≤ d) (hd8 : d - t + 1 ≤ 8) (k0 : 0 ≤ kind) (k15 : kind ≤ 15)
    (h1 : kind = 1 → ∃ c, c < 4 ∧ num = nI c) (h2 : kind = 2 → ∃ c, c < 3 ∧ num = nI c) (hz : z = nI (L + 1 - ((tm_ps (fun i => kd (9 * 24 + i)) L).drop t).headD 0)) :
    te_A (upd kd (216 + L) kind) (upd nm (216 + L) num) (upd sz (216 + L) z) (upd ct 9 (nI (L + 1))) (nI (d - t + 1)) xc := by
  have low : ∀ e, e ≤ 8 → te_ok kd nm sz ct e → te_ok (upd kd (216 + L) kind) (upd nm (216 + L) num) (upd sz (216 + L) z) (upd ct 9 (nI (L + 1))) e :=
    fun e he h => te_mv h (fun i hi => pk_un (by omega)) (fun i hi => pk_un (by omega)) (fun i hi => pk_un (by omega)) (pk_un (by omega))
  refine ⟨fun e he => low e (by omega) (hA.1 e he), fun q => low 8 (by omega) (hA.2.1 q), L + 1, pk_us, ?_⟩
  obtain ⟨L', c', hW, _⟩ := hA.2.2
  have hL' := hW.1
  have : L' = L := (nI_eq (by omega) (by omega)).mp (by rw [← c', hc])
  subst this
  have ps : ∀ i, i ≤ L' → tm_ps (fun i => upd kd (216 + L') kind (9 * 24 + i)) i = tm_ps (fun i => kd (9 * 24 + i)) i := tm_pcg (fun i hi => pk_un (by omega))
  have eK : upd kd (216 + L') kind (9 * 24 + L') = kind := pk_us
  have eN : upd nm (216 + L') num (9 * 24 + L') = num := pk_us
  have eZ : upd sz (216 + L') z (9 * 24 + L') = z := pk_us
  have ps1 : tm_ps (fun i => upd kd (216 + L') kind (9 * 24 + i)) (L' + 1) = (L' + 1) :: (tm_ps (fun i => kd (9 * 24 + i)) L').drop t := by
    show (L' + 1) :: (tm_ps (fun i => upd kd (216 + L') kind (9 * 24 + i)) L').drop (tm_ar (upd kd (216 + L') kind (9 * 24 + L'))) = _
    rw [ps L' (Nat.le_refl _), eK, ht]
  have len1 : (tm_ps (fun i => upd kd (216 + L') kind (9 * 24 + i)) (L' + 1)).length = d - t + 1 := by
    rw [ps1, List.length_cons, List.length_drop, hd]
  refine ⟨⟨by omega, fun i hi => ?_⟩, by rw [len1]⟩
  by_cases e : i = L'
  · subst e
    refine ⟨⟨by dsimp only; rw [eK]; exact k0, by dsimp only; rw [eK]; exact k15⟩, ?_, by rw [len1]; exact hd8, ?_, ?_, ?_⟩
    · dsimp only
      rw [eK, ht, ps i (Nat.le_refl _), hd]; exact htd
    · dsimp only; rw [eK, eN]; exact h1
    · dsimp only; rw [eK, eN]; exact h2
    · dsimp only; rw [eK, eZ, ps i (Nat.le_refl _), ht]; exact hz
  · have hW' := tm_Wcg (K' := fun i => upd kd (216 + L') kind (9 * 24 + i)) (N' := fun i => upd nm (216 + L') num (9 * 24 + i)) (Z' := fun i => upd sz (216 + L') z (9 * 24 + i)) (fun i hi => pk_un (by omega)) (fun i hi => pk_un (by omega)) (fun i hi => pk_un (by omega)) hW
    exact hW'.2 i (by omega)
end
end
section
/-! leaf, one, two, choose, scrap -/
section
variable {xs xu xc : Int32} {th cx sx kd nm ct : Nat → Int32} {op : Nat → Int64} {pa mx rx : Nat → Int32} {yd yu yc yf : Int32} {cy cn sy os ny sz ln py ry fy my nw : Nat → Int32}
/-- X's addPart and Y's append, from related states -/
theorem jo_add {k : Nat} {L d t : Nat} {kind num opc : Int32} (hb : bo_A th) (htb : tb_A th cx cn cy) (hs : ∀ s, s < 4 → sy (s + 1) = sx s) (ho : ∀ j, os j = tm_yk (kd j)) (hA : te_A kd nm sz ct xs xc)
    (hL : L < 24) (hc : ct 9 = nI L) (hd : (tm_ps (fun i => kd (9 * 24 + i)) L).length = d) (hx : xs = nI d) (ht : tm_ar kind = t) (htd : t ≤ d) (hd8 : d ≤ 8) (hd9 : d - t + 1 ≤ 8) (k0 : 0 ≤ kind) (k15 : kind ≤ 15)
    (h1 : kind = 1 → ∃ c, c < 4 ∧ num = nI c) (h2 : kind = 2 → ∃ c, c < 3 ∧ num = nI c) (hop : opc = tm_yk kind) {yf : Int32} {P : (Int32 → SY → Prop) → Prop}
    (hP : ∀ post : Int32 → SY → Prop, wpY_append post (xs, xu, xc, yf, cy, cn, sy, os, nm, sz, ct, pa, ry, fy, my, nw) opc num (nI t) → P post) :
    wpX_addPart (fun r u' => P (fun r' v' => r' = r ∧ i_Rel (k + 5) u' v')) (xs, xu, xc, th, cx, sx, kd, nm, ct, op, pa, mx, rx) kind num (nI t) := by
  obtain ⟨L', c', hW, _⟩ := hA.2.2
  have hL' := hW.1
  have : L' = L := (nI_eq (by omega) (by omega)).mp (by rw [← c', hc])
  subst this
  refine xa_add hL hc hx htd hd8 (hP _ (ya_add hL hc hW hd hx htd hd8 ⟨rfl, rfl, rfl, rfl, rfl, rfl, rfl, hb, htb, hs, fun j => ?_, ?_⟩))
  · show upd os (216 + L') opc j = tm_yk (upd kd (216 + L') kind j)
    by_cases e : j = 216 + L'
    · subst e; rw [pk_us, pk_us]; exact hop
    · rw [pk_un e, pk_un e]; exact ho j
  · exact te_push hA hL hc hd ht htd hd9 k0 k15 h1 h2 rfl
/-- X's combine and Y's make -/
theorem jo_mk {k : Nat} {t : Nat} {kind opc : Int32} (hb : bo_A th) (htb : tb_A th cx cn cy) (hs : ∀ s, s < 4 → sy (s + 1) = sx s) (ho : ∀ j, os j = tm_yk (kd j)) (hA : te_A kd nm sz ct xs xc)
    (ht : tm_ar kind = t) (ht1 : 1 ≤ t) (k0 : 0 ≤ kind) (k15 : kind ≤ 15) (h1 : ¬ kind = 1) (h2 : ¬ kind = 2) (hop : opc = tm_yk kind) (ht3 : t ≤ 3) {yf : Int32} {P : (Int32 → SY → Prop) → Prop}
    (hP : ∀ post : Int32 → SY → Prop, wpY_make post (xs, xu, xc, yf, cy, cn, sy, os, nm, sz, ct, pa, ry, fy, my, nw) opc (nI t) → P post) :
    wpX_combine (fun r u' => P (fun r' v' => r' = r ∧ i_Rel (k + 5) u' v')) (xs, xu, xc, th, cx, sx, kd, nm, ct, op, pa, mx, rx) kind (nI t) := by
  have hA' := hA
  obtain ⟨L, c', hW, hx⟩ := hA.2.2
  have hL := hW.1
  have h8 := tm_W8 hW L (Nat.le_refl _)
  have J : re_R xs xu xc th cx sx kd nm ct pa xs xu xc cy cn sy os nm sz ct pa := ⟨rfl, rfl, rfl, rfl, rfl, rfl, hb, htb, hs, ho, hA⟩
  by_cases e : L = 24
  · subst e
    exact br_f (by rw [c']; decide) (hP _ (br_t c' ⟨rfl, J⟩))
  · have n24 : ¬ ct 9 = 24 := by
      rw [c']
      intro q
      exact e ((nI_eq (b := 24) (by omega) (by omega)).mp q)
    refine br_t (by rw [c']; exact nI_lt (b := 24) (by omega) (by omega)) ?_
    by_cases q : t ≤ (tm_ps (fun i => kd (9 * 24 + i)) L).length
    · have hle : nI t ≤ xs := by rw [hx]; exact nI_le q (by omega)
      refine br_t hle ?_
      exact jo_add hb htb hs ho hA (by omega) c' rfl hx ht q h8 (by omega) k0 k15 (fun z => absurd z h1) (fun z => absurd z h2) hop (fun post hp => hP post (br_f n24 (br_t hle hp)))
    · have hle : ¬ nI t ≤ xs := by rw [hx]; exact nI_ge (by omega) (by omega)
      exact br_f hle (hP _ (br_f n24 (br_f hle ⟨rfl, J⟩)))
def lf_ok (p0 p1 : Int32) : Prop := (p0 = 0 ∧ ¬ p1 < -99 ∧ ¬ 99 < p1) ∨ (p0 = 1 ∧ ¬ p1 < 0 ∧ ¬ 4 ≤ p1) ∨ (p0 = 2 ∧ ¬ p1 < 0 ∧ ¬ 3 ≤ p1)
theorem xl_leaf {post : Int32 → Prop} {p0 p1 : Int32} (h1 : lf_ok p0 p1 → post 1) (h0 : ¬ lf_ok p0 p1 → post 0) : wpX_isLeaf post p0 p1 := by
  have no : ¬ p0 = 0 → ¬ p0 = 1 → ¬ p0 = 2 → post 0 := by
    intro a b c
    refine h0 (fun q => ?_)
    rcases q with q | q | q
    · exact a q.1
    · exact b q.1
    · exact c q.1
  by_cases n0 : p0 < 0
  · exact br_t n0 (no (fun e => absurd n0 (by rw [e]; decide)) (fun e => absurd n0 (by rw [e]; decide)) (fun e => absurd n0 (by rw [e]; decide)))
  by_cases n2 : 2 < p0
  · exact br_f n0 (br_t n2 (no (fun e => absurd n2 (by rw [e]; decide)) (fun e => absurd n2 (by rw [e]; decide)) (fun e => absurd n2 (by rw [e]; decide))))
  refine br_f n0 (br_f n2 ?_)
  by_cases e0 : p0 = 0
  · subst e0
    refine br_t rfl (br_c (fun q => h0 (fun w => ?_)) (fun q => br_c (fun q2 => h0 (fun w => ?_)) (fun q2 => h1 (Or.inl ⟨rfl, q, q2⟩))))
    · rcases w with w | w | w
      · exact w.2.1 q
      · exact absurd w.1 (by decide)
      · exact absurd w.1 (by decide)
    · rcases w with w | w | w
      · exact w.2.2 q2
      · exact absurd w.1 (by decide)
      · exact absurd w.1 (by decide)
  by_cases e1 : p0 = 1
  · subst e1
    refine br_f e0 (br_t rfl (br_c (fun q => ⟨rfl, h0 (fun w => ?_)⟩) (fun q => br_c (fun q2 => ⟨rfl, h0 (fun w => ?_)⟩) (fun q2 => ⟨rfl, h1 (Or.inr (Or.inl ⟨rfl, q, q2⟩))⟩))))
    · rcases w with w | w | w
      · exact absurd w.1 (by decide)
      · exact w.2.1 q
      · exact absurd w.1 (by decide)
    · rcases w with w | w | w
      · exact absurd w.1 (by decide)
      · exact w.2.2 q2
      · exact absurd w.1 (by decide)
  · have e2 : p0 = 2 := by
      obtain ⟨j, hj, rfl⟩ := nI_of2 (M := 2) (n := 2) (by decide) n0 (Int32.not_lt.mp n2)
      have : ¬ j = 0 := fun z => e0 (by rw [z]; rfl)
      have : ¬ j = 1 := fun z => e1 (by rw [z]; rfl)
      rw [show j = 2 from by omega]; rfl
    subst e2
    refine br_f e0 (br_f e1 (br_t rfl (br_c (fun q => h0 (fun w => ?_)) (fun q => br_c (fun q2 => h0 (fun w => ?_)) (fun q2 => h1 (Or.inr (Or.inr ⟨rfl, q, q2⟩)))))))
    · rcases w with w | w | w
      · exact absurd w.1 (by decide)
      · exact absurd w.1 (by decide)
      · exact w.2.1 q
    · rcases w with w | w | w
      · exact absurd w.1 (by decide)
      · exact absurd w.1 (by decide)
      · exact w.2.2 q2
theorem ab_43 (x : Int32) : x ≤ 3 ↔ ¬ 4 ≤ x := by
  rw [Int32.le_iff_toInt_le, Int32.le_iff_toInt_le, show (3 : Int32).toInt = 3 from by decide, show (4 : Int32).toInt = 4 from by decide]; omega
theorem ab_23 (x : Int32) : 2 < x ↔ 3 ≤ x := by
  rw [Int32.lt_iff_toInt_lt, Int32.le_iff_toInt_le, show (3 : Int32).toInt = 3 from by decide, show (2 : Int32).toInt = 2 from by decide]; omega
theorem yl_leaf {post : Int32 → SY → Prop} {p0 p1 : Int32} (h1 : lf_ok p0 p1 → wY_leaf_49 post p0 p1 1 yd yu yc yf cy cn sy os ny sz ln py ry fy my nw) (h0 : ¬ lf_ok p0 p1 → wY_leaf_49 post p0 p1 0 yd yu yc yf cy cn sy os ny sz ln py ry fy my nw) : wpY_leaf post (yd, yu, yc, yf, cy, cn, sy, os, ny, sz, ln, py, ry, fy, my, nw) p0 p1 := by
  have l30 : ¬ (p0 = 0 ∧ ¬ p1 < -99 ∧ ¬ 99 < p1) → ¬ (p0 = 1 ∧ ¬ p1 < 0 ∧ ¬ 4 ≤ p1) → wY_leaf_30 post p0 p1 yd yu yc yf cy cn sy os ny sz ln py ry fy my nw := by
    intro a b
    have no : ¬ (p0 = 2 ∧ ¬ p1 < 0 ∧ ¬ 3 ≤ p1) → wY_leaf_48 post p0 p1 yd yu yc yf cy cn sy os ny sz ln py ry fy my nw := fun c => h0 (fun w => w.elim a (fun w => w.elim b c))
    refine br_c (fun q => br_c (fun q1 => no (fun w => w.2.1 q1)) (fun q1 => br_c (fun q2 => no (fun w => w.2.2 ((ab_23 p1).mp q2))) (fun q2 => h1 (Or.inr (Or.inr ⟨q, q1, fun z => q2 ((ab_23 p1).mpr z)⟩))))) (fun q => no (fun w => q w.1))
  have l16 : ¬ (p0 = 0 ∧ ¬ p1 < -99 ∧ ¬ 99 < p1) → wY_leaf_16 post p0 p1 yd yu yc yf cy cn sy os ny sz ln py ry fy my nw := by
    intro a
    refine br_c (fun q => br_c (fun q1 => l30 a (fun w => w.2.1 q1)) (fun q1 => br_c (fun q2 => h1 (Or.inr (Or.inl ⟨q, q1, (ab_43 p1).mp q2⟩))) (fun q2 => l30 a (fun w => q2 ((ab_43 p1).mpr w.2.2))))) (fun q => l30 a (fun w => q w.1))
  refine br_c (fun q => br_c (fun q1 => l16 (fun w => w.2.1 q1)) (fun q1 => br_c (fun q2 => h1 (Or.inl ⟨q, q1, Int32.not_lt.mpr q2⟩)) (fun q2 => l16 (fun w => q2 (Int32.not_lt.mp w.2.2))))) (fun q => l16 (fun w => q w.1))
end
section
theorem i_vc_leaf {k : Nat} {u : SX} {v : SY} (I : i_Rel k u v) (hk : k + 5 ≤ 2560) (v1 : Int32) (v2 : Int32) : wpX_leaf (fun r u' => wpY_leaf (fun r' v' => r' = r ∧ i_Rel (k + 5) u' v') v v1 v2) u v1 v2 := by
  obtain ⟨xs, xu, xc, th, cx, sx, kd, nm, ct, op, pa, mx, rx⟩ := u
  obtain ⟨yd, yu, yc, yf, cy, cn, sy, os, ny, sz, ln, py, ry, fy, my, nw⟩ := v
  have J := I
  obtain ⟨rfl, rfl, rfl, rfl, rfl, rfl, hb, ht, hs, ho, hT⟩ := I
  unfold wpX_leaf
  dsimp only
  obtain ⟨L, c', hW, hx⟩ := hT.2.2
  have hL := hW.1
  have h8 := tm_W8 hW L (Nat.le_refl _)
  refine xl_leaf (fun hok => br_f (by decide) ?_) (fun hno => br_t rfl (yl_leaf (fun q => absurd q hno) (fun _ => br_t rfl ⟨rfl, J⟩)))
  have yok : ∀ {post : Int32 → SY → Prop}, ((yd = 8 → post (-1000000002) (yd, yu, yc, yf, cy, cn, sy, os, ny, sz, ln, py, ry, fy, my, nw)) ∧ (¬ yd = 8 → (ln 9 = 24 → post (-1000000002) (yd, yu, yc, yf, cy, cn, sy, os, ny, sz, ln, py, ry, fy, my, nw)) ∧ (¬ ln 9 = 24 → wpY_append (fun r_7 u => match u with | (yd, yu, yc, yf, cy, cn, sy, os, ny, sz, ln, py, ry, fy, my, nw) => post r_7 (yd, yu, yc, yf, cy, cn, sy, os, ny, sz, ln, py, ry, fy, my, nw)) (yd, yu, yc, yf, cy, cn, sy, os, ny, sz, ln, py, ry, fy, my, nw) v1 v2 0))) → wpY_leaf post (yd, yu, yc, yf, cy, cn, sy, os, ny, sz, ln, py, ry, fy, my, nw) v1 v2 :=
    fun hp => yl_leaf (fun _ => br_f (by decide) hp) (fun q => absurd hok q)
  by_cases e8 : (tm_ps (fun i => kd (9 * 24 + i)) L).length = 8
  · have q : yd = 8 := by rw [hx, e8]; rfl
    exact br_t (by rw [q]; decide) (yok (br_t q ⟨rfl, J⟩))
  have nd8 : ¬ yd = 8 := by
    rw [hx]; intro q; exact e8 ((nI_eq (b := 8) (by omega) (by omega)).mp q)
  refine br_f (by rw [hx]; exact nI_ge (b := 8) (by omega) (by omega)) ?_
  by_cases e : L = 24
  · subst e
    exact br_f (by rw [c']; decide) (yok (br_f nd8 (br_t c' ⟨rfl, J⟩)))
  have n24 : ¬ ln 9 = 24 := by
    rw [c']; intro q; exact e ((nI_eq (b := 24) (by omega) (by omega)).mp q)
  refine br_t (by rw [c']; exact nI_lt (b := 24) (by omega) (by omega)) ?_
  have k012 : v1 = 0 ∨ v1 = 1 ∨ v1 = 2 := by
    rcases hok with q | q | q
    · exact Or.inl q.1
    · exact Or.inr (Or.inl q.1)
    · exact Or.inr (Or.inr q.1)
  have ar0 : tm_ar v1 = 0 := by rcases k012 with q | q | q <;> (rw [q]; rfl)
  refine jo_add (k := k) (L := L) (t := 0) hb ht hs ho hT (by omega) c' rfl hx ar0 (Nat.zero_le _) h8 (by omega) ?_ ?_ (fun z => ?_) (fun z => ?_) ?_ (fun post hp => yok (br_f nd8 (br_f n24 hp)))
  · rcases k012 with q | q | q <;> (rw [q]; decide)
  · rcases k012 with q | q | q <;> (rw [q]; decide)
  · rcases hok with q | q | q
    · exact absurd (q.1.symm.trans z) (by decide)
    · obtain ⟨j, hj, e⟩ := nI_of2 (M := 3) (n := 3) (by decide) q.2.1 ((ab_43 v2).mpr q.2.2)
      exact ⟨j, by omega, e⟩
    · exact absurd (q.1.symm.trans z) (by decide)
  · rcases hok with q | q | q
    · exact absurd (q.1.symm.trans z) (by decide)
    · exact absurd (q.1.symm.trans z) (by decide)
    · obtain ⟨j, hj, e⟩ := nI_of2 (M := 2) (n := 2) (by decide) q.2.1 (Int32.not_lt.mp (fun w => q.2.2 ((ab_23 v2).mp w)))
      exact ⟨j, by omega, e⟩
  · rcases k012 with q | q | q <;> (rw [q]; rfl)
theorem i_vc_one {k : Nat} {u : SX} {v : SY} (I : i_Rel k u v) (hk : k + 5 ≤ 2560) (v1 : Int32) : wpX_one (fun r u' => wpY_one (fun r' v' => r' = r ∧ i_Rel (k + 5) u' v') v v1) u v1 := by
  obtain ⟨xs, xu, xc, th, cx, sx, kd, nm, ct, op, pa, mx, rx⟩ := u
  obtain ⟨yd, yu, yc, yf, cy, cn, sy, os, ny, sz, ln, py, ry, fy, my, nw⟩ := v
  have J := I
  obtain ⟨rfl, rfl, rfl, rfl, rfl, rfl, hb, ht, hs, ho, hT⟩ := I
  by_cases h0 : v1 < 0
  · exact br_t h0 (br_t h0 ⟨rfl, J⟩)
  by_cases h1 : v1 ≤ 1
  · refine br_f h0 (br_t h1 ?_)
    have c : v1 = 0 ∨ v1 = 1 := by
      obtain ⟨j, hj, rfl⟩ := nI_of2 (M := 1) (n := 1) (by decide) h0 h1
      rcases (by omega : j = 0 ∨ j = 1) with rfl | rfl
      · exact Or.inl rfl
      · exact Or.inr rfl
    refine jo_mk (P := fun post => wpY_one post (yd, yu, yc, yf, cy, cn, sy, os, ny, sz, ln, py, ry, fy, my, nw) v1) (k := k) (t := 1) (kind := 3 + v1) (opc := 10 + v1) hb ht hs ho hT ?_ (by omega) ?_ ?_ ?_ ?_ ?_ (by omega) (fun post hp => br_f h0 (br_t h1 hp))
    · rcases c with q | q <;> (rw [q]; rfl)
    · rcases c with q | q <;> (rw [q]; decide)
    · rcases c with q | q <;> (rw [q]; decide)
    · rcases c with q | q <;> (rw [q]; decide)
    · rcases c with q | q <;> (rw [q]; decide)
    · rcases c with q | q <;> (rw [q]; rfl)
  · exact br_f h0 (br_f h1 (br_f h0 (br_f h1 ⟨rfl, J⟩)))
theorem i_vc_two {k : Nat} {u : SX} {v : SY} (I : i_Rel k u v) (hk : k + 5 ≤ 2560) (v1 : Int32) : wpX_two (fun r u' => wpY_two (fun r' v' => r' = r ∧ i_Rel (k + 5) u' v') v v1) u v1 := by
  obtain ⟨xs, xu, xc, th, cx, sx, kd, nm, ct, op, pa, mx, rx⟩ := u
  obtain ⟨yd, yu, yc, yf, cy, cn, sy, os, ny, sz, ln, py, ry, fy, my, nw⟩ := v
  have J := I
  obtain ⟨rfl, rfl, rfl, rfl, rfl, rfl, hb, ht, hs, ho, hT⟩ := I
  by_cases h0 : v1 < 0
  · exact br_t h0 (br_t h0 ⟨rfl, J⟩)
  by_cases h1 : v1 ≤ 9
  · refine br_f h0 (br_t h1 ?_)
    obtain ⟨j, hj, rfl⟩ := nI_of2 (M := 9) (n := 9) (by decide) h0 h1
    have a1 : ∀ j, j < 10 → tm_ar (5 + nI j) = 2 := by decide +kernel
    have a2 : ∀ j, j < 10 → 0 ≤ 5 + nI j := by decide +kernel
    have a3 : ∀ j, j < 10 → 5 + nI j ≤ 15 := by decide +kernel
    have a4 : ∀ j, j < 10 → ¬ 5 + nI j = 1 := by decide +kernel
    have a5 : ∀ j, j < 10 → ¬ 5 + nI j = 2 := by decide +kernel
    have a6 : ∀ j, j < 10 → 20 + nI j = tm_yk (5 + nI j) := by decide +kernel
    exact jo_mk (P := fun post => wpY_two post (yd, yu, yc, yf, cy, cn, sy, os, ny, sz, ln, py, ry, fy, my, nw) (nI j)) (k := k) (t := 2) (kind := 5 + nI j) (opc := 20 + nI j) hb ht hs ho hT (a1 j (by omega)) (by omega) (a2 j (by omega)) (a3 j (by omega)) (a4 j (by omega)) (a5 j (by omega)) (a6 j (by omega)) (by omega) (fun post hp => br_f h0 (br_t h1 hp))
  · exact br_f h0 (br_f h1 (br_f h0 (br_f h1 ⟨rfl, J⟩)))
theorem i_vc_choose {k : Nat} {u : SX} {v : SY} (I : i_Rel k u v) (hk : k + 5 ≤ 2560) : wpX_choose (fun r u' => wpY_choose (fun r' v' => r' = r ∧ i_Rel (k + 5) u' v') v) u := by
  obtain ⟨xs, xu, xc, th, cx, sx, kd, nm, ct, op, pa, mx, rx⟩ := u
  obtain ⟨yd, yu, yc, yf, cy, cn, sy, os, ny, sz, ln, py, ry, fy, my, nw⟩ := v
  have J := I
  obtain ⟨rfl, rfl, rfl, rfl, rfl, rfl, hb, ht, hs, ho, hT⟩ := I
  unfold wpX_choose
  dsimp only
  refine jo_mk (P := fun post => wpY_choose post (yd, yu, yc, yf, cy, cn, sy, os, ny, sz, ln, py, ry, fy, my, nw)) (yf := yf) (ry := ry) (fy := fy) (my := my) (nw := nw) (k := k) (t := 3) (kind := 15) (opc := 30) hb ht hs ho hT rfl (by omega) (by decide) (by decide) (by decide) (by decide) rfl (by omega) (fun post hp => ?_)
  unfold wpY_choose
  exact hp
theorem i_vc_scrap {k : Nat} {u : SX} {v : SY} (I : i_Rel k u v) (hk : k + 5 ≤ 2560) : wpX_scrap (fun u' => wpY_scrap (fun v' => i_Rel (k + 5) u' v') v) u := by
  obtain ⟨xs, xu, xc, th, cx, sx, kd, nm, ct, op, pa, mx, rx⟩ := u
  obtain ⟨yd, yu, yc, yf, cy, cn, sy, os, ny, sz, ln, py, ry, fy, my, nw⟩ := v
  have J := I
  obtain ⟨rfl, rfl, rfl, rfl, rfl, rfl, hb, ht, hs, ho, hT⟩ := I
  refine nm_e (nm_e ⟨rfl, rfl, rfl, rfl, rfl, rfl, hb, ht, hs, ho, ?_⟩)
  refine ⟨fun e he => te_mv (hT.1 e he) (fun _ _ => rfl) (fun _ _ => rfl) (fun _ _ => rfl) (pk_un (by omega)), fun q => te_mv (hT.2.1 q) (fun _ _ => rfl) (fun _ _ => rfl) (fun _ _ => rfl) (pk_un (by omega)), 0, pk_us, ⟨by omega, fun i hi => absurd hi (by omega)⟩, rfl⟩
end
end
section
/-! express, check, the start -/
section
variable {xs xu xc : Int32} {th cx sx kd nm ct : Nat → Int32} {op : Nat → Int64} {pa mx rx : Nat → Int32} {yd yu yc yf : Int32} {cy cn sy os ny sz ln py ry fy my nw : Nat → Int32}
def ct_F (a : Nat → Int32) (p q : Nat) : Nat → Int32 := fun j => if q * 24 ≤ j ∧ j < q * 24 + 24 then a (p * 24 + (j - q * 24)) else a j
theorem ct_i {a : Nat → Int32} {p q i : Nat} (h : i < 24) : ct_F a p q (q * 24 + i) = a (p * 24 + i) := by
  have : q * 24 ≤ q * 24 + i ∧ q * 24 + i < q * 24 + 24 := by omega
  unfold ct_F
  rw [if_pos this, Nat.add_sub_cancel_left]
theorem ct_o {a : Nat → Int32} {p q j : Nat} (h : j < q * 24 ∨ q * 24 + 24 ≤ j) : ct_F a p q j = a j := if_neg (by omega)
theorem ct_fx {a b : Nat → Int32} {p q : Nat} (h1 : ∀ i, i < 24 → b (q * 24 + i) = a (p * 24 + i)) (h2 : ∀ j, j < q * 24 ∨ q * 24 + 24 ≤ j → b j = a j) : b = ct_F a p q := by
  funext j
  by_cases e : j < q * 24 ∨ q * 24 + 24 ≤ j
  · rw [h2 j e, ct_o e]
  · have : j = q * 24 + (j - q * 24) := by omega
    rw [this, ct_i (by omega)]
    exact h1 _ (by omega)
theorem xt_cp_l {post : SX → Prop} {p q : Nat} (hp : p < 10) (hq : q < 10) (hpq : p ≠ q) (h : post (xs, xu, xc, th, cx, sx, (ct_F kd p q), (ct_F nm p q), (upd ct q (ct p)), op, pa, mx, rx)) :
    ∀ d i n kd1 nm1, i + d = 24 → d < n → (∀ c, c < i → kd1 (q * 24 + c) = kd (p * 24 + c)) → (∀ j, j < q * 24 ∨ q * 24 + i ≤ j → kd1 j = kd j) → (∀ c, c < i → nm1 (q * 24 + c) = nm (p * 24 + c)) → (∀ j, j < q * 24 ∨ q * 24 + i ≤ j → nm1 j = nm j) →
      wX_copyTerm_2 post (nI p) (nI q) xs xu xc n (nI i) th cx sx kd1 nm1 ct op pa mx rx := by
  intro d
  induction d with
  | zero =>
    intro i n kd1 nm1 hi hn a1 a2 a3 a4
    obtain ⟨n, rfl⟩ : ∃ m, n = m + 1 := ⟨n - 1, by omega⟩
    obtain rfl : i = 24 := by omega
    have e1 := ct_fx a1 a2
    have e2 := ct_fx a3 a4
    subst e1 e2
    exact br_t (by decide) ⟨vp_in_nI (by omega) (by omega), vp_in_nI (by omega) (by omega), nm_r (e' := upd ct q (ct p)) (by rw [nI_clamp (by omega), nI_clamp (by omega)]) h⟩
  | succ d ih =>
    intro i n kd1 nm1 hi hn a1 a2 a3 a4
    obtain ⟨n, rfl⟩ : ∃ m, n = m + 1 := ⟨n - 1, by omega⟩
    have vp : vp_in (nI p * 24 + nI i) 240 := pk_in (p * 24 + i) 240 (by omega) (ab_m24 p i)
    have vq : vp_in (nI q * 24 + nI i) 240 := pk_in (q * 24 + i) 240 (by omega) (ab_m24 q i)
    refine br_f (nI_ge (b := 24) (by omega) (by omega)) ⟨vp, vq, nm_r (e' := upd kd1 (q * 24 + i) (kd (p * 24 + i))) ?_ ⟨vp, vq, nm_r (e' := upd nm1 (q * 24 + i) (nm (p * 24 + i))) ?_ (nm_r (nI_1 i) (ih (i + 1) n _ _ (by omega) (by omega) (fun c hc => ?_) (fun j hj => ?_) (fun c hc => ?_) (fun j hj => ?_)))⟩⟩
    · rw [ab_m24, ab_m24, nI_clamp (by omega), nI_clamp (by omega), a2 (p * 24 + i) (by omega)]
    · rw [ab_m24, ab_m24, nI_clamp (by omega), nI_clamp (by omega), a4 (p * 24 + i) (by omega)]
    · by_cases e : c = i
      · subst e; rw [pk_us]
      · rw [pk_un (by omega)]; exact a1 c (by omega)
    · rw [pk_un (by omega)]; exact a2 j (by omega)
    · by_cases e : c = i
      · subst e; rw [pk_us]
      · rw [pk_un (by omega)]; exact a3 c (by omega)
    · rw [pk_un (by omega)]; exact a4 j (by omega)
theorem xt_cp {post : SX → Prop} {p q : Nat} (hp : p < 10) (hq : q < 10) (hpq : p ≠ q) (h : post (xs, xu, xc, th, cx, sx, (ct_F kd p q), (ct_F nm p q), (upd ct q (ct p)), op, pa, mx, rx)) : wpX_copyTerm post (xs, xu, xc, th, cx, sx, kd, nm, ct, op, pa, mx, rx) (nI p) (nI q) :=
  ⟨25, xt_cp_l hp hq hpq h 24 0 25 kd nm (by omega) (by omega) (fun c hc => absurd hc (by omega)) (fun _ _ => rfl) (fun c hc => absurd hc (by omega)) (fun _ _ => rfl)⟩
theorem yt_cp_l {post : SY → Prop} {p q : Nat} (hp : p < 10) (hq : q < 10) (hpq : p ≠ q) (h : post (yd, yu, yc, yf, cy, cn, sy, (ct_F os p q), (ct_F ny p q), (ct_F sz p q), (upd ln q (ln p)), py, ry, fy, my, nw)) :
    ∀ d i n os1 ny1 sz1, i + d = 24 → d < n → (∀ c, c < i → os1 (q * 24 + c) = os (p * 24 + c)) → (∀ j, j < q * 24 ∨ q * 24 + i ≤ j → os1 j = os j) → (∀ c, c < i → ny1 (q * 24 + c) = ny (p * 24 + c)) → (∀ j, j < q * 24 ∨ q * 24 + i ≤ j → ny1 j = ny j) →
      (∀ c, c < i → sz1 (q * 24 + c) = sz (p * 24 + c)) → (∀ j, j < q * 24 ∨ q * 24 + i ≤ j → sz1 j = sz j) → wY_copyTerm_2 post (nI p) (nI q) yd yu yc yf n (nI i) cy cn sy os1 ny1 sz1 ln py ry fy my nw := by
  intro d
  induction d with
  | zero =>
    intro i n os1 ny1 sz1 hi hn a1 a2 a3 a4 a5 a6
    obtain ⟨n, rfl⟩ : ∃ m, n = m + 1 := ⟨n - 1, by omega⟩
    obtain rfl : i = 24 := by omega
    have e1 := ct_fx a1 a2
    have e2 := ct_fx a3 a4
    have e3 := ct_fx a5 a6
    subst e1 e2 e3
    exact br_t (by decide) ⟨vp_in_nI (by omega) (by omega), vp_in_nI (by omega) (by omega), nm_r (e' := upd ln q (ln p)) (by rw [nI_clamp (by omega), nI_clamp (by omega)]) h⟩
  | succ d ih =>
    intro i n os1 ny1 sz1 hi hn a1 a2 a3 a4 a5 a6
    obtain ⟨n, rfl⟩ : ∃ m, n = m + 1 := ⟨n - 1, by omega⟩
    have ep : 24 * nI p + nI i = nI (p * 24 + i) := by rw [ab_l24, Nat.mul_comm]
    have eq : 24 * nI q + nI i = nI (q * 24 + i) := by rw [ab_l24, Nat.mul_comm]
    have vp : vp_in (24 * nI p + nI i) 240 := pk_in (p * 24 + i) 240 (by omega) ep
    have vq : vp_in (24 * nI q + nI i) 240 := pk_in (q * 24 + i) 240 (by omega) eq
    refine br_f (nI_ge (b := 24) (by omega) (by omega)) ⟨vp, vq, nm_r (e' := upd os1 (q * 24 + i) (os (p * 24 + i))) ?_ ⟨vp, vq, nm_r (e' := upd ny1 (q * 24 + i) (ny (p * 24 + i))) ?_ ⟨vp, vq, nm_r (e' := upd sz1 (q * 24 + i) (sz (p * 24 + i))) ?_ (nm_r (nI_1 i) (ih (i + 1) n _ _ _ (by omega) (by omega) (fun c hc => ?_) (fun j hj => ?_) (fun c hc => ?_) (fun j hj => ?_) (fun c hc => ?_) (fun j hj => ?_)))⟩⟩⟩
    · rw [ep, eq, nI_clamp (by omega), nI_clamp (by omega), a2 (p * 24 + i) (by omega)]
    · rw [ep, eq, nI_clamp (by omega), nI_clamp (by omega), a4 (p * 24 + i) (by omega)]
    · rw [ep, eq, nI_clamp (by omega), nI_clamp (by omega), a6 (p * 24 + i) (by omega)]
    · by_cases e : c = i
      · subst e; rw [pk_us]
      · rw [pk_un (by omega)]; exact a1 c (by omega)
    · rw [pk_un (by omega)]; exact a2 j (by omega)
    · by_cases e : c = i
      · subst e; rw [pk_us]
      · rw [pk_un (by omega)]; exact a3 c (by omega)
    · rw [pk_un (by omega)]; exact a4 j (by omega)
    · by_cases e : c = i
      · subst e; rw [pk_us]
      · rw [pk_un (by omega)]; exact a5 c (by omega)
    · rw [pk_un (by omega)]; exact a6 j (by omega)
theorem yt_cp {post : SY → Prop} {p q : Nat} (hp : p < 10) (hq : q < 10) (hpq : p ≠ q) (h : post (yd, yu, yc, yf, cy, cn, sy, (ct_F os p q), (ct_F ny p q), (ct_F sz p q), (upd ln q (ln p)), py, ry, fy, my, nw)) : wpY_copyTerm post (yd, yu, yc, yf, cy, cn, sy, os, ny, sz, ln, py, ry, fy, my, nw) (nI p) (nI q) :=
  ⟨25, yt_cp_l hp hq hpq h 24 0 25 os ny sz (by omega) (by omega) (fun c hc => absurd hc (by omega)) (fun _ _ => rfl) (fun c hc => absurd hc (by omega)) (fun _ _ => rfl) (fun c hc => absurd hc (by omega)) (fun _ _ => rfl)⟩
theorem ct_os {p q : Nat} (ho : ∀ j, os j = tm_yk (kd j)) : ∀ j, ct_F os p q j = tm_yk (ct_F kd p q j) := by
  intro j
  unfold ct_F
  by_cases e : q * 24 ≤ j ∧ j < q * 24 + 24
  · rw [if_pos e, if_pos e, ho]
  · rw [if_neg e, if_neg e, ho]
/-- a term copied over another -/
theorem te_cp {p q e : Nat} {ct' : Nat → Int32} (hq : q < 10) (he : e < 10) (h : te_ok kd nm sz ct (if e = q then p else e)) (hc : ct' e = ct (if e = q then p else e)) : te_ok (ct_F kd p q) (ct_F nm p q) (ct_F sz p q) ct' e := by
  by_cases z : e = q
  · rw [if_pos z] at h hc
    subst z
    exact te_mv h (fun i hi => ct_i hi) (fun i hi => ct_i hi) (fun i hi => ct_i hi) hc
  · rw [if_neg z] at h hc
    exact te_mv h (fun i hi => ct_o (by omega)) (fun i hi => ct_o (by omega)) (fun i hi => ct_o (by omega)) hc
end
section
theorem i_vc_express {k : Nat} {u : SX} {v : SY} (I : i_Rel k u v) (hk : k + 5 ≤ 2560) (v1 : Int32) : wpX_express (fun r u' => wpY_express (fun r' v' => r' = r ∧ i_Rel (k + 5) u' v') v v1) u v1 := by
  obtain ⟨xs, xu, xc, th, cx, sx, kd, nm, ct, op, pa, mx, rx⟩ := u
  obtain ⟨yd, yu, yc, yf, cy, cn, sy, os, ny, sz, ln, py, ry, fy, my, nw⟩ := v
  have J := I
  obtain ⟨rfl, rfl, rfl, rfl, rfl, rfl, hb, ht, hs, ho, hT⟩ := I
  unfold wpX_express wpY_express
  dsimp only
  rcases pk_ix v1 (n := 8) (by omega) with hx | hx | ⟨e, he, rfl⟩
  · exact xa_expN (Or.inl hx) (br_t rfl (ya_expN (Or.inl hx) (br_t rfl ⟨rfl, J⟩)))
  · exact xa_expN (Or.inr hx) (br_t rfl (ya_expN (Or.inr hx) (br_t rfl ⟨rfl, J⟩)))
  refine xa_exp he (br_f (by decide) ?_)
  by_cases d1 : yd = 1
  case neg => exact br_f d1 (ya_exp he (br_f (by decide) (br_f d1 ⟨rfl, J⟩)))
  have ce : (nI e).toNatClampNeg = e := nI_clamp (by omega)
  have vi : vp_in (nI e) 10 := vp_in_nI (by omega) (by omega)
  refine br_t d1 (xt_cp (p := 9) (by omega) (by omega) (by omega) (nm_e ⟨vi, ?_⟩))
  refine ya_exp he (br_f (by decide) (br_t d1 (yt_cp (p := 9) (by omega) (by omega) (by omega) (nm_e ⟨vi, rfl, ?_⟩))))
  refine ⟨rfl, rfl, rfl, rfl, rfl, rfl, hb, ht, hs, ct_os ho, ?_⟩
  obtain ⟨L, c', hW, hx⟩ := hT.2.2
  have hL := hW.1
  have h8 := tm_W8 hW L (Nat.le_refl _)
  have l1 : (tm_ps (fun i => kd (9 * 24 + i)) L).length = 1 := by
    rw [hx] at d1
    exact (nI_eq (b := 1) (by omega) (by omega)).mp d1
  have ok9 : te_ok kd ny sz ln 9 := by
    refine ⟨L, ?_, c', hW, l1⟩
    match L, l1 with
    | L + 1, _ => omega
  have each : ∀ q, q < 9 → te_ok kd ny sz ln (if q = e then 9 else q) → te_ok (ct_F kd 9 e) (ct_F ny 9 e) (ct_F sz 9 e) (upd (upd ln e (ln 9)) 9 0) q := by
    intro q hq h
    refine te_cp (by omega) (by omega) h ?_
    rw [pk_un (by omega)]
    by_cases z : q = e
    · subst z; rw [pk_us, if_pos rfl]
    · rw [pk_un z, if_neg z]
  show te_A (ct_F kd 9 e) (ct_F ny 9 e) (ct_F sz 9 e) (upd (upd ln e (ln 9)) 9 0) 0 yc
  refine ⟨fun q hq => each q (by omega) ?_, fun z => each 8 (by omega) ?_, 0, pk_us, ⟨by omega, fun i hi => absurd hi (by omega)⟩, rfl⟩
  · by_cases z : q = e
    · rw [if_pos z]; exact ok9
    · rw [if_neg z]; exact hT.1 q hq
  · rw [if_neg (by omega)]; exact hT.2.1 z
theorem i_vc_check {k : Nat} {u : SX} {v : SY} (I : i_Rel k u v) (hk : k + 5 ≤ 2560) (v1 : Int32) : wpX_check (fun r u' => wpY_check (fun r' v' => r' = r ∧ i_Rel (k + 5) u' v') v v1) u v1 := by
  obtain ⟨xs, xu, xc, th, cx, sx, kd, nm, ct, op, pa, mx, rx⟩ := u
  obtain ⟨yd, yu, yc, yf, cy, cn, sy, os, ny, sz, ln, py, ry, fy, my, nw⟩ := v
  have J := I
  obtain ⟨rfl, rfl, rfl, rfl, rfl, rfl, hb, ht, hs, ho, hT⟩ := I
  have hR := ht.1
  unfold wpX_check wpY_check
  dsimp only
  rcases pk_ix v1 (n := 8) (by omega) with hx | hx | ⟨e, he, rfl⟩
  · exact xa_expN (Or.inl hx) (br_t rfl (ya_expN (Or.inl hx) (br_t rfl ⟨rfl, J⟩)))
  · exact xa_expN (Or.inr hx) (br_t rfl (ya_expN (Or.inr hx) (br_t rfl ⟨rfl, J⟩)))
  obtain ⟨K, N, Z, L, TX', TY'⟩ := te_get (by omega) (hT.1 e he) ho
  refine xa_exp he (br_f (by decide) (xm_all (p := 4) (by omega) TX' (fun hm op' => br_f (by decide) ?_) (fun hm op' => br_t rfl ?_)))
  · refine xt_cp (q := 8) (by omega) (by omega) (by omega) (xc_rows (p := 4) (by omega) ?_)
    refine ya_exp he (br_f (by decide) (ym_all (t := 0) (by omega) hR TY' (fun _ yf' ry' fy' => br_f (by decide) (yt_cp (q := 8) (by omega) (by omega) (by omega) ⟨hR.1, rfl, rfl, rfl, rfl, rfl, rfl, hb, ht, hs, ct_os ho, ?_⟩)) (fun q => absurd hm q)))
    have each : ∀ q, q < 9 → te_ok kd ny sz ln (if q = 8 then e else q) → te_ok (ct_F kd e 8) (ct_F ny e 8) (ct_F sz e 8) (upd ln 8 (ln e)) q := by
      intro q hq h
      refine te_cp (by omega) (by omega) h ?_
      by_cases z : q = 8
      · subst z; rw [pk_us, if_pos rfl]
      · rw [pk_un z, if_neg z]
    show te_A (ct_F kd e 8) (ct_F ny e 8) (ct_F sz e 8) (upd ln 8 (ln e)) yd 1
    refine ⟨fun q hq => each q (by omega) (by rw [if_neg (by omega)]; exact hT.1 q hq), fun _ => each 8 (by omega) (by rw [if_pos rfl]; exact hT.1 e he), ?_⟩
    obtain ⟨L, c', hW, hx⟩ := hT.2.2
    have hL := hW.1
    refine ⟨L, by rw [pk_un (by omega)]; exact c', tm_Wcg (fun i hi => ct_o (by omega)) (fun i hi => ct_o (by omega)) (fun i hi => ct_o (by omega)) hW, ?_⟩
    rw [tm_pcg (K := fun i => kd (9 * 24 + i)) (fun i hi => ct_o (by omega)) L (Nat.le_refl _)]
    exact hx
  · exact ya_exp he (br_f (by decide) (ym_all (t := 0) (by omega) hR TY' (fun q => absurd q hm) (fun _ yf' ry' fy' => br_t rfl ⟨rfl, J⟩)))
end
section
def st_N (n : Nat) : Nat → Int32 := fun j => if j % 24 = 0 ∧ j < n * 24 then 1 else 0
def st_C (n : Nat) : Nat → Int32 := fun j => if j < n then 1 else 0
theorem st_N1 (n : Nat) : upd (st_N n) (n * 24) 1 = st_N (n + 1) := by
  funext j
  unfold upd st_N
  by_cases e : j = n * 24
  · have : j % 24 = 0 ∧ j < (n + 1) * 24 := by omega
    rw [if_pos e, if_pos this]
  · rw [if_neg e]
    by_cases q : j % 24 = 0 ∧ j < n * 24
    · have : j % 24 = 0 ∧ j < (n + 1) * 24 := by omega
      rw [if_pos q, if_pos this]
    · have : ¬ (j % 24 = 0 ∧ j < (n + 1) * 24) := by omega
      rw [if_neg q, if_neg this]
theorem st_C1 (n : Nat) : upd (st_C n) n 1 = st_C (n + 1) := by
  funext j
  unfold upd st_C
  by_cases e : j = n
  · have : j < n + 1 := by omega
    rw [if_pos e, if_pos this]
  · rw [if_neg e]
    by_cases q : j < n
    · have : j < n + 1 := by omega
      rw [if_pos q, if_pos this]
    · have : ¬ j < n + 1 := by omega
      rw [if_neg q, if_neg this]
theorem st_N0 : st_N 0 = fun _ => 0 := by
  funext j
  have : ¬ (j % 24 = 0 ∧ j < 0 * 24) := by omega
  exact if_neg this
theorem st_C0 : st_C 0 = fun _ => 0 := by
  funext j
  exact if_neg (Nat.not_lt_zero j)
theorem st_Z (k : Nat) : upd (fun _ => 0) k 0 = fun _ => 0 := by
  funext j
  unfold upd
  by_cases e : j = k
  · rw [if_pos e]
  · rw [if_neg e]
theorem st_X {post : SX → Prop} {z : Nat → Int32} {zl : Nat → Int64} (hz : z = fun _ => 0) (h : post (0, 0, 0, z, z, z, z, st_N 8, st_C 8, zl, z, z, z)) :
    ∀ d i n, i + d = 8 → d < n → wX_init_88 post 0 0 0 n (nI i) z z z z (st_N i) (st_C i) zl z z z := by
  intro d
  induction d with
  | zero =>
    intro i n hi hn
    obtain ⟨n, rfl⟩ : ∃ m, n = m + 1 := ⟨n - 1, by omega⟩
    obtain rfl : i = 8 := by omega
    exact br_t (by decide) h
  | succ d ih =>
    intro i n hi hn
    obtain ⟨n, rfl⟩ : ∃ m, n = m + 1 := ⟨n - 1, by omega⟩
    have e0 : nI i * 24 = nI (i * 24) := pk_mul i 24
    have ci : (nI (i * 24)).toNatClampNeg = i * 24 := nI_clamp (by omega)
    have v0 : vp_in (nI i * 24) 240 := by rw [e0]; exact vp_in_nI (by omega) (by omega)
    exact br_f (nI_ge (b := 8) (by omega) (by omega)) ⟨v0, nm_r (e' := z) (by rw [hz]; exact st_Z _) ⟨v0, nm_r (e' := st_N (i + 1)) (by rw [e0, ci, st_N1]) ⟨vp_in_nI (by omega) (by omega), nm_r (e' := st_C (i + 1)) (by rw [nI_clamp (by omega), st_C1]) (nm_r (nI_1 i) (ih (i + 1) n (by omega) (by omega)))⟩⟩⟩
theorem st_Y {post : SY → Prop} {z : Nat → Int32} (h : post (0, 0, 0, 0, z, z, z, z, st_N 8, st_N 8, st_C 8, z, z, z, z, z)) :
    ∀ d i n, i + d = 8 → d < n → wY_init_104 post 0 0 0 0 n (nI i) z z z z (st_N i) (st_N i) (st_C i) z z z z z := by
  intro d
  induction d with
  | zero =>
    intro i n hi hn
    obtain ⟨n, rfl⟩ : ∃ m, n = m + 1 := ⟨n - 1, by omega⟩
    obtain rfl : i = 8 := by omega
    exact br_t (by decide) h
  | succ d ih =>
    intro i n hi hn
    obtain ⟨n, rfl⟩ : ∃ m, n = m + 1 := ⟨n - 1, by omega⟩
    have e0 : 24 * nI i = nI (i * 24) := by
      show nI 24 * nI i = _
      rw [pk_mul, Nat.mul_comm]
    have ci : (nI (i * 24)).toNatClampNeg = i * 24 := nI_clamp (by omega)
    have v0 : vp_in (24 * nI i) 240 := by rw [e0]; exact vp_in_nI (by omega) (by omega)
    exact br_f (nI_ge (b := 8) (by omega) (by omega)) ⟨vp_in_nI (by omega) (by omega), nm_r (e' := st_C (i + 1)) (by rw [nI_clamp (by omega), st_C1]) ⟨v0, nm_r (e' := st_N (i + 1)) (by rw [e0, ci, st_N1]) ⟨v0, nm_r (e' := st_N (i + 1)) (by rw [e0, ci, st_N1]) (nm_r (nI_1 i) (ih (i + 1) n (by omega) (by omega)))⟩⟩⟩
theorem ra_z : ∀ n, ra_k (fun _ => 0) n = 0 := by
  intro n
  induction n with
  | zero => rfl
  | succ n ih => rw [ra_s0 rfl, ih]
theorem st_rt (p t : Nat) : rt_R (fun _ => 0) (fun _ => 0) p (fun _ => 0) (fun _ => 0) t := by
  have e : ra_k (vx_t (fun _ => 0) p) 101 = 0 := ra_z 101
  refine ⟨by rw [e]; rfl, by rw [e]; omega, fun s _ hz => absurd rfl hz⟩
theorem st_ok {e : Nat} (he : e < 8) : te_ok (fun _ => 0) (st_N 8) (st_N 8) (st_C 8) e := by
  refine ⟨1, by omega, if_pos he, ⟨by omega, fun i hi => ?_⟩, rfl⟩
  obtain rfl : i = 0 := by omega
  have a1 : (0 : Int32) ≤ 0 := by decide
  have a2 : (0 : Int32) ≤ 15 := by decide
  have a3 : ¬ (0 : Int32) = 1 := by decide
  have a4 : ¬ (0 : Int32) = 2 := by decide
  have a5 : (1 : Nat) ≤ 8 := by decide
  refine ⟨⟨a1, a2⟩, Nat.zero_le _, a5, fun q => absurd q a3, fun q => absurd q a4, ?_⟩
  exact if_pos (by omega)
theorem i_vc0 : wpX_init (fun u => wpY_init (fun v => i_Rel 0 u v)) := by
  have hY : ∀ {post : SY → Prop}, post (0, 0, 0, 0, fun _ => 0, fun _ => 0, fun _ => 0, fun _ => 0, st_N 8, st_N 8, st_C 8, fun _ => 0, fun _ => 0, fun _ => 0, fun _ => 0, fun _ => 0) → wpY_init post := by
    intro post h
    refine ⟨9, ?_⟩
    have := st_Y (post := post) h 8 0 9 (by omega) (by omega)
    rw [st_N0, st_C0] at this
    exact this
  refine ⟨9, ?_⟩
  have := st_X (post := fun u => wpY_init (fun v => i_Rel 0 u v)) (z := fun _ => 0) (zl := fun _ => 0) rfl (hY ?_) 8 0 9 (by omega) (by omega)
  · rw [st_N0, st_C0] at this
    exact this
  · refine ⟨rfl, rfl, rfl, rfl, rfl, rfl, fun _ => Or.inl rfl, ⟨st_rt 4 0, fun p _ => st_rt p (p + 1)⟩, fun _ _ => rfl, fun _ => rfl, fun e he => st_ok he, fun q => absurd rfl q, 0, rfl, ⟨by omega, fun i hi => absurd hi (by omega)⟩, rfl⟩
end
end
