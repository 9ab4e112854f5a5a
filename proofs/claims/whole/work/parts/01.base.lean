/-! pasted pure rows, then small numbers, the rank of a slot, folds over slots and rows -/
theorem pk_us {f : Nat → Int32} {k : Nat} {x : Int32} : upd f k x k = x := if_pos rfl
theorem pk_un {f : Nat → Int32} {k j : Nat} {x : Int32} (h : j ≠ k) : upd f k x j = f j := if_neg h
theorem pk_uLs {f : Nat → Int64} {k : Nat} {x : Int64} : vp_updL f k x k = x := if_pos rfl
theorem pk_uLn {f : Nat → Int64} {k j : Nat} {x : Int64} (h : j ≠ k) : vp_updL f k x j = f j := if_neg h
theorem pk_sub {a b : Nat} (h : b ≤ a) : nI a - nI b = nI (a - b) := by
  obtain ⟨c, rfl⟩ : ∃ c, a = c + b := ⟨a - b, by omega⟩
  rw [← nI_add, Int32.add_sub_cancel, Nat.add_sub_cancel]
theorem pk_m1 (n : Nat) : nI (n + 1) + (-1) = nI n := by
  rw [← nI_1, Int32.add_assoc, show (1 : Int32) + (-1) = 0 from rfl, Int32.add_zero]
theorem pk_mul (a b : Nat) : nI a * nI b = nI (a * b) := (Int32.ofNat_mul a b).symm
theorem pk_sub_toInt {a b : Nat} (ha : a < 2 ^ 30) (hb : b < 2 ^ 30) : (nI a - nI b).toInt = (a : Int) - b := by
  rw [Int32.toInt_sub, nI_toInt (by omega), nI_toInt (by omega)]
  exact Int.bmod_eq_of_le (by omega) (by omega)
theorem pk_sneg {a b : Nat} (hb : b < 2 ^ 30) (h : a < b) : nI a - nI b < 0 := by
  rw [Int32.lt_iff_toInt_lt, pk_sub_toInt (by omega) hb, show (0 : Int32).toInt = 0 from by decide]
  omega
theorem pk_ix (x : Int32) {n : Nat} (hn : n < 2 ^ 31) : x < 0 ∨ nI n ≤ x ∨ ∃ j : Nat, j < n ∧ x = nI j := by
  by_cases h : x < 0
  · exact Or.inl h
  · obtain ⟨j, hj, rfl⟩ := nI_of h
    by_cases h2 : j < n
    · exact Or.inr (Or.inr ⟨j, h2, rfl⟩)
    · exact Or.inr (Or.inl (nI_le (by omega) hj))
theorem pk_le {x y : Int32} {A B : Prop} (a b : Nat) (f : a ≤ b → A) (g : b < a → B) (hx : x = nI a := by rfl) (hy : y = nI b := by rfl) (ha : a < 2 ^ 31 := by omega) (hb : b < 2 ^ 31 := by omega) : (x ≤ y → A) ∧ (¬ x ≤ y → B) := by
  subst hx hy
  rw [nI_leI ha hb]
  exact ⟨f, fun z => g (by omega)⟩
theorem pk_lt {x y : Int32} {A B : Prop} (a b : Nat) (f : a < b → A) (g : b ≤ a → B) (hx : x = nI a := by rfl) (hy : y = nI b := by rfl) (ha : a < 2 ^ 31 := by omega) (hb : b < 2 ^ 31 := by omega) : (x < y → A) ∧ (¬ x < y → B) := by
  subst hx hy
  rw [nI_ltI ha hb]
  exact ⟨f, fun z => g (by omega)⟩
theorem pk_eq {x y : Int32} {A B : Prop} (a b : Nat) (f : a = b → A) (g : a ≠ b → B) (hx : x = nI a := by rfl) (hy : y = nI b := by rfl) (ha : a < 2 ^ 31 := by omega) (hb : b < 2 ^ 31 := by omega) : (x = y → A) ∧ (¬ x = y → B) := by
  subst hx hy
  rw [nI_eq ha hb]
  exact ⟨f, g⟩
theorem pk_in {x : Int32} (n N : Nat) (h : n < N) (hx : x = nI n := by rfl) (hN : N < 2 ^ 31 := by omega) : vp_in x N := by
  subst hx
  exact vp_in_nI h hN
theorem pk_cl {x : Int32} (n : Nat) (hx : x = nI n := by rfl) (h : n < 2 ^ 31 := by omega) : x.toNatClampNeg = n := by
  subst hx
  exact nI_clamp h
theorem ab_bn (v : Int32) (h : v = 0 ∨ v = 1) : vp_nar .boolean v = v := by
  rcases h with h | h <;> rw [h] <;> rfl
theorem ab_b0 : vp_nar .boolean 0 = 0 := rfl
theorem ab_b1 : vp_nar .boolean 1 = 1 := rfl
theorem ab_nb {v : Int32} (h : v = 0 ∨ v = 1) : narrow .boolean (.int v) = .int v := by
  rcases h with h | h <;> rw [h] <;> rfl
theorem ab_fb {v : Int32} (h : v = 0 ∨ v = 1) : fits .boolean (.int v) = true := by
  rcases h with h | h <;> rw [h] <;> rfl
theorem ab_ml (a k : Nat) (b : Nat) : nI a * nI k + nI b = nI (a * k + b) := by rw [pk_mul, nI_add]
theorem ab_m4 (a b : Nat) : nI a * 4 + nI b = nI (a * 4 + b) := ab_ml a 4 b
theorem ab_m101 (a b : Nat) : nI a * 101 + nI b = nI (a * 101 + b) := ab_ml a 101 b
theorem ab_m24 (a b : Nat) : nI a * 24 + nI b = nI (a * 24 + b) := ab_ml a 24 b
theorem ab_l24 (a b : Nat) : 24 * nI a + nI b = nI (24 * a + b) := by
  show nI 24 * nI a + nI b = _
  rw [pk_mul, nI_add]
theorem ab_l160 (a b : Nat) : 160 * nI a + nI b = nI (160 * a + b) := by
  show nI 160 * nI a + nI b = _
  rw [pk_mul, nI_add]
theorem ab_cell (t r c : Nat) : 160 * nI t + 4 * nI r + nI c = nI (160 * t + 4 * r + c) := by
  show nI 160 * nI t + nI 4 * nI r + nI c = _
  rw [pk_mul, pk_mul, nI_add, nI_add]
theorem ab_a (k b : Nat) : nI k + nI b = nI (k + b) := nI_add k b
theorem ab_key {s : Nat} (h : s < 101) : (nI s - 50).toInt = (s : Int) - 50 := by
  show (nI s - nI 50).toInt = _
  rw [pk_sub_toInt (by omega) (by omega)]
  rfl
theorem ab_keyI {s s' : Nat} (h : s < 101) (h' : s' < 101) (e : nI s - 50 = nI s' - 50) : s = s' := by
  have := congrArg Int32.toInt e
  rw [ab_key h, ab_key h'] at this
  omega
theorem ab_n50 (s : Nat) : nI s + (-50) = nI s - 50 := by
  show nI s + (-50) = nI s - 50
  rw [Int32.sub_eq_add_neg]
/-- a key within -50 .. 50 is that of a slot -/
theorem ab_slot (k : Int32) : k < -50 ∨ 50 < k ∨ ∃ s, s < 101 ∧ k = nI s - 50 := by
  by_cases h1 : k < -50
  · exact Or.inl h1
  · by_cases h2 : 50 < k
    · exact Or.inr (Or.inl h2)
    · refine Or.inr (Or.inr ⟨(k.toInt + 50).toNat, ?_, ?_⟩)
      · have a1 : ¬ k.toInt < -50 := fun z => h1 (Int32.lt_iff_toInt_lt.mpr z)
        have a2 : ¬ 50 < k.toInt := fun z => h2 (Int32.lt_iff_toInt_lt.mpr z)
        omega
      · have a1 : ¬ k.toInt < -50 := fun z => h1 (Int32.lt_iff_toInt_lt.mpr z)
        have a2 : ¬ 50 < k.toInt := fun z => h2 (Int32.lt_iff_toInt_lt.mpr z)
        apply Int32.toInt_inj.mp
        rw [ab_key (by omega)]
        omega
theorem ab_k1 {s : Nat} (h : s < 101) : ¬ (nI s - 50 : Int32) < -50 := by
  rw [Int32.lt_iff_toInt_lt, ab_key h, show (-50 : Int32).toInt = -50 from by decide]; omega
theorem ab_k2 {s : Nat} (h : s < 101) : ¬ 50 < (nI s - 50 : Int32) := by
  rw [Int32.lt_iff_toInt_lt, ab_key h, show (50 : Int32).toInt = 50 from by decide]; omega
theorem ab_so (p s : Nat) : nI p * 101 + (nI s - 50) - (-50) = nI (p * 101 + s) := by
  show nI p * nI 101 + (nI s - 50) - (-50) = _
  rw [pk_mul, Int32.sub_eq_add_neg, Int32.sub_eq_add_neg, Int32.add_assoc, Int32.add_assoc, show (-50 : Int32) + - -50 = 0 from by decide, Int32.add_zero, nI_add]
/-- how many of the first n are not 0 -/
def ra_k (t : Nat → Int32) : Nat → Nat
  | 0 => 0
  | n + 1 => ra_k t n + if t n = 0 then 0 else 1
theorem ra_s0 {t : Nat → Int32} {n : Nat} (h : t n = 0) : ra_k t (n + 1) = ra_k t n := by simp [ra_k, h]
theorem ra_s1 {t : Nat → Int32} {n : Nat} (h : ¬ t n = 0) : ra_k t (n + 1) = ra_k t n + 1 := by simp [ra_k, h]
theorem ra_le (t : Nat → Int32) : ∀ n, ra_k t n ≤ n := by
  intro n
  induction n with
  | zero => exact Nat.le_refl 0
  | succ n ih => by_cases h : t n = 0
                 · rw [ra_s0 h]; omega
                 · rw [ra_s1 h]; omega
theorem ra_mono (t : Nat → Int32) {a b : Nat} (h : a ≤ b) : ra_k t a ≤ ra_k t b := by
  induction b with
  | zero => have : a = 0 := by omega
            subst this; exact Nat.le_refl _
  | succ b ih =>
    by_cases e : a = b + 1
    · subst e; exact Nat.le_refl _
    · have := ih (by omega)
      by_cases h : t b = 0
      · rw [ra_s0 h]; omega
      · rw [ra_s1 h]; omega
theorem ra_lt {t : Nat → Int32} {a b : Nat} (h : a < b) (ha : ¬ t a = 0) : ra_k t a < ra_k t b := by
  have := ra_mono t (a := a + 1) (b := b) h
  rw [ra_s1 ha] at this
  omega
theorem ra_inj {t : Nat → Int32} {a b : Nat} (ha : ¬ t a = 0) (hb : ¬ t b = 0) (e : ra_k t a = ra_k t b) : a = b := by
  rcases Nat.lt_trichotomy a b with h | h | h
  · have := ra_lt h ha; omega
  · exact h
  · have := ra_lt h hb; omega
theorem ra_inv {t : Nat → Int32} {r : Nat} : ∀ {n : Nat}, r < ra_k t n → ∃ s, s < n ∧ ¬ t s = 0 ∧ ra_k t s = r := by
  intro n
  induction n with
  | zero => intro h; exact absurd h (Nat.not_lt_zero _)
  | succ n ih =>
    intro h
    by_cases z : t n = 0
    · rw [ra_s0 z] at h
      obtain ⟨s, h1, h2, h3⟩ := ih h
      exact ⟨s, by omega, h2, h3⟩
    · rw [ra_s1 z] at h
      by_cases e : r = ra_k t n
      · exact ⟨n, by omega, z, e.symm⟩
      · obtain ⟨s, h1, h2, h3⟩ := ih (by omega)
        exact ⟨s, by omega, h2, h3⟩
theorem ra_cg {t t' : Nat → Int32} : ∀ {n : Nat}, (∀ j, j < n → (t j = 0 ↔ t' j = 0)) → ra_k t n = ra_k t' n := by
  intro n
  induction n with
  | zero => intro _; rfl
  | succ n ih =>
    intro h
    have e := ih (fun j hj => h j (by omega))
    by_cases z : t n = 0
    · rw [ra_s0 z, ra_s0 ((h n (by omega)).mp z), e]
    · rw [ra_s1 z, ra_s1 (fun y => z ((h n (by omega)).mpr y)), e]
/-- a fold over the slots that are there; a fold over rows -/
def fo_g {α : Type} (t : Nat → Int32) (G : Nat → α → α) (a : α) : Nat → α
  | 0 => a
  | s + 1 => if t s = 0 then fo_g t G a s else G s (fo_g t G a s)
def fo_y {α : Type} (F : Nat → α → α) (a : α) : Nat → α
  | 0 => a
  | r + 1 => F r (fo_y F a r)
theorem fo_g0 {α : Type} {t : Nat → Int32} {G : Nat → α → α} {a : α} {s : Nat} (h : t s = 0) : fo_g t G a (s + 1) = fo_g t G a s := if_pos h
theorem fo_g1 {α : Type} {t : Nat → Int32} {G : Nat → α → α} {a : α} {s : Nat} (h : ¬ t s = 0) : fo_g t G a (s + 1) = G s (fo_g t G a s) := if_neg h
theorem fo_eq {α : Type} {t : Nat → Int32} {G F : Nat → α → α} {a : α} : ∀ {n : Nat}, (∀ s, s < n → ¬ t s = 0 → ∀ x, F (ra_k t s) x = G s x) → fo_g t G a n = fo_y F a (ra_k t n) := by
  intro n
  induction n with
  | zero => intro _; rfl
  | succ n ih =>
    intro h
    have e := ih (fun s hs => h s (by omega))
    by_cases z : t n = 0
    · rw [fo_g0 z, ra_s0 z, e]
    · rw [fo_g1 z, ra_s1 z, e]
      exact (h n (by omega) z _).symm
/-- the tables: X's table p by slots, Y's table t by rows -/
def vx_t (th : Nat → Int32) (p : Nat) : Nat → Int32 := fun s => th (p * 101 + s)
def vx_r (cx : Nat → Int32) (p : Nat) : Nat → Nat → Int32 := fun s c => cx ((p * 101 + s) * 4 + c)
def vy_r (cy : Nat → Int32) (t : Nat) : Nat → Nat → Int32 := fun r c => cy (160 * t + 4 * r + c)
def ta_R (xt : Nat → Int32) (xr : Nat → Nat → Int32) (yr : Nat → Nat → Int32) : Prop :=
  ra_k xt 101 ≤ 40 ∧ ∀ s, s < 101 → ¬ xt s = 0 → xr s 0 = nI s - 50 ∧ ∀ c, c < 4 → yr (ra_k xt s) c = xr s c
def rt_R (th cx : Nat → Int32) (p : Nat) (cn cy : Nat → Int32) (t : Nat) : Prop :=
  cn t = nI (ra_k (vx_t th p) 101) ∧ ta_R (vx_t th p) (vx_r cx p) (vy_r cy t)
theorem ta_cg {xt xt' : Nat → Int32} {xr xr' yr yr' : Nat → Nat → Int32} (h : ta_R xt xr yr) (ht : ∀ s, s < 101 → (xt s = 0 ↔ xt' s = 0))
    (hx : ∀ s, s < 101 → ¬ xt s = 0 → ∀ c, c < 4 → xr' s c = xr s c) (hy : ∀ r, r < 40 → ∀ c, c < 4 → yr' r c = yr r c) : ra_k xt' 101 = ra_k xt 101 ∧ ta_R xt' xr' yr' := by
  have e : ∀ n, n ≤ 101 → ra_k xt' n = ra_k xt n := fun n hn => (ra_cg (fun j hj => ht j (by omega))).symm
  refine ⟨e 101 (by omega), by rw [e 101 (by omega)]; exact h.1, ?_⟩
  intro s hs hn
  have hn' : ¬ xt s = 0 := fun z => hn ((ht s hs).mp z)
  obtain ⟨a, b⟩ := h.2 s hs hn'
  have hr : ra_k xt s < 40 := Nat.lt_of_lt_of_le (ra_lt hs hn') h.1
  refine ⟨by rw [hx s hs hn' 0 (by omega)]; exact a, fun c hc => ?_⟩
  rw [e s (by omega), hy _ hr c hc, hx s hs hn' c hc, b c hc]
