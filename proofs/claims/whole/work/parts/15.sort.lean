/-! rows, counting, sorting: pure -/
section
abbrev ro_T : Type := Int32 × Int32 × Int32 × Int32
def cp_n (P : ro_T → Bool) (g : Nat → ro_T) : Nat → Nat
  | 0 => 0
  | n + 1 => cp_n P g n + if P (g n) = true then 1 else 0
theorem cp_1 {P : ro_T → Bool} {g : Nat → ro_T} {n : Nat} (h : P (g n) = true) : cp_n P g (n + 1) = cp_n P g n + 1 := by simp [cp_n, h]
theorem cp_0 {P : ro_T → Bool} {g : Nat → ro_T} {n : Nat} (h : ¬ P (g n) = true) : cp_n P g (n + 1) = cp_n P g n := by simp [cp_n, h]
theorem cp_cg {P : ro_T → Bool} {g g' : Nat → ro_T} : ∀ {n : Nat}, (∀ j, j < n → g j = g' j) → cp_n P g n = cp_n P g' n := by
  intro n
  induction n with
  | zero => intro _; rfl
  | succ n ih =>
    intro h
    have e := ih (fun j hj => h j (by omega))
    show cp_n P g n + _ = cp_n P g' n + _
    rw [e, h n (by omega)]
theorem cp_mono {P : ro_T → Bool} {g : Nat → ro_T} {a b : Nat} (h : a ≤ b) : cp_n P g a ≤ cp_n P g b := by
  induction b with
  | zero => have : a = 0 := by omega
            subst this; exact Nat.le_refl _
  | succ b ih =>
    by_cases e : a = b + 1
    · subst e; exact Nat.le_refl _
    · have := ih (by omega)
      by_cases h : P (g b) = true
      · rw [cp_1 h]; omega
      · rw [cp_0 h]; omega
theorem cp_ge {P : ro_T → Bool} {g : Nat → ro_T} {j n : Nat} (hj : j < n) (h : P (g j) = true) : 1 ≤ cp_n P g n := by
  have := cp_mono (P := P) (g := g) (a := j + 1) (b := n) hj
  rw [cp_1 h] at this
  omega
theorem cp_ge2 {P : ro_T → Bool} {g : Nat → ro_T} {i j n : Nat} (hij : i < j) (hj : j < n) (h : P (g i) = true) (h' : P (g j) = true) : 2 ≤ cp_n P g n := by
  have a := cp_ge (P := P) (g := g) hij h
  have := cp_mono (P := P) (g := g) (a := j + 1) (b := n) hj
  rw [cp_1 h'] at this
  omega
theorem cp_ex {P : ro_T → Bool} {g : Nat → ro_T} : ∀ {n : Nat}, 1 ≤ cp_n P g n → ∃ j, j < n ∧ P (g j) = true := by
  intro n
  induction n with
  | zero => intro h; exact absurd h (by simp [cp_n])
  | succ n ih =>
    intro h
    by_cases z : P (g n) = true
    · exact ⟨n, by omega, z⟩
    · rw [cp_0 z] at h
      obtain ⟨j, hj, e⟩ := ih h
      exact ⟨j, by omega, e⟩
theorem cp_ex2 {P : ro_T → Bool} {g : Nat → ro_T} : ∀ {n : Nat}, 2 ≤ cp_n P g n → ∃ i j, i < j ∧ j < n ∧ P (g i) = true ∧ P (g j) = true := by
  intro n
  induction n with
  | zero => intro h; exact absurd h (by simp [cp_n])
  | succ n ih =>
    intro h
    by_cases z : P (g n) = true
    · rw [cp_1 z] at h
      obtain ⟨i, hi, e⟩ := cp_ex (P := P) (g := g) (n := n) (by omega)
      exact ⟨i, n, hi, by omega, e, z⟩
    · rw [cp_0 z] at h
      obtain ⟨i, j, hi, hj, e, e'⟩ := ih h
      exact ⟨i, j, hi, by omega, e, e'⟩
/-- rows r and r + 1 exchanged -/
def sw_g (g : Nat → ro_T) (r : Nat) : Nat → ro_T := fun j => if j = r then g (r + 1) else if j = r + 1 then g r else g j
theorem sw_a {g : Nat → ro_T} {r : Nat} : sw_g g r r = g (r + 1) := if_pos rfl
theorem sw_b {g : Nat → ro_T} {r : Nat} : sw_g g r (r + 1) = g r := by simp [sw_g]
theorem sw_o {g : Nat → ro_T} {r j : Nat} (h : j ≠ r) (h' : j ≠ r + 1) : sw_g g r j = g j := by simp [sw_g, h, h']
theorem sw_cp {P : ro_T → Bool} {g : Nat → ro_T} {r : Nat} : ∀ d, cp_n P (sw_g g r) (r + 2 + d) = cp_n P g (r + 2 + d) := by
  intro d
  induction d with
  | zero =>
    have e : cp_n P (sw_g g r) r = cp_n P g r := cp_cg (fun j hj => sw_o (by omega) (by omega))
    show cp_n P (sw_g g r) r + (if P (sw_g g r r) = true then 1 else 0) + (if P (sw_g g r (r + 1)) = true then 1 else 0) = cp_n P g r + (if P (g r) = true then 1 else 0) + (if P (g (r + 1)) = true then 1 else 0)
    rw [e, sw_a, sw_b]
    omega
  | succ d ih =>
    show cp_n P (sw_g g r) (r + 2 + d) + (if P (sw_g g r (r + 2 + d)) = true then 1 else 0) = cp_n P g (r + 2 + d) + (if P (g (r + 2 + d)) = true then 1 else 0)
    rw [ih, sw_o (by omega) (by omega)]
def pm_E (g g' : Nat → ro_T) (m : Nat) : Prop := ∀ P : ro_T → Bool, cp_n P g' m = cp_n P g m
theorem pm_in {g g' : Nat → ro_T} {m : Nat} (h : pm_E g g' m) {j : Nat} (hj : j < m) : ∃ i, i < m ∧ g i = g' j := by
  have a := h (fun x => decide (x = g' j))
  have b : 1 ≤ cp_n (fun x => decide (x = g' j)) g' m := cp_ge hj (by simp)
  rw [a] at b
  obtain ⟨i, hi, e⟩ := cp_ex b
  exact ⟨i, hi, of_decide_eq_true e⟩
theorem pm_sy {g g' : Nat → ro_T} {m : Nat} (h : pm_E g g' m) : pm_E g' g m := fun P => (h P).symm
/-- keys in their range, and all different -/
def gd_K (g : Nat → ro_T) (m : Nat) : Prop := (∀ j, j < m → ∃ s, s < 101 ∧ (g j).1 = nI s - 50) ∧ (∀ a b, a < b → b < m → ¬ (g a).1 = (g b).1)
theorem gd_pm {g g' : Nat → ro_T} {m : Nat} (h : pm_E g g' m) (hg : gd_K g m) : gd_K g' m := by
  refine ⟨fun j hj => ?_, fun a b hab hb e => ?_⟩
  · obtain ⟨i, hi, e⟩ := pm_in h hj
    rw [← e]
    exact hg.1 i hi
  · have h2 : 2 ≤ cp_n (fun x => decide (x.1 = (g' b).1)) g' m := cp_ge2 hab hb (by simp [e]) (by simp)
    rw [h] at h2
    obtain ⟨i, j, hij, hj, e1, e2⟩ := cp_ex2 h2
    have e1' := of_decide_eq_true e1
    have e2' := of_decide_eq_true e2
    exact hg.2 i j hij hj (e1'.trans e2'.symm)
def so_R (g : Nat → ro_T) (m : Nat) : Prop := ∀ a b, a < b → b < m → (g a).1 ≤ (g b).1
/-- the table that holds a list's rows, when they are sorted -/
def xr_T (xr : Nat → Nat → Int32) (s : Nat) : ro_T := (xr s 0, xr s 1, xr s 2, xr s 3)
def nx_H (xt : Nat → Int32) (xr : Nat → Nat → Int32) (f : Nat → ro_T) (m : Nat) : Prop :=
  (∀ i, i < m → ∃ s, s < 101 ∧ ¬ xt s = 0 ∧ f i = xr_T xr s) ∧ (∀ s, s < 101 → ¬ xt s = 0 → xr s 0 = nI s - 50 ∧ ∃ i, i < m ∧ f i = xr_T xr s) ∧ (∀ a b, a < b → b < m → ¬ (f a).1 = (f b).1)
theorem nx_gd {xt : Nat → Int32} {xr : Nat → Nat → Int32} {f : Nat → ro_T} {m : Nat} (h : nx_H xt xr f m) : gd_K f m := by
  refine ⟨fun j hj => ?_, h.2.2⟩
  obtain ⟨s, hs, hz, e⟩ := h.1 j hj
  exact ⟨s, hs, by rw [e]; exact (h.2.1 s hs hz).1⟩
theorem nx_ta {xt : Nat → Int32} {xr : Nat → Nat → Int32} {f g : Nat → ro_T} {m : Nat} (hm : m ≤ 40) (h : nx_H xt xr f m) (hp : pm_E f g m) (hs : so_R g m) :
    ra_k xt 101 = m ∧ ∀ s, s < 101 → ¬ xt s = 0 → g (ra_k xt s) = xr_T xr s := by
  have hg := gd_pm hp (nx_gd h)
  have lt : ∀ a b, a < b → b < m → (g a).1.toInt < (g b).1.toInt := by
    intro a b hab hb
    have h1 := Int32.le_iff_toInt_le.mp (hs a b hab hb)
    have h2 : ¬ (g a).1.toInt = (g b).1.toInt := fun e => hg.2 a b hab hb (Int32.toInt_inj.mp e)
    omega
  have into : ∀ j, j < m → ∃ s, s < 101 ∧ ¬ xt s = 0 ∧ g j = xr_T xr s ∧ (g j).1.toInt = (s : Int) - 50 := by
    intro j hj
    obtain ⟨i, hi, e⟩ := pm_in hp hj
    obtain ⟨s, hs, hz, e2⟩ := h.1 i hi
    have e3 : g j = xr_T xr s := by rw [← e, e2]
    refine ⟨s, hs, hz, e3, ?_⟩
    rw [e3]
    show (xr s 0).toInt = _
    rw [(h.2.1 s hs hz).1, ab_key hs]
  have onto : ∀ s, s < 101 → ¬ xt s = 0 → ∃ j, j < m ∧ g j = xr_T xr s ∧ (g j).1.toInt = (s : Int) - 50 := by
    intro s hs' hz
    obtain ⟨k0, i, hi, e⟩ := h.2.1 s hs' hz
    obtain ⟨j, hj, e2⟩ := pm_in (pm_sy hp) hi
    have e3 : g j = xr_T xr s := by rw [e2, e]
    refine ⟨j, hj, e3, ?_⟩
    rw [e3]
    show (xr s 0).toInt = _
    rw [k0, ab_key hs']
  have hatS : ∀ s, s < 101 → ra_k xt s ≤ m → (∀ j, ra_k xt s ≤ j → j < m → (s : Int) - 50 ≤ (g j).1.toInt) → (∀ j, j < ra_k xt s → (g j).1.toInt < (s : Int) - 50) → ¬ xt s = 0 → ra_k xt s < m ∧ g (ra_k xt s) = xr_T xr s ∧ (g (ra_k xt s)).1.toInt = (s : Int) - 50 := by
    intro s hs' hle hup hlo hz
    obtain ⟨j, hj, e, ek⟩ := onto s hs' hz
    have hj2 : ra_k xt s ≤ j := by
      apply Classical.byContradiction
      intro q
      have := hlo j (by omega)
      omega
    have : j = ra_k xt s := by
      apply Classical.byContradiction
      intro q
      have a := lt (ra_k xt s) j (by omega) hj
      have b := hup (ra_k xt s) (Nat.le_refl _) (by omega)
      omega
    rw [← this]
    exact ⟨hj, e, ek⟩
  have all : ∀ s, s ≤ 101 → ra_k xt s ≤ m ∧ (∀ j, ra_k xt s ≤ j → j < m → (s : Int) - 50 ≤ (g j).1.toInt) ∧ (∀ j, j < ra_k xt s → (g j).1.toInt < (s : Int) - 50) := by
    intro s
    induction s with
    | zero =>
      intro _
      refine ⟨Nat.zero_le _, fun j _ hj => ?_, fun j hj => absurd hj (Nat.not_lt_zero _)⟩
      obtain ⟨s, _, _, _, e⟩ := into j hj
      omega
    | succ s ih =>
      intro hs'
      obtain ⟨i1, i2, i3⟩ := ih (by omega)
      by_cases z : xt s = 0
      · rw [ra_s0 z]
        refine ⟨i1, fun j hj hj' => ?_, fun j hj => ?_⟩
        · have a := i2 j hj hj'
          obtain ⟨s2, h2, z2, _, e2⟩ := into j hj'
          have : s2 ≠ s := fun q => z2 (by rw [q]; exact z)
          omega
        · have := i3 j hj; omega
      · rw [ra_s1 z]
        obtain ⟨b1, b2, b3⟩ := hatS s (by omega) i1 i2 i3 z
        refine ⟨b1, fun j hj hj' => ?_, fun j hj => ?_⟩
        · have := lt (ra_k xt s) j (by omega) hj'
          omega
        · by_cases q : j = ra_k xt s
          · subst q; omega
          · have := i3 j (by omega); omega
  constructor
  · obtain ⟨i1, i2, i3⟩ := all 101 (by omega)
    apply Classical.byContradiction
    intro q
    have a := i2 (ra_k xt 101) (Nat.le_refl _) (by omega)
    obtain ⟨s, h2, _, _, e⟩ := into (ra_k xt 101) (by omega)
    omega
  · intro s hs' hz
    obtain ⟨i1, i2, i3⟩ := all s (by omega)
    exact (hatS s hs' i1 i2 i3 hz).2.1
end
