/-! X's NEXT, row by row -/
section
variable {xs xu xc : Int32} {th cx sx kd nm ct : Nat → Int32} {op : Nat → Int64} {pa mx rx : Nat → Int32} {yd yu yc yf : Int32} {cy cn sy os ny sz ln py ry fy my nw : Nat → Int32}
theorem nx_s {xt xt' : Nat → Int32} {xr xr' : Nat → Nat → Int32} {f : Nat → ro_T} {j s0 : Nat} (h : nx_H xt xr f j) (hs : s0 < 101) (hz : xt s0 = 0) (hk : (f j).1 = nI s0 - 50)
    (ht : ∀ s, s < 101 → s ≠ s0 → xt' s = xt s) (ht0 : ¬ xt' s0 = 0) (hr : ∀ s, s < 101 → s ≠ s0 → ∀ c, c < 4 → xr' s c = xr s c) (hr0 : xr_T xr' s0 = f j) : nx_H xt' xr' f (j + 1) := by
  have same : ∀ s, s < 101 → s ≠ s0 → xr_T xr' s = xr_T xr s := by
    intro s a b
    unfold xr_T
    rw [hr s a b 0 (by omega), hr s a b 1 (by omega), hr s a b 2 (by omega), hr s a b 3 (by omega)]
  refine ⟨fun i hi => ?_, fun s hs' hz' => ?_, fun a b hab hb e => ?_⟩
  · by_cases e : i = j
    · subst e; exact ⟨s0, hs, ht0, hr0.symm⟩
    · obtain ⟨s, a, b, c⟩ := h.1 i (by omega)
      have ns : s ≠ s0 := fun q => b (by rw [q]; exact hz)
      exact ⟨s, a, by rw [ht s a ns]; exact b, by rw [same s a ns]; exact c⟩
  · by_cases e : s = s0
    · subst e
      refine ⟨?_, j, by omega, hr0.symm⟩
      have := congrArg (fun x : ro_T => x.1) hr0
      rw [← hk]; exact this
    · rw [ht s hs' e] at hz'
      obtain ⟨a, i, b, c⟩ := h.2.1 s hs' hz'
      refine ⟨by rw [hr s hs' e 0 (by omega)]; exact a, i, by omega, by rw [same s hs' e]; exact c⟩
  · by_cases eb : b = j
    · subst eb
      obtain ⟨s, a1, b1, c1⟩ := h.1 a hab
      have k1 : (f a).1 = nI s - 50 := by rw [c1]; exact (h.2.1 s a1 b1).1
      have : s = s0 := ab_keyI a1 hs (by rw [← k1, e, hk])
      exact b1 (by rw [this]; exact hz)
    · exact h.2.2 a b hab (by omega) e
theorem nx_f1 {xt : Nat → Int32} {xr : Nat → Nat → Int32} {f : Nat → ro_T} {j m s0 : Nat} (h : nx_H xt xr f j) (hj : j < m) (hs : s0 < 101) (hz : ¬ xt s0 = 0) (hk : (f j).1 = nI s0 - 50) : ¬ gd_K f m := by
  intro g
  obtain ⟨a, i, b, c⟩ := h.2.1 s0 hs hz
  refine g.2 i j b hj ?_
  rw [c, hk]
  exact a
theorem nx_f2 {f : Nat → ro_T} {j m : Nat} (hj : j < m) (hk : (f j).1 < -50 ∨ 50 < (f j).1) : ¬ gd_K f m := by
  intro g
  obtain ⟨s, hs, e⟩ := g.1 j hj
  rw [e] at hk
  rcases hk with q | q
  · exact ab_k1 hs q
  · exact ab_k2 hs q
theorem ra_fun {α : Type} (t : Nat → Int32) (F : Nat → α) (d : α) : ∀ n, ∃ f : Nat → α, ∀ s, s < n → ¬ t s = 0 → f (ra_k t s) = F s := by
  intro n
  induction n with
  | zero => exact ⟨fun _ => d, fun s hs => absurd hs (by omega)⟩
  | succ n ih =>
    obtain ⟨f, hf⟩ := ih
    by_cases z : t n = 0
    · refine ⟨f, fun s hs hz => ?_⟩
      by_cases e : s = n
      · subst e; exact absurd z hz
      · exact hf s (by omega) hz
    · refine ⟨fun r => if r = ra_k t n then F n else f r, fun s hs hz => ?_⟩
      by_cases e : s = n
      · subst e; simp
      · have : ra_k t s ≠ ra_k t n := fun q => e (ra_inj hz z q)
        simp only [if_neg this]
        exact hf s (by omega) hz
theorem nx_base {xt xt' : Nat → Int32} {xr xr' : Nat → Nat → Int32} {f : Nat → ro_T} (hk : ∀ s, s < 101 → ¬ xt s = 0 → xr s 0 = nI s - 50) (ht : ∀ s, s < 101 → xt' s = xt s) (hr : ∀ s, s < 101 → ∀ c, c < 4 → xr' s c = xr s c)
    (hf : ∀ s, s < 101 → ¬ xt s = 0 → f (ra_k xt s) = xr_T xr s) : nx_H xt' xr' f (ra_k xt 101) := by
  have same : ∀ s, s < 101 → xr_T xr' s = xr_T xr s := by
    intro s a
    unfold xr_T
    rw [hr s a 0 (by omega), hr s a 1 (by omega), hr s a 2 (by omega), hr s a 3 (by omega)]
  refine ⟨fun i hi => ?_, fun s hs' hz' => ?_, fun a b hab hb e => ?_⟩
  · obtain ⟨s, hs, hz, rfl⟩ := ra_inv hi
    exact ⟨s, hs, by rw [ht s hs]; exact hz, by rw [same s hs]; exact hf s hs hz⟩
  · rw [ht s hs'] at hz'
    exact ⟨by rw [hr s hs' 0 (by omega)]; exact hk s hs' hz', ra_k xt s, ra_lt hs' hz', by rw [same s hs']; exact hf s hs' hz'⟩
  · obtain ⟨s, hs, hz, ea⟩ := ra_inv (t := xt) (r := a) (n := 101) (by omega)
    obtain ⟨s', hs', hz', eb⟩ := ra_inv hb
    rw [← ea, ← eb, hf s hs hz, hf s' hs' hz'] at e
    have e' : xr s 0 = xr s' 0 := e
    rw [hk s hs hz, hk s' hs' hz'] at e'
    have := ab_keyI hs hs' e'
    subst this
    omega
theorem nx_0 {xt : Nat → Int32} {xr : Nat → Nat → Int32} {f : Nat → ro_T} (h : ∀ s, s < 101 → xt s = 0) : nx_H xt xr f 0 :=
  ⟨fun i hi => absurd hi (by omega), fun s hs hz => absurd (h s hs) hz, fun a b _ hb => absurd hb (by omega)⟩
theorem xa_slot {post : Int32 → Prop} {p s : Nat} (h : post (nI (p * 101 + s))) : wpX_slotOf post (nI p) (nI s - 50) := by
  unfold wpX_slotOf
  rw [ab_so]
  exact h
/-- placeInNext -/
theorem xp_nx {post : Int32 → SX → Prop} {s j m : Nat} {f : Nat → ro_T} {k : Int32} (hs : s < 101) (hb : bo_A th) (hz : ¬ vx_t th 4 s = 0) (hj : j < m) (H : nx_H (vx_t th 5) (vx_r cx 5) f j) (hk : (f j).1 = k)
    (h0 : ¬ gd_K f m → post 0 (xs, xu, xc, th, cx, sx, kd, nm, ct, op, pa, mx, rx))
    (h1 : ∀ s0 cx', s0 < 101 → k = nI s0 - 50 → vx_t th 5 s0 = 0 → vx_r cx' 5 s0 0 = k → (∀ c, 1 ≤ c → c < 4 → vx_r cx' 5 s0 c = vx_r cx 4 s c) → (∀ j, j < (5 * 101 + s0) * 4 ∨ (5 * 101 + s0) * 4 + 4 ≤ j → cx' j = cx j) → post 1 (xs, xu, xc, (upd th (5 * 101 + s0) 1), cx', sx, kd, nm, ct, op, pa, mx, rx)) :
    wpX_placeInNext post (xs, xu, xc, th, cx, sx, kd, nm, ct, op, pa, mx, rx) (nI s) k := by
  unfold wpX_placeInNext
  dsimp only
  rcases ab_slot k with hx | hx | ⟨s0, hs0, rfl⟩
  · exact xa_freeN (Or.inl hx) (br_t rfl (h0 (nx_f2 hj (by rw [hk]; exact Or.inl hx))))
  · exact xa_freeN (Or.inr hx) (br_t rfl (h0 (nx_f2 hj (by rw [hk]; exact Or.inr hx))))
  · refine xa_free (p := 5) (by omega) hs0 (fun z => br_f (by decide) ?_) (fun z => br_t rfl (h0 (nx_f1 H hj hs0 z hk)))
    refine xa_slot (p := 5) ?_
    rw [show 404 + nI s = nI (4 * 101 + s) from nI_add 404 s]
    have e1 : th (4 * 101 + s) = 1 := (hb (4 * 101 + s)).resolve_left hz
    refine xc_slot (by omega) (by omega) (hb _) (fun cx' k1 k2 => ?_)
    rw [e1]
    have em : nI (5 * 101 + s0) * 4 = nI ((5 * 101 + s0) * 4) := pk_mul _ 4
    refine ⟨pk_in ((5 * 101 + s0) * 4) 2424 (by omega) em, nm_r (e' := upd cx' ((5 * 101 + s0) * 4) (nI s0 - 50)) ?_ (h1 s0 _ hs0 rfl z ?_ (fun c c1 c4 => ?_) (fun j hj => ?_))⟩
    · dsimp only
      rw [em, nI_clamp (by omega)]
    · exact pk_us
    · show upd cx' ((5 * 101 + s0) * 4) (nI s0 - 50) ((5 * 101 + s0) * 4 + c) = _
      rw [pk_un (by omega)]; exact k1 c c4
    · rw [pk_un (by omega)]; exact k2 j hj
theorem xr_e {xr : Nat → Nat → Int32} {s : Nat} {r : ro_T} (h0 : xr s 0 = r.1) (h1 : xr s 1 = r.2.1) (h2 : xr s 2 = r.2.2.1) (h3 : xr s 3 = r.2.2.2) : xr_T xr s = r := by
  unfold xr_T; rw [h0, h1, h2, h3]
/-- what building NEXT leaves alone -/
def fr_X (th cx th' cx' : Nat → Int32) : Prop := (∀ j, j < 505 → th' j = th j) ∧ (∀ j, j < 2020 → cx' j = cx j) ∧ bo_A th'
theorem fr_t {th' cx' : Nat → Int32} {p s : Nat} (h : fr_X th cx th' cx') (hp : p < 5) (hs : s < 101) : vx_t th' p s = vx_t th p s := h.1 _ (by omega)
theorem fr_r {th' cx' : Nat → Int32} {p s c : Nat} (h : fr_X th cx th' cx') (hp : p < 5) (hs : s < 101) (hc : c < 4) : vx_r cx' p s c = vx_r cx p s c := h.2.1 _ (by omega)
/-- buildCopied's loop -/
theorem xb_cp_l {post : Int32 → SX → Prop} {f : Nat → ro_T} {n0 : Nat} (hM : ∀ s, s < 101 → ¬ mx s = 0 → ¬ vx_t th 4 s = 0)
    (hf : ∀ s, s < 101 → ¬ mx s = 0 → f (n0 + ra_k mx s) = (rx s, vx_r cx 4 s 1, vx_r cx 4 s 2, vx_r cx 4 s 3))
    (h1 : ∀ th' cx', fr_X th cx th' cx' → nx_H (vx_t th' 5) (vx_r cx' 5) f (n0 + ra_k mx 101) → post 1 (xs, xu, xc, th', cx', sx, kd, nm, ct, op, pa, mx, rx))
    (h0 : ¬ gd_K f (n0 + ra_k mx 101) → ∀ th' cx', fr_X th cx th' cx' → post 0 (xs, xu, xc, th', cx', sx, kd, nm, ct, op, pa, mx, rx)) :
    ∀ d i n th1 cx1, i + d = 101 → d < n → fr_X th cx th1 cx1 → nx_H (vx_t th1 5) (vx_r cx1 5) f (n0 + ra_k mx i) → wX_buildCopied_8 post n (nI i) xs xu xc th1 cx1 sx kd nm ct op pa mx rx := by
  intro d
  induction d with
  | zero =>
    intro i n th1 cx1 hi hn F H
    obtain ⟨n, rfl⟩ : ∃ m, n = m + 1 := ⟨n - 1, by omega⟩
    obtain rfl : i = 101 := by omega
    exact br_t (by decide) (h1 th1 cx1 F H)
  | succ d ih =>
    intro i n th1 cx1 hi hn F H
    obtain ⟨n, rfl⟩ : ∃ m, n = m + 1 := ⟨n - 1, by omega⟩
    have vi : vp_in (nI i) 101 := vp_in_nI (by omega) (by omega)
    have hi' : i < 101 := by omega
    refine br_f (nI_ge (b := 101) (by omega) (by omega)) ⟨vi, ?_⟩
    rw [nI_clamp (by omega)]
    refine br_c (fun z => nm_r (nI_1 i) (ih (i + 1) n th1 cx1 (by omega) (by omega) F (by rw [ra_s0 z]; exact H))) (fun z => ⟨vi, ?_⟩)
    have ef := hf i hi' z
    have hj : n0 + ra_k mx i < n0 + ra_k mx 101 := by have := ra_lt hi' z; omega
    refine xp_nx hi' F.2.2 (by rw [fr_t F (by omega) hi']; exact hM i hi' z) hj H (by rw [ef]) (fun g => br_t rfl (h0 g th1 cx1 F)) (fun s0 cx' a1 a2 a3 a4 a5 a6 => br_f (by decide) (nm_r (nI_1 i) (ih (i + 1) n _ cx' (by omega) (by omega) ?_ ?_)))
    · exact ⟨fun j hj => by rw [pk_un (by omega)]; exact F.1 j hj, fun j hj => by rw [a6 j (by omega)]; exact F.2.1 j hj, bo_u F.2.2 (Or.inr rfl)⟩
    · rw [ra_s1 z, ← Nat.add_assoc]
      refine nx_s H a1 a3 (by rw [ef]; exact a2) (fun s hs hne => pk_un (by omega)) (by show ¬ upd th1 _ 1 _ = 0; rw [pk_us]; decide) (fun s hs hne c hc => a6 _ (by omega)) ?_
      rw [ef]
      refine xr_e a4 ?_ ?_ ?_
      · rw [a5 1 (by omega) (by omega), fr_r F (by omega) hi' (by omega)]
      · rw [a5 2 (by omega) (by omega), fr_r F (by omega) hi' (by omega)]
      · rw [a5 3 (by omega) (by omega), fr_r F (by omega) hi' (by omega)]
/-- clearNext -/
theorem xb_cl {post : SX → Prop} (hb : bo_A th) (h : ∀ th', (∀ j, j < 505 → th' j = th j) → bo_A th' → (∀ s, s < 101 → vx_t th' 5 s = 0) → post (xs, xu, xc, th', cx, sx, kd, nm, ct, op, pa, mx, rx)) :
    ∀ d i n th1, i + d = 101 → d < n → (∀ j, j < 505 → th1 j = th j) → bo_A th1 → (∀ s, s < i → vx_t th1 5 s = 0) → wX_clearNext_2 post xs xu xc n (nI i) th1 cx sx kd nm ct op pa mx rx := by
  intro d
  induction d with
  | zero =>
    intro i n th1 hi hn a1 a2 a3
    obtain ⟨n, rfl⟩ : ∃ m, n = m + 1 := ⟨n - 1, by omega⟩
    obtain rfl : i = 101 := by omega
    exact br_t (by decide) (h th1 a1 a2 a3)
  | succ d ih =>
    intro i n th1 hi hn a1 a2 a3
    obtain ⟨n, rfl⟩ : ∃ m, n = m + 1 := ⟨n - 1, by omega⟩
    have e5 : 505 + nI i = nI (5 * 101 + i) := nI_add 505 i
    refine br_f (nI_ge (b := 101) (by omega) (by omega)) ⟨pk_in (5 * 101 + i) 606 (by omega) e5, nm_r (e' := upd th1 (5 * 101 + i) 0) (by rw [e5, nI_clamp (by omega)]; rfl) (nm_r (nI_1 i) (ih (i + 1) n _ (by omega) (by omega) (fun j hj => ?_) (bo_u a2 (Or.inl rfl)) (fun s hs => ?_)))⟩
    · rw [pk_un (by omega)]; exact a1 j hj
    · show upd th1 _ 0 (5 * 101 + s) = 0
      by_cases e : s = i
      · subst e; exact pk_us
      · rw [pk_un (by omega)]; exact a3 s (by omega)
/-- a row with one column set -/
def up_r (xr : Nat → Nat → Int32) (mx rx : Nat → Int32) (col : Nat) : Nat → Nat → Int32 := fun s c => if c = col ∧ ¬ mx s = 0 then rx s else xr s c
theorem xb_61 {post : Int32 → SX → Prop} {J : Int32 → Int32 → Int32 → Int32 → (Nat → Int32) → (Nat → Int32) → (Nat → Int32) → (Nat → Int32) → (Nat → Int32) → (Nat → Int32) → (Nat → Int64) → (Nat → Int32) → (Nat → Int32) → (Nat → Int32) → Prop} {f : Nat → ro_T} {col i j m : Nat} {k : Int32} (hcol : col < 4) (hi : i < 101) (hb : bo_A th) (hz : ¬ vx_t th 4 i = 0) (hj : j < m)
    (H : nx_H (vx_t th 5) (vx_r cx 5) f j) (hf : f j = xr_T (up_r (vx_r cx 4) mx rx col) i) (hk : k = up_r (vx_r cx 4) mx rx col i 0)
    (h0 : ¬ gd_K f m → post 0 (xs, xu, xc, th, cx, sx, kd, nm, ct, op, pa, mx, rx)) (h1 : ∀ th' cx', fr_X th cx th' cx' → nx_H (vx_t th' 5) (vx_r cx' 5) f (j + 1) → J (nI (i + 1)) xs xu xc th' cx' sx kd nm ct op pa mx rx) :
    wX_buildUpdated_61 post J (nI col) (nI i) k xs xu xc th cx sx kd nm ct op pa mx rx := by
  have vi : vp_in (nI i) 101 := vp_in_nI (by omega) (by omega)
  have ci : (nI i).toNatClampNeg = i := nI_clamp (by omega)
  unfold wX_buildUpdated_61
  refine xp_nx hi hb hz hj H (by rw [hf, hk]; rfl) (fun g => br_t rfl (h0 g)) (fun s0 cx' a1 a2 a3 a4 a5 a6 => br_f (by decide) ⟨vi, ?_⟩)
  rw [ci]
  have ef : (f j).1 = nI s0 - 50 := by rw [hf, ← a2, hk]; rfl
  have fr : ∀ cx2, (∀ q, q < 2020 → cx2 q = cx q) → fr_X th cx (upd th (5 * 101 + s0) 1) cx2 := fun cx2 hq => ⟨fun q hq => pk_un (by omega), hq, bo_u hb (Or.inr rfl)⟩
  refine br_c (fun z => nm_r (nI_1 i) (h1 _ cx' (fr cx' (fun q hq => a6 q (by omega))) ?_)) (fun z => ?_)
  · have hn : ∀ c, ¬ (c = col ∧ ¬ mx i = 0) := fun c q => q.2 z
    refine nx_s H a1 a3 ef (fun s hs hne => pk_un (by omega)) (by show ¬ upd th _ 1 _ = 0; rw [pk_us]; decide) (fun s hs hne c hc => a6 _ (by omega)) ?_
    rw [hf]
    refine xr_e (a4.trans hk) ?_ ?_ ?_
    · rw [a5 1 (by omega) (by omega)]; exact (if_neg (hn 1)).symm
    · rw [a5 2 (by omega) (by omega)]; exact (if_neg (hn 2)).symm
    · rw [a5 3 (by omega) (by omega)]; exact (if_neg (hn 3)).symm
  · show vp_in (nI i) 101 ∧ vp_in ((nI 5 * 101 + k - (-50)) * 4 + nI col) 2424 ∧ _
    have e1 : (nI 5 * 101 + k - (-50)) * 4 + nI col = nI ((5 * 101 + s0) * 4 + col) := by rw [a2, ab_so, ab_m4]
    refine ⟨vi, pk_in ((5 * 101 + s0) * 4 + col) 2424 (by omega) e1, nm_r (e' := upd cx' ((5 * 101 + s0) * 4 + col) (rx i)) ?_ (nm_r (nI_1 i) (h1 _ _ (fr _ (fun q hq => by rw [pk_un (by omega)]; exact a6 q (by omega))) ?_))⟩
    · show upd cx' ((nI 5 * 101 + k - (-50)) * 4 + nI col).toNatClampNeg _ = _
      rw [e1, nI_clamp (by omega)]
    · refine nx_s H a1 a3 ef (fun s hs hne => pk_un (by omega)) (by show ¬ upd th _ 1 _ = 0; rw [pk_us]; decide) (fun s hs hne c hc => ?_) ?_
      · show upd cx' _ _ _ = _
        rw [pk_un (by omega)]; exact a6 _ (by omega)
      · rw [hf]
        have cell : ∀ c, c < 4 → vx_r (upd cx' ((5 * 101 + s0) * 4 + col) (rx i)) 5 s0 c = up_r (vx_r cx 4) mx rx col i c := by
          intro c hc
          show upd cx' ((5 * 101 + s0) * 4 + col) (rx i) ((5 * 101 + s0) * 4 + c) = if c = col ∧ ¬ mx i = 0 then rx i else vx_r cx 4 i c
          by_cases e : c = col
          · subst e; rw [pk_us, if_pos ⟨rfl, z⟩]
          · rw [pk_un (by omega), if_neg (fun q => e q.1)]
            by_cases c0 : c = 0
            · subst c0
              have q1 : up_r (vx_r cx 4) mx rx col i 0 = vx_r cx 4 i 0 := if_neg (fun q => e q.1)
              rw [← q1, ← hk]; exact a4
            · exact a5 c (by omega) hc
        exact xr_e (cell 0 (by omega)) (cell 1 (by omega)) (cell 2 (by omega)) (cell 3 (by omega))
theorem xb_up_l {post : Int32 → SX → Prop} {f : Nat → ro_T} {col : Nat} (hcol : col < 4) (hkey : ∀ s, s < 101 → ¬ vx_t th 4 s = 0 → vx_r cx 4 s 0 = nI s - 50)
    (hf : ∀ s, s < 101 → ¬ vx_t th 4 s = 0 → f (ra_k (vx_t th 4) s) = xr_T (up_r (vx_r cx 4) mx rx col) s)
    (h1 : ∀ th' cx', fr_X th cx th' cx' → nx_H (vx_t th' 5) (vx_r cx' 5) f (ra_k (vx_t th 4) 101) → post 1 (xs, xu, xc, th', cx', sx, kd, nm, ct, op, pa, mx, rx))
    (h0 : ¬ gd_K f (ra_k (vx_t th 4) 101) → ∀ th' cx', fr_X th cx th' cx' → post 0 (xs, xu, xc, th', cx', sx, kd, nm, ct, op, pa, mx, rx)) :
    ∀ d i n th1 cx1, i + d = 101 → d < n → fr_X th cx th1 cx1 → nx_H (vx_t th1 5) (vx_r cx1 5) f (ra_k (vx_t th 4) i) → wX_buildUpdated_6 post (nI col) n (nI i) xs xu xc th1 cx1 sx kd nm ct op pa mx rx := by
  intro d
  induction d with
  | zero =>
    intro i n th1 cx1 hi hn F H
    obtain ⟨n, rfl⟩ : ∃ m, n = m + 1 := ⟨n - 1, by omega⟩
    obtain rfl : i = 101 := by omega
    exact br_t (by decide) (h1 th1 cx1 F H)
  | succ d ih =>
    intro i n th1 cx1 hi hn F H
    obtain ⟨n, rfl⟩ : ∃ m, n = m + 1 := ⟨n - 1, by omega⟩
    have vi : vp_in (nI i) 101 := vp_in_nI (by omega) (by omega)
    have hi' : i < 101 := by omega
    have e4 : 404 + nI i = nI (4 * 101 + i) := nI_add 404 i
    have c4 : (nI (4 * 101 + i)).toNatClampNeg = 4 * 101 + i := nI_clamp (by omega)
    have et : th1 (4 * 101 + i) = vx_t th 4 i := fr_t F (by omega) hi'
    refine br_f (nI_ge (b := 101) (by omega) (by omega)) ⟨pk_in (4 * 101 + i) 606 (by omega) e4, ?_⟩
    rw [e4, c4, et, nI_clamp (n := i) (by omega)]
    refine br_c (fun z => nm_r (nI_1 i) (ih (i + 1) n th1 cx1 (by omega) (by omega) F (by rw [ra_s0 z]; exact H))) (fun z => ⟨vi, ?_⟩)
    have same : up_r (vx_r cx1 4) mx rx col i 0 = up_r (vx_r cx 4) mx rx col i 0 ∧ xr_T (up_r (vx_r cx1 4) mx rx col) i = xr_T (up_r (vx_r cx 4) mx rx col) i := by
      have q : ∀ c, c < 4 → up_r (vx_r cx1 4) mx rx col i c = up_r (vx_r cx 4) mx rx col i c := by
        intro c hc
        unfold up_r
        rw [fr_r F (by omega) hi' hc]
      refine ⟨q 0 (by omega), ?_⟩
      unfold xr_T
      rw [q 0 (by omega), q 1 (by omega), q 2 (by omega), q 3 (by omega)]
    have go : ∀ k, k = up_r (vx_r cx 4) mx rx col i 0 → wX_buildUpdated_61 post (wX_buildUpdated_6 post (nI col) n) (nI col) (nI i) k xs xu xc th1 cx1 sx kd nm ct op pa mx rx := by
      intro k hk
      refine xb_61 (m := ra_k (vx_t th 4) 101) hcol hi' F.2.2 (by show ¬ th1 _ = 0; rw [et]; exact z) (ra_lt hi' z) H (by rw [same.2]; exact hf i hi' z) (by rw [same.1]; exact hk) (fun g => h0 g th1 cx1 F) (fun th' cx' F' H' => ih (i + 1) n th' cx' (by omega) (by omega) ?_ (by rw [ra_s1 z]; exact H'))
      exact ⟨fun j hj => by rw [F'.1 j hj]; exact F.1 j hj, fun j hj => by rw [F'.2.1 j hj]; exact F.2.1 j hj, F'.2.2⟩
    have plain : ¬ (0 = col ∧ ¬ mx i = 0) → wX_buildUpdated_42 post (wX_buildUpdated_6 post (nI col) n) (nI col) (nI i) xs xu xc th1 cx1 sx kd nm ct op pa mx rx := by
      intro q
      refine br_t rfl (go _ ?_)
      rw [ab_n50, ← hkey i hi' z]
      exact (if_neg q).symm
    refine br_c (fun y => plain (fun q => q.2 y)) (fun y => br_c (fun w => br_f (by decide) ⟨vi, ?_⟩) (fun w => plain (fun q => w (by rw [← q.1]; rfl))))
    rw [nI_clamp (by omega)]
    have c0 : 0 = col := by
      have : nI col = nI 0 := w
      exact ((nI_eq (by omega) (by omega)).mp this).symm
    exact go _ (if_pos ⟨c0, y⟩).symm
theorem xb_up {post : Int32 → SX → Prop} {f : Nat → ro_T} {col : Nat} (hb : bo_A th) (hcol : col < 4) (hkey : ∀ s, s < 101 → ¬ vx_t th 4 s = 0 → vx_r cx 4 s 0 = nI s - 50)
    (hf : ∀ s, s < 101 → ¬ vx_t th 4 s = 0 → f (ra_k (vx_t th 4) s) = xr_T (up_r (vx_r cx 4) mx rx col) s)
    (h1 : ∀ th' cx', fr_X th cx th' cx' → nx_H (vx_t th' 5) (vx_r cx' 5) f (ra_k (vx_t th 4) 101) → post 1 (xs, xu, xc, th', cx', sx, kd, nm, ct, op, pa, mx, rx))
    (h0 : ¬ gd_K f (ra_k (vx_t th 4) 101) → ∀ th' cx', fr_X th cx th' cx' → post 0 (xs, xu, xc, th', cx', sx, kd, nm, ct, op, pa, mx, rx)) : wpX_buildUpdated post (xs, xu, xc, th, cx, sx, kd, nm, ct, op, pa, mx, rx) (nI col) := by
  unfold wpX_buildUpdated wpX_clearNext
  dsimp only
  refine ⟨102, xb_cl hb (fun th2 a1 a2 a3 => ⟨102, ?_⟩) 101 0 102 th (by omega) (by omega) (fun _ _ => rfl) hb (fun s hs => absurd hs (by omega))⟩
  have F2 : fr_X th cx th2 cx := ⟨a1, fun _ _ => rfl, a2⟩
  exact xb_up_l hcol hkey hf h1 h0 101 0 102 th2 cx (by omega) (by omega) F2 (nx_0 a3)
theorem xb_cp {post : Int32 → SX → Prop} {f : Nat → ro_T} (hb : bo_A th) (hkey : ∀ s, s < 101 → ¬ vx_t th 4 s = 0 → vx_r cx 4 s 0 = nI s - 50) (hM : ∀ s, s < 101 → ¬ mx s = 0 → ¬ vx_t th 4 s = 0)
    (hf0 : ∀ s, s < 101 → ¬ vx_t th 4 s = 0 → f (ra_k (vx_t th 4) s) = xr_T (vx_r cx 4) s)
    (hf : ∀ s, s < 101 → ¬ mx s = 0 → f (ra_k (vx_t th 4) 101 + ra_k mx s) = (rx s, vx_r cx 4 s 1, vx_r cx 4 s 2, vx_r cx 4 s 3))
    (h1 : ∀ th' cx', fr_X th cx th' cx' → nx_H (vx_t th' 5) (vx_r cx' 5) f (ra_k (vx_t th 4) 101 + ra_k mx 101) → post 1 (xs, xu, xc, th', cx', sx, kd, nm, ct, op, pa, mx, rx))
    (h0 : ¬ gd_K f (ra_k (vx_t th 4) 101 + ra_k mx 101) → ∀ th' cx', fr_X th cx th' cx' → post 0 (xs, xu, xc, th', cx', sx, kd, nm, ct, op, pa, mx, rx)) : wpX_buildCopied post (xs, xu, xc, th, cx, sx, kd, nm, ct, op, pa, mx, rx) := by
  unfold wpX_buildCopied
  dsimp only
  refine xc_tab (p := 4) (q := 5) (by omega) (by omega) (by omega) hb (fun th2 cx2 hc => ⟨102, ?_⟩)
  have F2 : fr_X th cx th2 cx2 := ⟨fun j hj => hc.2.1 j (by omega), fun j hj => hc.2.2.2 j (by omega), cp_bo hc hb⟩
  have H0 : nx_H (vx_t th2 5) (vx_r cx2 5) f (ra_k (vx_t th 4) 101) := nx_base hkey (fun s hs => hc.1 s hs) (fun s hs c hc' => hc.2.2.1 s hs c hc') hf0
  have z0 : ra_k mx 0 = 0 := rfl
  exact xb_cp_l hM hf h1 h0 101 0 102 th2 cx2 (by omega) (by omega) F2 (by rw [z0, Nat.add_zero]; exact H0)
end
