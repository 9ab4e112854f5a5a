/-! selection: Y's findMeets and findValues -/
section
variable {xs xu xc : Int32} {th cx sx kd nm ct : Nat → Int32} {op : Nat → Int64} {pa mx rx : Nat → Int32} {yd yu yc yf : Int32} {cy cn sy os ny sz ln py ry fy my nw : Nat → Int32}
theorem ys_57 {post : Int32 → SY → Prop} {J : Int32 → Int32 → Int32 → Int32 → Int32 → Int32 → Int32 → (Nat → Int32) → (Nat → Int32) → (Nat → Int32) → (Nat → Int32) → (Nat → Int32) → (Nat → Int32) → (Nat → Int32) → (Nat → Int32) → (Nat → Int32) → (Nat → Int32) → (Nat → Int32) → (Nat → Int32) → Prop} {x1 x2 z0 : Int32} {i : Nat} (hi : i < 40)
    (h0 : my i = 0 → J x2 z0 (nI (i + 1)) yd yu yc yf cy cn sy os ny sz ln py ry fy my nw) (h1 : ¬ my i = 0 → J (x2 + 1) z0 (nI (i + 1)) yd yu yc yf cy cn sy os ny sz ln py ry fy my nw) : wY_findMeets_57 post J x1 x2 (nI i) z0 yd yu yc yf cy cn sy os ny sz ln py ry fy my nw := by
  refine ⟨vp_in_nI (by omega) (by omega), ?_⟩
  rw [nI_clamp (by omega)]
  exact br_c (fun z => nm_r (nI_1 i) (h0 z)) (fun z => nm_e (nm_r (nI_1 i) (h1 z)))
theorem ys_rows_l {post : Int32 → SY → Prop} {e L m : Nat} {K N Z : Nat → Int32} (T : te_Y os ny sz ln K N Z e L) (hm : m ≤ 40) (hc : cn 0 = nI m)
    (hF : (∃ r, r < m ∧ pv_T K N L py (vy_r cy 0 r) = none) → ∀ yf' ry' fy' my', post (-1000000005) (yd, yu, yc, yf', cy, cn, sy, os, ny, sz, ln, py, ry', fy', my', nw))
    (hS : ∀ yf' ry' fy' my', (∀ r, r < m → ∃ v, pv_T K N L py (vy_r cy 0 r) = some v ∧ my' r = if v = 0 then 0 else 1) → post (nI (ra_k my' m)) (yd, yu, yc, yf', cy, cn, sy, os, ny, sz, ln, py, ry', fy', my', nw)) :
    ∀ d i n x2 x3 yf ry fy my, i + d = m → d < n →
      ((x3 = 0 ∧ (∀ r, r < i → ∃ v, pv_T K N L py (vy_r cy 0 r) = some v ∧ my r = if v = 0 then 0 else 1) ∧ x2 = nI (ra_k my i)) ∨ (x3 = 1 ∧ ∃ r, r < m ∧ pv_T K N L py (vy_r cy 0 r) = none)) →
      wY_findMeets_7 post (nI e) n x2 x3 (nI i) yd yu yc yf cy cn sy os ny sz ln py ry fy my nw := by
  intro d
  induction d with
  | zero =>
    intro i n x2 x3 yf ry fy my hi hn hI
    obtain ⟨n, rfl⟩ : ∃ m, n = m + 1 := ⟨n - 1, by omega⟩
    obtain rfl : i = m := by omega
    refine br_t (by rw [hc]; exact Int32.le_refl _) ?_
    rcases hI with ⟨h3, h1, h2⟩ | ⟨h3, hb⟩
    · rw [h2]; exact br_t h3 (hS _ _ _ _ h1)
    · exact br_f (by rw [h3]; decide) (hF hb _ _ _ _)
  | succ d ih =>
    intro i n x2 x3 yf ry fy my hi hn hI
    obtain ⟨n, rfl⟩ : ∃ m, n = m + 1 := ⟨n - 1, by omega⟩
    have ci : (nI i).toNatClampNeg = i := nI_clamp (by omega)
    refine br_f (by rw [hc]; exact nI_ge (by omega) (by omega)) ?_
    refine te_work (t := 0) T (by omega) (by omega) (fun ry' fy' w f hv => ?_)
    have step : ∀ z : Int32, (z = 0 ∨ z = 1) → (z = 0 ↔ w = 0) → wY_findMeets_40 post (wY_findMeets_7 post (nI e) n) (nI e) x2 x3 (nI i) z (nI i) yd yu yc f cy cn sy os ny sz ln py ry' fy' my nw := by
      intro z hz ez
      refine ⟨vp_in_nI (by omega) (by omega), nm_r (e' := upd my i z) (by rw [ci, ab_bn z hz]) ?_⟩
      have wr : ∀ x2', (∃ r, r < m ∧ pv_T K N L py (vy_r cy 0 r) = none) → wY_findMeets_7 post (nI e) n x2' 1 (nI (i + 1)) yd yu yc f cy cn sy os ny sz ln py ry' fy' (upd my i z) nw :=
        fun x2' hb => ih (i + 1) n x2' 1 f ry' fy' _ (by omega) (by omega) (Or.inr ⟨rfl, hb⟩)
      rcases hI with ⟨h3, h1, h2⟩ | ⟨h3, hb⟩
      · refine br_t h3 ?_
        cases hV : pv_T K N L py (vy_r cy 0 i) with
        | none =>
          rw [hV] at hv
          have f1 : f = 1 := hv
          have hb : ∃ r, r < m ∧ pv_T K N L py (vy_r cy 0 r) = none := ⟨i, by omega, hV⟩
          exact br_f (by rw [f1]; decide) (ys_57 (by omega) (fun _ => wr _ hb) (fun _ => wr _ hb))
        | some v =>
          rw [hV] at hv
          obtain ⟨f0, wv⟩ := hv
          have wv' : w = v := wv
          have e1 : upd my i z i = z := pk_us
          have old : ∀ s, s < i → upd my i z s = my s := fun s hs => pk_un (by omega)
          have oldR : ra_k (upd my i z) i = ra_k my i := ra_cg (fun j hj => by rw [old j hj])
          have new : ∀ r, r < i + 1 → ∃ v, pv_T K N L py (vy_r cy 0 r) = some v ∧ upd my i z r = if v = 0 then 0 else 1 := by
            intro r hr
            by_cases q : r = i
            · subst q
              refine ⟨v, hV, ?_⟩
              rw [e1]
              by_cases v0 : v = 0
              · rw [if_pos v0]; exact ez.mpr (by rw [wv', v0])
              · rw [if_neg v0]; exact hz.resolve_left (fun q => v0 (by rw [← wv']; exact ez.mp q))
            · rw [old r (by omega)]; exact h1 r (by omega)
          refine br_t f0 (ys_57 (by omega) (fun q => ?_) (fun q => ?_))
          · refine ih (i + 1) n x2 0 f ry' fy' _ (by omega) (by omega) (Or.inl ⟨rfl, new, ?_⟩)
            rw [ra_s0 q, oldR]; exact h2
          · refine ih (i + 1) n (x2 + 1) 0 f ry' fy' _ (by omega) (by omega) (Or.inl ⟨rfl, new, ?_⟩)
            rw [ra_s1 q, oldR, h2, nI_1]
      · exact br_f (by rw [h3]; decide) (ys_57 (by omega) (fun _ => wr _ hb) (fun _ => wr _ hb))
    exact br_c (fun q => step 0 (Or.inl rfl) ⟨fun _ => q, fun _ => rfl⟩) (fun q => step 1 (Or.inr rfl) ⟨fun z => absurd z (by decide), fun z => absurd z q⟩)
theorem ys_rows {post : Int32 → SY → Prop} {e L m : Nat} {K N Z : Nat → Int32} (T : te_Y os ny sz ln K N Z e L) (hm : m ≤ 40) (hc : cn 0 = nI m)
    (hF : (∃ r, r < m ∧ pv_T K N L py (vy_r cy 0 r) = none) → ∀ yf' ry' fy' my', post (-1000000005) (yd, yu, yc, yf', cy, cn, sy, os, ny, sz, ln, py, ry', fy', my', nw))
    (hS : ∀ yf' ry' fy' my', (∀ r, r < m → ∃ v, pv_T K N L py (vy_r cy 0 r) = some v ∧ my' r = if v = 0 then 0 else 1) → post (nI (ra_k my' m)) (yd, yu, yc, yf', cy, cn, sy, os, ny, sz, ln, py, ry', fy', my', nw)) :
    wpY_findMeets post (yd, yu, yc, yf, cy, cn, sy, os, ny, sz, ln, py, ry, fy, my, nw) (nI e) :=
  ⟨m + 1, ys_rows_l T hm hc hF hS m 0 (m + 1) 0 0 yf ry fy my (by omega) (by omega) (Or.inl ⟨rfl, fun s hs => absurd hs (by omega), rfl⟩)⟩
theorem ys_res_l {post : Int32 → SY → Prop} {e L m : Nat} {met : Int32} {K N Z : Nat → Int32} (T : te_Y os ny sz ln K N Z e L) (hm : m ≤ 40) (hc : cn 0 = nI m)
    (hF : (∃ r, r < m ∧ ¬ my r = 0 ∧ pv_T K N L py (vy_r cy 0 r) = none) → ∀ yf' ry' fy' nw', post (-1000000005) (yd, yu, yc, yf', cy, cn, sy, os, ny, sz, ln, py, ry', fy', my, nw'))
    (hS : ∀ yf' ry' fy' nw', (∀ r, r < m → ¬ my r = 0 → pv_T K N L py (vy_r cy 0 r) = some (nw' r)) → post met (yd, yu, yc, yf', cy, cn, sy, os, ny, sz, ln, py, ry', fy', my, nw')) :
    ∀ d i n x4 yf ry fy nw, i + d = m → d < n →
      ((x4 = 0 ∧ (∀ r, r < i → ¬ my r = 0 → pv_T K N L py (vy_r cy 0 r) = some (nw r))) ∨ (x4 = 1 ∧ ∃ r, r < m ∧ ¬ my r = 0 ∧ pv_T K N L py (vy_r cy 0 r) = none)) →
      wY_findValues_21 post (nI e) met n x4 (nI i) yd yu yc yf cy cn sy os ny sz ln py ry fy my nw := by
  intro d
  induction d with
  | zero =>
    intro i n x4 yf ry fy nw hi hn hI
    obtain ⟨n, rfl⟩ : ∃ m, n = m + 1 := ⟨n - 1, by omega⟩
    obtain rfl : i = m := by omega
    refine br_t (by rw [hc]; exact Int32.le_refl _) ?_
    rcases hI with ⟨h3, h1⟩ | ⟨h3, hb⟩
    · exact br_t h3 (hS _ _ _ _ h1)
    · exact br_f (by rw [h3]; decide) (hF hb _ _ _ _)
  | succ d ih =>
    intro i n x4 yf ry fy nw hi hn hI
    obtain ⟨n, rfl⟩ : ∃ m, n = m + 1 := ⟨n - 1, by omega⟩
    have ci : (nI i).toNatClampNeg = i := nI_clamp (by omega)
    refine br_f (by rw [hc]; exact nI_ge (by omega) (by omega)) ⟨vp_in_nI (by omega) (by omega), ?_⟩
    rw [ci]
    refine br_c (fun z => nm_r (nI_1 i) (ih (i + 1) n x4 yf ry fy nw (by omega) (by omega) ?_)) (fun z => ?_)
    · rcases hI with ⟨h3, h1⟩ | ⟨h3, hb⟩
      · refine Or.inl ⟨h3, fun r hr hz => ?_⟩
        by_cases q : r = i
        · subst q; exact absurd z hz
        · exact h1 r (by omega) hz
      · exact Or.inr ⟨h3, hb⟩
    · refine te_work (t := 0) T (by omega) (by omega) (fun ry' fy' w f hv => ?_)
      refine ⟨vp_in_nI (by omega) (by omega), nm_e ?_⟩
      have wr : (∃ r, r < m ∧ ¬ my r = 0 ∧ pv_T K N L py (vy_r cy 0 r) = none) → wY_findValues_21 post (nI e) met n 1 (nI (i + 1)) yd yu yc f cy cn sy os ny sz ln py ry' fy' my (upd nw i w) :=
        fun hb => ih (i + 1) n 1 f ry' fy' _ (by omega) (by omega) (Or.inr ⟨rfl, hb⟩)
      rcases hI with ⟨h3, h1⟩ | ⟨h3, hb⟩
      · refine br_t h3 ?_
        cases hV : pv_T K N L py (vy_r cy 0 i) with
        | none =>
          rw [hV] at hv
          have f1 : f = 1 := hv
          exact br_f (by rw [f1]; decide) (nm_r (nI_1 i) (wr ⟨i, by omega, z, hV⟩))
        | some v =>
          rw [hV] at hv
          obtain ⟨f0, wv⟩ := hv
          have wv' : w = v := wv
          refine br_t f0 (nm_r (nI_1 i) (ih (i + 1) n 0 f ry' fy' _ (by omega) (by omega) (Or.inl ⟨rfl, fun r hr hz => ?_⟩)))
          by_cases q : r = i
          · subst q; rw [pk_us, wv']; exact hV
          · rw [pk_un q]; exact h1 r (by omega) hz
      · exact br_f (by rw [h3]; decide) (nm_r (nI_1 i) (wr hb))
theorem ys_res {post : Int32 → SY → Prop} {w Lw e L m : Nat} {Kw Nw Zw K N Z : Nat → Int32} (Tw : te_Y os ny sz ln Kw Nw Zw w Lw) (T : te_Y os ny sz ln K N Z e L) (hm : m ≤ 40) (hc : cn 0 = nI m)
    (hF : (∃ r, r < m ∧ pv_T Kw Nw Lw py (vy_r cy 0 r) = none) ∨ (∃ r, r < m ∧ (∃ v, pv_T Kw Nw Lw py (vy_r cy 0 r) = some v ∧ ¬ v = 0) ∧ pv_T K N L py (vy_r cy 0 r) = none) → ∀ yf' ry' fy' my' nw', post (-1000000005) (yd, yu, yc, yf', cy, cn, sy, os, ny, sz, ln, py, ry', fy', my', nw'))
    (hS : ∀ yf' ry' fy' my' nw', (∀ r, r < m → ∃ v, pv_T Kw Nw Lw py (vy_r cy 0 r) = some v ∧ my' r = if v = 0 then 0 else 1) → (∀ r, r < m → ¬ my' r = 0 → pv_T K N L py (vy_r cy 0 r) = some (nw' r)) → post (nI (ra_k my' m)) (yd, yu, yc, yf', cy, cn, sy, os, ny, sz, ln, py, ry', fy', my', nw')) :
    wpY_findValues post (yd, yu, yc, yf, cy, cn, sy, os, ny, sz, ln, py, ry, fy, my, nw) (nI w) (nI e) := by
  unfold wpY_findValues
  dsimp only
  refine ys_rows Tw hm hc (fun hb yf' ry' fy' my' => br_t rfl (hF (Or.inl hb) yf' ry' fy' my' nw)) (fun yf' ry' fy' my' h1 => br_f (nf_5 (Nat.le_trans (ra_le my' m) (by omega))) ⟨m + 1, ?_⟩)
  refine ys_res_l T hm hc (fun hb yf'' ry'' fy'' nw' => hF (Or.inr ?_) yf'' ry'' fy'' my' nw') (fun yf'' ry'' fy'' nw' h3 => hS yf'' ry'' fy'' my' nw' h1 h3) m 0 (m + 1) 0 yf' ry' fy' nw (by omega) (by omega) (Or.inl ⟨rfl, fun s hs => absurd hs (by omega)⟩)
  obtain ⟨r, hr, hmr, hn⟩ := hb
  obtain ⟨v, hv, em⟩ := h1 r hr
  exact ⟨r, hr, ⟨v, hv, fun z => hmr (by rw [em, if_pos z])⟩, hn⟩
end
