/-! selection: X's selectRows, selectResults; Y's findMeets, findValues; each against the machine's value -/
section
variable {xs xu xc : Int32} {th cx sx kd nm ct : Nat → Int32} {op : Nat → Int64} {pa mx rx : Nat → Int32} {yd yu yc yf : Int32} {cy cn sy os ny sz ln py ry fy my nw : Nat → Int32}
def te_X (kd nm ct K N Z : Nat → Int32) (e L : Nat) : Prop :=
  e < 10 ∧ tm_W K N Z L ∧ (tm_ps K L).length = 1 ∧ (∀ i, i < L → kd (e * 24 + i) = K i) ∧ (∀ i, i < L → nm (e * 24 + i) = N i) ∧ ct e = nI L
def te_Y (os ny sz ln K N Z : Nat → Int32) (e L : Nat) : Prop :=
  e < 10 ∧ tm_W K N Z L ∧ 1 ≤ L ∧ (∀ i, i < L → os (24 * e + i) = tm_yk (K i)) ∧ (∀ i, i < L → ny (24 * e + i) = N i) ∧ (∀ j, j < L → sz (24 * e + j) = Z j) ∧ ln e = nI L
def pv_T (K N : Nat → Int32) (L : Nat) (par row : Nat → Int32) : Option Int32 := tm_V K N row par (L - 1)
theorem te_out {post : Int64 → SX → Prop} {e L p s : Nat} {K N Z : Nat → Int32} (T : te_X kd nm ct K N Z e L) (hp : p < 6) (hs : s < 101)
    (h : ∀ op', post (tm_e (pv_T K N L pa (vx_r cx p s))) (xs, xu, xc, th, cx, sx, kd, nm, ct, op', pa, mx, rx)) : wpX_workOut post (xs, xu, xc, th, cx, sx, kd, nm, ct, op, pa, mx, rx) (nI e) (nI (p * 101 + s)) :=
  xw_out T.1 (by omega) T.2.1 T.2.2.1 T.2.2.2.1 T.2.2.2.2.1 T.2.2.2.2.2 (fun _ _ => rfl) h
theorem te_work {post : Int32 → SY → Prop} {e L t r : Nat} {K N Z : Nat → Int32} (T : te_Y os ny sz ln K N Z e L) (ht : t < 6) (hr : r < 40)
    (h : ∀ ry' fy' w f, yv_is (fun _ => w) (fun _ => f) 0 (pv_T K N L py (vy_r cy t r)) → post w (yd, yu, yc, f, cy, cn, sy, os, ny, sz, ln, py, ry', fy', my, nw)) : wpY_work post (yd, yu, yc, yf, cy, cn, sy, os, ny, sz, ln, py, ry, fy, my, nw) (nI e) (nI t) (nI r) :=
  yw_work T.1 ht hr T.2.1 T.2.2.1 T.2.2.2.1 T.2.2.2.2.1 T.2.2.2.2.2.1 T.2.2.2.2.2.2 (fun _ _ => rfl) h
theorem tm_cg {K N Z : Nat → Int32} {L : Nat} {row row' par : Nat → Int32} (hW : tm_W K N Z L) (h : ∀ c, c < 4 → row c = row' c) : ∀ i, i ≤ L → tm_vs K N row par i = tm_vs K N row' par i := by
  intro i
  induction i with
  | zero => intro _; rfl
  | succ i ih =>
    intro hi
    have e := ih (by omega)
    obtain ⟨_, _, _, h1, _, _⟩ := hW.2 i (by omega)
    have : ∀ S, tm_v (K i) (N i) row par S = tm_v (K i) (N i) row' par S := by
      intro S
      unfold tm_v tm_lf
      by_cases k1 : K i = 1
      · obtain ⟨c, hc, ec⟩ := h1 k1
        rw [ec, nI_clamp (by omega), h c hc]
      · simp only [if_neg k1]
    show tm_v _ _ _ _ _ :: _ = tm_v _ _ _ _ _ :: _
    rw [e, this]
theorem pv_cg {K N Z : Nat → Int32} {L : Nat} {row row' par : Nat → Int32} (hW : tm_W K N Z L) (hL : 1 ≤ L) (h : ∀ c, c < 4 → row c = row' c) : pv_T K N L par row = pv_T K N L par row' := by
  have := tm_cg (par := par) hW h L (Nat.le_refl _)
  obtain ⟨L, rfl⟩ : ∃ m, L = m + 1 := ⟨L - 1, by omega⟩
  exact (List.cons.inj this).1
/-- X's selectRows -/
theorem xs_rows_l {post : Int32 → SX → Prop} {e L : Nat} {K N Z : Nat → Int32} (T : te_X kd nm ct K N Z e L)
    (hF : (∃ s, s < 101 ∧ ¬ vx_t th 4 s = 0 ∧ pv_T K N L pa (vx_r cx 4 s) = none) → ∀ op' mx', post (-1000000005) (xs, xu, xc, th, cx, sx, kd, nm, ct, op', pa, mx', rx))
    (hS : ∀ op' mx', (∀ s, s < 101 → ¬ vx_t th 4 s = 0 → ∃ v, pv_T K N L pa (vx_r cx 4 s) = some v ∧ mx' s = if v = 0 then 0 else 1) → (∀ s, s < 101 → vx_t th 4 s = 0 → mx' s = 0) → post (nI (ra_k mx' 101)) (xs, xu, xc, th, cx, sx, kd, nm, ct, op', pa, mx', rx)) :
    ∀ d i n op mx, i + d = 101 → d < n → (∀ s, s < i → ¬ vx_t th 4 s = 0 → ∃ v, pv_T K N L pa (vx_r cx 4 s) = some v ∧ mx s = if v = 0 then 0 else 1) → (∀ s, s < i → vx_t th 4 s = 0 → mx s = 0) →
      wX_selectRows_4 post (nI e) n (nI (ra_k mx i)) (nI i) xs xu xc th cx sx kd nm ct op pa mx rx := by
  intro d
  induction d with
  | zero =>
    intro i n op mx hi hn h1 h2
    obtain ⟨n, rfl⟩ : ∃ m, n = m + 1 := ⟨n - 1, by omega⟩
    obtain rfl : i = 101 := by omega
    exact br_t (by decide) (hS op mx h1 h2)
  | succ d ih =>
    intro i n op mx hi hn h1 h2
    obtain ⟨n, rfl⟩ : ∃ m, n = m + 1 := ⟨n - 1, by omega⟩
    have ci : (nI i).toNatClampNeg = i := nI_clamp (by omega)
    have e4 : 404 + nI i = nI (404 + i) := nI_add 404 i
    have c4 : (nI (404 + i)).toNatClampNeg = 404 + i := nI_clamp (by omega)
    have vi : vp_in (nI i) 101 := vp_in_nI (by omega) (by omega)
    have keep : ∀ (x : Int32) (mx1 : Nat → Int32), mx1 = upd mx i x → (∀ s, s < i → mx1 s = mx s) ∧ ra_k mx1 i = ra_k mx i := by
      intro x mx1 e1
      have a : ∀ s, s < i → mx1 s = mx s := fun s hs => by rw [e1, pk_un (by omega)]
      exact ⟨a, ra_cg (fun j hj => by rw [a j hj])⟩
    have k0 := keep 0 (upd mx i 0) rfl
    refine br_f (nI_ge (b := 101) (by omega) (by omega)) ⟨vi, nm_r (e' := upd mx i 0) (by rw [ci]; rfl) ⟨pk_in (404 + i) 606 (by omega) e4, ?_⟩⟩
    rw [e4, c4]
    refine br_c (fun z => nm_r (nI_1 i) ?_) (fun z => ?_)
    · have := ih (i + 1) n op (upd mx i 0) (by omega) (by omega) (fun s hs => ?_) (fun s hs hz => ?_)
      · rw [ra_s0 (t := upd mx i 0) pk_us, k0.2] at this
        exact this
      · intro hz
        by_cases q : s = i
        · subst q; exact absurd z hz
        · rw [k0.1 s (by omega)]; exact h1 s (by omega) hz
      · by_cases q : s = i
        · subst q; exact pk_us
        · rw [k0.1 s (by omega)]; exact h2 s (by omega) hz
    · refine te_out (p := 4) T (by omega) (by omega) (fun op' => ?_)
      cases hV : pv_T K N L pa (vx_r cx 4 i) with
      | none => exact br_t rfl (hF ⟨i, by omega, z, hV⟩ _ _)
      | some v =>
        refine br_f (tm_ne v) ?_
        by_cases v0 : v = 0
        · refine br_t ((tm_e0 v).mpr v0) (nm_r (nI_1 i) ?_)
          have := ih (i + 1) n op' (upd mx i 0) (by omega) (by omega) (fun s hs => ?_) (fun s hs hz => ?_)
          · rw [ra_s0 (t := upd mx i 0) pk_us, k0.2] at this
            exact this
          · intro hz
            by_cases q : s = i
            · subst q; exact ⟨v, hV, by rw [pk_us, if_pos v0]⟩
            · rw [k0.1 s (by omega)]; exact h1 s (by omega) hz
          · by_cases q : s = i
            · subst q; exact absurd hz z
            · rw [k0.1 s (by omega)]; exact h2 s (by omega) hz
        · refine br_f (fun q => v0 ((tm_e0 v).mp q)) ⟨vi, nm_r (e' := upd mx i 1) ?_ (nm_r (nI_1 _) (nm_r (nI_1 i) ?_))⟩
          · rw [ci]
            funext j
            by_cases q : j = i
            · subst q; rw [pk_us, pk_us]; rfl
            · rw [pk_un q, pk_un q, pk_un q]
          · have k1 := keep 1 (upd mx i 1) rfl
            have := ih (i + 1) n op' (upd mx i 1) (by omega) (by omega) (fun s hs => ?_) (fun s hs hz => ?_)
            · rw [ra_s1 (t := upd mx i 1) (by rw [pk_us]; decide), k1.2] at this
              exact this
            · intro hz
              by_cases q : s = i
              · subst q; exact ⟨v, hV, by rw [pk_us, if_neg v0]⟩
              · rw [k1.1 s (by omega)]; exact h1 s (by omega) hz
            · by_cases q : s = i
              · subst q; exact absurd hz z
              · rw [k1.1 s (by omega)]; exact h2 s (by omega) hz
theorem xs_rows {post : Int32 → SX → Prop} {e L : Nat} {K N Z : Nat → Int32} (T : te_X kd nm ct K N Z e L)
    (hF : (∃ s, s < 101 ∧ ¬ vx_t th 4 s = 0 ∧ pv_T K N L pa (vx_r cx 4 s) = none) → ∀ op' mx', post (-1000000005) (xs, xu, xc, th, cx, sx, kd, nm, ct, op', pa, mx', rx))
    (hS : ∀ op' mx', (∀ s, s < 101 → ¬ vx_t th 4 s = 0 → ∃ v, pv_T K N L pa (vx_r cx 4 s) = some v ∧ mx' s = if v = 0 then 0 else 1) → (∀ s, s < 101 → vx_t th 4 s = 0 → mx' s = 0) → post (nI (ra_k mx' 101)) (xs, xu, xc, th, cx, sx, kd, nm, ct, op', pa, mx', rx)) :
    wpX_selectRows post (xs, xu, xc, th, cx, sx, kd, nm, ct, op, pa, mx, rx) (nI e) :=
  ⟨102, xs_rows_l T hF hS 101 0 102 op mx (by omega) (by omega) (fun s hs => absurd hs (by omega)) (fun s hs => absurd hs (by omega))⟩
theorem nf_5 {n : Nat} (h : n ≤ 101) : ¬ nI n = (-1000000005) := by
  intro e
  have := congrArg Int32.toInt e
  rw [nI_toInt (by omega), show (-1000000005 : Int32).toInt = -1000000005 from by decide] at this
  omega
theorem xs_res_l {post : Int32 → SX → Prop} {e L : Nat} {met : Int32} {K N Z : Nat → Int32} (T : te_X kd nm ct K N Z e L)
    (hF : (∃ s, s < 101 ∧ ¬ mx s = 0 ∧ pv_T K N L pa (vx_r cx 4 s) = none) → ∀ op' rx', post (-1000000005) (xs, xu, xc, th, cx, sx, kd, nm, ct, op', pa, mx, rx'))
    (hS : ∀ op' rx', (∀ s, s < 101 → ¬ mx s = 0 → pv_T K N L pa (vx_r cx 4 s) = some (rx' s)) → post met (xs, xu, xc, th, cx, sx, kd, nm, ct, op', pa, mx, rx')) :
    ∀ d i n op rx, i + d = 101 → d < n → (∀ s, s < i → ¬ mx s = 0 → pv_T K N L pa (vx_r cx 4 s) = some (rx s)) → wX_selectResults_18 post (nI e) met n (nI i) xs xu xc th cx sx kd nm ct op pa mx rx := by
  intro d
  induction d with
  | zero =>
    intro i n op rx hi hn h1
    obtain ⟨n, rfl⟩ : ∃ m, n = m + 1 := ⟨n - 1, by omega⟩
    obtain rfl : i = 101 := by omega
    exact br_t (by decide) (hS op rx h1)
  | succ d ih =>
    intro i n op rx hi hn h1
    obtain ⟨n, rfl⟩ : ∃ m, n = m + 1 := ⟨n - 1, by omega⟩
    have ci : (nI i).toNatClampNeg = i := nI_clamp (by omega)
    have e4 : 404 + nI i = nI (404 + i) := nI_add 404 i
    have vi : vp_in (nI i) 101 := vp_in_nI (by omega) (by omega)
    refine br_f (nI_ge (b := 101) (by omega) (by omega)) ⟨vi, ?_⟩
    rw [ci, e4]
    refine br_c (fun z => nm_r (nI_1 i) (ih (i + 1) n op rx (by omega) (by omega) (fun s hs hz => ?_))) (fun z => ?_)
    · by_cases q : s = i
      · subst q; exact absurd z hz
      · exact h1 s (by omega) hz
    · refine te_out (p := 4) T (by omega) (by omega) (fun op' => ?_)
      cases hV : pv_T K N L pa (vx_r cx 4 i) with
      | none => exact br_t rfl (hF ⟨i, by omega, z, hV⟩ _ _)
      | some v =>
        refine br_f (tm_ne v) ⟨vi, nm_r (e' := upd rx i v) (by rw [show tm_e (some v) = v.toInt64 from rfl, tm_bk]) (nm_r (nI_1 i) (ih (i + 1) n op' _ (by omega) (by omega) (fun s hs hz => ?_)))⟩
        by_cases q : s = i
        · subst q; rw [pk_us]; exact hV
        · rw [pk_un q]; exact h1 s (by omega) hz
/-- X's selectResults -/
theorem xs_res {post : Int32 → SX → Prop} {w Lw e L : Nat} {Kw Nw Zw K N Z : Nat → Int32} (Tw : te_X kd nm ct Kw Nw Zw w Lw) (T : te_X kd nm ct K N Z e L)
    (hF : (∃ s, s < 101 ∧ ¬ vx_t th 4 s = 0 ∧ pv_T Kw Nw Lw pa (vx_r cx 4 s) = none) ∨ (∃ s, s < 101 ∧ ¬ vx_t th 4 s = 0 ∧ (∃ v, pv_T Kw Nw Lw pa (vx_r cx 4 s) = some v ∧ ¬ v = 0) ∧ pv_T K N L pa (vx_r cx 4 s) = none) → ∀ op' mx' rx', post (-1000000005) (xs, xu, xc, th, cx, sx, kd, nm, ct, op', pa, mx', rx'))
    (hS : ∀ op' mx' rx', (∀ s, s < 101 → ¬ vx_t th 4 s = 0 → ∃ v, pv_T Kw Nw Lw pa (vx_r cx 4 s) = some v ∧ mx' s = if v = 0 then 0 else 1) → (∀ s, s < 101 → vx_t th 4 s = 0 → mx' s = 0) → (∀ s, s < 101 → ¬ mx' s = 0 → pv_T K N L pa (vx_r cx 4 s) = some (rx' s)) → post (nI (ra_k mx' 101)) (xs, xu, xc, th, cx, sx, kd, nm, ct, op', pa, mx', rx')) :
    wpX_selectResults post (xs, xu, xc, th, cx, sx, kd, nm, ct, op, pa, mx, rx) (nI w) (nI e) := by
  unfold wpX_selectResults
  dsimp only
  refine xs_rows Tw (fun hb op' mx' => br_t rfl (hF (Or.inl hb) op' mx' rx)) (fun op' mx' h1 h2 => br_f (nf_5 (ra_le mx' 101)) ⟨102, ?_⟩)
  refine xs_res_l T (fun hb op'' rx' => hF (Or.inr ?_) op'' mx' rx') (fun op'' rx' h3 => hS op'' mx' rx' h1 h2 h3) 101 0 102 op' rx (by omega) (by omega) (fun s hs => absurd hs (by omega))
  obtain ⟨s, hs, hm, hn⟩ := hb
  have ht : ¬ vx_t th 4 s = 0 := fun z => hm (h2 s hs z)
  obtain ⟨v, hv, em⟩ := h1 s hs ht
  exact ⟨s, hs, ht, ⟨v, hv, fun z => hm (by rw [em, if_pos z])⟩, hn⟩
end
