/-! building terms -/
section
variable {xs xu xc : Int32} {th cx sx kd nm ct : Nat → Int32} {op : Nat → Int64} {pa mx rx : Nat → Int32} {yd yu yc yf : Int32} {cy cn sy os ny sz ln py ry fy my nw : Nat → Int32}
theorem tm_pcg {K K' : Nat → Int32} {L : Nat} (h : ∀ i, i < L → K' i = K i) : ∀ i, i ≤ L → tm_ps K' i = tm_ps K i := by
  intro i
  induction i with
  | zero => intro _; rfl
  | succ i ih =>
    intro hi
    show (i + 1) :: (tm_ps K' i).drop (tm_ar (K' i)) = (i + 1) :: (tm_ps K i).drop (tm_ar (K i))
    rw [ih (by omega), h i (by omega)]
theorem tm_Wcg {K K' N N' Z Z' : Nat → Int32} {L : Nat} (hK : ∀ i, i < L → K' i = K i) (hN : ∀ i, i < L → N' i = N i) (hZ : ∀ i, i < L → Z' i = Z i) (h : tm_W K N Z L) : tm_W K' N' Z' L := by
  refine ⟨h.1, fun i hi => ?_⟩
  rw [hK i hi, hN i hi, hZ i hi, tm_pcg hK i (by omega), tm_pcg hK (i + 1) (by omega)]
  exact h.2 i hi
theorem te_mv {kd' nm' sz' ct' : Nat → Int32} {e e' : Nat} (h : te_ok kd nm sz ct e) (hk : ∀ i, i < 24 → kd' (e' * 24 + i) = kd (e * 24 + i)) (hn : ∀ i, i < 24 → nm' (e' * 24 + i) = nm (e * 24 + i))
    (hz : ∀ i, i < 24 → sz' (e' * 24 + i) = sz (e * 24 + i)) (hc : ct' e' = ct e) : te_ok kd' nm' sz' ct' e' := by
  obtain ⟨L, a, b, c, d⟩ := h
  have hL := c.1
  refine ⟨L, a, by rw [hc]; exact b, tm_Wcg (fun i hi => hk i (by omega)) (fun i hi => hn i (by omega)) (fun i hi => hz i (by omega)) c, ?_⟩
  rw [tm_pcg (K := fun i => kd (e * 24 + i)) (fun i hi => hk i (by omega)) L (Nat.le_refl _)]
  exact d
theorem xa_add {post : Int32 → SX → Prop} {L d t : Nat} {kind num : Int32} (hL : L < 24) (hc : ct 9 = nI L) (hd : xs = nI d) (htd : t ≤ d) (hd8 : d ≤ 8)
    (h : post (nI (d - t + 1)) ((nI (d - t + 1)), xu, xc, th, cx, sx, (upd kd (216 + L) kind), (upd nm (216 + L) num), (upd ct 9 (nI (L + 1))), op, pa, mx, rx)) : wpX_addPart post (xs, xu, xc, th, cx, sx, kd, nm, ct, op, pa, mx, rx) kind num (nI t) := by
  have e0 : 216 + ct 9 = nI (216 + L) := by rw [hc]; exact nI_add 216 L
  refine nm_r e0 ⟨vp_in_nI (by omega) (by omega), nm_r (e' := upd kd (216 + L) kind) (by rw [nI_clamp (by omega)]) ⟨vp_in_nI (by omega) (by omega), nm_r (e' := upd nm (216 + L) num) (by rw [nI_clamp (by omega)]) (nm_r (e' := upd ct 9 (nI (L + 1))) (by rw [hc, nI_1]) (nm_r (e' := nI (d - t + 1)) (by rw [hd, pk_sub htd, nI_1]) h))⟩⟩
theorem ya_sz_l {post : Int32 → SY → Prop} {L t : Nat} {opc num : Int32} {K N : Nat → Int32} (hL : L < 24) (hW : tm_W K N (fun i => sz (9 * 24 + i)) L) (ht : t ≤ (tm_ps K L).length)
    (h : ∀ n, wY_append_19 post opc num (nI t) (nI (216 + L)) yd yu yc yf cy cn sy os ny sz ln py ry fy my nw (n + 1) (nI (L + 1 - ((tm_ps K L).drop t).headD 0)) (nI t)) :
    ∀ dd i n, i + dd = t → dd < n → wY_append_19 post opc num (nI t) (nI (216 + L)) yd yu yc yf cy cn sy os ny sz ln py ry fy my nw n (nI (L + 1 - ((tm_ps K L).drop i).headD 0)) (nI i) := by
  have h8 := tm_W8 hW L (Nat.le_refl _)
  intro dd
  induction dd with
  | zero =>
    intro i n hi hn
    obtain ⟨n, rfl⟩ : ∃ m, n = m + 1 := ⟨n - 1, by omega⟩
    obtain rfl : i = t := by omega
    exact h n
  | succ dd ih =>
    intro i n hi hn
    obtain ⟨n, rfl⟩ : ∃ m, n = m + 1 := ⟨n - 1, by omega⟩
    have hd : ∃ q S, (tm_ps K L).drop i = q :: S := by
      match hh : (tm_ps K L).drop i with
      | q :: S => exact ⟨q, S, rfl⟩
      | [] =>
        have := congrArg List.length hh
        rw [List.length_drop] at this
        simp at this
        omega
    obtain ⟨q, S, hqS⟩ := hd
    have hdS : (tm_ps K L).drop (i + 1) = S := by
      rw [← List.drop_drop, hqS]; rfl
    have eq1 : tm_ps K L = (tm_ps K L).take i ++ q :: S := by rw [← hqS]; exact (List.take_append_drop i _).symm
    have hq := tm_mem (K := K) (i := L) (q := q) (by rw [eq1]; simp)
    have hps : tm_ps K q = q :: S := tm_suf eq1
    have ez : sz (9 * 24 + (q - 1)) = nI (q - S.headD 0) := tm_sz hW hq.1 hq.2 hps
    have hS : S.headD 0 ≤ q := by
      cases hSS : S with
      | nil => exact Nat.zero_le _
      | cons y S' => have := tm_mem (K := K) (i := q) (q := y) (by rw [hps, hSS]; simp); exact this.2
    have nxt := ih (i + 1) n (by omega) (by omega)
    rw [hdS] at nxt
    rw [hqS]
    have e1 : nI (216 + L) - nI (L + 1 - (q :: S).headD 0) = nI (9 * 24 + (q - 1)) := by
      show nI (216 + L) - nI (L + 1 - q) = _
      rw [pk_sub (by omega)]
      exact congrArg nI (by omega)
    refine br_f (nI_ge (by omega) (by omega)) ⟨?_, nm_r (e' := nI (L + 1 - S.headD 0)) ?_ (nm_r (nI_1 i) nxt)⟩
    · rw [e1]; exact vp_in_nI (by omega) (by omega)
    · rw [e1, nI_clamp (by omega), ez, nI_add]
      refine congrArg nI ?_
      show L + 1 - q + (q - S.headD 0) = _
      omega
theorem ya_add {post : Int32 → SY → Prop} {L d t : Nat} {opc num : Int32} {K N : Nat → Int32} (hL : L < 24) (hc : ln 9 = nI L) (hW : tm_W K N (fun i => sz (9 * 24 + i)) L) (hl : (tm_ps K L).length = d) (hd : yd = nI d) (htd : t ≤ d) (hd8 : d ≤ 8)
    (h : post (nI (d - t + 1)) ((nI (d - t + 1)), yu, yc, yf, cy, cn, sy, (upd os (216 + L) opc), (upd ny (216 + L) num), (upd sz (216 + L) (nI (L + 1 - ((tm_ps K L).drop t).headD 0))), (upd ln 9 (nI (L + 1))), py, ry, fy, my, nw)) : wpY_append post (yd, yu, yc, yf, cy, cn, sy, os, ny, sz, ln, py, ry, fy, my, nw) opc num (nI t) := by
  have e0 : 216 + ln 9 = nI (216 + L) := by rw [hc]; exact nI_add 216 L
  have s0 : (1 : Int32) = nI (L + 1 - ((tm_ps K L).drop 0).headD 0) := by
    rw [List.drop_zero]
    match L with
    | 0 => rfl
    | L + 1 =>
      show (1 : Int32) = nI (L + 1 + 1 - (L + 1))
      rw [show L + 1 + 1 - (L + 1) = 1 from by omega]; rfl
  refine nm_r e0 ⟨t + 1, ?_⟩
  have vp : vp_in (nI (216 + L)) 240 := vp_in_nI (by omega) (by omega)
  have cp : (nI (216 + L)).toNatClampNeg = 216 + L := nI_clamp (by omega)
  have go := ya_sz_l (post := post) (opc := opc) (num := num) (yd := yd) (yu := yu) (yc := yc) (yf := yf) (cy := cy) (cn := cn) (sy := sy) (os := os) (ny := ny) (sz := sz) (ln := ln) (py := py) (ry := ry) (fy := fy) (my := my) (nw := nw) (t := t) hL hW (by omega) (fun n => ?_) t 0 (t + 1) (by omega) (by omega)
  · rw [← s0] at go; exact go
  · refine br_t (Int32.le_refl _) ⟨vp, nm_r (e' := upd os (216 + L) opc) (by rw [cp]) ⟨vp, nm_r (e' := upd ny (216 + L) num) (by rw [cp]) ⟨vp, nm_r (e' := upd sz (216 + L) (nI (L + 1 - ((tm_ps K L).drop t).headD 0))) (by rw [cp]) (nm_r (e' := upd ln 9 (nI (L + 1))) (by rw [hc, nI_1]) (nm_r (e' := nI (d - t + 1)) ?_ h))⟩⟩⟩
    rw [hd, nI_1, pk_sub (by omega)]
    exact congrArg nI (by omega)
theorem te_push {L d t : Nat} {kind num z : Int32} (hA : te_A kd nm sz ct xs xc) (hL : L < 24) (hc : ct 9 = nI L) (hd : (tm_ps (fun i => kd (9 * 24 + i)) L).length = d) (ht : tm_ar kind = t) (htd : t ≤ d) (hd8 : d - t + 1 ≤ 8) (k0 : 0 ≤ kind) (k15 : kind ≤ 15)
    (h1 : kind = 1 → ∃ c, c < 4 ∧ num = nI c) (h2 : kind = 2 → ∃ c, c < 3 ∧ num = nI c) (hz : z = nI (L + 1 - ((tm_ps (fun i => kd (9 * 24 + i)) L).drop t).headD 0)) :
    te_A (upd kd (216 + L) kind) (upd nm (216 + L) num) (upd sz (216 + L) z) (upd ct 9 (nI (L + 1))) (nI (d - t + 1)) xc := by
  have low : ∀ e, e ≤ 8 → te_ok kd nm sz ct e → te_ok (upd kd (216 + L) kind) (upd nm (216 + L) num) (upd sz (216 + L) z) (upd ct 9 (nI (L + 1))) e :=
    fun e he h => te_mv h (fun i hi => pk_un (by omega)) (fun i hi => pk_un (by omega)) (fun i hi => pk_un (by omega)) (pk_un (by omega))
  refine ⟨fun e he => low e (by omega) (hA.1 e he), fun q => low 8 (by omega) (hA.2.1 q), L + 1, pk_us, ?_⟩
  obtain ⟨L', c', hW, _⟩ := hA.2.2
  have hL' := hW.1
  have : L' = L := (nI_eq (by omega) (by omega)).mp (by rw [← c', hc])
  subst this
  have ps : ∀ i, i ≤ L' → tm_ps (fun i => upd kd (216 + L') kind (9 * 24 + i)) i = tm_ps (fun i => kd (9 * 24 + i)) i := tm_pcg (fun i hi => pk_un (by omega))
  have eK : upd kd (216 + L') kind (9 * 24 + L') = kind := pk_us
  have eN : upd nm (216 + L') num (9 * 24 + L') = num := pk_us
  have eZ : upd sz (216 + L') z (9 * 24 + L') = z := pk_us
  have ps1 : tm_ps (fun i => upd kd (216 + L') kind (9 * 24 + i)) (L' + 1) = (L' + 1) :: (tm_ps (fun i => kd (9 * 24 + i)) L').drop t := by
    show (L' + 1) :: (tm_ps (fun i => upd kd (216 + L') kind (9 * 24 + i)) L').drop (tm_ar (upd kd (216 + L') kind (9 * 24 + L'))) = _
    rw [ps L' (Nat.le_refl _), eK, ht]
  have len1 : (tm_ps (fun i => upd kd (216 + L') kind (9 * 24 + i)) (L' + 1)).length = d - t + 1 := by
    rw [ps1, List.length_cons, List.length_drop, hd]
  refine ⟨⟨by omega, fun i hi => ?_⟩, by rw [len1]⟩
  by_cases e : i = L'
  · subst e
    refine ⟨⟨by dsimp only; rw [eK]; exact k0, by dsimp only; rw [eK]; exact k15⟩, ?_, by rw [len1]; exact hd8, ?_, ?_, ?_⟩
    · dsimp only
      rw [eK, ht, ps i (Nat.le_refl _), hd]; exact htd
    · dsimp only; rw [eK, eN]; exact h1
    · dsimp only; rw [eK, eN]; exact h2
    · dsimp only; rw [eK, eZ, ps i (Nat.le_refl _), ht]; exact hz
  · have hW' := tm_Wcg (K' := fun i => upd kd (216 + L') kind (9 * 24 + i)) (N' := fun i => upd nm (216 + L') num (9 * 24 + i)) (Z' := fun i => upd sz (216 + L') z (9 * 24 + i)) (fun i hi => pk_un (by omega)) (fun i hi => pk_un (by omega)) (fun i hi => pk_un (by omega)) hW
    exact hW'.2 i (by omega)
end
