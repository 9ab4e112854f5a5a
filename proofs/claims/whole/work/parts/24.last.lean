/-! express, check, the start -/
section
variable {xs xu xc : Int32} {th cx sx kd nm ct : Nat → Int32} {op : Nat → Int64} {pa mx rx : Nat → Int32} {yd yu yc yf : Int32} {cy cn sy os ny sz ln py ry fy my nw : Nat → Int32}
def ct_F (a : Nat → Int32) (p q : Nat) : Nat → Int32 := fun j => if q * 24 ≤ j ∧ j < q * 24 + 24 then a (p * 24 + (j - q * 24)) else a j
theorem ct_i {a : Nat → Int32} {p q i : Nat} (h : i < 24) : ct_F a p q (q * 24 + i) = a (p * 24 + i) := by
  have : q * 24 ≤ q * 24 + i ∧ q * 24 + i < q * 24 + 24 := by omega
  unfold ct_F
  rw [if_pos this, Nat.add_sub_cancel_left]
theorem ct_o {a : Nat → Int32} {p q j : Nat} (h : j < q * 24 ∨ q * 24 + 24 ≤ j) : ct_F a p q j = a j := if_neg (by omega)
theorem ct_fx {a b : Nat → Int32} {p q : Nat} (h1 : ∀ i, i < 24 → b (q * 24 + i) = a (p * 24 + i)) (h2 : ∀ j, j < q * 24 ∨ q * 24 + 24 ≤ j → b j = a j) : b = ct_F a p q := by
  funext j
  by_cases e : j < q * 24 ∨ q * 24 + 24 ≤ j
  · rw [h2 j e, ct_o e]
  · have : j = q * 24 + (j - q * 24) := by omega
    rw [this, ct_i (by omega)]
    exact h1 _ (by omega)
theorem xt_cp_l {post : SX → Prop} {p q : Nat} (hp : p < 10) (hq : q < 10) (hpq : p ≠ q) (h : post (xs, xu, xc, th, cx, sx, (ct_F kd p q), (ct_F nm p q), (upd ct q (ct p)), op, pa, mx, rx)) :
    ∀ d i n kd1 nm1, i + d = 24 → d < n → (∀ c, c < i → kd1 (q * 24 + c) = kd (p * 24 + c)) → (∀ j, j < q * 24 ∨ q * 24 + i ≤ j → kd1 j = kd j) → (∀ c, c < i → nm1 (q * 24 + c) = nm (p * 24 + c)) → (∀ j, j < q * 24 ∨ q * 24 + i ≤ j → nm1 j = nm j) →
      wX_copyTerm_2 post (nI p) (nI q) xs xu xc n (nI i) th cx sx kd1 nm1 ct op pa mx rx := by
  intro d
  induction d with
  | zero =>
    intro i n kd1 nm1 hi hn a1 a2 a3 a4
    obtain ⟨n, rfl⟩ : ∃ m, n = m + 1 := ⟨n - 1, by omega⟩
    obtain rfl : i = 24 := by omega
    have e1 := ct_fx a1 a2
    have e2 := ct_fx a3 a4
    subst e1 e2
    exact br_t (by decide) ⟨vp_in_nI (by omega) (by omega), vp_in_nI (by omega) (by omega), nm_r (e' := upd ct q (ct p)) (by rw [nI_clamp (by omega), nI_clamp (by omega)]) h⟩
  | succ d ih =>
    intro i n kd1 nm1 hi hn a1 a2 a3 a4
    obtain ⟨n, rfl⟩ : ∃ m, n = m + 1 := ⟨n - 1, by omega⟩
    have vp : vp_in (nI p * 24 + nI i) 240 := pk_in (p * 24 + i) 240 (by omega) (ab_m24 p i)
    have vq : vp_in (nI q * 24 + nI i) 240 := pk_in (q * 24 + i) 240 (by omega) (ab_m24 q i)
    refine br_f (nI_ge (b := 24) (by omega) (by omega)) ⟨vp, vq, nm_r (e' := upd kd1 (q * 24 + i) (kd (p * 24 + i))) ?_ ⟨vp, vq, nm_r (e' := upd nm1 (q * 24 + i) (nm (p * 24 + i))) ?_ (nm_r (nI_1 i) (ih (i + 1) n _ _ (by omega) (by omega) (fun c hc => ?_) (fun j hj => ?_) (fun c hc => ?_) (fun j hj => ?_)))⟩⟩
    · rw [ab_m24, ab_m24, nI_clamp (by omega), nI_clamp (by omega), a2 (p * 24 + i) (by omega)]
    · rw [ab_m24, ab_m24, nI_clamp (by omega), nI_clamp (by omega), a4 (p * 24 + i) (by omega)]
    · by_cases e : c = i
      · subst e; rw [pk_us]
      · rw [pk_un (by omega)]; exact a1 c (by omega)
    · rw [pk_un (by omega)]; exact a2 j (by omega)
    · by_cases e : c = i
      · subst e; rw [pk_us]
      · rw [pk_un (by omega)]; exact a3 c (by omega)
    · rw [pk_un (by omega)]; exact a4 j (by omega)
theorem xt_cp {post : SX → Prop} {p q : Nat} (hp : p < 10) (hq : q < 10) (hpq : p ≠ q) (h : post (xs, xu, xc, th, cx, sx, (ct_F kd p q), (ct_F nm p q), (upd ct q (ct p)), op, pa, mx, rx)) : wpX_copyTerm post (xs, xu, xc, th, cx, sx, kd, nm, ct, op, pa, mx, rx) (nI p) (nI q) :=
  ⟨25, xt_cp_l hp hq hpq h 24 0 25 kd nm (by omega) (by omega) (fun c hc => absurd hc (by omega)) (fun _ _ => rfl) (fun c hc => absurd hc (by omega)) (fun _ _ => rfl)⟩
theorem yt_cp_l {post : SY → Prop} {p q : Nat} (hp : p < 10) (hq : q < 10) (hpq : p ≠ q) (h : post (yd, yu, yc, yf, cy, cn, sy, (ct_F os p q), (ct_F ny p q), (ct_F sz p q), (upd ln q (ln p)), py, ry, fy, my, nw)) :
    ∀ d i n os1 ny1 sz1, i + d = 24 → d < n → (∀ c, c < i → os1 (q * 24 + c) = os (p * 24 + c)) → (∀ j, j < q * 24 ∨ q * 24 + i ≤ j → os1 j = os j) → (∀ c, c < i → ny1 (q * 24 + c) = ny (p * 24 + c)) → (∀ j, j < q * 24 ∨ q * 24 + i ≤ j → ny1 j = ny j) →
      (∀ c, c < i → sz1 (q * 24 + c) = sz (p * 24 + c)) → (∀ j, j < q * 24 ∨ q * 24 + i ≤ j → sz1 j = sz j) → wY_copyTerm_2 post (nI p) (nI q) yd yu yc yf n (nI i) cy cn sy os1 ny1 sz1 ln py ry fy my nw := by
  intro d
  induction d with
  | zero =>
    intro i n os1 ny1 sz1 hi hn a1 a2 a3 a4 a5 a6
    obtain ⟨n, rfl⟩ : ∃ m, n = m + 1 := ⟨n - 1, by omega⟩
    obtain rfl : i = 24 := by omega
    have e1 := ct_fx a1 a2
    have e2 := ct_fx a3 a4
    have e3 := ct_fx a5 a6
    subst e1 e2 e3
    exact br_t (by decide) ⟨vp_in_nI (by omega) (by omega), vp_in_nI (by omega) (by omega), nm_r (e' := upd ln q (ln p)) (by rw [nI_clamp (by omega), nI_clamp (by omega)]) h⟩
  | succ d ih =>
    intro i n os1 ny1 sz1 hi hn a1 a2 a3 a4 a5 a6
    obtain ⟨n, rfl⟩ : ∃ m, n = m + 1 := ⟨n - 1, by omega⟩
    have ep : 24 * nI p + nI i = nI (p * 24 + i) := by rw [ab_l24, Nat.mul_comm]
    have eq : 24 * nI q + nI i = nI (q * 24 + i) := by rw [ab_l24, Nat.mul_comm]
    have vp : vp_in (24 * nI p + nI i) 240 := pk_in (p * 24 + i) 240 (by omega) ep
    have vq : vp_in (24 * nI q + nI i) 240 := pk_in (q * 24 + i) 240 (by omega) eq
    refine br_f (nI_ge (b := 24) (by omega) (by omega)) ⟨vp, vq, nm_r (e' := upd os1 (q * 24 + i) (os (p * 24 + i))) ?_ ⟨vp, vq, nm_r (e' := upd ny1 (q * 24 + i) (ny (p * 24 + i))) ?_ ⟨vp, vq, nm_r (e' := upd sz1 (q * 24 + i) (sz (p * 24 + i))) ?_ (nm_r (nI_1 i) (ih (i + 1) n _ _ _ (by omega) (by omega) (fun c hc => ?_) (fun j hj => ?_) (fun c hc => ?_) (fun j hj => ?_) (fun c hc => ?_) (fun j hj => ?_)))⟩⟩⟩
    · rw [ep, eq, nI_clamp (by omega), nI_clamp (by omega), a2 (p * 24 + i) (by omega)]
    · rw [ep, eq, nI_clamp (by omega), nI_clamp (by omega), a4 (p * 24 + i) (by omega)]
    · rw [ep, eq, nI_clamp (by omega), nI_clamp (by omega), a6 (p * 24 + i) (by omega)]
    · by_cases e : c = i
      · subst e; rw [pk_us]
      · rw [pk_un (by omega)]; exact a1 c (by omega)
    · rw [pk_un (by omega)]; exact a2 j (by omega)
    · by_cases e : c = i
      · subst e; rw [pk_us]
      · rw [pk_un (by omega)]; exact a3 c (by omega)
    · rw [pk_un (by omega)]; exact a4 j (by omega)
    · by_cases e : c = i
      · subst e; rw [pk_us]
      · rw [pk_un (by omega)]; exact a5 c (by omega)
    · rw [pk_un (by omega)]; exact a6 j (by omega)
theorem yt_cp {post : SY → Prop} {p q : Nat} (hp : p < 10) (hq : q < 10) (hpq : p ≠ q) (h : post (yd, yu, yc, yf, cy, cn, sy, (ct_F os p q), (ct_F ny p q), (ct_F sz p q), (upd ln q (ln p)), py, ry, fy, my, nw)) : wpY_copyTerm post (yd, yu, yc, yf, cy, cn, sy, os, ny, sz, ln, py, ry, fy, my, nw) (nI p) (nI q) :=
  ⟨25, yt_cp_l hp hq hpq h 24 0 25 os ny sz (by omega) (by omega) (fun c hc => absurd hc (by omega)) (fun _ _ => rfl) (fun c hc => absurd hc (by omega)) (fun _ _ => rfl) (fun c hc => absurd hc (by omega)) (fun _ _ => rfl)⟩
theorem ct_os {p q : Nat} (ho : ∀ j, os j = tm_yk (kd j)) : ∀ j, ct_F os p q j = tm_yk (ct_F kd p q j) := by
  intro j
  unfold ct_F
  by_cases e : q * 24 ≤ j ∧ j < q * 24 + 24
  · rw [if_pos e, if_pos e, ho]
  · rw [if_neg e, if_neg e, ho]
/-- a term copied over another -/
theorem te_cp {p q e : Nat} {ct' : Nat → Int32} (hq : q < 10) (he : e < 10) (h : te_ok kd nm sz ct (if e = q then p else e)) (hc : ct' e = ct (if e = q then p else e)) : te_ok (ct_F kd p q) (ct_F nm p q) (ct_F sz p q) ct' e := by
  by_cases z : e = q
  · rw [if_pos z] at h hc
    subst z
    exact te_mv h (fun i hi => ct_i hi) (fun i hi => ct_i hi) (fun i hi => ct_i hi) hc
  · rw [if_neg z] at h hc
    exact te_mv h (fun i hi => ct_o (by omega)) (fun i hi => ct_o (by omega)) (fun i hi => ct_o (by omega)) hc
end
section
theorem i_vc_express {k : Nat} {u : SX} {v : SY} (I : i_Rel k u v) (hk : k + 5 ≤ 2560) (v1 : Int32) : wpX_express (fun r u' => wpY_express (fun r' v' => r' = r ∧ i_Rel (k + 5) u' v') v v1) u v1 := by
  obtain ⟨xs, xu, xc, th, cx, sx, kd, nm, ct, op, pa, mx, rx⟩ := u
  obtain ⟨yd, yu, yc, yf, cy, cn, sy, os, ny, sz, ln, py, ry, fy, my, nw⟩ := v
  have J := I
  obtain ⟨rfl, rfl, rfl, rfl, rfl, rfl, hb, ht, hs, ho, hT⟩ := I
  unfold wpX_express wpY_express
  dsimp only
  rcases pk_ix v1 (n := 8) (by omega) with hx | hx | ⟨e, he, rfl⟩
  · exact xa_expN (Or.inl hx) (br_t rfl (ya_expN (Or.inl hx) (br_t rfl ⟨rfl, J⟩)))
  · exact xa_expN (Or.inr hx) (br_t rfl (ya_expN (Or.inr hx) (br_t rfl ⟨rfl, J⟩)))
  refine xa_exp he (br_f (by decide) ?_)
  by_cases d1 : yd = 1
  case neg => exact br_f d1 (ya_exp he (br_f (by decide) (br_f d1 ⟨rfl, J⟩)))
  have ce : (nI e).toNatClampNeg = e := nI_clamp (by omega)
  have vi : vp_in (nI e) 10 := vp_in_nI (by omega) (by omega)
  refine br_t d1 (xt_cp (p := 9) (by omega) (by omega) (by omega) (nm_e ⟨vi, ?_⟩))
  refine ya_exp he (br_f (by decide) (br_t d1 (yt_cp (p := 9) (by omega) (by omega) (by omega) (nm_e ⟨vi, rfl, ?_⟩))))
  refine ⟨rfl, rfl, rfl, rfl, rfl, rfl, hb, ht, hs, ct_os ho, ?_⟩
  obtain ⟨L, c', hW, hx⟩ := hT.2.2
  have hL := hW.1
  have h8 := tm_W8 hW L (Nat.le_refl _)
  have l1 : (tm_ps (fun i => kd (9 * 24 + i)) L).length = 1 := by
    rw [hx] at d1
    exact (nI_eq (b := 1) (by omega) (by omega)).mp d1
  have ok9 : te_ok kd ny sz ln 9 := by
    refine ⟨L, ?_, c', hW, l1⟩
    match L, l1 with
    | L + 1, _ => omega
  have each : ∀ q, q < 9 → te_ok kd ny sz ln (if q = e then 9 else q) → te_ok (ct_F kd 9 e) (ct_F ny 9 e) (ct_F sz 9 e) (upd (upd ln e (ln 9)) 9 0) q := by
    intro q hq h
    refine te_cp (by omega) (by omega) h ?_
    rw [pk_un (by omega)]
    by_cases z : q = e
    · subst z; rw [pk_us, if_pos rfl]
    · rw [pk_un z, if_neg z]
  show te_A (ct_F kd 9 e) (ct_F ny 9 e) (ct_F sz 9 e) (upd (upd ln e (ln 9)) 9 0) 0 yc
  refine ⟨fun q hq => each q (by omega) ?_, fun z => each 8 (by omega) ?_, 0, pk_us, ⟨by omega, fun i hi => absurd hi (by omega)⟩, rfl⟩
  · by_cases z : q = e
    · rw [if_pos z]; exact ok9
    · rw [if_neg z]; exact hT.1 q hq
  · rw [if_neg (by omega)]; exact hT.2.1 z
theorem i_vc_check {k : Nat} {u : SX} {v : SY} (I : i_Rel k u v) (hk : k + 5 ≤ 2560) (v1 : Int32) : wpX_check (fun r u' => wpY_check (fun r' v' => r' = r ∧ i_Rel (k + 5) u' v') v v1) u v1 := by
  obtain ⟨xs, xu, xc, th, cx, sx, kd, nm, ct, op, pa, mx, rx⟩ := u
  obtain ⟨yd, yu, yc, yf, cy, cn, sy, os, ny, sz, ln, py, ry, fy, my, nw⟩ := v
  have J := I
  obtain ⟨rfl, rfl, rfl, rfl, rfl, rfl, hb, ht, hs, ho, hT⟩ := I
  have hR := ht.1
  unfold wpX_check wpY_check
  dsimp only
  rcases pk_ix v1 (n := 8) (by omega) with hx | hx | ⟨e, he, rfl⟩
  · exact xa_expN (Or.inl hx) (br_t rfl (ya_expN (Or.inl hx) (br_t rfl ⟨rfl, J⟩)))
  · exact xa_expN (Or.inr hx) (br_t rfl (ya_expN (Or.inr hx) (br_t rfl ⟨rfl, J⟩)))
  obtain ⟨K, N, Z, L, TX', TY'⟩ := te_get (by omega) (hT.1 e he) ho
  refine xa_exp he (br_f (by decide) (xm_all (p := 4) (by omega) TX' (fun hm op' => br_f (by decide) ?_) (fun hm op' => br_t rfl ?_)))
  · refine xt_cp (q := 8) (by omega) (by omega) (by omega) (xc_rows (p := 4) (by omega) ?_)
    refine ya_exp he (br_f (by decide) (ym_all (t := 0) (by omega) hR TY' (fun _ yf' ry' fy' => br_f (by decide) (yt_cp (q := 8) (by omega) (by omega) (by omega) ⟨hR.1, rfl, rfl, rfl, rfl, rfl, rfl, hb, ht, hs, ct_os ho, ?_⟩)) (fun q => absurd hm q)))
    have each : ∀ q, q < 9 → te_ok kd ny sz ln (if q = 8 then e else q) → te_ok (ct_F kd e 8) (ct_F ny e 8) (ct_F sz e 8) (upd ln 8 (ln e)) q := by
      intro q hq h
      refine te_cp (by omega) (by omega) h ?_
      by_cases z : q = 8
      · subst z; rw [pk_us, if_pos rfl]
      · rw [pk_un z, if_neg z]
    show te_A (ct_F kd e 8) (ct_F ny e 8) (ct_F sz e 8) (upd ln 8 (ln e)) yd 1
    refine ⟨fun q hq => each q (by omega) (by rw [if_neg (by omega)]; exact hT.1 q hq), fun _ => each 8 (by omega) (by rw [if_pos rfl]; exact hT.1 e he), ?_⟩
    obtain ⟨L, c', hW, hx⟩ := hT.2.2
    have hL := hW.1
    refine ⟨L, by rw [pk_un (by omega)]; exact c', tm_Wcg (fun i hi => ct_o (by omega)) (fun i hi => ct_o (by omega)) (fun i hi => ct_o (by omega)) hW, ?_⟩
    rw [tm_pcg (K := fun i => kd (9 * 24 + i)) (fun i hi => ct_o (by omega)) L (Nat.le_refl _)]
    exact hx
  · exact ya_exp he (br_f (by decide) (ym_all (t := 0) (by omega) hR TY' (fun q => absurd q hm) (fun _ yf' ry' fy' => br_t rfl ⟨rfl, J⟩)))
end
section
def st_N (n : Nat) : Nat → Int32 := fun j => if j % 24 = 0 ∧ j < n * 24 then 1 else 0
def st_C (n : Nat) : Nat → Int32 := fun j => if j < n then 1 else 0
theorem st_N1 (n : Nat) : upd (st_N n) (n * 24) 1 = st_N (n + 1) := by
  funext j
  unfold upd st_N
  by_cases e : j = n * 24
  · have : j % 24 = 0 ∧ j < (n + 1) * 24 := by omega
    rw [if_pos e, if_pos this]
  · rw [if_neg e]
    by_cases q : j % 24 = 0 ∧ j < n * 24
    · have : j % 24 = 0 ∧ j < (n + 1) * 24 := by omega
      rw [if_pos q, if_pos this]
    · have : ¬ (j % 24 = 0 ∧ j < (n + 1) * 24) := by omega
      rw [if_neg q, if_neg this]
theorem st_C1 (n : Nat) : upd (st_C n) n 1 = st_C (n + 1) := by
  funext j
  unfold upd st_C
  by_cases e : j = n
  · have : j < n + 1 := by omega
    rw [if_pos e, if_pos this]
  · rw [if_neg e]
    by_cases q : j < n
    · have : j < n + 1 := by omega
      rw [if_pos q, if_pos this]
    · have : ¬ j < n + 1 := by omega
      rw [if_neg q, if_neg this]
theorem st_N0 : st_N 0 = fun _ => 0 := by
  funext j
  have : ¬ (j % 24 = 0 ∧ j < 0 * 24) := by omega
  exact if_neg this
theorem st_C0 : st_C 0 = fun _ => 0 := by
  funext j
  exact if_neg (Nat.not_lt_zero j)
theorem st_Z (k : Nat) : upd (fun _ => 0) k 0 = fun _ => 0 := by
  funext j
  unfold upd
  by_cases e : j = k
  · rw [if_pos e]
  · rw [if_neg e]
theorem st_X {post : SX → Prop} {z : Nat → Int32} {zl : Nat → Int64} (hz : z = fun _ => 0) (h : post (0, 0, 0, z, z, z, z, st_N 8, st_C 8, zl, z, z, z)) :
    ∀ d i n, i + d = 8 → d < n → wX_init_88 post 0 0 0 n (nI i) z z z z (st_N i) (st_C i) zl z z z := by
  intro d
  induction d with
  | zero =>
    intro i n hi hn
    obtain ⟨n, rfl⟩ : ∃ m, n = m + 1 := ⟨n - 1, by omega⟩
    obtain rfl : i = 8 := by omega
    exact br_t (by decide) h
  | succ d ih =>
    intro i n hi hn
    obtain ⟨n, rfl⟩ : ∃ m, n = m + 1 := ⟨n - 1, by omega⟩
    have e0 : nI i * 24 = nI (i * 24) := pk_mul i 24
    have ci : (nI (i * 24)).toNatClampNeg = i * 24 := nI_clamp (by omega)
    have v0 : vp_in (nI i * 24) 240 := by rw [e0]; exact vp_in_nI (by omega) (by omega)
    exact br_f (nI_ge (b := 8) (by omega) (by omega)) ⟨v0, nm_r (e' := z) (by rw [hz]; exact st_Z _) ⟨v0, nm_r (e' := st_N (i + 1)) (by rw [e0, ci, st_N1]) ⟨vp_in_nI (by omega) (by omega), nm_r (e' := st_C (i + 1)) (by rw [nI_clamp (by omega), st_C1]) (nm_r (nI_1 i) (ih (i + 1) n (by omega) (by omega)))⟩⟩⟩
theorem st_Y {post : SY → Prop} {z : Nat → Int32} (h : post (0, 0, 0, 0, z, z, z, z, st_N 8, st_N 8, st_C 8, z, z, z, z, z)) :
    ∀ d i n, i + d = 8 → d < n → wY_init_104 post 0 0 0 0 n (nI i) z z z z (st_N i) (st_N i) (st_C i) z z z z z := by
  intro d
  induction d with
  | zero =>
    intro i n hi hn
    obtain ⟨n, rfl⟩ : ∃ m, n = m + 1 := ⟨n - 1, by omega⟩
    obtain rfl : i = 8 := by omega
    exact br_t (by decide) h
  | succ d ih =>
    intro i n hi hn
    obtain ⟨n, rfl⟩ : ∃ m, n = m + 1 := ⟨n - 1, by omega⟩
    have e0 : 24 * nI i = nI (i * 24) := by
      show nI 24 * nI i = _
      rw [pk_mul, Nat.mul_comm]
    have ci : (nI (i * 24)).toNatClampNeg = i * 24 := nI_clamp (by omega)
    have v0 : vp_in (24 * nI i) 240 := by rw [e0]; exact vp_in_nI (by omega) (by omega)
    exact br_f (nI_ge (b := 8) (by omega) (by omega)) ⟨vp_in_nI (by omega) (by omega), nm_r (e' := st_C (i + 1)) (by rw [nI_clamp (by omega), st_C1]) ⟨v0, nm_r (e' := st_N (i + 1)) (by rw [e0, ci, st_N1]) ⟨v0, nm_r (e' := st_N (i + 1)) (by rw [e0, ci, st_N1]) (nm_r (nI_1 i) (ih (i + 1) n (by omega) (by omega)))⟩⟩⟩
theorem ra_z : ∀ n, ra_k (fun _ => 0) n = 0 := by
  intro n
  induction n with
  | zero => rfl
  | succ n ih => rw [ra_s0 rfl, ih]
theorem st_rt (p t : Nat) : rt_R (fun _ => 0) (fun _ => 0) p (fun _ => 0) (fun _ => 0) t := by
  have e : ra_k (vx_t (fun _ => 0) p) 101 = 0 := ra_z 101
  refine ⟨by rw [e]; rfl, by rw [e]; omega, fun s _ hz => absurd rfl hz⟩
theorem st_ok {e : Nat} (he : e < 8) : te_ok (fun _ => 0) (st_N 8) (st_N 8) (st_C 8) e := by
  refine ⟨1, by omega, if_pos he, ⟨by omega, fun i hi => ?_⟩, rfl⟩
  obtain rfl : i = 0 := by omega
  have a1 : (0 : Int32) ≤ 0 := by decide
  have a2 : (0 : Int32) ≤ 15 := by decide
  have a3 : ¬ (0 : Int32) = 1 := by decide
  have a4 : ¬ (0 : Int32) = 2 := by decide
  have a5 : (1 : Nat) ≤ 8 := by decide
  refine ⟨⟨a1, a2⟩, Nat.zero_le _, a5, fun q => absurd q a3, fun q => absurd q a4, ?_⟩
  exact if_pos (by omega)
theorem i_vc0 : wpX_init (fun u => wpY_init (fun v => i_Rel 0 u v)) := by
  have hY : ∀ {post : SY → Prop}, post (0, 0, 0, 0, fun _ => 0, fun _ => 0, fun _ => 0, fun _ => 0, st_N 8, st_N 8, st_C 8, fun _ => 0, fun _ => 0, fun _ => 0, fun _ => 0, fun _ => 0) → wpY_init post := by
    intro post h
    refine ⟨9, ?_⟩
    have := st_Y (post := post) h 8 0 9 (by omega) (by omega)
    rw [st_N0, st_C0] at this
    exact this
  refine ⟨9, ?_⟩
  have := st_X (post := fun u => wpY_init (fun v => i_Rel 0 u v)) (z := fun _ => 0) (zl := fun _ => 0) rfl (hY ?_) 8 0 9 (by omega) (by omega)
  · rw [st_N0, st_C0] at this
    exact this
  · refine ⟨rfl, rfl, rfl, rfl, rfl, rfl, fun _ => Or.inl rfl, ⟨st_rt 4 0, fun p _ => st_rt p (p + 1)⟩, fun _ _ => rfl, fun _ => rfl, fun e he => st_ok he, fun q => absurd rfl q, 0, rfl, ⟨by omega, fun i hi => absurd hi (by omega)⟩, rfl⟩
end
