/-! the law: rules told -/
theorem op0 {d l n p x : Nat} {σ : Nat → Nat → Int32} {τ : Nat → Nat → Int64} {Q : zR → Prop} (hp : p + 5 ≤ l) (hl : l ≤ 2560) (hn : n < 512) (hI : IV n x σ τ)
    (hq : ∀ x' σ' τ', σ' 99 = σ 99 → IV (n + 1) x' σ' τ' → zRn (d + 90) 190 (1490, [.ref 99, .ref 0, .ref 32, .ref 48, .int (nI p), zJ, zJ], [], (49, x', l, σ', τ', zrho)) Q) :
    zRn (d + 90) 190 (144, [.ref 99, .ref 0, .ref 32, .ref 48, .int (nI p), zJ, zJ], [], (49, x, l, σ, τ, zrho)) Q := by
  have hI0 := hI
  obtain ⟨u, e, kn, st, pl, s, H, hu, hC, hR, hx, hst, hpl⟩ := hI
  obtain ⟨i1, b1, c1, h1⟩ := iI_of (σ 99 (p + 1))
  have v1 : vp_in (nI (p + 1)) l := vp_in_nI (by omega) (by omega)
  have n1 : nI p + 1 = nI (p + 1) := nI_add p 1
  have k1 : (nI (p + 1)).toNatClampNeg = p + 1 := nI_clamp (by omega)
  refine zv190_144 ?_
  rw [n1, k1, h1]
  refine ⟨v1, zv169_0 (sp1 hC (by omega) b1 c1 (fun k hk k4 σ1 f1 hC1 => zv169_7 ⟨vz, zv190_155 ?_⟩) (fun hk => zh169_0 (zv190_155 ?_)))⟩
  · rw [n1, k1, show σ1 99 = σ 99 from f1 99 (by omega), h1]
    refine ⟨v1, sp112 (RI_fr hR f1 (FCt_o _ _ _)) b1 c1 (fun k' hk' k4' σ2 f2 e0 hR2 => zv190_167 (zv108_0 (zv190_173 ?_))) (fun hk2 => absurd (show 0 ≤ i1 ∧ i1 ≤ 4 by omega) hk2)⟩
    have : k' = k := by omega
    subst this
    exact cmp_ok e0 rfl out_eq (hq x σ2 _ ((f2 99 (by omega)).trans (f1 99 (by omega))) ⟨setK u k', 0, 0, st, pl, 0, H, ok_K hu k4, CI_fr hC1 f2 (FRt_o _ _ _), hR2, by omega, by omega, by omega⟩)
  · rw [n1, k1, h1]
    refine ⟨v1, sp112 hR b1 c1 (fun k' hk' k4' _ _ _ _ => absurd (show 0 ≤ i1 ∧ i1 ≤ 4 by omega) hk) (fun hk2 => zv190_167 (zv108_0 (zv190_173 (cmp_bad (thr _ _) (by decide) (hq (x + 1) _ _ rfl (IV_err hI0 (zwf7_c _ _)))))))⟩
theorem op1 {d l n p x : Nat} {σ : Nat → Nat → Int32} {τ : Nat → Nat → Int64} {Q : zR → Prop} (hp : p + 5 ≤ l) (hl : l ≤ 2560) (hn : n < 512) (hI : IV n x σ τ)
    (hq : ∀ x' σ' τ', σ' 99 = σ 99 → IV (n + 1) x' σ' τ' → zRn (d + 90) 190 (1490, [.ref 99, .ref 0, .ref 32, .ref 48, .int (nI p), zJ, zJ], [], (49, x', l, σ', τ', zrho)) Q) :
    zRn (d + 90) 190 (200, [.ref 99, .ref 0, .ref 32, .ref 48, .int (nI p), zJ, zJ], [], (49, x, l, σ, τ, zrho)) Q := by
  have hI0 := hI
  obtain ⟨u, e, kn, st, pl, s, H, hu, hC, hR, hx, hst, hpl⟩ := hI
  obtain ⟨i1, b1, c1, h1⟩ := iI_of (σ 99 (p + 1))
  have v1 : vp_in (nI (p + 1)) l := vp_in_nI (by omega) (by omega)
  have n1 : nI p + 1 = nI (p + 1) := nI_add p 1
  have k1 : (nI (p + 1)).toNatClampNeg = p + 1 := nI_clamp (by omega)
  obtain ⟨i2, b2, c2, h2⟩ := iI_of (σ 99 (p + 2))
  have v2 : vp_in (nI (p + 2)) l := vp_in_nI (by omega) (by omega)
  have n2 : nI p + 2 = nI (p + 2) := nI_add p 2
  have k2 : (nI (p + 2)).toNatClampNeg = p + 2 := nI_clamp (by omega)
  refine zv190_200 ?_
  rw [n1, k1, h1, n2, k2, h2]
  refine ⟨v1, v2, zv170_0 (sp2 hC (by omega) b1 c1 b2 c2 (fun k v hk hv k1' k12 v15 σ1 f1 hC1 => zv170_8 ⟨vz, zv190_217 ?_⟩) (fun hk => zh170_2 (zv190_217 ?_)) (fun hk hk2 => zh170_0 (zv190_217 ?_)))⟩
  · rw [n1, k1, n2, k2, show σ1 99 = σ 99 from f1 99 (by omega), h1, h2]
    refine ⟨v1, v2, sp113 (RI_fr hR f1 (FCt_o _ _ _)) b1 c1 b2 c2 (fun k' v' hk' hv' _ _ _ σ2 f2 e0 hR2 => zv190_235 (zv108_0 (zv190_241 ?_))) (fun hk2 => absurd (show 1 ≤ i1 ∧ i1 ≤ 12 by omega) hk2) (fun _ hk2 => absurd (show 0 ≤ i2 ∧ i2 ≤ 15 by omega) hk2)⟩
    have e1 : k' = k := by omega
    have e2 : v' = v := by omega
    subst e1
    subst e2
    exact cmp_ok e0 rfl out_eq (hq x σ2 _ ((f2 99 (by omega)).trans (f1 99 (by omega))) ⟨setD u k' v', 0, 0, st, pl, 0, H, ok_D hu v15, CI_fr hC1 f2 (FRt_o _ _ _), hR2, by omega, by omega, by omega⟩)
  · rw [n1, k1, n2, k2, h1, h2]
    refine ⟨v1, v2, sp113 hR b1 c1 b2 c2 (fun k' v' hk' hv' _ _ _ _ _ _ _ => absurd (show 1 ≤ i1 ∧ i1 ≤ 12 by omega) hk) (fun _ => zv190_235 (zv108_0 (zv190_241 (cmp_bad (thr _ _) (by decide) (hq (x + 1) _ _ rfl (IV_err hI0 (zwf7_c _ _))))))) (fun hk2 _ => absurd hk2 hk)⟩
  · rw [n1, k1, n2, k2, h1, h2]
    refine ⟨v1, v2, sp113 hR b1 c1 b2 c2 (fun k' v' hk' hv' _ _ _ _ _ _ _ => absurd (show 0 ≤ i2 ∧ i2 ≤ 15 by omega) hk2) (fun hk3 => absurd hk hk3) (fun _ _ => zv190_235 (zv108_0 (zv190_241 (cmp_bad (thr _ _) (by decide) (hq (x + 1) _ _ rfl (IV_err hI0 (zwf7_c _ _)))))))⟩
theorem op2 {d l n p x : Nat} {σ : Nat → Nat → Int32} {τ : Nat → Nat → Int64} {Q : zR → Prop} (hp : p + 5 ≤ l) (hl : l ≤ 2560) (hn : n < 512) (hI : IV n x σ τ)
    (hq : ∀ x' σ' τ', σ' 99 = σ 99 → IV (n + 1) x' σ' τ' → zRn (d + 90) 190 (1490, [.ref 99, .ref 0, .ref 32, .ref 48, .int (nI p), zJ, zJ], [], (49, x', l, σ', τ', zrho)) Q) :
    zRn (d + 90) 190 (268, [.ref 99, .ref 0, .ref 32, .ref 48, .int (nI p), zJ, zJ], [], (49, x, l, σ, τ, zrho)) Q := by
  have hI0 := hI
  obtain ⟨u, e, kn, st, pl, s, H, hu, hC, hR, hx, hst, hpl⟩ := hI
  obtain ⟨i1, b1, c1, h1⟩ := iI_of (σ 99 (p + 1))
  have v1 : vp_in (nI (p + 1)) l := vp_in_nI (by omega) (by omega)
  have n1 : nI p + 1 = nI (p + 1) := nI_add p 1
  have k1 : (nI (p + 1)).toNatClampNeg = p + 1 := nI_clamp (by omega)
  obtain ⟨i2, b2, c2, h2⟩ := iI_of (σ 99 (p + 2))
  have v2 : vp_in (nI (p + 2)) l := vp_in_nI (by omega) (by omega)
  have n2 : nI p + 2 = nI (p + 2) := nI_add p 2
  have k2 : (nI (p + 2)).toNatClampNeg = p + 2 := nI_clamp (by omega)
  obtain ⟨v, hv⟩ := bool_of (σ 99 (p + 2))
  have cls : zRn (d + 89) 171 (0, [.ref 0, .int (iI i1), .int (bI v), .ref 48, zJ], [], (49, x, l, σ, τ, zrho)) (zret (d + 90) 190 290 293 [.ref 99, .ref 0, .ref 32, .ref 48, .int (nI p), zJ, zJ] [] Q) := by
    refine zv171_0 (sp3 hC (by omega) b1 c1 (fun k hk k1' k64 σ1 f1 hC1 => zv171_8 (out2 (A := fun w => zret (d + 90) 190 290 293 [.ref 99, .ref 0, .ref 32, .ref 48, .int (nI p), zJ, zJ] [] Q (.inl (some (.int 0)), (49, x, l, σ1, zupL τ 48 ((0 : Int32).toNatClampNeg) w, zrho))) (zv190_293 ?_))) (fun hk => zh171_0 (zv190_293 ?_)))
    · rw [n1, k1, n2, k2, show σ1 99 = σ 99 from f1 99 (by omega), h1]
      refine ⟨v1, v2, two (A := fun b => zRn (d + 89) 114 (0, [.ref 32, .int (iI i1), .int b, zJ], [], (49, x, l, σ1, zupL τ 48 ((0 : Int32).toNatClampNeg) (bL (nb u k)), zrho)) (zret (d + 90) 190 316 319 [.ref 99, .ref 0, .ref 32, .ref 48, .int (nI p), .int 0, zJ] [] Q)) hv ?_⟩
      refine sp114 (RI_fr hR f1 (FCt_o _ _ _)) b1 c1 (fun k' hk' _ _ σ2 f2 e0 hR2 => zv190_319 (zv108_0 (zv190_325 ?_))) (fun hk2 => absurd (show 1 ≤ i1 ∧ i1 ≤ 64 by omega) hk2)
      have : k' = k := by omega
      subst this
      exact cmp_z e0 rfl (fun h => by rw [h]; exact out_eq) (fun h => by rw [h]; exact out_eq) (hq x σ2 _ ((f2 99 (by omega)).trans (f1 99 (by omega))) ⟨setN u k' v, 0, 0, st, pl, 0, H, ok_N hu, CI_fr hC1 f2 (FRt_o _ _ _), hR2, by omega, by omega, by omega⟩)
    · rw [n1, k1, n2, k2, h1]
      refine ⟨v1, v2, two (A := fun b => zRn (d + 89) 114 (0, [.ref 32, .int (iI i1), .int b, zJ], [], (49, x + 1, l, σ, τ, zrho)) (zret (d + 90) 190 316 319 [.ref 99, .ref 0, .ref 32, .ref 48, .int (nI p), .int 1, zJ] [] Q)) hv ?_⟩
      exact sp114 hR b1 c1 (fun k' hk' _ _ _ _ _ _ => absurd (show 1 ≤ i1 ∧ i1 ≤ 64 by omega) hk) (fun _ => zv190_319 (zv108_0 (zv190_325 (cmp_bad (thr _ _) (by decide) (hq (x + 1) _ _ rfl (IV_err hI0 (zwf7_c _ _)))))))
  refine zv190_268 ?_
  rw [n1, k1, h1, n2, k2]
  exact ⟨v1, v2, two (A := fun b => zRn (d + 89) 171 (0, [.ref 0, .int (iI i1), .int b, .ref 48, zJ], [], (49, x, l, σ, τ, zrho)) (zret (d + 90) 190 290 293 [.ref 99, .ref 0, .ref 32, .ref 48, .int (nI p), zJ, zJ] [] Q)) hv cls⟩
theorem op3 {d l n p x : Nat} {σ : Nat → Nat → Int32} {τ : Nat → Nat → Int64} {Q : zR → Prop} (hp : p + 5 ≤ l) (hl : l ≤ 2560) (hn : n < 512) (hI : IV n x σ τ)
    (hq : ∀ x' σ' τ', σ' 99 = σ 99 → IV (n + 1) x' σ' τ' → zRn (d + 90) 190 (1490, [.ref 99, .ref 0, .ref 32, .ref 48, .int (nI p), zJ, zJ], [], (49, x', l, σ', τ', zrho)) Q) :
    zRn (d + 90) 190 (359, [.ref 99, .ref 0, .ref 32, .ref 48, .int (nI p), zJ, zJ], [], (49, x, l, σ, τ, zrho)) Q := by
  have hI0 := hI
  obtain ⟨u, e, kn, st, pl, s, H, hu, hC, hR, hx, hst, hpl⟩ := hI
  obtain ⟨i1, b1, c1, h1⟩ := iI_of (σ 99 (p + 1))
  have v1 : vp_in (nI (p + 1)) l := vp_in_nI (by omega) (by omega)
  have n1 : nI p + 1 = nI (p + 1) := nI_add p 1
  have k1 : (nI (p + 1)).toNatClampNeg = p + 1 := nI_clamp (by omega)
  obtain ⟨i2, b2, c2, h2⟩ := iI_of (σ 99 (p + 2))
  have v2 : vp_in (nI (p + 2)) l := vp_in_nI (by omega) (by omega)
  have n2 : nI p + 2 = nI (p + 2) := nI_add p 2
  have k2 : (nI (p + 2)).toNatClampNeg = p + 2 := nI_clamp (by omega)
  obtain ⟨i3, b3, c3, h3⟩ := iI_of (σ 99 (p + 3))
  have v3 : vp_in (nI (p + 3)) l := vp_in_nI (by omega) (by omega)
  have n3 : nI p + 3 = nI (p + 3) := nI_add p 3
  have k3 : (nI (p + 3)).toNatClampNeg = p + 3 := nI_clamp (by omega)
  obtain ⟨i4, b4, c4, h4⟩ := iI_of (σ 99 (p + 4))
  have v4 : vp_in (nI (p + 4)) l := vp_in_nI (by omega) (by omega)
  have n4 : nI p + 4 = nI (p + 4) := nI_add p 4
  have k4 : (nI (p + 4)).toNatClampNeg = p + 4 := nI_clamp (by omega)
  obtain ⟨v, hv⟩ := bool_of (σ 99 (p + 4))
  have cls : zRn (d + 89) 172 (0, [.ref 0, .int (iI i1), .int (iI i2), .int (iI i3), .int (bI v), .ref 48, zJ], [], (49, x, l, σ, τ, zrho)) (zret (d + 90) 190 393 396 [.ref 99, .ref 0, .ref 32, .ref 48, .int (nI p), zJ, zJ] [] Q) := by
    refine zv172_0 (sp4 hC (by omega) b1 c1 b2 c2 b3 c3 (fun hE σ1 τ1 f1 g1 hC1 => zv172_12 (out2 (A := fun w => zret (d + 90) 190 393 396 [.ref 99, .ref 0, .ref 32, .ref 48, .int (nI p), zJ, zJ] [] Q (.inl (some (.int 0)), (49, x, l, σ1, zupL τ1 48 ((0 : Int32).toNatClampNeg) w, zrho))) (zv190_396 ?_))) (fun hk => zh172_0 (zv190_396 ?_)))
    · rw [n1, k1, n2, k2, n3, k3, n4, k4, show σ1 99 = σ 99 from f1 99 (by omega), h1, h2, h3]
      refine ⟨v1, v2, v3, v4, two (A := fun b => zRn (d + 89) 116 (0, [.ref 32, .int (iI i1), .int (iI i2), .int (iI i3), .int b, zJ], [], (49, x, l, σ1, zupL τ1 48 ((0 : Int32).toNatClampNeg) (bL (en u i1.toNat (min i2 i3).toNat (max i2 i3).toNat)), zrho)) (zret (d + 90) 190 431 434 [.ref 99, .ref 0, .ref 32, .ref 48, .int (nI p), .int 0, zJ] [] Q)) hv ?_⟩
      refine sp116 (RI_fr hR f1 (g1.trans (FCt_o _ _ _))) b1 c1 b2 c2 b3 c3 (fun _ σ2 f2 e0 hR2 => zv190_434 (zv108_0 (zv190_440 ?_))) (fun hk2 => absurd hE hk2)
      refine cmp_z e0 rfl (fun h => by rw [h]; exact out_eq) (fun h => by rw [h]; exact out_eq) (hq x σ2 _ ((f2 99 (by omega)).trans (f1 99 (by omega))) ⟨setE u i1.toNat (min i2 i3).toNat (max i2 i3).toNat v, 0, 0, st, pl, 0, H, ?_, CI_fr hC1 f2 (FRt_o _ _ _), hR2, by omega, by omega, by omega⟩)
      unfold isE at hE
      exact ok_E hu (by omega) (by omega) (by omega) (by omega)
    · rw [n1, k1, n2, k2, n3, k3, n4, k4, h1, h2, h3]
      refine ⟨v1, v2, v3, v4, two (A := fun b => zRn (d + 89) 116 (0, [.ref 32, .int (iI i1), .int (iI i2), .int (iI i3), .int b, zJ], [], (49, x + 1, l, σ, τ, zrho)) (zret (d + 90) 190 431 434 [.ref 99, .ref 0, .ref 32, .ref 48, .int (nI p), .int 1, zJ] [] Q)) hv ?_⟩
      exact sp116 hR b1 c1 b2 c2 b3 c3 (fun hE _ _ _ _ => absurd hE hk) (fun _ => zv190_434 (zv108_0 (zv190_440 (cmp_bad (thr _ _) (by decide) (hq (x + 1) _ _ rfl (IV_err hI0 (zwf7_c _ _)))))))
  refine zv190_359 ?_
  rw [n1, k1, h1, n2, k2, h2, n3, k3, h3, n4, k4]
  exact ⟨v1, v2, v3, v4, two (A := fun b => zRn (d + 89) 172 (0, [.ref 0, .int (iI i1), .int (iI i2), .int (iI i3), .int b, .ref 48, zJ], [], (49, x, l, σ, τ, zrho)) (zret (d + 90) 190 393 396 [.ref 99, .ref 0, .ref 32, .ref 48, .int (nI p), zJ, zJ] [] Q)) hv cls⟩
