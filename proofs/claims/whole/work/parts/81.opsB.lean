/-! the law: nimbers, options, heaps -/
theorem IV_5 {n x : Nat} {σ : Nat → Nat → Int32} {τ : Nat → Nat → Int64} (h : IV n x σ τ) (t : Nat → Int32) : IV n x (zrow σ 5 t) τ := by
  obtain ⟨u, e, kn, st, pl, s, H, hu, hC, hR, hx, hst, hpl⟩ := h
  exact ⟨u, e, kn, st, pl, s, H, hu, CI_5 hC t, RI_fr hR (FC_row _ _ (by omega)) (FCt.refl _), hx, hst, hpl⟩
/-- a call that changes nothing to be seen -/
theorem IV_ok {n x : Nat} {σ : Nat → Nat → Int32} {τ : Nat → Nat → Int64} {t : Nat → Int32} {k : Nat} {w : Int64} (h : IV n x σ τ) (ht : zwf7 (σ 32) t) : IV (n + 1) x (zrow σ 32 t) (zupL τ 48 k w) := by
  obtain ⟨u, e, kn, st, pl, s, H, hu, hC, hR, hx, hst, hpl⟩ := h
  exact ⟨u, e, kn, st, pl, s, H, hu, CI_fr hC (FR_row _ _ (by omega) (by omega)) (FRt_o _ _ _), RI_fr (RI_7 hR ht) (FC.refl _) (FCt_o _ _ _), by omega, by omega, by omega⟩
theorem op4 {d l n p x : Nat} {σ : Nat → Nat → Int32} {τ : Nat → Nat → Int64} {Q : zR → Prop} (hp : p + 5 ≤ l) (hl : l ≤ 2560) (hn : n < 512) (hI : IV n x σ τ)
    (hq : ∀ x' σ' τ', σ' 99 = σ 99 → IV (n + 1) x' σ' τ' → zRn (d + 90) 190 (1490, [.ref 99, .ref 0, .ref 32, .ref 48, .int (nI p), zJ, zJ], [], (49, x', l, σ', τ', zrho)) Q) :
    zRn (d + 90) 190 (474, [.ref 99, .ref 0, .ref 32, .ref 48, .int (nI p), zJ, zJ], [], (49, x, l, σ, τ, zrho)) Q := by
  have hI0 := hI
  obtain ⟨u, e, kn, st, pl, s, H, hu, hC, hR, hx, hst, hpl⟩ := hI
  obtain ⟨i1, b1, c1, h1⟩ := iI_of (σ 99 (p + 1))
  have v1 : vp_in (nI (p + 1)) l := vp_in_nI (by omega) (by omega)
  have n1 : nI p + 1 = nI (p + 1) := nI_add p 1
  have k1 : (nI (p + 1)).toNatClampNeg = p + 1 := nI_clamp (by omega)
  have hf2 : far2 u ≤ 2000 := by unfold far2; split <;> omega
  refine zv190_474 ?_
  rw [n1, k1, h1]
  refine ⟨v1, zv173_0 (sp5 hu hC (by omega) b1 c1 (fun m hm hf σ1 τ1 kn1 f1 g1 hC1 => zv173_7 ⟨vz, zv190_485 ?_⟩) (fun hk => zh173_0 (zv190_485 ?_)))⟩
  · rw [n1, k1, show σ1 99 = σ 99 from f1 99 (by omega), h1]
    have hR1 := RI_fr hR f1 (g1.trans (FCt_o τ1 ((0 : Int32).toNatClampNeg) ((nI (mx (gn u) (m + 1))).toInt64)))
    refine ⟨v1, sp131 hu hR1.1 hR1.2.1 (by omega) b1 c1 (fun m' t a b hm' hf' ht e0 hN => zv190_497 (zv108_0 (zv190_503 ?_))) (fun hk2 => absurd (show 0 ≤ i1 ∧ i1 ≤ far2 u by omega) hk2)⟩
    have : m' = m := by omega
    subst this
    exact cmp_ok e0 rfl out_eq (hq x _ _ (f1 99 (by omega)) ⟨u, m', kn1, st + m', pl, s, H, hu, CI_fr hC1 (FR_R3 _ _ _ _) (FRt_o _ _ _), RI_n hR1 ht hN, by omega, by omega, by omega⟩)
  · rw [n1, k1, h1]
    refine ⟨v1, sp131 hu hR.1 hR.2.1 (by omega) b1 c1 (fun m' t a b hm' hf' ht e0 hN => absurd (show 0 ≤ i1 ∧ i1 ≤ far2 u by omega) hk) (fun hk2 t ht e0 => zv190_497 (zv108_0 (zv190_503 (cmp_bad e0 (by decide) (hq (x + 1) _ _ rfl (IV_err hI0 ht))))))⟩
theorem op5 {d l n p x : Nat} {σ : Nat → Nat → Int32} {τ : Nat → Nat → Int64} {Q : zR → Prop} (hp : p + 5 ≤ l) (hl : l ≤ 2560) (hn : n < 512) (hI : IV n x σ τ)
    (hq : ∀ x' σ' τ', σ' 99 = σ 99 → IV (n + 1) x' σ' τ' → zRn (d + 90) 190 (1490, [.ref 99, .ref 0, .ref 32, .ref 48, .int (nI p), zJ, zJ], [], (49, x', l, σ', τ', zrho)) Q) :
    zRn (d + 90) 190 (530, [.ref 99, .ref 0, .ref 32, .ref 48, .int (nI p), zJ, zJ], [], (49, x, l, σ, τ, zrho)) Q := by
  have hI0 := hI
  obtain ⟨u, e, kn, st, pl, s, H, hu, hC, hR, hx, hst, hpl⟩ := hI
  obtain ⟨i1, b1, c1, h1⟩ := iI_of (σ 99 (p + 1))
  have v1 : vp_in (nI (p + 1)) l := vp_in_nI (by omega) (by omega)
  have n1 : nI p + 1 = nI (p + 1) := nI_add p 1
  have k1 : (nI (p + 1)).toNatClampNeg = p + 1 := nI_clamp (by omega)
  refine zv190_530 ?_
  rw [n1, k1, h1]
  refine ⟨v1, zv174_0 (sp6 hC (by omega) b1 c1 (fun m hm he => zv174_7 ⟨vz, zv190_541 ?_⟩) (fun hk => zh174_2 (zv190_541 ?_)))⟩
  · rw [n1, k1, h1]
    refine ⟨v1, sp133 hR.2.1 b1 c1 (fun m' hm' he' t ht e0 => zv190_553 (zv108_0 (zv190_559 ?_))) (fun hk2 => absurd (show 0 ≤ i1 ∧ i1 ≤ e by omega) hk2)⟩
    have : m' = m := by omega
    subst this
    exact cmp_ok e0 rfl out_eq (hq x _ _ rfl (IV_ok hI0 ht))
  · rw [n1, k1, h1]
    refine ⟨v1, sp133 hR.2.1 b1 c1 (fun m' hm' he' t ht e0 => absurd (show 0 ≤ i1 ∧ i1 ≤ e by omega) hk) (fun hk2 t ht e0 => zv190_553 (zv108_0 (zv190_559 (cmp_bad e0 (by decide) (hq (x + 1) _ _ rfl (IV_err hI0 ht))))))⟩
theorem IV_ok' {n x : Nat} {σ : Nat → Nat → Int32} {τ : Nat → Nat → Int64} {t : Nat → Int32} (h : IV n x σ τ) (ht : zwf7 (σ 32) t) : IV (n + 1) x (zrow σ 32 t) τ := by
  obtain ⟨u, e, kn, st, pl, s, H, hu, hC, hR, hx, hst, hpl⟩ := h
  exact ⟨u, e, kn, st, pl, s, H, hu, CI_fr hC (FR_row _ _ (by omega) (by omega)) (FRt.refl _), RI_7 hR ht, by omega, by omega, by omega⟩
theorem op6 {d l n p x : Nat} {σ : Nat → Nat → Int32} {τ : Nat → Nat → Int64} {Q : zR → Prop} (hp : p + 5 ≤ l) (hl : l ≤ 2560) (hn : n < 512) (hI : IV n x σ τ)
    (hq : ∀ x' σ' τ', σ' 99 = σ 99 → IV (n + 1) x' σ' τ' → zRn (d + 90) 190 (1490, [.ref 99, .ref 0, .ref 32, .ref 48, .int (nI p), zJ, zJ], [], (49, x', l, σ', τ', zrho)) Q) :
    zRn (d + 90) 190 (586, [.ref 99, .ref 0, .ref 32, .ref 48, .int (nI p), zJ, zJ], [], (49, x, l, σ, τ, zrho)) Q := by
  have hI0 := hI
  obtain ⟨u, e, kn, st, pl, s, H, hu, hC, hR, hx, hst, hpl⟩ := hI
  obtain ⟨i1, b1, c1, h1⟩ := iI_of (σ 99 (p + 1))
  have v1 : vp_in (nI (p + 1)) l := vp_in_nI (by omega) (by omega)
  have n1 : nI p + 1 = nI (p + 1) := nI_add p 1
  have k1 : (nI (p + 1)).toNatClampNeg = p + 1 := nI_clamp (by omega)
  refine zv190_586 ?_
  rw [n1, k1]
  refine ⟨v1, sp7 hC (zv190_596 ?_)⟩
  rw [n1, k1]
  exact ⟨v1, sp134 hR.2.1 (fun t ht e0 => zv190_606 ⟨fun _ => hq x _ _ rfl (IV_ok' hI0 ht), fun q => absurd rfl q⟩)⟩
theorem op7 {d l n p x : Nat} {σ : Nat → Nat → Int32} {τ : Nat → Nat → Int64} {Q : zR → Prop} (hp : p + 5 ≤ l) (hl : l ≤ 2560) (hn : n < 512) (hI : IV n x σ τ)
    (hq : ∀ x' σ' τ', σ' 99 = σ 99 → IV (n + 1) x' σ' τ' → zRn (d + 90) 190 (1490, [.ref 99, .ref 0, .ref 32, .ref 48, .int (nI p), zJ, zJ], [], (49, x', l, σ', τ', zrho)) Q) :
    zRn (d + 90) 190 (611, [.ref 99, .ref 0, .ref 32, .ref 48, .int (nI p), zJ, zJ], [], (49, x, l, σ, τ, zrho)) Q := by
  have hI0 := hI
  obtain ⟨u, e, kn, st, pl, s, H, hu, hC, hR, hx, hst, hpl⟩ := hI
  obtain ⟨i1, b1, c1, h1⟩ := iI_of (σ 99 (p + 1))
  have v1 : vp_in (nI (p + 1)) l := vp_in_nI (by omega) (by omega)
  have n1 : nI p + 1 = nI (p + 1) := nI_add p 1
  have k1 : (nI (p + 1)).toNatClampNeg = p + 1 := nI_clamp (by omega)
  refine zv190_611 ?_
  rw [n1, k1, h1]
  refine ⟨v1, zv175_0 (sp8 hu hC (by omega) b1 c1 (fun w hw w1 σ1 f1 hC1 => zv175_7 ⟨vz, zv190_622 ?_⟩) (fun hk => zh175_2 (zv190_622 ?_)))⟩
  · rw [n1, k1, show σ1 99 = σ 99 from f1 99 (by omega), h1]
    have hR1 := RI_fr hR f1 (FCt_o τ ((0 : Int32).toNatClampNeg) ((pV (perR u e) w).toInt64))
    refine ⟨v1, sp137 hu hR1.1 hR1.2.1 b1 c1 (fun w' hw' _ t ht e0 => zv190_634 (zv108_0 (zv190_640 ?_))) (fun hk2 => absurd (show 0 ≤ i1 ∧ i1 ≤ 1 by omega) hk2)⟩
    have : w' = w := by omega
    subst this
    exact cmp_ok e0 rfl out_eq (hq x _ _ (f1 99 (by omega)) ⟨u, e, kn, st, pl, s, H, hu, CI_fr hC1 (FR_row _ _ (by omega) (by omega)) (FRt_o _ _ _), RI_7 hR1 ht, by omega, by omega, by omega⟩)
  · rw [n1, k1, h1]
    refine ⟨v1, sp137 hu hR.1 hR.2.1 b1 c1 (fun w' hw' _ t ht e0 => absurd (show 0 ≤ i1 ∧ i1 ≤ 1 by omega) hk) (fun hk2 t ht e0 => zv190_634 (zv108_0 (zv190_640 (cmp_bad e0 (by decide) (hq (x + 1) _ _ rfl (IV_err hI0 ht))))))⟩
theorem op8 {d l n p x : Nat} {σ : Nat → Nat → Int32} {τ : Nat → Nat → Int64} {Q : zR → Prop} (hp : p + 5 ≤ l) (hl : l ≤ 2560) (hn : n < 512) (hI : IV n x σ τ)
    (hq : ∀ x' σ' τ', σ' 99 = σ 99 → IV (n + 1) x' σ' τ' → zRn (d + 90) 190 (1490, [.ref 99, .ref 0, .ref 32, .ref 48, .int (nI p), zJ, zJ], [], (49, x', l, σ', τ', zrho)) Q) :
    zRn (d + 90) 190 (667, [.ref 99, .ref 0, .ref 32, .ref 48, .int (nI p), zJ, zJ], [], (49, x, l, σ, τ, zrho)) Q := by
  have hI0 := hI
  obtain ⟨u, e, kn, st, pl, s, H, hu, hC, hR, hx, hst, hpl⟩ := hI
  obtain ⟨i1, b1, c1, h1⟩ := iI_of (σ 99 (p + 1))
  have v1 : vp_in (nI (p + 1)) l := vp_in_nI (by omega) (by omega)
  have n1 : nI p + 1 = nI (p + 1) := nI_add p 1
  have k1 : (nI (p + 1)).toNatClampNeg = p + 1 := nI_clamp (by omega)
  refine zv190_667 ?_
  rw [n1, k1, h1]
  refine ⟨v1, zv176_0 (sp9 hu hC (by omega) b1 c1 (fun m hm he => zv176_7 ⟨vz, zv190_678 ?_⟩) (fun hk => zh176_0 (zv190_678 ?_)))⟩
  · rw [n1, k1, h1]
    refine ⟨v1, sp128 hu hR.1 b1 c1 (fun m' hm' he' t ht e0 => zv190_690 (zv108_0 (zv190_696 ?_))) (fun hk2 => absurd (show 0 ≤ i1 ∧ i1 ≤ far u by omega) hk2)⟩
    have : m' = m := by omega
    subst this
    exact cmp_ok e0 rfl out_eq (hq x _ _ rfl (IV_ok hI0 ht))
  · rw [n1, k1, h1]
    refine ⟨v1, sp128 hu hR.1 b1 c1 (fun m' hm' he' t ht e0 => absurd (show 0 ≤ i1 ∧ i1 ≤ far u by omega) hk) (fun hk2 t ht e0 => zv190_690 (zv108_0 (zv190_696 (cmp_bad e0 (by decide) (hq (x + 1) _ _ rfl (IV_err hI0 ht))))))⟩
theorem op9 {d l n p x : Nat} {σ : Nat → Nat → Int32} {τ : Nat → Nat → Int64} {Q : zR → Prop} (hp : p + 5 ≤ l) (hl : l ≤ 2560) (hn : n < 512) (hI : IV n x σ τ)
    (hq : ∀ x' σ' τ', σ' 99 = σ 99 → IV (n + 1) x' σ' τ' → zRn (d + 90) 190 (1490, [.ref 99, .ref 0, .ref 32, .ref 48, .int (nI p), zJ, zJ], [], (49, x', l, σ', τ', zrho)) Q) :
    zRn (d + 90) 190 (723, [.ref 99, .ref 0, .ref 32, .ref 48, .int (nI p), zJ, zJ], [], (49, x, l, σ, τ, zrho)) Q := by
  have hI0 := hI
  obtain ⟨u, e, kn, st, pl, s, H, hu, hC, hR, hx, hst, hpl⟩ := hI
  obtain ⟨i1, b1, c1, h1⟩ := iI_of (σ 99 (p + 1))
  have v1 : vp_in (nI (p + 1)) l := vp_in_nI (by omega) (by omega)
  have n1 : nI p + 1 = nI (p + 1) := nI_add p 1
  have k1 : (nI (p + 1)).toNatClampNeg = p + 1 := nI_clamp (by omega)
  obtain ⟨i2, b2, c2, h2⟩ := iI_of (σ 99 (p + 2))
  have v2 : vp_in (nI (p + 2)) l := vp_in_nI (by omega) (by omega)
  have n2 : nI p + 2 = nI (p + 2) := nI_add p 2
  have k2 : (nI (p + 2)).toNatClampNeg = p + 2 := nI_clamp (by omega)
  obtain ⟨i3, b3, c3, h3⟩ := iI_of (σ 99 (p + 3))
  have v3 : vp_in (nI (p + 3)) l := vp_in_nI (by omega) (by omega)
  have n3 : nI p + 3 = nI (p + 3) := nI_add p 3
  have k3 : (nI (p + 3)).toNatClampNeg = p + 3 := nI_clamp (by omega)
  have no : ∀ (n m w : Nat) (o : zO), i1 = (n : Int) → i2 = (m : Int) → i3 = (w : Int) → w ≤ 2 → (opts u n)[m]? = some o → ∀ n' : Nat, i1 = (n' : Int) → ¬ (¬ (0 ≤ i3 ∧ i3 ≤ 2) ∨ i2 < 0 ∨ ∃ m : Nat, i2 = (m : Int) ∧ (opts u n')[m]? = none) := by
    intro n m w o e1 e2 e3 hw ho n' e1' q
    rcases q with q | q | ⟨m', e2', q⟩
    · omega
    · omega
    · have : m' = m := by omega
      subst this
      have : n' = n := by omega
      subst this
      rw [ho] at q
      cases q
  refine zv190_723 ?_
  rw [n1, k1, h1, n2, k2, h2, n3, k3, h3]
  refine ⟨v1, v2, v3, zv177_0 (sp10 hu hC (by omega) b1 c1 b2 c2 b3 c3 (fun m1 m2 m3 o t5 e1 hf e2 e3 w2 ho => zv177_10 ⟨vz, zv190_746 ?_⟩) (fun hk => zh177_0 (zv190_746 ?_)) (fun m1 e1 hf hk => zh177_2 (zv190_746 ?_)))⟩
  · have hR1 := RI_fr (τ' := zupL τ 48 ((0 : Int32).toNatClampNeg) ((nI (rt o m3)).toInt64)) hR (FC_row σ (a := 5) t5 (by omega)) (FCt_o _ _ _)
    rw [n1, k1, n2, k2, n3, k3, show (zrow σ 5 t5) 99 = σ 99 from rfl, h1, h2, h3]
    refine ⟨v1, v2, v3, sp130 hu hR1.1 b1 c1 b2 c2 b3 c3 (fun m1' m2' m3' o' e1' hf' e2' e3' w2' ho' t ht e0 => zv190_770 (zv108_0 (zv190_776 ?_))) (fun hk2 => absurd (show 0 ≤ i1 ∧ i1 ≤ far u by omega) hk2) (fun m1' e1' hf' hk2 => absurd hk2 (no m1 m2 m3 o e1 e2 e3 w2 ho m1' e1'))⟩
    have q1 : m1' = m1 := by omega
    have q2 : m2' = m2 := by omega
    have q3 : m3' = m3 := by omega
    subst q1
    subst q2
    subst q3
    rw [ho'] at ho
    cases ho
    exact cmp_ok e0 rfl out_eq (hq x _ _ rfl (IV_ok (IV_5 hI0 t5) ht))
  · rw [n1, k1, n2, k2, n3, k3, h1, h2, h3]
    refine ⟨v1, v2, v3, sp130 hu hR.1 b1 c1 b2 c2 b3 c3 (fun m1' m2' m3' o' e1' hf' e2' e3' w2' ho' t ht e0 => absurd (show 0 ≤ i1 ∧ i1 ≤ far u by omega) hk) (fun hk2 t ht e0 => zv190_770 (zv108_0 (zv190_776 (cmp_bad e0 (by decide) (hq (x + 1) _ _ rfl (IV_err hI0 ht)))))) (fun m1' e1' hf' hk2 => absurd (show 0 ≤ i1 ∧ i1 ≤ far u by omega) hk)⟩
  · rw [n1, k1, n2, k2, n3, k3, h1, h2, h3]
    refine ⟨v1, v2, v3, sp130 hu hR.1 b1 c1 b2 c2 b3 c3 (fun m1' m2' m3' o' e1' hf' e2' e3' w2' ho' t ht e0 => absurd hk (no m1' m2' m3' o' e1' e2' e3' w2' ho' m1 e1)) (fun hk2 => absurd (show 0 ≤ i1 ∧ i1 ≤ far u by omega) hk2) (fun m1' e1' hf' hk2 t ht e0 => zv190_770 (zv108_0 (zv190_776 (cmp_bad e0 (by decide) (hq (x + 1) _ _ rfl (IV_err hI0 ht))))))⟩
theorem op10 {d l n p x : Nat} {σ : Nat → Nat → Int32} {τ : Nat → Nat → Int64} {Q : zR → Prop} (hp : p + 5 ≤ l) (hl : l ≤ 2560) (hn : n < 512) (hI : IV n x σ τ)
    (hq : ∀ x' σ' τ', σ' 99 = σ 99 → IV (n + 1) x' σ' τ' → zRn (d + 90) 190 (1490, [.ref 99, .ref 0, .ref 32, .ref 48, .int (nI p), zJ, zJ], [], (49, x', l, σ', τ', zrho)) Q) :
    zRn (d + 90) 190 (803, [.ref 99, .ref 0, .ref 32, .ref 48, .int (nI p), zJ, zJ], [], (49, x, l, σ, τ, zrho)) Q := by
  have hI0 := hI
  obtain ⟨u, e, kn, st, pl, s, H, hu, hC, hR, hx, hst, hpl⟩ := hI
  obtain ⟨i1, b1, c1, h1⟩ := iI_of (σ 99 (p + 1))
  have v1 : vp_in (nI (p + 1)) l := vp_in_nI (by omega) (by omega)
  have n1 : nI p + 1 = nI (p + 1) := nI_add p 1
  have k1 : (nI (p + 1)).toNatClampNeg = p + 1 := nI_clamp (by omega)
  obtain ⟨i2, b2, c2, h2⟩ := iI_of (σ 99 (p + 2))
  have v2 : vp_in (nI (p + 2)) l := vp_in_nI (by omega) (by omega)
  have n2 : nI p + 2 = nI (p + 2) := nI_add p 2
  have k2 : (nI (p + 2)).toNatClampNeg = p + 2 := nI_clamp (by omega)
  refine zv190_803 ?_
  rw [n1, k1, h1, n2, k2, h2]
  refine ⟨v1, v2, zv178_0 (sp11 hC (by omega) b1 c1 b2 c2 (fun q v hk hk16 hv v2000 σ1 f1 hC1 => zv178_8 ⟨vz, zv190_820 ?_⟩) (fun hk => zh178_2 (zv190_820 ?_)) (fun hk hk2 => zh178_0 (zv190_820 ?_)))⟩
  · rw [n1, k1, n2, k2, show σ1 99 = σ 99 from f1 99 (by omega), h1, h2]
    have hR1 := RI_fr hR f1 (FCt_o τ ((0 : Int32).toNatClampNeg) ((nI (H pl q)).toInt64))
    refine ⟨v1, v2, sp138 hR1.2.2.1 b1 c1 b2 c2 (fun q' v' hk' _ hv' _ t b ht e0 hS2 => zv190_838 (zv108_0 (zv190_844 ?_))) (fun hk2 => absurd (show 0 ≤ i1 ∧ i1 ≤ 15 by omega) hk2) (fun _ hk2 => absurd (show 0 ≤ i2 ∧ i2 ≤ 2000 by omega) hk2)⟩
    have e1 : q' = q := by omega
    have e2 : v' = v := by omega
    subst e1
    subst e2
    exact cmp_ok e0 rfl out_eq (hq x _ _ (f1 99 (by omega)) ⟨u, e, kn, st, 0, s, _, hu, CI_fr hC1 (FR_R4 _ _ _ _) (FRt_o _ _ _), RI_p hR1 ht hS2, by omega, by omega, by omega⟩)
  · rw [n1, k1, n2, k2, h1, h2]
    refine ⟨v1, v2, sp138 hR.2.2.1 b1 c1 b2 c2 (fun q' v' hk' _ hv' _ t b ht e0 hS2 => absurd (show 0 ≤ i1 ∧ i1 ≤ 15 by omega) hk) (fun hk2 t ht e0 => zv190_838 (zv108_0 (zv190_844 (cmp_bad e0 (by decide) (hq (x + 1) _ _ rfl (IV_err hI0 ht)))))) (fun hk2 _ => absurd hk2 hk)⟩
  · rw [n1, k1, n2, k2, h1, h2]
    refine ⟨v1, v2, sp138 hR.2.2.1 b1 c1 b2 c2 (fun q' v' hk' _ hv' _ t b ht e0 hS2 => absurd (show 0 ≤ i2 ∧ i2 ≤ 2000 by omega) hk2) (fun hk3 => absurd hk hk3) (fun _ _ t ht e0 => zv190_838 (zv108_0 (zv190_844 (cmp_bad e0 (by decide) (hq (x + 1) _ _ rfl (IV_err hI0 ht))))))⟩
theorem op11 {d l n p x : Nat} {σ : Nat → Nat → Int32} {τ : Nat → Nat → Int64} {Q : zR → Prop} (hp : p + 5 ≤ l) (hl : l ≤ 2560) (hn : n < 512) (hI : IV n x σ τ)
    (hq : ∀ x' σ' τ', σ' 99 = σ 99 → IV (n + 1) x' σ' τ' → zRn (d + 90) 190 (1490, [.ref 99, .ref 0, .ref 32, .ref 48, .int (nI p), zJ, zJ], [], (49, x', l, σ', τ', zrho)) Q) :
    zRn (d + 90) 190 (871, [.ref 99, .ref 0, .ref 32, .ref 48, .int (nI p), zJ, zJ], [], (49, x, l, σ, τ, zrho)) Q := by
  have hI0 := hI
  obtain ⟨u, e, kn, st, pl, s, H, hu, hC, hR, hx, hst, hpl⟩ := hI
  obtain ⟨i1, b1, c1, h1⟩ := iI_of (σ 99 (p + 1))
  have v1 : vp_in (nI (p + 1)) l := vp_in_nI (by omega) (by omega)
  have n1 : nI p + 1 = nI (p + 1) := nI_add p 1
  have k1 : (nI (p + 1)).toNatClampNeg = p + 1 := nI_clamp (by omega)
  refine zv190_871 ?_
  rw [n1, k1, h1]
  refine ⟨v1, zv179_0 (sp12 hC (by omega) b1 c1 (fun m hm he => zv179_7 ⟨vz, zv190_882 ?_⟩) (fun hk => zh179_2 (zv190_882 ?_)))⟩
  · rw [n1, k1, h1]
    refine ⟨v1, sp139 hR.2.2.1 b1 c1 (fun m' hm' he' t ht e0 => zv190_894 (zv108_0 (zv190_900 ?_))) (fun hk2 => absurd (show 0 ≤ i1 ∧ i1 ≤ 15 by omega) hk2)⟩
    have : m' = m := by omega
    subst this
    exact cmp_ok e0 rfl out_eq (hq x _ _ rfl (IV_ok hI0 ht))
  · rw [n1, k1, h1]
    refine ⟨v1, sp139 hR.2.2.1 b1 c1 (fun m' hm' he' t ht e0 => absurd (show 0 ≤ i1 ∧ i1 ≤ 15 by omega) hk) (fun hk2 t ht e0 => zv190_894 (zv108_0 (zv190_900 (cmp_bad e0 (by decide) (hq (x + 1) _ _ rfl (IV_err hI0 ht))))))⟩
theorem op12 {d l n p x : Nat} {σ : Nat → Nat → Int32} {τ : Nat → Nat → Int64} {Q : zR → Prop} (hp : p + 5 ≤ l) (hl : l ≤ 2560) (hn : n < 512) (hI : IV n x σ τ)
    (hq : ∀ x' σ' τ', σ' 99 = σ 99 → IV (n + 1) x' σ' τ' → zRn (d + 90) 190 (1490, [.ref 99, .ref 0, .ref 32, .ref 48, .int (nI p), zJ, zJ], [], (49, x', l, σ', τ', zrho)) Q) :
    zRn (d + 90) 190 (927, [.ref 99, .ref 0, .ref 32, .ref 48, .int (nI p), zJ, zJ], [], (49, x, l, σ, τ, zrho)) Q := by
  have hI0 := hI
  obtain ⟨u, e, kn, st, pl, s, H, hu, hC, hR, hx, hst, hpl⟩ := hI
  have hb := cs_b hC.2.2.2.1
  refine zv190_927 (zv180_0 (sp13 hu hC (by omega) (fun hf => zv180_6 ⟨vz, zv190_932 ?_⟩) (fun hf => zh180_3 (zv190_932 ?_))))
  · exact sp141 hu hR.1 hR.2.2.1.2.1 hb (fun _ t ht e0 => zv190_938 (zv108_0 (zv190_944 (cmp_ok e0 rfl out_eq (hq x _ _ rfl (IV_ok hI0 ht)))))) (fun hf2 => absurd hf hf2)
  · exact sp141 hu hR.1 hR.2.2.1.2.1 hb (fun hf2 => absurd hf2 hf) (fun _ t ht e0 => zv190_938 (zv108_0 (zv190_944 (cmp_bad e0 (by decide) (hq (x + 1) _ _ rfl (IV_err hI0 ht))))))
