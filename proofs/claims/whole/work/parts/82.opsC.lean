/-! the law: play -/
theorem fm_no {u : zRu} {hp : Nat → Nat} {i : Int} {m k : Nat} {o : zO} (h1 : i = (m : Int)) (h2 : fm u hp 16 0 m = some (k, o)) : ¬ (i < 0 ∨ ∃ m : Nat, i = (m : Int) ∧ fm u hp 16 0 m = none) := by
  intro q
  rcases q with q | ⟨m', e, q⟩
  · omega
  · have : m' = m := by omega
    subst this
    rw [h2] at q
    cases q
theorem op13 {d l n p x : Nat} {σ : Nat → Nat → Int32} {τ : Nat → Nat → Int64} {Q : zR → Prop} (hp : p + 5 ≤ l) (hl : l ≤ 2560) (hn : n < 512) (hI : IV n x σ τ)
    (hq : ∀ x' σ' τ', σ' 99 = σ 99 → IV (n + 1) x' σ' τ' → zRn (d + 90) 190 (1490, [.ref 99, .ref 0, .ref 32, .ref 48, .int (nI p), zJ, zJ], [], (49, x', l, σ', τ', zrho)) Q) :
    zRn (d + 90) 190 (971, [.ref 99, .ref 0, .ref 32, .ref 48, .int (nI p), zJ, zJ], [], (49, x, l, σ, τ, zrho)) Q := by
  have hI0 := hI
  obtain ⟨u, e, kn, st, pl, s, H, hu, hC, hR, hx, hst, hpl⟩ := hI
  obtain ⟨i1, b1, c1, h1⟩ := iI_of (σ 99 (p + 1))
  have v1 : vp_in (nI (p + 1)) l := vp_in_nI (by omega) (by omega)
  have n1 : nI p + 1 = nI (p + 1) := nI_add p 1
  have k1 : (nI (p + 1)).toNatClampNeg = p + 1 := nI_clamp (by omega)
  obtain ⟨i2, b2, c2, h2⟩ := iI_of (σ 99 (p + 2))
  have v2 : vp_in (nI (p + 2)) l := vp_in_nI (by omega) (by omega)
  have n2 : nI p + 2 = nI (p + 2) := nI_add p 2
  have k2 : (nI (p + 2)).toNatClampNeg = p + 2 := nI_clamp (by omega)
  have hb := cs_b hC.2.2.2.1
  refine zv190_971 ?_
  rw [n1, k1, h1, n2, k2, h2]
  refine ⟨v1, v2, zv181_0 (sp14 hu hC (by omega) b1 c1 b2 c2 (fun hf m k w o t5 e1 e2 w3 hfm => zv181_8 ⟨vz, zv190_988 ?_⟩) (fun hf hk t5 => zh181_2 (zv190_988 ?_)) (fun hf => zh181_3 (zv190_988 ?_)))⟩
  · have hR1 := RI_fr (τ' := zupL τ 48 ((0 : Int32).toNatClampNeg) ((if w = 0 then nI k else nI (rt o (w - 1))).toInt64)) hR (FC_row σ (a := 5) t5 (by omega)) (FCt_o _ _ _)
    rw [n1, k1, n2, k2, show (zrow σ 5 t5) 99 = σ 99 from rfl, h1, h2]
    refine ⟨v1, v2, sp143 hu hR1.1 hR1.2.2.1.2.1 hb b1 c1 b2 c2 (fun _ m' k' w' o' t e1' e2' _ hfm' ht e0 => zv190_1006 (zv108_0 (zv190_1012 ?_))) (fun _ hk2 => absurd hk2 (fun q => ?_)) (fun hf2 => absurd hf hf2)⟩
    · have q1 : m' = m := by omega
      have q2 : w' = w := by omega
      subst q1
      subst q2
      rw [hfm'] at hfm
      cases hfm
      exact cmp_ok e0 rfl out_eq (hq x _ _ rfl (IV_ok (IV_5 hI0 t5) ht))
    · rcases q with q | q
      · omega
      · exact fm_no e1 hfm q
  · have hR1 := RI_fr hR (FC_row σ (a := 5) t5 (by omega)) (FCt.refl τ)
    rw [n1, k1, n2, k2, show (zrow σ 5 t5) 99 = σ 99 from rfl, h1, h2]
    refine ⟨v1, v2, sp143 hu hR1.1 hR1.2.2.1.2.1 hb b1 c1 b2 c2 (fun _ m' k' w' o' t e1' e2' w3 hfm' ht e0 => absurd hk (fun q => ?_)) (fun _ _ t ht e0 => zv190_1006 (zv108_0 (zv190_1012 (cmp_bad e0 (by decide) (hq (x + 1) _ _ rfl (IV_err (IV_5 hI0 t5) ht)))))) (fun hf2 => absurd hf hf2)⟩
    rcases q with q | q
    · omega
    · exact fm_no e1' hfm' q
  · rw [n1, k1, n2, k2, h1, h2]
    exact ⟨v1, v2, sp143 hu hR.1 hR.2.2.1.2.1 hb b1 c1 b2 c2 (fun hf2 => absurd hf2 hf) (fun hf2 => absurd hf2 hf) (fun _ t ht e0 => zv190_1006 (zv108_0 (zv190_1012 (cmp_bad e0 (by decide) (hq (x + 1) _ _ rfl (IV_err hI0 ht))))))⟩
theorem op14 {d l n p x : Nat} {σ : Nat → Nat → Int32} {τ : Nat → Nat → Int64} {Q : zR → Prop} (hp : p + 5 ≤ l) (hl : l ≤ 2560) (hn : n < 512) (hI : IV n x σ τ)
    (hq : ∀ x' σ' τ', σ' 99 = σ 99 → IV (n + 1) x' σ' τ' → zRn (d + 90) 190 (1490, [.ref 99, .ref 0, .ref 32, .ref 48, .int (nI p), zJ, zJ], [], (49, x', l, σ', τ', zrho)) Q) :
    zRn (d + 90) 190 (1039, [.ref 99, .ref 0, .ref 32, .ref 48, .int (nI p), zJ, zJ], [], (49, x, l, σ, τ, zrho)) Q := by
  have hI0 := hI
  obtain ⟨u, e, kn, st, pl, s, H, hu, hC, hR, hx, hst, hpl⟩ := hI
  obtain ⟨i1, b1, c1, h1⟩ := iI_of (σ 99 (p + 1))
  have v1 : vp_in (nI (p + 1)) l := vp_in_nI (by omega) (by omega)
  have n1 : nI p + 1 = nI (p + 1) := nI_add p 1
  have k1 : (nI (p + 1)).toNatClampNeg = p + 1 := nI_clamp (by omega)
  have hb := cs_b hC.2.2.2.1
  refine zv190_1039 ?_
  rw [n1, k1, h1]
  refine ⟨v1, zv182_0 (sp15 hu hC (by omega) (by omega) b1 c1 (fun hf m k o e1 hfm hrm σ1 f1 hC1 => zv182_7 ⟨vz, zv190_1050 ?_⟩) (fun hf m k o e1 hfm hrm t5 => zh182_1 (zv190_1050 ?_)) (fun hf hk t5 => zh182_2 (zv190_1050 ?_)) (fun hf => zh182_3 (zv190_1050 ?_)))⟩
  · rw [n1, k1, show σ1 99 = σ 99 from f1 99 (by omega), h1]
    have hR1 := RI_fr hR f1 (FCt_o τ ((0 : Int32).toNatClampNeg) ((nI (pl + 1)).toInt64))
    refine ⟨v1, sp144 hu hR1.1 hR1.2.2.1 (by omega) hb b1 c1 (fun _ m' k' o' e1' hfm' _ t b c ht e0 hS2 => zv190_1062 (zv108_0 (zv190_1068 ?_))) (fun _ m' k' o' e1' hfm' hrm' => absurd hrm (fun q => ?_)) (fun _ hk2 => absurd hk2 (fm_no e1 hfm)) (fun hf2 => absurd hf hf2)⟩
    · have q1 : m' = m := by omega
      subst q1
      rw [hfm'] at hfm
      cases hfm
      exact cmp_ok e0 rfl out_eq (hq x _ _ (f1 99 (by omega)) ⟨u, e, kn, st, pl + 1, s, _, hu, CI_fr hC1 (FR_R4 _ _ _ _) (FRt_o _ _ _), RI_p hR1 ht hS2, by omega, by omega, by omega⟩)
    · have q1 : m' = m := by omega
      subst q1
      rw [hfm'] at hfm
      cases hfm
      exact hrm' q
  · have hR1 := RI_fr hR (FC_row σ (a := 5) t5 (by omega)) (FCt.refl τ)
    rw [n1, k1, show (zrow σ 5 t5) 99 = σ 99 from rfl, h1]
    refine ⟨v1, sp144 hu hR1.1 hR1.2.2.1 (by omega) hb b1 c1 (fun _ m' k' o' e1' hfm' hrm' t b c ht e0 hS2 => absurd hrm (fun q => q ?_)) (fun _ m' k' o' e1' hfm' hrm' t ht e0 => zv190_1062 (zv108_0 (zv190_1068 (cmp_bad e0 (by decide) (hq (x + 1) _ _ rfl (IV_err (IV_5 hI0 t5) ht)))))) (fun _ hk2 => absurd hk2 (fm_no e1 hfm)) (fun hf2 => absurd hf hf2)⟩
    have q1 : m' = m := by omega
    subst q1
    rw [hfm'] at hfm
    cases hfm
    exact hrm'
  · have hR1 := RI_fr hR (FC_row σ (a := 5) t5 (by omega)) (FCt.refl τ)
    rw [n1, k1, show (zrow σ 5 t5) 99 = σ 99 from rfl, h1]
    exact ⟨v1, sp144 hu hR1.1 hR1.2.2.1 (by omega) hb b1 c1 (fun _ m' k' o' e1' hfm' hrm' t b c ht e0 hS2 => absurd hk (fm_no e1' hfm')) (fun _ m' k' o' e1' hfm' hrm' t ht e0 => absurd hk (fm_no e1' hfm')) (fun _ hk2 t ht e0 => zv190_1062 (zv108_0 (zv190_1068 (cmp_bad e0 (by decide) (hq (x + 1) _ _ rfl (IV_err (IV_5 hI0 t5) ht)))))) (fun hf2 => absurd hf hf2)⟩
  · rw [n1, k1, h1]
    exact ⟨v1, sp144 hu hR.1 hR.2.2.1 (by omega) hb b1 c1 (fun hf2 => absurd hf2 hf) (fun hf2 => absurd hf2 hf) (fun hf2 => absurd hf2 hf) (fun _ t ht e0 => zv190_1062 (zv108_0 (zv190_1068 (cmp_bad e0 (by decide) (hq (x + 1) _ _ rfl (IV_err hI0 ht))))))⟩
theorem op15 {d l n p x : Nat} {σ : Nat → Nat → Int32} {τ : Nat → Nat → Int64} {Q : zR → Prop} (hp : p + 5 ≤ l) (hl : l ≤ 2560) (hn : n < 512) (hI : IV n x σ τ)
    (hq : ∀ x' σ' τ', σ' 99 = σ 99 → IV (n + 1) x' σ' τ' → zRn (d + 90) 190 (1490, [.ref 99, .ref 0, .ref 32, .ref 48, .int (nI p), zJ, zJ], [], (49, x', l, σ', τ', zrho)) Q) :
    zRn (d + 90) 190 (1095, [.ref 99, .ref 0, .ref 32, .ref 48, .int (nI p), zJ, zJ], [], (49, x, l, σ, τ, zrho)) Q := by
  have hI0 := hI
  obtain ⟨u, e, kn, st, pl, s, H, hu, hC, hR, hx, hst, hpl⟩ := hI
  obtain ⟨i1, b1, c1, h1⟩ := iI_of (σ 99 (p + 1))
  have v1 : vp_in (nI (p + 1)) l := vp_in_nI (by omega) (by omega)
  have n1 : nI p + 1 = nI (p + 1) := nI_add p 1
  have k1 : (nI (p + 1)).toNatClampNeg = p + 1 := nI_clamp (by omega)
  have hb := cs_b hC.2.2.2.1
  refine zv190_1095 ?_
  rw [n1, k1, h1]
  refine ⟨v1, zv183_0 (sp16 hu hC (by omega) b1 c1 (fun hf he m k o t5 e1 hfm => zv183_7 (out2 (A := fun w => zret (d + 90) 190 1103 1106 [.ref 99, .ref 0, .ref 32, .ref 48, .int (nI p), zJ, zJ] [] Q (.inl (some (.int 0)), (49, x, l, zrow σ 5 t5, zupL τ 48 ((0 : Int32).toNatClampNeg) w, zrho))) (zv190_1106 ?_))) (fun hf he m k o t5 e1 hfm => zh183_1 (zv190_1106 ?_)) (fun hf hk t5 => zh183_2 (zv190_1106 ?_)) (fun hf => zh183_3 (zv190_1106 ?_)))⟩
  · have hR1 := RI_fr (τ' := zupL τ 48 ((0 : Int32).toNatClampNeg) (bL (winB u (H pl) k o))) hR (FC_row σ (a := 5) t5 (by omega)) (FCt_o _ _ _)
    rw [n1, k1, show (zrow σ 5 t5) 99 = σ 99 from rfl, h1]
    refine ⟨v1, sp145 hu hR1.1 hR1.2.1 hR1.2.2.1.2.1 hb b1 c1 (fun _ _ m' k' o' t e1' hfm' ht e0 => zv190_1118 (zv108_0 (zv190_1124 ?_))) (fun _ he2 => absurd he he2) (fun _ hk2 => absurd hk2 (fm_no e1 hfm)) (fun hf2 => absurd hf hf2)⟩
    have q1 : m' = m := by omega
    subst q1
    rw [hfm'] at hfm
    cases hfm
    exact cmp_z e0 rfl (fun h => by rw [h]; exact out_eq) (fun h => by rw [h]; exact out_eq) (hq x _ _ rfl (IV_ok (IV_5 hI0 t5) ht))
  · have hR1 := RI_fr hR (FC_row σ (a := 5) t5 (by omega)) (FCt.refl τ)
    rw [n1, k1, show (zrow σ 5 t5) 99 = σ 99 from rfl, h1]
    exact ⟨v1, sp145 hu hR1.1 hR1.2.1 hR1.2.2.1.2.1 hb b1 c1 (fun _ he2 => absurd he2 he) (fun _ _ m' k' o' t e1' hfm' ht e0 => zv190_1118 (zv108_0 (zv190_1124 (cmp_bad e0 (by decide) (hq (x + 1) _ _ rfl (IV_err (IV_5 hI0 t5) ht)))))) (fun _ hk2 => absurd hk2 (fm_no e1 hfm)) (fun hf2 => absurd hf hf2)⟩
  · have hR1 := RI_fr hR (FC_row σ (a := 5) t5 (by omega)) (FCt.refl τ)
    rw [n1, k1, show (zrow σ 5 t5) 99 = σ 99 from rfl, h1]
    exact ⟨v1, sp145 hu hR1.1 hR1.2.1 hR1.2.2.1.2.1 hb b1 c1 (fun _ _ m' k' o' t e1' hfm' ht e0 => absurd hk (fm_no e1' hfm')) (fun _ _ m' k' o' t e1' hfm' ht e0 => absurd hk (fm_no e1' hfm')) (fun _ hk2 t ht e0 => zv190_1118 (zv108_0 (zv190_1124 (cmp_bad e0 (by decide) (hq (x + 1) _ _ rfl (IV_err (IV_5 hI0 t5) ht)))))) (fun hf2 => absurd hf hf2)⟩
  · rw [n1, k1, h1]
    exact ⟨v1, sp145 hu hR.1 hR.2.1 hR.2.2.1.2.1 hb b1 c1 (fun hf2 => absurd hf2 hf) (fun hf2 => absurd hf2 hf) (fun hf2 => absurd hf2 hf) (fun _ t ht e0 => zv190_1118 (zv108_0 (zv190_1124 (cmp_bad e0 (by decide) (hq (x + 1) _ _ rfl (IV_err hI0 ht))))))⟩
theorem op16 {d l n p x : Nat} {σ : Nat → Nat → Int32} {τ : Nat → Nat → Int64} {Q : zR → Prop} (hp : p + 5 ≤ l) (hl : l ≤ 2560) (hn : n < 512) (hI : IV n x σ τ)
    (hq : ∀ x' σ' τ', σ' 99 = σ 99 → IV (n + 1) x' σ' τ' → zRn (d + 90) 190 (1490, [.ref 99, .ref 0, .ref 32, .ref 48, .int (nI p), zJ, zJ], [], (49, x', l, σ', τ', zrho)) Q) :
    zRn (d + 90) 190 (1158, [.ref 99, .ref 0, .ref 32, .ref 48, .int (nI p), zJ, zJ], [], (49, x, l, σ, τ, zrho)) Q := by
  have hI0 := hI
  obtain ⟨u, e, kn, st, pl, s, H, hu, hC, hR, hx, hst, hpl⟩ := hI
  refine zv190_1158 (zv184_0 (sp17 hC (by omega) (by omega) (fun q hq1 σ1 f1 hC1 => zv184_6 ⟨vz, zv190_1163 ?_⟩) (fun h0 => zh184_1 (zv190_1163 ?_))))
  · have hR1 := RI_fr hR f1 (FCt_o τ ((0 : Int32).toNatClampNeg) ((nI q).toInt64))
    refine sp146 hR1.2.2.1 (by omega) (fun q' hq2 t b ht e0 hS2 => zv190_1169 (zv108_0 (zv190_1175 ?_))) (fun h0 => absurd h0 (by omega))
    have : q' = q := by omega
    subst this
    exact cmp_ok e0 rfl out_eq (hq x _ _ (f1 99 (by omega)) ⟨u, e, kn, st, q', s, H, hu, CI_fr hC1 (FR_R4 _ _ _ _) (FRt_o _ _ _), RI_p hR1 ht hS2, by omega, by omega, by omega⟩)
  · exact sp146 hR.2.2.1 (by omega) (fun q' hq2 t b ht e0 hS2 => absurd h0 (by omega)) (fun _ t ht e0 => zv190_1169 (zv108_0 (zv190_1175 (cmp_bad e0 (by decide) (hq (x + 1) _ _ rfl (IV_err hI0 ht))))))
theorem op17 {d l n p x : Nat} {σ : Nat → Nat → Int32} {τ : Nat → Nat → Int64} {Q : zR → Prop} (hp : p + 5 ≤ l) (hl : l ≤ 2560) (hn : n < 512) (hI : IV n x σ τ)
    (hq : ∀ x' σ' τ', σ' 99 = σ 99 → IV (n + 1) x' σ' τ' → zRn (d + 90) 190 (1490, [.ref 99, .ref 0, .ref 32, .ref 48, .int (nI p), zJ, zJ], [], (49, x', l, σ', τ', zrho)) Q) :
    zRn (d + 90) 190 (1202, [.ref 99, .ref 0, .ref 32, .ref 48, .int (nI p), zJ, zJ], [], (49, x, l, σ, τ, zrho)) Q := by
  have hI0 := hI
  obtain ⟨u, e, kn, st, pl, s, H, hu, hC, hR, hx, hst, hpl⟩ := hI
  have hb := cs_b hC.2.2.2.1
  refine zv190_1202 (zv185_0 (sp18 hC (by omega) (fun he => zv185_6 ⟨vz, zv190_1207 ?_⟩) (fun he => zh185_1 (zv190_1207 ?_))))
  · exact sp147 hR.2.1 hR.2.2.1.2.1 hb (fun _ t ht e0 => zv190_1213 (zv108_0 (zv190_1219 (cmp_ok e0 rfl out_eq (hq x _ _ rfl (IV_ok hI0 ht)))))) (fun he2 => absurd he he2)
  · exact sp147 hR.2.1 hR.2.2.1.2.1 hb (fun he2 => absurd he2 he) (fun _ t ht e0 => zv190_1213 (zv108_0 (zv190_1219 (cmp_bad e0 (by decide) (hq (x + 1) _ _ rfl (IV_err hI0 ht))))))
