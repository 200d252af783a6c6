/-! the law: last loses, quotient, count -/
theorem KF_RI {u : zRu} {e st pl s : Nat} {H : Nat → Nat → Nat} {σ σ' : Nat → Nat → Int32} {τ : Nat → Nat → Int64} {t : Nat → Int64} {c : Int32} (h : RI u e st pl s H σ τ) (f : KF (zrow σ 32 (upd (σ 32) 0 c)) σ') (h15 : σ' 32 15 = 1) (hk : RFk u (σ' 32) t (σ' 41) (σ' 42)) : RI u e st pl s H σ' (zrowL τ 40 t) := by
  obtain ⟨⟨a1, a2⟩, ⟨n1, n2, n3, n4, n5⟩, ⟨s1, s2⟩, ⟨f1, f2⟩, ⟨q1, q2, q3⟩⟩ := h
  have g : ∀ b, b ≠ 32 → b ≠ 41 → b ≠ 42 → b ≠ 44 → σ' b = σ b := fun b b1 b2 b3 b4 => by rw [f.1 b b1 b2 b3 b4, zrow_ne _ _ b1]
  have w : ∀ j, j ≠ 9 → j ≠ 10 → j ≠ 11 → j ≠ 29 → j ≠ 30 → j ≠ 31 → j ≠ 15 → j ≠ 16 → j ≠ 0 → σ' 32 j = σ 32 j := fun j j1 j2 j3 j4 j5 j6 j7 j8 j0 => by rw [f.2 j j1 j2 j3 j4 j5 j6 j7 j8, zrow_me, pk_un j0]
  have w1 := w 1 (by decide) (by decide) (by decide) (by decide) (by decide) (by decide) (by decide) (by decide) (by decide)
  have w5 := w 5 (by decide) (by decide) (by decide) (by decide) (by decide) (by decide) (by decide) (by decide) (by decide)
  have w8 := w 8 (by decide) (by decide) (by decide) (by decide) (by decide) (by decide) (by decide) (by decide) (by decide)
  have w13 := w 13 (by decide) (by decide) (by decide) (by decide) (by decide) (by decide) (by decide) (by decide) (by decide)
  have w22 := w 22 (by decide) (by decide) (by decide) (by decide) (by decide) (by decide) (by decide) (by decide) (by decide)
  have w23 := w 23 (by decide) (by decide) (by decide) (by decide) (by decide) (by decide) (by decide) (by decide) (by decide)
  have w25 := w 25 (by decide) (by decide) (by decide) (by decide) (by decide) (by decide) (by decide) (by decide) (by decide)
  unfold RI RR RN RS RF RQc RQ RQe
  rw [g 33 (by decide) (by decide) (by decide) (by decide), g 34 (by decide) (by decide) (by decide) (by decide), g 35 (by decide) (by decide) (by decide) (by decide), g 36 (by decide) (by decide) (by decide) (by decide), g 37 (by decide) (by decide) (by decide) (by decide), g 38 (by decide) (by decide) (by decide) (by decide), g 39 (by decide) (by decide) (by decide) (by decide), g 43 (by decide) (by decide) (by decide) (by decide), g 45 (by decide) (by decide) (by decide) (by decide), g 46 (by decide) (by decide) (by decide) (by decide), w1, w5, w8, w13, w22, w23, w25, zrowL_me]
  exact ⟨⟨a1, a2⟩, ⟨n1, n2, n3, n4, n5⟩, ⟨s1, s2⟩, ⟨f1, Or.inr (Or.inr ⟨h15, hk⟩)⟩, q1, q2, fun h => ⟨h15, fun W hW => (q3 h).2 W hW⟩⟩
theorem KF_FR {σ σ' : Nat → Nat → Int32} {c : Int32} (f : KF (zrow σ 32 (upd (σ 32) 0 c)) σ') : FR σ σ' := fun b hb => by rw [f.1 b (by omega) (by omega) (by omega) (by omega), zrow_ne _ _ (by omega)]
theorem KF_0 {σ σ' : Nat → Nat → Int32} {c : Int32} (f : KF (zrow σ 32 (upd (σ 32) 0 c)) σ') : σ' 32 0 = c := by
  rw [f.2 0 (by decide) (by decide) (by decide) (by decide) (by decide) (by decide) (by decide) (by decide), zrow_me, upd_s rfl]
theorem CI_L {u : zRu} {e kn pl s : Nat} {H : Nat → Nat → Nat} {σ σ' : Nat → Nat → Int32} {τ : Nat → Nat → Int64} (h : CI u e kn pl s H σ τ) (f : zfL σ σ') (hf : CF u (σ' 17) (σ' 18) (σ' 19) (σ' 20) (σ' 21)) : CI u e kn pl s H σ' τ := by
  obtain ⟨i1, i2, i3, i4, i5, i6, i7⟩ := h
  have g : ∀ q, q ≠ 17 → q ≠ 19 → q ≠ 20 → q ≠ 21 → q ≠ 22 → q ≠ 23 → σ' q = σ q := f
  unfold CI CQc
  rw [g 1 (by decide) (by decide) (by decide) (by decide) (by decide) (by decide), g 2 (by decide) (by decide) (by decide) (by decide) (by decide) (by decide), g 3 (by decide) (by decide) (by decide) (by decide) (by decide) (by decide), g 6 (by decide) (by decide) (by decide) (by decide) (by decide) (by decide), g 7 (by decide) (by decide) (by decide) (by decide) (by decide) (by decide), g 11 (by decide) (by decide) (by decide) (by decide) (by decide) (by decide), g 12 (by decide) (by decide) (by decide) (by decide) (by decide) (by decide), g 13 (by decide) (by decide) (by decide) (by decide) (by decide) (by decide), g 14 (by decide) (by decide) (by decide) (by decide) (by decide) (by decide), g 15 (by decide) (by decide) (by decide) (by decide) (by decide) (by decide), g 16 (by decide) (by decide) (by decide) (by decide) (by decide) (by decide), g 24 (by decide) (by decide) (by decide) (by decide) (by decide) (by decide), g 25 (by decide) (by decide) (by decide) (by decide) (by decide) (by decide), g 26 (by decide) (by decide) (by decide) (by decide) (by decide) (by decide), g 27 (by decide) (by decide) (by decide) (by decide) (by decide) (by decide), g 28 (by decide) (by decide) (by decide) (by decide) (by decide) (by decide), g 29 (by decide) (by decide) (by decide) (by decide) (by decide) (by decide), g 30 (by decide) (by decide) (by decide) (by decide) (by decide) (by decide), g 31 (by decide) (by decide) (by decide) (by decide) (by decide) (by decide)]
  exact ⟨i1, i2, i3, i4, hf, i6, i7⟩
theorem b_eq {a b : Bool} {P : Prop} (h1 : a = true ↔ P) (h2 : b = true ↔ P) : a = b := by
  cases a <;> cases b
  · rfl
  · exact absurd (h1.2 (h2.1 rfl)) (by decide)
  · exact absurd (h2.2 (h1.1 rfl)) (by decide)
  · rfl
theorem out_e40 {τ : Nat → Nat → Int64} {t : Nat → Int64} {k : Nat} {w : Int64} : lg_cmp ((zrowL (zupL τ 48 k w) 40 t) 48 k) w = 0 := by
  rw [zrowL_ne _ _ (by decide)]
  exact out_eq
theorem op18 {d l n p x : Nat} {σ : Nat → Nat → Int32} {τ : Nat → Nat → Int64} {Q : zR → Prop} (hp : p + 5 ≤ l) (hl : l ≤ 2560) (hn : n < 512) (hI : IV n x σ τ)
    (hq : ∀ x' σ' τ', σ' 99 = σ 99 → IV (n + 1) x' σ' τ' → zRn (d + 90) 190 (1490, [.ref 99, .ref 0, .ref 32, .ref 48, .int (nI p), zJ, zJ], [], (49, x', l, σ', τ', zrho)) Q) :
    zRn (d + 90) 190 (1246, [.ref 99, .ref 0, .ref 32, .ref 48, .int (nI p), zJ, zJ], [], (49, x, l, σ, τ, zrho)) Q := by
  have hI0 := hI
  obtain ⟨u, e, kn, st, pl, s, H, hu, hC, hR, hx, hst, hpl⟩ := hI
  have hb := cs_b hC.2.2.2.1
  refine zv190_1246 (zv186_0 (sp19 hu hC.1 hC.2.2.2.2.1 hC.2.2.2.1.2.1 hb (by omega) (fun h16 w σ1 hw f1 hf1 => zv186_6 (out2 (A := fun w => zret (d + 90) 190 1248 1251 [.ref 99, .ref 0, .ref 32, .ref 48, .int (nI p), zJ, zJ] [] Q (.inl (some (.int 0)), (49, x, l, σ1, zupL τ 48 ((0 : Int32).toNatClampNeg) w, zrho))) (zv190_1251 ?_))) (fun h16 => zh186_3 (zv190_1251 ?_))))
  · have fc : FC σ σ1 := fun b hb => f1 b (by omega) (by omega) (by omega) (by omega) (by omega) (by omega)
    have hR1 := RI_fr hR fc (FCt_o τ ((0 : Int32).toNatClampNeg) (bL w))
    refine sp156 hu hR1.1 hR1.2.2.2.1 hR1.2.2.1.2.1 hb (fun _ w' σ2 t hw' f2 g15 gk => zv190_1257 (zv108_0 (zv190_1263 ?_))) (fun h2 => absurd h16 h2)
    have : w' = w := b_eq hw' hw
    subst this
    exact cmp_z (KF_0 f2) rfl (fun h => by rw [h]; exact out_e40) (fun h => by rw [h]; exact out_e40) (hq x _ _ ((KF_FR f2 99 (by omega)).trans (fc 99 (by omega))) ⟨u, e, kn, st, pl, s, H, hu, CI_fr (CI_L hC f1 hf1) (KF_FR f2) ((FRt_o _ _ _).trans (FRt_row _ _ (by omega))), KF_RI hR1 f2 g15 gk, by omega, by omega, by omega⟩)
  · exact sp156 hu hR.1 hR.2.2.2.1 hR.2.2.1.2.1 hb (fun h2 => absurd h2 h16) (fun _ => zv190_1257 (zv108_0 (zv190_1263 (cmp_bad (thr _ _) (by decide) (hq (x + 1) _ _ rfl (IV_err hI0 (zwf7_c _ _)))))))
theorem W_ex (u : zRu) : ∃ W : Nat → Nat → Bool, ∀ q t, W q t = true ↔ Wn u (cq q t) := by
  refine ⟨fun q t => @decide (Wn u (cq q t)) (Classical.propDecidable _), fun q t => ?_⟩
  exact @decide_eq_true_iff (Wn u (cq q t)) (Classical.propDecidable _)
theorem W_uni {u : zRu} {W V : Nat → Nat → Bool} (h1 : ∀ q t, W q t = true ↔ Wn u (cq q t)) (h2 : ∀ q t, V q t = true ↔ Wn u (cq q t)) : V = W := by
  funext q t
  exact b_eq (h2 q t) (h1 q t)
theorem op19 {d l n p x : Nat} {σ : Nat → Nat → Int32} {τ : Nat → Nat → Int64} {Q : zR → Prop} (hp : p + 5 ≤ l) (hl : l ≤ 2560) (hn : n < 512) (hI : IV n x σ τ)
    (hq : ∀ x' σ' τ', σ' 99 = σ 99 → IV (n + 1) x' σ' τ' → zRn (d + 90) 190 (1490, [.ref 99, .ref 0, .ref 32, .ref 48, .int (nI p), zJ, zJ], [], (49, x', l, σ', τ', zrho)) Q) :
    zRn (d + 90) 190 (1297, [.ref 99, .ref 0, .ref 32, .ref 48, .int (nI p), zJ, zJ], [], (49, x, l, σ, τ, zrho)) Q := by
  have hI0 := hI
  obtain ⟨u, e, kn, st, pl, s, H, hu, hC, hR, hx, hst, hpl⟩ := hI
  obtain ⟨i1, b1, c1, h1⟩ := iI_of (σ 99 (p + 1))
  have v1 : vp_in (nI (p + 1)) l := vp_in_nI (by omega) (by omega)
  have n1 : nI p + 1 = nI (p + 1) := nI_add p 1
  have k1 : (nI (p + 1)).toNatClampNeg = p + 1 := nI_clamp (by omega)
  obtain ⟨W, hW⟩ := W_ex u
  refine zv190_1297 ?_
  rw [n1, k1, h1]
  refine ⟨v1, zv187_0 (sp20 hu hW hC.1 hC.2.2.2.2.1 hC.2.2.2.2.2.1 (by omega) b1 c1 (fun s1 hs1 s11 s13 σ1 f1 hf1 hQ1 => zv187_7 ⟨vz, zv190_1308 ?_⟩) (fun hk => zh187_0 (zv190_1308 ?_)))⟩
  · have fc : FC σ σ1 := fun b hb => f1 b (by omega) (by omega) (by omega) (by omega) (by omega) (by omega) (by omega) (by omega) (by omega) (by omega) (by omega)
    rw [n1, k1, show σ1 99 = σ 99 from fc 99 (by omega), h1]
    have hR1 := RI_fr hR fc (FCt_o τ ((0 : Int32).toNatClampNeg) ((nI (cn (eqF (fun k t => W (ixd s1 k) (ixd s1 t)) (tS s1)) (nS s1))).toInt64))
    refine ⟨v1, sp160 hu hW hR1.1 hR1.2.2.2.1 b1 c1 (fun s2 hs2 s21 s23 σ2 t f2 e0 g15 gk hQ2 => zv190_1320 (zv108_0 (zv190_1326 ?_))) (fun hk => absurd (show 1 ≤ i1 ∧ i1 ≤ 3 by omega) hk)⟩
    have : s2 = s1 := by omega
    subst this
    have fr : FR σ1 σ2 := fun b hb => f2.1 b (by omega) (by omega) (by omega) (by omega) (by omega) (by omega) (by omega)
    refine cmp_ok e0 rfl out_e40 (hq x _ _ ((fr 99 (by omega)).trans (fc 99 (by omega))) ⟨u, e, kn, st, pl, s2, H, hu, CI_fr (σ := σ1) (τ := τ) ?_ fr ((FRt_o _ _ _).trans (FRt_row _ _ (by omega))), ?_, by omega, by omega, by omega⟩)
    · obtain ⟨i1, i2, i3, i4, i5, i6, i7⟩ := hC
      have g : ∀ q, q ≠ 17 → q ≠ 19 → q ≠ 20 → q ≠ 21 → q ≠ 22 → q ≠ 23 → q ≠ 24 → q ≠ 25 → q ≠ 29 → q ≠ 30 → q ≠ 31 → σ1 q = σ q := f1
      unfold CI CQc
      rw [g 1 (by decide) (by decide) (by decide) (by decide) (by decide) (by decide) (by decide) (by decide) (by decide) (by decide) (by decide), g 2 (by decide) (by decide) (by decide) (by decide) (by decide) (by decide) (by decide) (by decide) (by decide) (by decide) (by decide), g 3 (by decide) (by decide) (by decide) (by decide) (by decide) (by decide) (by decide) (by decide) (by decide) (by decide) (by decide), g 6 (by decide) (by decide) (by decide) (by decide) (by decide) (by decide) (by decide) (by decide) (by decide) (by decide) (by decide), g 7 (by decide) (by decide) (by decide) (by decide) (by decide) (by decide) (by decide) (by decide) (by decide) (by decide) (by decide), g 11 (by decide) (by decide) (by decide) (by decide) (by decide) (by decide) (by decide) (by decide) (by decide) (by decide) (by decide), g 12 (by decide) (by decide) (by decide) (by decide) (by decide) (by decide) (by decide) (by decide) (by decide) (by decide) (by decide), g 13 (by decide) (by decide) (by decide) (by decide) (by decide) (by decide) (by decide) (by decide) (by decide) (by decide) (by decide), g 14 (by decide) (by decide) (by decide) (by decide) (by decide) (by decide) (by decide) (by decide) (by decide) (by decide) (by decide), g 15 (by decide) (by decide) (by decide) (by decide) (by decide) (by decide) (by decide) (by decide) (by decide) (by decide) (by decide), g 16 (by decide) (by decide) (by decide) (by decide) (by decide) (by decide) (by decide) (by decide) (by decide) (by decide) (by decide), g 26 (by decide) (by decide) (by decide) (by decide) (by decide) (by decide) (by decide) (by decide) (by decide) (by decide) (by decide), g 27 (by decide) (by decide) (by decide) (by decide) (by decide) (by decide) (by decide) (by decide) (by decide) (by decide) (by decide), g 28 (by decide) (by decide) (by decide) (by decide) (by decide) (by decide) (by decide) (by decide) (by decide) (by decide) (by decide)]
      exact ⟨i1, i2, i3, i4, hf1, i6, s23, fun h => absurd h (by omega), fun _ V hV => by rw [W_uni hW hV]; exact hQ1⟩
    · obtain ⟨⟨a1, a2⟩, ⟨m1, m2, m3, m4, m5⟩, ⟨r1, r2⟩, ⟨p1, p2⟩, q0⟩ := hR1
      have g : ∀ b, b ≠ 32 → b ≠ 41 → b ≠ 42 → b ≠ 44 → b ≠ 45 → b ≠ 46 → b ≠ 47 → σ2 b = σ1 b := f2.1
      have w : ∀ j, j ≠ 9 → j ≠ 10 → j ≠ 11 → j ≠ 29 → j ≠ 30 → j ≠ 31 → j ≠ 15 → j ≠ 16 → j ≠ 0 → j ≠ 22 → j ≠ 23 → j ≠ 24 → j ≠ 25 → σ2 32 j = σ1 32 j := f2.2
      have w1 := w 1 (by decide) (by decide) (by decide) (by decide) (by decide) (by decide) (by decide) (by decide) (by decide) (by decide) (by decide) (by decide) (by decide)
      have w5 := w 5 (by decide) (by decide) (by decide) (by decide) (by decide) (by decide) (by decide) (by decide) (by decide) (by decide) (by decide) (by decide) (by decide)
      have w8 := w 8 (by decide) (by decide) (by decide) (by decide) (by decide) (by decide) (by decide) (by decide) (by decide) (by decide) (by decide) (by decide) (by decide)
      have w13 := w 13 (by decide) (by decide) (by decide) (by decide) (by decide) (by decide) (by decide) (by decide) (by decide) (by decide) (by decide) (by decide) (by decide)
      unfold RI RR RN RS RF RQc
      rw [g 33 (by decide) (by decide) (by decide) (by decide) (by decide) (by decide) (by decide), g 34 (by decide) (by decide) (by decide) (by decide) (by decide) (by decide) (by decide), g 35 (by decide) (by decide) (by decide) (by decide) (by decide) (by decide) (by decide), g 36 (by decide) (by decide) (by decide) (by decide) (by decide) (by decide) (by decide), g 37 (by decide) (by decide) (by decide) (by decide) (by decide) (by decide) (by decide), g 38 (by decide) (by decide) (by decide) (by decide) (by decide) (by decide) (by decide), g 39 (by decide) (by decide) (by decide) (by decide) (by decide) (by decide) (by decide), g 43 (by decide) (by decide) (by decide) (by decide) (by decide) (by decide) (by decide), w1, w5, w8, w13, zrowL_me]
      exact ⟨⟨a1, a2⟩, ⟨m1, m2, m3, m4, m5⟩, ⟨r1, r2⟩, ⟨p1, Or.inr (Or.inr ⟨g15, gk⟩)⟩, s23, hQ2.1, fun _ => ⟨g15, fun V hV => by rw [W_uni hW hV]; exact hQ2⟩⟩
  · rw [n1, k1, h1]
    exact ⟨v1, sp160 hu hW hR.1 hR.2.2.2.1 b1 c1 (fun s2 hs2 s21 s23 σ2 t f2 e0 g15 gk hQ2 => absurd (show 1 ≤ i1 ∧ i1 ≤ 3 by omega) hk) (fun _ => zv190_1320 (zv108_0 (zv190_1326 (cmp_bad (thr _ _) (by decide) (hq (x + 1) _ _ rfl (IV_err hI0 (zwf7_c _ _)))))))⟩
theorem RQ_k {u : zRu} {e st pl s : Nat} {H : Nat → Nat → Nat} {σ : Nat → Nat → Int32} {τ : Nat → Nat → Int64} (h : RI u e st pl s H σ τ) (hs : 1 ≤ s) : RFk u (σ 32) (τ 40) (σ 41) (σ 42) := by
  have h15 := (h.2.2.2.2.2.2 hs).1
  rcases h.2.2.2.1.2 with ⟨a, _⟩ | ⟨a, _⟩ | ⟨a, b⟩
  · rw [h15] at a; exact absurd a (by decide)
  · rw [h15] at a; exact absurd a (by decide)
  · exact b
theorem op20 {d l n p x : Nat} {σ : Nat → Nat → Int32} {τ : Nat → Nat → Int64} {Q : zR → Prop} (hp : p + 5 ≤ l) (hl : l ≤ 2560) (hn : n < 512) (hI : IV n x σ τ)
    (hq : ∀ x' σ' τ', σ' 99 = σ 99 → IV (n + 1) x' σ' τ' → zRn (d + 90) 190 (1490, [.ref 99, .ref 0, .ref 32, .ref 48, .int (nI p), zJ, zJ], [], (49, x', l, σ', τ', zrho)) Q) :
    zRn (d + 90) 190 (1353, [.ref 99, .ref 0, .ref 32, .ref 48, .int (nI p), zJ, zJ], [], (49, x, l, σ, τ, zrho)) Q := by
  have hI0 := hI
  obtain ⟨u, e, kn, st, pl, s, H, hu, hC, hR, hx, hst, hpl⟩ := hI
  have hb := cs_b hC.2.2.2.1
  obtain ⟨W, hW⟩ := W_ex u
  obtain ⟨q1, q2, q3⟩ := hC.2.2.2.2.2.2
  obtain ⟨r1, r2, r3⟩ := hR.2.2.2.2
  by_cases h0 : s = 0
  · refine zv190_1353 (zv188_0 (sp21_0 (q2 h0) (by omega) (zh188_1 (zv190_1358 ?_))))
    exact sp162_0 (by rw [r2, h0]) (zv190_1364 (zv108_0 (zv190_1370 (cmp_bad (thr _ _) (by decide) (hq (x + 1) _ _ rfl (IV_err hI0 (zwf7_c _ _)))))))
  · have hs1 : 1 ≤ s := by omega
    have hQC := q3 hs1 W hW
    have hQR := (r3 hs1).2 W hW
    have h43 := hR.2.2.2.1.1
    refine zv190_1353 (zv188_0 (sp21 (W := W) (hp := H pl) hs1 q1 hC.2.2.2.2.2.1 hQC hC.2.2.2.1.2.1 hb (by omega) (fun q hc => zv188_6 ⟨vz, zv190_1358 ?_⟩) (fun hn => zh188_3 (zv190_1358 ?_))))
    · refine sp162 (W := W) (hp := H pl) hs1 q1 hQR h43 hR.2.2.1.2.1 hb (fun q' hc' => zv190_1364 (zv108_0 (zv190_1370 ?_))) (fun hn => absurd hc (hn q))
      have : q' = q := by rw [← o_uni q' hc'.1, ← o_uni q hc.1, hc'.2.1, hc'.2.2.1, hc'.2.2.2.1, hc.2.1, hc.2.2.1, hc.2.2.2.1]
      subst this
      exact cmp_ok (thr _ _) rfl out_eq (hq x _ _ rfl (IV_ok hI0 (zwf7_c _ _)))
    · exact sp162 (W := W) (hp := H pl) hs1 q1 hQR h43 hR.2.2.1.2.1 hb (fun q' hc' => absurd hc' (hn q')) (fun _ => zv190_1364 (zv108_0 (zv190_1370 (cmp_bad (thr _ _) (by decide) (hq (x + 1) _ _ rfl (IV_err hI0 (zwf7_c _ _)))))))
theorem first_uni {e : Nat → Nat → Bool} {j j' : Nat} (h1 : ll e j j = none) (h2 : ll e j' j' = none) (h : cn e j = cn e j') : j' = j := by
  rcases Nat.lt_trichotomy j j' with w | w | w
  · have := cn_lt h1 w; omega
  · exact w.symm
  · have := cn_lt h2 w; omega
theorem op21 {d l n p x : Nat} {σ : Nat → Nat → Int32} {τ : Nat → Nat → Int64} {Q : zR → Prop} (hp : p + 5 ≤ l) (hl : l ≤ 2560) (hn : n < 512) (hI : IV n x σ τ)
    (hq : ∀ x' σ' τ', σ' 99 = σ 99 → IV (n + 1) x' σ' τ' → zRn (d + 90) 190 (1490, [.ref 99, .ref 0, .ref 32, .ref 48, .int (nI p), zJ, zJ], [], (49, x', l, σ', τ', zrho)) Q) :
    zRn (d + 90) 190 (1397, [.ref 99, .ref 0, .ref 32, .ref 48, .int (nI p), zJ, zJ], [], (49, x, l, σ, τ, zrho)) Q := by
  have hI0 := hI
  obtain ⟨u, e, kn, st, pl, s, H, hu, hC, hR, hx, hst, hpl⟩ := hI
  obtain ⟨i1, b1, c1, h1⟩ := iI_of (σ 99 (p + 1))
  have v1 : vp_in (nI (p + 1)) l := vp_in_nI (by omega) (by omega)
  have n1 : nI p + 1 = nI (p + 1) := nI_add p 1
  have k1 : (nI (p + 1)).toNatClampNeg = p + 1 := nI_clamp (by omega)
  obtain ⟨i2, b2, c2, h2⟩ := iI_of (σ 99 (p + 2))
  have v2 : vp_in (nI (p + 2)) l := vp_in_nI (by omega) (by omega)
  have n2 : nI p + 2 = nI (p + 2) := nI_add p 2
  have k2 : (nI (p + 2)).toNatClampNeg = p + 2 := nI_clamp (by omega)
  obtain ⟨W, hW⟩ := W_ex u
  obtain ⟨q1, q2, q3⟩ := hC.2.2.2.2.2.2
  obtain ⟨r1, r2, r3⟩ := hR.2.2.2.2
  refine zv190_1397 ?_
  rw [n1, k1, h1, n2, k2, h2]
  refine ⟨v1, v2, ?_⟩
  by_cases h0 : s = 0
  · refine zv189_0 (sp22_0 (q2 h0) (by omega) (zh189_1 (zv190_1414 ?_)))
    rw [n1, k1, h1, n2, k2, h2]
    exact ⟨v1, v2, sp163_0 (by rw [r2, h0]) (zv190_1432 (zv108_0 (zv190_1438 (cmp_bad (thr _ _) (by decide) (hq (x + 1) _ _ rfl (IV_err hI0 (zwf7_c _ _)))))))⟩
  · have hs1 : 1 ≤ s := by omega
    have hQC := q3 hs1 W hW
    have hQR := (r3 hs1).2 W hW
    have h43 := hR.2.2.2.1.1
    have hK := RQ_k hR hs1
    have hev := eqF_eqv (fun k t => W (ixd s k) (ixd s t)) (tS s)
    generalize he : eqF (fun k t => W (ixd s k) (ixd s t)) (tS s) = E at hev
    have inr : ∀ j, j < nS s → ll E j j = none → i1 = (cn E j : Int) → 0 ≤ i1 ∧ i1 < (cn E (nS s) : Int) := fun j hj hl hc => by have := cn_lt hl hj; omega
    have uni : ∀ j j', ll E j j = none → ll E j' j' = none → i1 = (cn E j : Int) → i1 = (cn E j' : Int) → j' = j := fun j j' a b c d => first_uni a b (by omega)
    refine zv189_0 (sp22 (W := W) (e := E) hs1 q1 he hC.2.2.2.2.2.1 hQC (by omega) b1 c1 b2 c2 (fun j hj hl hc hw => zv189_8 ⟨vz, zv190_1414 ?_⟩) (fun j hj hl hc hw => zv189_8 ⟨vz, zv190_1414 ?_⟩) (fun j z q' hj hl hc hw z1 z3 hz => zv189_8 ⟨vz, zv190_1414 ?_⟩) (fun j z hj hl hc hw z1 z3 hz => zv189_8 ⟨vz, zv190_1414 ?_⟩) (fun hn => zh189_2 (zv190_1414 ?_)))
    · rw [n1, k1, h1, n2, k2, h2]
      refine ⟨v1, v2, sp163 (W := W) (e := E) hs1 q1 he hW hQR h43 hK b1 c1 b2 c2 (fun j' hj' hl' hc' hw' => zv190_1432 (zv108_0 (zv190_1438 ?_))) (fun j' hj' hl' hc' hw' => absurd hw' (by omega)) (fun j' z' q2 hj' hl' hc' hw' z1' z3' hz' => absurd hw' (by omega)) (fun j' z' hj' hl' hc' hw' z1' z3' hz' => absurd hw' (by omega)) (fun hn => absurd (show 0 ≤ i1 ∧ i1 < (cn E (nS s) : Int) ∧ 0 ≤ i2 ∧ i2 ≤ 4 by have := inr j hj hl hc; omega) hn)⟩
      have := uni j j' hl hl' hc hc'
      subst this
      exact cmp_ok (thr _ _) rfl out_eq (hq x _ _ rfl (IV_ok hI0 (zwf7_c _ _)))
    · rw [n1, k1, h1, n2, k2, h2]
      refine ⟨v1, v2, sp163 (W := W) (e := E) hs1 q1 he hW hQR h43 hK b1 c1 b2 c2 (fun j' hj' hl' hc' hw' => absurd hw' (by omega)) (fun j' hj' hl' hc' hw' => zv190_1432 (zv108_0 (zv190_1438 ?_))) (fun j' z' q2 hj' hl' hc' hw' z1' z3' hz' => absurd hw' (by omega)) (fun j' z' hj' hl' hc' hw' z1' z3' hz' => absurd hw' (by omega)) (fun hn => absurd (show 0 ≤ i1 ∧ i1 < (cn E (nS s) : Int) ∧ 0 ≤ i2 ∧ i2 ≤ 4 by have := inr j hj hl hc; omega) hn)⟩
      have := uni j j' hl hl' hc hc'
      subst this
      exact cmp_ok (thr _ _) rfl out_eq (hq x _ _ rfl (IV_ok hI0 (zwf7_c _ _)))
    · rw [n1, k1, h1, n2, k2, h2]
      refine ⟨v1, v2, sp163 (W := W) (e := E) hs1 q1 he hW hQR h43 hK b1 c1 b2 c2 (fun j' hj' hl' hc' hw' => absurd hw' (by omega)) (fun j' hj' hl' hc' hw' => absurd hw' (by omega)) (fun j' z' q2 hj' hl' hc' hw' z1' z3' hz' => zv190_1432 (zv108_0 (zv190_1438 ?_))) (fun j' z' hj' hl' hc' hw' z1' z3' hz' => ?_) (fun hn => absurd (show 0 ≤ i1 ∧ i1 < (cn E (nS s) : Int) ∧ 0 ≤ i2 ∧ i2 ≤ 4 by have := inr j hj hl hc; omega) hn)⟩
      · have := uni j j' hl hl' hc hc'
        subst this
        have : z' = z := by omega
        subst this
        have : q2 = q' := by rw [← o_uni q2 hz'.1, ← o_uni q' hz.1, hz'.2.1, hz'.2.2.1, hz'.2.2.2.1, hz.2.1, hz.2.2.1, hz.2.2.2.1]
        subst this
        exact cmp_ok (thr _ _) rfl out_eq (hq x _ _ rfl (IV_ok hI0 (zwf7_c _ _)))
      · have := uni j j' hl hl' hc hc'
        subst this
        have : z' = z := by omega
        subst this
        exact absurd hz (hz' q')
    · rw [n1, k1, h1, n2, k2, h2]
      refine ⟨v1, v2, sp163 (W := W) (e := E) hs1 q1 he hW hQR h43 hK b1 c1 b2 c2 (fun j' hj' hl' hc' hw' => absurd hw' (by omega)) (fun j' hj' hl' hc' hw' => absurd hw' (by omega)) (fun j' z' q2 hj' hl' hc' hw' z1' z3' hz' => ?_) (fun j' z' hj' hl' hc' hw' z1' z3' hz' => zv190_1432 (zv108_0 (zv190_1438 ?_))) (fun hn => absurd (show 0 ≤ i1 ∧ i1 < (cn E (nS s) : Int) ∧ 0 ≤ i2 ∧ i2 ≤ 4 by have := inr j hj hl hc; omega) hn)⟩
      · have := uni j j' hl hl' hc hc'
        subst this
        have : z' = z := by omega
        subst this
        exact absurd hz' (hz q2)
      · exact cmp_ok (thr _ _) rfl out_eq (hq x _ _ rfl (IV_ok hI0 (zwf7_c _ _)))
    · rw [n1, k1, h1, n2, k2, h2]
      exact ⟨v1, v2, sp163 (W := W) (e := E) hs1 q1 he hW hQR h43 hK b1 c1 b2 c2 (fun j' hj' hl' hc' hw' => absurd (show 0 ≤ i1 ∧ i1 < (cn E (nS s) : Int) ∧ 0 ≤ i2 ∧ i2 ≤ 4 by have := inr j' hj' hl' hc'; omega) hn) (fun j' hj' hl' hc' hw' => absurd (show 0 ≤ i1 ∧ i1 < (cn E (nS s) : Int) ∧ 0 ≤ i2 ∧ i2 ≤ 4 by have := inr j' hj' hl' hc'; omega) hn) (fun j' z' q2 hj' hl' hc' hw' z1' z3' hz' => absurd (show 0 ≤ i1 ∧ i1 < (cn E (nS s) : Int) ∧ 0 ≤ i2 ∧ i2 ≤ 4 by have := inr j' hj' hl' hc'; omega) hn) (fun j' z' hj' hl' hc' hw' z1' z3' hz' => absurd (show 0 ≤ i1 ∧ i1 < (cn E (nS s) : Int) ∧ 0 ≤ i2 ∧ i2 ≤ 4 by have := inr j' hj' hl' hc'; omega) hn) (fun _ => zv190_1432 (zv108_0 (zv190_1438 (cmp_bad (thr _ _) (by decide) (hq (x + 1) _ _ rfl (IV_err hI0 (zwf7_c _ _)))))))⟩
theorem op22 {d l n p x : Nat} {σ : Nat → Nat → Int32} {τ : Nat → Nat → Int64} {Q : zR → Prop} (hp : p + 5 ≤ l) (hl : l ≤ 2560) (hn : n < 512) (hI : IV n x σ τ)
    (hq : ∀ x' σ' τ', σ' 99 = σ 99 → IV (n + 1) x' σ' τ' → zRn (d + 90) 190 (1490, [.ref 99, .ref 0, .ref 32, .ref 48, .int (nI p), zJ, zJ], [], (49, x', l, σ', τ', zrho)) Q) :
    zRn (d + 90) 190 (1465, [.ref 99, .ref 0, .ref 32, .ref 48, .int (nI p), zJ, zJ], [], (49, x, l, σ, τ, zrho)) Q := by
  have hI0 := hI
  obtain ⟨u, e, kn, st, pl, s, H, hu, hC, hR, hx, hst, hpl⟩ := hI
  obtain ⟨i1, b1, c1, h1⟩ := iI_of (σ 99 (p + 1))
  have v1 : vp_in (nI (p + 1)) l := vp_in_nI (by omega) (by omega)
  have n1 : nI p + 1 = nI (p + 1) := nI_add p 1
  have k1 : (nI (p + 1)).toNatClampNeg = p + 1 := nI_clamp (by omega)
  have hb := cs_b hC.2.2.2.1
  obtain ⟨W, hW⟩ := W_ex u
  obtain ⟨q1, q2, q3⟩ := hC.2.2.2.2.2.2
  obtain ⟨r1, r2, r3⟩ := hR.2.2.2.2
  refine zv190_1465 ?_
  rw [n1, k1, h1]
  refine ⟨v1, sp23 (i := i1) hC b1 c1 (zv190_1475 ?_)⟩
  rw [n1, k1, h1]
  refine ⟨v1, sp164 (i := i1) hu hR hb b1 c1 (fun t ht e0 => zv190_1485 ⟨fun _ => hq x _ _ rfl (IV_ok' hI0 ht), fun q => absurd ?_ q⟩)⟩
  have e24 : σ 24 0 = if s = 0 then -1 else σ 32 25 := by
    by_cases h0 : s = 0
    · rw [if_pos h0]; exact q2 h0
    · rw [if_neg h0]
      have hQC := q3 (by omega) W hW
      have hQR := (r3 (by omega)).2 W hW
      have hn := ix_n s (by omega) (by omega)
      have := hQC.1
      rw [hn.2.2.2.2.1] at this
      rw [this]
      exact hQR.2.2.1.symm
  rw [e24]
