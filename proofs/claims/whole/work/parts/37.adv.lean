/-! the reference: a step of the walk -/
def wnx (t : Int) (n : Nat) : zP := if n < 3 then ent t (n + 1) else ent (t - 1) 0
def wrw (u : zRu) (h : Nat) (p : zP) : zP := if p.2.1 = 3 ∧ may u h p.1.toNat 3 = true ∧ 3 * ((p.2.2.1 : Int) + 1) ≤ p.1 then (p.1, 3, p.2.2.1 + 1, p.2.2.1 + 1, p.1 - (p.2.2.1 + 1) - (p.2.2.1 + 1)) else wnx p.1 p.2.1
def adv (u : zRu) (h : Nat) (p : zP) : zP := if 1 < p.2.1 ∧ may u h p.1.toNat p.2.1 = true ∧ (p.2.2.2.1 : Int) < p.2.2.2.2 then (if (p.2.2.2.1 : Int) + 1 ≤ p.2.2.2.2 - 1 ∨ p.2.1 = 2 then (p.1, p.2.1, p.2.2.1, p.2.2.2.1 + 1, p.2.2.2.2 - 1) else wrw u h p) else wrw u h p
theorem zwf6_u {s t : Nat → Int32} {j : Nat} {v : Int32} (h : zwf6 s t) (hj : j = 9 ∨ j = 10 ∨ j = 11 ∨ j = 29 ∨ j = 30 ∨ j = 31) : zwf6 s (upd t j v) := by
  intro i a b c d e f
  rw [pk_un (by omega)]
  exact h i a b c d e f
theorem sp124 {d x l : Nat} {σ : Nat → Nat → Int32} {τ : Nat → Nat → Int64} {Q : zR → Prop} {u : zRu} {h : Nat} {p : zP} (hu : zRok u) (hr : RR u (σ 32) (σ 33) (σ 34) (σ 35)) (hz : zat (σ 32) h p) (hh : h ≤ 2000) (hp : zPok h p)
    (hq : ∀ s, zwf6 (σ 32) s → zat s h (adv u h p) → Q (.inl none, (49, x, l, zrow σ 32 s, τ, zrho))) :
    zRn (d + 2) 124 (0, [.ref 32, zJ], [], (49, x, l, σ, τ, zrho)) Q := by
  obtain ⟨t, n, a, b, c⟩ := p
  obtain ⟨p1, p2, p3, p4, p5, p6, p7⟩ := hp
  obtain ⟨z1, z2, z3, z4, z5, z6⟩ := hz
  dsimp only at p1 p2 p3 p4 p5 p6 p7 z2 z3 z4 z5 z6
  have k197 : ∀ s (t' : Int) n', zwf6 (σ 32) s → s 29 = nI h → s 30 = iI t' → s 31 = nI n' → n' ≤ 3 → ent t' n' = adv u h (t, n, a, b, c) → zRn (d + 2) 124 (197, [.ref 32, zJ], [], (49, x, l, zrow σ 32 s, τ, zrho)) Q := by
    intro s t' n' h1 h2 h3 h4 h5 h6
    refine zw124_197 (sp121 h5 h2 h3 h4 (fun s' e1 e2 => zw124_201 ?_))
    rw [zrow_row]
    rw [h6] at e2
    exact hq s' (h1.trans e1) e2
  have k164 : ∀ s, zwf6 (σ 32) s → s 29 = nI h → s 30 = iI t → s 31 = nI n → wnx t n = adv u h (t, n, a, b, c) → zRn (d + 2) 124 (164, [.ref 32, zJ], [], (49, x, l, zrow σ 32 s, τ, zrho)) Q := by
    intro s h1 h2 h3 h4 h5
    refine zw124_164 ⟨fun c1 => ?_, fun c1 => ?_⟩
    · have c1 : nI n + 1 ≤ 3 := by rw [← h4]; exact c1
      simp (disch := omega) only [zlit, nI_leI, nI_ltI, nI_eq, nI_clamp, nI_add, pk_mul, pk_sub, pk_div] at c1
      simp only [zup_row, zrow_row, zrow_me]
      refine k197 _ t (n + 1) (zwf6_u h1 (by omega)) h2 h3 ?_ (by omega) ?_
      · show s 31 + 1 = nI (n + 1)
        rw [h4]; exact nI_1 n
      · rw [← h5]; unfold wnx; rw [if_pos (by omega)]
    · have c1 : ¬ nI n + 1 ≤ 3 := by rw [← h4]; exact c1
      simp (disch := omega) only [zlit, nI_leI, nI_ltI, nI_eq, nI_clamp, nI_add, pk_mul, pk_sub, pk_div] at c1
      simp only [zup_row, zrow_row, zrow_me]
      refine k197 _ (t - 1) 0 (zwf6_u (zwf6_u (zwf6_u h1 (by omega)) (by omega)) (by omega)) h2 ?_ rfl (by omega) ?_
      · show s 30 - 1 = iI (t - 1)
        rw [h3, ← iI_sub]; rfl
      · rw [← h5]; unfold wnx; rw [if_neg (by omega)]
  have k88 : ∀ s, zwf6 (σ 32) s → s 29 = nI h → s 30 = iI t → s 31 = nI n → s 9 = nI a → wrw u h (t, n, a, b, c) = adv u h (t, n, a, b, c) → zRn (d + 2) 124 (88, [.ref 32, zJ], [], (49, x, l, zrow σ 32 s, τ, zrho)) Q := by
    intro s h1 h2 h3 h4 h5 h6
    refine zw124_88 ⟨fun c1 => ?_, fun c1 => ?_⟩
    · have c1 : ¬ nI n = 3 := by rw [← h4]; exact c1
      simp (disch := omega) only [zlit, nI_leI, nI_ltI, nI_eq, nI_clamp, nI_add, pk_mul, pk_sub, pk_div] at c1
      refine k164 s h1 h2 h3 h4 ?_
      rw [← h6]; unfold wrw; rw [if_neg (fun e => c1 e.1)]
    · have c1 : ¬ ¬ nI n = 3 := by rw [← h4]; exact c1
      simp (disch := omega) only [zlit, nI_leI, nI_ltI, nI_eq, nI_clamp, nI_add, pk_mul, pk_sub, pk_div] at c1
      have hn : n = 3 := by omega
      have e1 : (zrow σ 32 s) 32 29 = nI h := h2
      have e2 : (zrow σ 32 s) 32 30 = nI t.toNat := by rw [← iI_nat p1]; exact h3
      rw [e1, e2]
      refine sp118 (n := 3) hu (zwf6_RR h1 hr) (by omega) hh (by omega) ?_
      refine zw124_109 ⟨fun c2 => ?_, fun c2 => ⟨fun c3 => ?_, fun c3 => ?_⟩⟩
      · rw [bI_0] at c2
        refine k164 s h1 h2 h3 h4 ?_
        rw [← h6]; unfold wrw; rw [if_neg (fun e => by rw [c2] at e; exact absurd e.2.1 (by decide))]
      · have c3 : iI t < 3 * (nI a + 1) := by rw [← h3, ← h5]; exact c3
        simp (disch := omega) only [zlit, nI_iI, iI_add, iI_sub, iI_mul, iI_leI, iI_ltI, iI_eqI, iI_m1] at c3
        refine k164 s h1 h2 h3 h4 ?_
        rw [← h6]; unfold wrw; rw [if_neg (fun e => by have := e.2.2; dsimp only at this; omega)]
      · have c3 : ¬ iI t < 3 * (nI a + 1) := by rw [← h3, ← h5]; exact c3
        simp (disch := omega) only [zlit, nI_iI, iI_add, iI_sub, iI_mul, iI_leI, iI_ltI, iI_eqI, iI_m1] at c3
        rw [bI_0] at c2
        have c2 : may u h t.toNat 3 = true := by simpa using c2
        simp only [zup_row, zrow_row, zrow_me]
        refine hq _ (zwf6_u (zwf6_u (zwf6_u h1 (by omega)) (by omega)) (by omega)) ?_
        rw [← h6]; unfold wrw; rw [if_pos ⟨hn, c2, by dsimp only; omega⟩]
        refine ⟨h2, h3, by rw [← hn]; exact h4, ?_, ?_, ?_⟩
        · show s 9 + 1 = nI (a + 1)
          rw [h5]; exact nI_1 a
        · show s 9 + 1 = nI (a + 1)
          rw [h5]; exact nI_1 a
        · show s 30 - (s 9 + 1) - (s 9 + 1) = iI (t - (a + 1) - (a + 1))
          rw [h3, h5, nI_1, nI_iI, iI_sub, iI_sub]; rfl
  have k88' : wrw u h (t, n, a, b, c) = adv u h (t, n, a, b, c) → zRn (d + 2) 124 (88, [.ref 32, zJ], [], (49, x, l, σ, τ, zrho)) Q := by
    intro e
    have := k88 (σ 32) (zwf6.refl _) z1 z2 z3 z4 e
    rw [zrow_id] at this
    exact this
  have k430 : ¬ (1 < n ∧ may u h t.toNat n = true ∧ (b : Int) < c) → zRn (d + 2) 124 (43, [.ref 32, zJ], [.int 0], (49, x, l, σ, τ, zrho)) Q := by
    intro e
    exact zw124_43 ⟨fun _ => k88' (by unfold adv; rw [if_neg e]), fun c => absurd rfl c⟩
  refine zw124_0 ⟨fun c1 => ?_, fun c1 => ?_⟩
  · rw [z3] at c1; simp (disch := omega) only [zlit, nI_leI, nI_ltI, nI_eq, nI_clamp, nI_add, pk_mul, pk_sub, pk_div] at c1
    exact k430 (fun e => by omega)
  · rw [z3] at c1; simp (disch := omega) only [zlit, nI_leI, nI_ltI, nI_eq, nI_clamp, nI_add, pk_mul, pk_sub, pk_div] at c1
    rw [z1, z2, z3, iI_nat p1]
    refine sp118 hu hr (by omega) hh p3 ?_
    refine zw124_24 ⟨fun c2 => ?_, fun c2 => ⟨fun c3 => ?_, fun c3 => ?_⟩⟩
    · rw [bI_0] at c2
      exact k430 (fun e => by rw [c2] at e; exact absurd e.2.1 (by decide))
    · rw [z5, z6] at c3; simp (disch := omega) only [zlit, nI_iI, iI_add, iI_sub, iI_mul, iI_leI, iI_ltI, iI_eqI, iI_m1] at c3
      exact k430 (fun e => by omega)
    · rw [z5, z6] at c3; simp (disch := omega) only [zlit, nI_iI, iI_add, iI_sub, iI_mul, iI_leI, iI_ltI, iI_eqI, iI_m1] at c3
      rw [bI_0] at c2
      have c2 : may u h t.toNat n = true := by simpa using c2
      have hg : 1 < n ∧ may u h t.toNat n = true ∧ (b : Int) < c := ⟨by omega, c2, by omega⟩
      have e5 : σ 32 10 + 1 = nI (b + 1) := by rw [z5]; exact nI_1 b
      have e6 : σ 32 11 - 1 = iI (c - 1) := by rw [z6, ← iI_sub]; rfl
      refine zw124_43 ⟨fun c4 => absurd c4 (by decide), fun _ => ?_⟩
      rw [e5, e6]
      have hd : ((b : Int) + 1 ≤ c - 1 ∨ n = 2) → Q (.inl none, (49, x, l, (zup (zup σ 32 10 (nI (b + 1))) 32 11 (iI (c - 1))), τ, zrho)) := by
        intro e
        simp only [zup_row, zrow_row, zrow_me]
        refine hq _ (zwf6_u (zwf6_u (zwf6.refl _) (by omega)) (by omega)) ?_
        unfold adv; rw [if_pos hg, if_pos e]
        exact ⟨z1, z2, z3, z4, rfl, rfl⟩
      refine ⟨fun c5 => ?_, fun c5 => ⟨fun c6 => ?_, fun c6 => ?_⟩⟩
      · simp (disch := omega) only [zlit, nI_iI, iI_add, iI_sub, iI_mul, iI_leI, iI_ltI, iI_eqI, iI_m1] at c5
        exact hd (Or.inl (by omega))
      · simp (disch := omega) only [zlit, nI_iI, iI_add, iI_sub, iI_mul, iI_leI, iI_ltI, iI_eqI, iI_m1] at c5
        rw [z3] at c6; simp (disch := omega) only [zlit, nI_leI, nI_ltI, nI_eq, nI_clamp, nI_add, pk_mul, pk_sub, pk_div] at c6
        simp only [zup_row, zrow_row, zrow_me]
        refine k88 _ (zwf6_u (zwf6_u (zwf6.refl _) (by omega)) (by omega)) z1 z2 z3 z4 ?_
        unfold adv; rw [if_pos hg, if_neg (fun e => by dsimp only at e; omega)]
      · rw [z3] at c6; simp (disch := omega) only [zlit, nI_leI, nI_ltI, nI_eq, nI_clamp, nI_add, pk_mul, pk_sub, pk_div] at c6
        exact hd (Or.inr (by omega))
