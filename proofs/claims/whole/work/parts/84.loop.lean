/-! the law: its loop -/
theorem IV_up {n x : Nat} {σ : Nat → Nat → Int32} {τ : Nat → Nat → Int64} (h : IV n x σ τ) : IV (n + 1) x σ τ := by
  obtain ⟨u, e, kn, st, pl, s, H, hu, hC, hR, hx, hst, hpl⟩ := h
  exact ⟨u, e, kn, st, pl, s, H, hu, hC, hR, by omega, by omega, by omega⟩
theorem law_loop {d l : Nat} {Q : zR → Prop} (hl : l ≤ 2560) (hQ : ∀ S, Q (.inl (some (.int 1)), S)) : ∀ k n x (σ : Nat → Nat → Int32) (τ : Nat → Nat → Int64), l < 5 * n + 5 * k → n ≤ 512 → IV n x σ τ →
    zRn (d + 90) 190 (23, [.ref 99, .ref 0, .ref 32, .ref 48, .int (nI (5 * n)), zJ, zJ], [], (49, x, l, σ, τ, zrho)) Q := by
  have el : Int32.ofNat l - 5 = iI ((l : Int) - 5) := by
    show nI l - 5 = _
    rw [nI_iI, show (5 : Int32) = iI 5 from rfl, iI_sub]
  intro k
  induction k with
  | zero =>
    intro n x σ τ hk hn hI
    refine zv190_23 ?_
    rw [el, nI_iI, iI_ltI (by omega) (by omega) (by omega) (by omega)]
    exact ⟨fun _ => hQ _, fun c => absurd (by omega) c⟩
  | succ k ih =>
    intro n x σ τ hk hn hI
    refine zv190_23 ?_
    rw [el, show (iI ((l : Int) - 5) < nI (5 * n)) = ((l : Int) - 5 < ((5 * n : Nat) : Int)) from by rw [nI_iI]; exact iI_ltI (by omega) (by omega) (by omega) (by omega)]
    refine ⟨fun _ => hQ _, fun c => ?_⟩
    have hp : 5 * n + 5 ≤ l := by omega
    have next : ∀ x' (σ' : Nat → Nat → Int32) (τ' : Nat → Nat → Int64), σ' 99 = σ 99 → IV (n + 1) x' σ' τ' → zRn (d + 90) 190 (1490, [.ref 99, .ref 0, .ref 32, .ref 48, .int (nI (5 * n)), zJ, zJ], [], (49, x', l, σ', τ', zrho)) Q := by
      intro x' σ' τ' _ hI'
      refine zv190_1490 ?_
      rw [show nI (5 * n) + 5 = nI (5 * (n + 1)) from by rw [show (5 : Int32) = nI 5 from rfl, nI_add]; congr 1]
      exact ih (n + 1) x' σ' τ' (by omega) (by omega) hI'
    refine ⟨vp_in_nI (by omega) (by omega), zv190_39 ⟨fun _ => next x σ τ rfl (IV_up hI), fun _ => op0 hp hl (by omega) hI next, fun _ => op1 hp hl (by omega) hI next, fun _ => op2 hp hl (by omega) hI next, fun _ => op3 hp hl (by omega) hI next, fun _ => op4 hp hl (by omega) hI next, fun _ => op5 hp hl (by omega) hI next, fun _ => op6 hp hl (by omega) hI next, fun _ => op7 hp hl (by omega) hI next, fun _ => op8 hp hl (by omega) hI next, fun _ => op9 hp hl (by omega) hI next, fun _ => op10 hp hl (by omega) hI next, fun _ => op11 hp hl (by omega) hI next, fun _ => op12 hp hl (by omega) hI next, fun _ => op13 hp hl (by omega) hI next, fun _ => op14 hp hl (by omega) hI next, fun _ => op15 hp hl (by omega) hI next, fun _ => op16 hp hl (by omega) hI next, fun _ => op17 hp hl (by omega) hI next, fun _ => op18 hp hl (by omega) hI next, fun _ => op19 hp hl (by omega) hI next, fun _ => op20 hp hl (by omega) hI next, fun _ => op21 hp hl (by omega) hI next, fun _ => op22 hp hl (by omega) hI next⟩⟩
