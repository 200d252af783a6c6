/-! the small machine's run of the law -/
theorem zlaw {L : Nat} {xs : Nat → Int32} (hL : L ≤ 2560) : zRn 100 190 (0, zent 190 [.ref 99], [], zS0 L xs) (fun r => ∃ S, r = (.inl (some (.int 1)), S)) := by
  refine law_0 (fun σ τ hz ht h18 h24 hQ h43 => ?_)
  rw [rF_eq]
  exact law_loop (d := 10) hL (fun S => ⟨S, rfl⟩) (L + 1) 0 0 σ τ (by omega) (by omega) (IV_0 hz ht h18 h24 hQ h43)
