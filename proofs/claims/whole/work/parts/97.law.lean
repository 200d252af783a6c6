/-! what is owed of the small machine -/
def zS0 (L : Nat) (xs : Nat → Int32) : zS := (0, 0, L, fun a => bif Nat.beq a 99 then xs else fun _ => 0, fun _ _ => 0, fun _ _ => .null)
theorem zlaw {L : Nat} {xs : Nat → Int32} (hL : L ≤ 2560) : zRn 100 190 (0, zent 190 [.ref 99], [], zS0 L xs) (fun r => ∃ S, r = (.inl (some (.int 1)), S)) := by
  sorry
