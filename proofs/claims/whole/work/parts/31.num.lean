/-! numbers -/
theorem zlit (n : Nat) : (OfNat.ofNat n : Int32) = nI n := rfl
theorem zll (n : Nat) : (OfNat.ofNat n : Int64) = lN n := rfl
def zsum (f : Nat → Nat) : Nat → Nat
  | 0 => 0
  | k + 1 => zsum f k + f k
theorem zsum_le {f : Nat → Nat} {b : Nat} : ∀ {n : Nat}, (∀ k, k < n → f k ≤ b) → zsum f n ≤ n * b := by
  intro n
  induction n with
  | zero => intro _; exact Nat.zero_le _
  | succ n ih =>
    intro h
    have h1 := ih (fun k hk => h k (by omega))
    have h2 := h n (by omega)
    show zsum f n + f n ≤ (n + 1) * b
    rw [Nat.add_mul]
    omega
theorem sp101 {d x l : Nat} {σ : Nat → Nat → Int32} {τ : Nat → Nat → Int64} {Q : zR → Prop} {hp : Nat → Nat} (hh : ∀ k, k < 16 → σ 12 k = nI (hp k)) (h : Q (.inl (some (.int (nI (zsum hp 16)))), (49, x, l, σ, τ, zrho))) :
    zRn d 101 (0, [.ref 11, zJ, zJ], [], (49, x, l, σ, τ, zrho)) Q := by
  have key : ∀ n k, k + n = 16 → zRn d 101 (4, [.ref 11, .int (nI (zsum hp k)), .int (nI k)], [], (49, x, l, σ, τ, zrho)) Q := by
    intro n
    induction n with
    | zero =>
      intro k hk
      refine zv101_4 ⟨fun c => ?_, fun c => ?_⟩
      · rw [show k = 16 by omega]; exact h
      · simp (disch := omega) only [zlit, nI_leI] at c; omega
    | succ n ih =>
      intro k hk
      refine zv101_4 ⟨fun c => ?_, fun c => ⟨?_, ?_⟩⟩
      · simp (disch := omega) only [zlit, nI_leI] at c; omega
      · exact vp_in_nI (by omega) (by decide)
      · simp (disch := omega) only [zlit, nI_clamp, nI_add, hh]
        exact ih (k + 1) (by omega)
  exact zv101_0 (key 16 0 rfl)
