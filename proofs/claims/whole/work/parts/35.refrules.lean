/-! the reference: rules -/
def RR (u : zRu) (s32 s33 s34 s35 : Nat → Int32) : Prop := s32 1 = nI (kd u) ∧ (∀ k, k < 13 → s33 k = nI (dg u k)) ∧ (∀ k, k < 65 → s34 k = bI (nb u k)) ∧ ∀ f a b, a ≤ b → b ≤ 64 → f ≤ 64 → s35 (4225 * f + 65 * a + b) = bI (en u f a b)
theorem sp110 {d x l : Nat} {σ : Nat → Nat → Int32} {τ : Nat → Nat → Int64} {Q : zR → Prop} {a b c : Int} (a1 : -2147483648 ≤ a) (a2 : a < 2147483648) (b1 : -2147483648 ≤ b) (b2 : b < 2147483648) (c1 : -2147483648 ≤ c) (c2 : c < 2147483648)
    (h1 : b ≤ a → a ≤ c → Q (.inl (some (.int (1))), (49, x, l, σ, τ, zrho))) (h0 : ¬ (b ≤ a ∧ a ≤ c) → Q (.inl (some (.int (0))), (49, x, l, σ, τ, zrho))) :
    zRn d 110 (0, [.int (iI a), .int (iI b), .int (iI c)], [], (49, x, l, σ, τ, zrho)) Q := by
  refine zv110_0 ⟨fun k => ?_, fun k => ⟨fun k2 => ?_, fun k2 => ?_⟩⟩
  · rw [iI_ltI a1 a2 b1 b2] at k; exact h0 (by omega)
  · rw [iI_ltI c1 c2 a1 a2] at k2; exact h0 (by omega)
  · rw [iI_ltI a1 a2 b1 b2] at k; rw [iI_ltI c1 c2 a1 a2] at k2; exact h1 (by omega) (by omega)
theorem sp110n {d x l : Nat} {σ : Nat → Nat → Int32} {τ : Nat → Nat → Int64} {Q : zR → Prop} {a b c : Nat} (ha : a < 2147483648) (hb : b < 2147483648) (hc : c < 2147483648)
    (h1 : b ≤ a → a ≤ c → Q (.inl (some (.int (1))), (49, x, l, σ, τ, zrho))) (h0 : ¬ (b ≤ a ∧ a ≤ c) → Q (.inl (some (.int (0))), (49, x, l, σ, τ, zrho))) :
    zRn d 110 (0, [.int (nI a), .int (nI b), .int (nI c)], [], (49, x, l, σ, τ, zrho)) Q := by
  rw [nI_iI, nI_iI, nI_iI]
  exact sp110 (by omega) (by omega) (by omega) (by omega) (by omega) (by omega) (fun k k2 => h1 (by omega) (by omega)) (fun k => h0 (by omega))
theorem z_bit : ∀ m, m < 16 → ∀ n, n < 4 → ((nI m >>> (nI n &&& 31)) &&& 1) = bI (m.testBit n) := by decide +kernel
theorem z_blt_f {a b : Nat} (h : b ≤ a) : Nat.blt a b = false := by
  cases c : Nat.blt a b with
  | false => rfl
  | true => have := Nat.le_of_ble_eq_true c; omega
theorem z_blt_t {a b : Nat} (h : a < b) : Nat.blt a b = true := Nat.ble_eq_true_of_le h
theorem z_ble_f {a b : Nat} (h : b < a) : Nat.ble a b = false := z_blt_f (a := a - 1) (b := b) (by omega) |> fun e => by
  cases c : Nat.ble a b with
  | false => rfl
  | true => have := Nat.le_of_ble_eq_true c; omega
theorem z_ble_t {a b : Nat} (h : a ≤ b) : Nat.ble a b = true := Nat.ble_eq_true_of_le h
theorem z_bne {a b : Nat} (h : a ≠ b) : (a == b) = false := by simp [h]
theorem sp118 {d x l : Nat} {σ : Nat → Nat → Int32} {τ : Nat → Nat → Int64} {Q : zR → Prop} {u : zRu} {h t n : Nat} (hu : zRok u) (hr : RR u (σ 32) (σ 33) (σ 34) (σ 35)) (h1 : t ≤ h) (h2 : h ≤ 2000) (h3 : n ≤ 3)
    (hq : Q (.inl (some (.int (bI (may u h t n)))), (49, x, l, σ, τ, zrho))) :
    zRn (d + 1) 118 (0, [.ref 32, .int (nI h), .int (nI t), .int (nI n), zJ], [], (49, x, l, σ, τ, zrho)) Q := by
  have hk := hr.1
  have h4 := hu.1
  have q0 : may u h t n = false → Q (.inl (some (.int (0))), (49, x, l, σ, τ, zrho)) := fun c => by rw [c] at hq; exact hq
  have q1 : may u h t n = true → Q (.inl (some (.int (1))), (49, x, l, σ, τ, zrho)) := fun c => by rw [c] at hq; exact hq
  have k33 : n ≤ t → (n = 0 ↔ t = 0) → zRn (d + 1) 118 (33, [.ref 32, .int (nI h), zJ, .int (nI n), .int (nI (h - t))], [], (49, x, l, σ, τ, zrho)) Q := by
    intro c1 c2
    have hm : may u h t n = (match kd u with
      | 0 => Nat.ble 1 (h - t) && (Nat.ble (h - t) 12 && (dg u (h - t)).testBit n)
      | 1 => Nat.ble 1 (h - t) && (Nat.ble (h - t) 64 && (nb u (h - t) && Nat.blt n 2))
      | 2 => h == t && n == 2
      | 3 => h == t && n == 2
      | _ => Nat.ble 1 h && (Nat.ble h 64 && Nat.blt n 3)) := by
      unfold may
      have e1 : ((n == 0) == (t == 0)) = true := by
        by_cases c : n = 0
        · have : t = 0 := c2.mp c
          subst c; subst this; rfl
        · have : t ≠ 0 := fun e => c (c2.mpr e)
          rw [z_bne c, z_bne this]; rfl
      rw [e1, Nat.ble_eq_true_of_le c1, Bool.true_and, Bool.true_and]
      rfl
    have k128 : (kd u = 2 ∨ kd u = 3) → zRn (d + 1) 118 (128, [zJ, zJ, zJ, .int (nI n), .int (nI (h - t))], [], (49, x, l, σ, τ, zrho)) Q := by
      intro k23
      have hm : may u h t n = (h == t && n == 2) := by rcases k23 with k | k <;> (rw [k] at hm; exact hm)
      refine zw118_128 ⟨fun c => ?_, fun c => ⟨fun c2 => ?_, fun c2 => ?_⟩⟩
      · simp (disch := omega) only [zlit, nI_leI, nI_ltI, nI_eq, nI_clamp, nI_add, pk_mul, pk_sub, pk_div] at c
        exact q0 (by rw [hm, z_bne (by omega)]; rfl)
      · simp (disch := omega) only [zlit, nI_leI, nI_ltI, nI_eq, nI_clamp, nI_add, pk_mul, pk_sub, pk_div] at c2
        exact q0 (by rw [hm, z_bne c2, Bool.and_false])
      · simp (disch := omega) only [zlit, nI_leI, nI_ltI, nI_eq, nI_clamp, nI_add, pk_mul, pk_sub, pk_div] at c c2
        exact q1 (by rw [hm, show h = t by omega, show n = 2 by omega]; simp)
    refine zw118_33 ⟨fun c => ⟨fun c3 => ⟨fun c4 => ?_, fun c4 => ⟨fun c5 => ?_, fun c5 => ?_⟩⟩, fun c3 => ?_⟩, fun c => ?_⟩
    · rw [hk] at c4; simp (disch := omega) only [zlit, nI_leI, nI_ltI, nI_eq, nI_clamp, nI_add, pk_mul, pk_sub, pk_div] at c4
      exact k128 (Or.inl c4)
    · rw [hk] at c c3 c4 c5; simp (disch := omega) only [zlit, nI_leI, nI_ltI, nI_eq, nI_clamp, nI_add, pk_mul, pk_sub, pk_div] at c c3 c4 c5
      have h5 : kd u = 4 := by omega
      rw [h5] at hm
      refine sp110n (b := 1) (c := 64) (by omega) (by omega) (by omega) (fun e1 e2 => ?_) (fun e => ?_)
      · refine zw118_151 ⟨fun e => absurd e (by decide), fun _ => ⟨fun e => ?_, fun e => ?_⟩⟩
        · simp (disch := omega) only [zlit, nI_leI, nI_ltI, nI_eq, nI_clamp, nI_add, pk_mul, pk_sub, pk_div] at e
          exact q0 (by simp only [hm, z_blt_f e, Bool.and_false])
        · simp (disch := omega) only [zlit, nI_leI, nI_ltI, nI_eq, nI_clamp, nI_add, pk_mul, pk_sub, pk_div] at e
          exact q1 (by simp (disch := omega) only [hm, z_blt_t, z_ble_t]; rfl)
      · refine zw118_151 ⟨fun _ => q0 (by rw [hm]; simp [Nat.blt]; omega), fun c => absurd rfl c⟩
    · rw [hk] at c5; simp (disch := omega) only [zlit, nI_leI, nI_ltI, nI_eq, nI_clamp, nI_add, pk_mul, pk_sub, pk_div] at c5
      exact k128 (Or.inr (by omega))
    · rw [hk] at c3; simp (disch := omega) only [zlit, nI_leI, nI_ltI, nI_eq, nI_clamp, nI_add, pk_mul, pk_sub, pk_div] at c3
      have h5 : kd u = 1 := by omega
      rw [h5] at hm
      refine sp110n (b := 1) (c := 64) (by omega) (by omega) (by omega) (fun e1 e2 => ?_) (fun e => ?_)
      · refine zw118_88 ⟨fun e => absurd e (by decide), fun _ => ⟨vp_in_nI (by omega) (by decide), ?_⟩⟩
        rw [nI_clamp (by omega), hr.2.2.1 _ (by omega), bI_0]
        refine ⟨fun e => ?_, fun e => ⟨fun e3 => ?_, fun e3 => ?_⟩⟩
        · exact q0 (by rw [hm, e]; simp)
        · simp (disch := omega) only [zlit, nI_leI, nI_ltI, nI_eq, nI_clamp, nI_add, pk_mul, pk_sub, pk_div] at e3
          exact q0 (by simp only [hm, z_blt_f e3, Bool.and_false])
        · simp (disch := omega) only [zlit, nI_leI, nI_ltI, nI_eq, nI_clamp, nI_add, pk_mul, pk_sub, pk_div] at e3
          have e : nb u (h - t) = true := by simpa using e
          exact q1 (by simp (disch := omega) only [hm, e, z_blt_t, z_ble_t]; rfl)
      · exact zw118_88 ⟨fun _ => q0 (by rw [hm]; simp [Nat.blt]; omega), fun c => absurd rfl c⟩
    · rw [hk] at c; simp (disch := omega) only [zlit, nI_leI, nI_ltI, nI_eq, nI_clamp, nI_add, pk_mul, pk_sub, pk_div] at c
      have h5 : kd u = 0 := by omega
      rw [h5] at hm
      refine sp110n (b := 1) (c := 12) (by omega) (by omega) (by omega) (fun e1 e2 => ?_) (fun e => ?_)
      · refine zw118_48 ⟨fun e => absurd e (by decide), fun _ => ⟨vp_in_nI (by omega) (by decide), ?_⟩⟩
        rw [nI_clamp (by omega), hr.2.1 _ (by omega), z_bit _ (by have := hu.2.1 (h - t); omega) _ (by omega), bI_1]
        have hm : may u h t n = (dg u (h - t)).testBit n := by rw [hm, Nat.ble_eq_true_of_le e1, Nat.ble_eq_true_of_le e2]; rfl
        exact ⟨fun e => q0 (by rw [hm]; simpa using e), fun e => q1 (by rw [hm]; simpa using e)⟩
      · exact zw118_48 ⟨fun _ => q0 (by rw [hm]; simp; omega), fun c => absurd rfl c⟩
  have q00 : ¬ (n ≤ t ∧ (n = 0 ↔ t = 0)) → Q (.inl (some (.int (0))), (49, x, l, σ, τ, zrho)) := by
    intro c
    apply q0
    cases hm : may u h t n with
    | false => rfl
    | true => exact absurd ⟨may_le hm, may_0 hm⟩ c
  have e1 : nI h - nI t = nI (h - t) := pk_sub h1
  refine zw118_0 ⟨fun c => ?_, fun c => ?_⟩ <;> rw [e1] <;> refine zw118_14 ⟨fun c2 => zw118_23 ⟨fun c3 => ?_, fun c3 => ⟨fun c4 => ?_, fun c4 => ?_⟩⟩, fun c2 => zw118_23 ⟨fun c3 => ?_, fun c3 => ⟨fun c4 => ?_, fun c4 => ?_⟩⟩⟩
  all_goals simp (disch := omega) only [zlit, nI_leI, nI_ltI, nI_eq, nI_clamp, nI_add, pk_mul, pk_sub, pk_div] at c c2 c3
  all_goals first
    | exact q00 (by omega)
    | (simp (disch := omega) only [zlit, nI_leI, nI_ltI, nI_eq, nI_clamp, nI_add, pk_mul, pk_sub, pk_div] at c4; first | exact k33 (by omega) (by omega) | exact q00 (by omega) | (exfalso; omega))
    | exact (c3 trivial).elim
    | exact absurd rfl c3
    | (simp at c3)
theorem sp115 {d x l : Nat} {σ : Nat → Nat → Int32} {τ : Nat → Nat → Int64} {Q : zR → Prop} {f a b : Nat} (ha : a ≤ 64) (hb : b ≤ 64) (hf : f ≤ 64) (hq : Q (.inl (some (.int (nI (4225 * f + 65 * min a b + max a b)))), (49, x, l, σ, τ, zrho))) :
    zRn d 115 (0, [.int (nI f), .int (nI a), .int (nI b)], [], (49, x, l, σ, τ, zrho)) Q := by
  refine zv115_0 ⟨fun c => ⟨fun c2 => ?_, fun c2 => absurd c c2⟩, fun c => ⟨fun c2 => absurd c2 c, fun c2 => ?_⟩⟩
  all_goals
    simp (disch := omega) only [zlit, nI_leI, nI_ltI, nI_eq, nI_clamp, nI_add, pk_mul, pk_sub, pk_div] at c ⊢
  · rw [show min a b = b by omega, show max a b = a by omega] at hq; exact hq
  · rw [show min a b = a by omega, show max a b = b by omega] at hq; exact hq
theorem sp119 {d x l : Nat} {σ : Nat → Nat → Int32} {τ : Nat → Nat → Int64} {Q : zR → Prop} {u : zRu} {h a b c : Nat} (hu : zRok u) (hr : RR u (σ 32) (σ 33) (σ 34) (σ 35)) (h2 : kd u = 4 → h ≤ 64) (hh : h ≤ 2000) (hb : b ≤ c) (hc : c ≤ h)
    (e1 : σ 32 10 = nI b) (e2 : σ 32 11 = nI c) (hq : Q (.inl (some (.int (bI (isO u h (a, b, c))))), (49, x, l, σ, τ, zrho))) :
    zRn (d + 1) 119 (0, [.ref 32, .int (nI h)], [], (49, x, l, σ, τ, zrho)) Q := by
  have hk := hr.1
  have h4 := hu.1
  have q0 : isO u h (a, b, c) = false → Q (.inl (some (.int (0))), (49, x, l, σ, τ, zrho)) := fun c => by rw [c] at hq; exact hq
  have q1 : isO u h (a, b, c) = true → Q (.inl (some (.int (1))), (49, x, l, σ, τ, zrho)) := fun c => by rw [c] at hq; exact hq
  refine zv119_0 ⟨fun c1 => ⟨fun c2 => ?_, fun c2 => ?_⟩, fun c1 => ⟨fun c2 => ?_, fun c2 => ?_⟩⟩
  · rw [hk] at c1 c2; simp (disch := omega) only [zlit, nI_leI, nI_ltI, nI_eq, nI_clamp, nI_add, pk_mul, pk_sub, pk_div] at c1 c2
    have h5 : kd u = 0 ∨ kd u = 1 ∨ kd u = 2 := by omega
    exact q1 (by unfold isO; rcases h5 with h5 | h5 | h5 <;> (rw [h5]; rfl))
  · rw [hk] at c1 c2; simp (disch := omega) only [zlit, nI_leI, nI_ltI, nI_eq, nI_clamp, nI_add, pk_mul, pk_sub, pk_div] at c1 c2
    have h5 : kd u = 4 := by omega
    have h6 := h2 h5
    rw [e1, e2]
    refine sp115 (by omega) (by omega) (by omega) ?_
    refine zv119_49 ⟨vp_in_nI (by omega) (by decide), ?_⟩
    rw [nI_clamp (by omega), show min b c = b by omega, show max b c = c by omega, hr.2.2.2 _ _ _ hb (by omega) (by omega), bI_0]
    have hm : isO u h (a, b, c) = en u h b c := by unfold isO; rw [h5]; rfl
    exact ⟨fun e => q0 (by rw [hm]; exact e), fun e => q1 (by rw [hm]; simpa using e)⟩
  · rw [hk] at c1; rw [e1, e2] at c2; simp (disch := omega) only [zlit, nI_leI, nI_ltI, nI_eq, nI_clamp, nI_add, pk_mul, pk_sub, pk_div] at c1 c2
    have h5 : kd u = 3 := by omega
    exact q0 (by unfold isO; rw [h5]; simp [c2])
  · rw [hk] at c1; rw [e1, e2] at c2; simp (disch := omega) only [zlit, nI_leI, nI_ltI, nI_eq, nI_clamp, nI_add, pk_mul, pk_sub, pk_div] at c1 c2
    have h5 : kd u = 3 := by omega
    exact q1 (by unfold isO; rw [h5]; simp [c2])
