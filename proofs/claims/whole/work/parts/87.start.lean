/-! the start of the law: both are made -/
def zS0 (L : Nat) (xs : Nat → Int32) : zS := (0, 0, L, fun a => bif Nat.beq a 99 then xs else fun _ => 0, fun _ _ => 0, fun _ _ => .null)
def q0 (ρ : Nat → Nat → Value) : Nat → Nat → Value := zupR (r78 (zclr ρ 1 .null)) 0 0 (.ref 1)
def q1 (ρ : Nat → Nat → Value) : Nat → Nat → Value := zupR (zclr (q0 ρ) 5 .null) 0 1 (.ref 5)
def q2 (ρ : Nat → Nat → Value) : Nat → Nat → Value := zupR (r48 (zclr (q1 ρ) 6 .null)) 0 2 (.ref 6)
def q3 (ρ : Nat → Nat → Value) : Nat → Nat → Value := zupR (r99 (zclr (q2 ρ) 11 .null)) 0 3 (.ref 11)
def q4 (ρ : Nat → Nat → Value) : Nat → Nat → Value := zupR (r37 (zclr (q3 ρ) 17 .null)) 0 4 (.ref 17)
def q5 (ρ : Nat → Nat → Value) : Nat → Nat → Value := zupR (r69 (zclr (q4 ρ) 24 .null)) 0 5 (.ref 24)
theorem c0 {d l : Nat} {xs : Nat → Int32} {σ : Nat → Nat → Int32} {τ : Nat → Nat → Int64} {ρ : Nat → Nat → Value} {Q : zR → Prop} (hz : ZZ [] xs σ) (ht : TZ τ)
    (hq : ∀ σ' τ', ZZ [18, 24, 26, 27, 28] xs σ' → TZ τ' → P18 (σ' 18) → σ' 24 0 = -1 → QS (σ' 26) (σ' 27) (σ' 28) → Q (.inl none, (32, 0, l, σ', τ', q5 ρ))) :
    zRn (d + 2) 0 (0, [.ref 0], [], (1, 0, l, σ, τ, ρ)) Q :=
  zreg_ok [] 33 (c78 (d := d + 1) (l := l) (xs := xs) (σ := zclr σ 1 0) (τ := zclr τ 1 0) (ρ := zclr ρ 1 .null) (ZZ_clr hz (by decide)) (TZ_clr ht) (fun σ1 τ1 hz1 ht1 =>
    c33_5 (d := d + 1) (l := l) (σ := zclr σ1 5 0) (τ := zclr τ1 5 0) (ρ := zclr (q0 ρ) 5 .null)
    (c48 (d := d + 1) (l := l) (xs := xs) (σ := zclr (zclr σ1 5 0) 6 0) (τ := zclr (zclr τ1 5 0) 6 0) (ρ := zclr (q1 ρ) 6 .null) (ZZ_clr (ZZ_clr hz1 (by decide)) (by decide)) (TZ_clr (TZ_clr ht1)) (fun σ2 τ2 hz2 ht2 =>
    c99 (d := d + 1) (l := l) (xs := xs) (σ := zclr σ2 11 0) (τ := zclr τ2 11 0) (ρ := zclr (q2 ρ) 11 .null) (ZZ_clr hz2 (by decide)) (TZ_clr ht2) (fun σ3 τ3 hz3 ht3 =>
    c37 (d := d) (l := l) (xs := xs) (σ := zclr σ3 17 0) (τ := zclr τ3 17 0) (ρ := zclr (q3 ρ) 17 .null) (ZZ_clr hz3 (by decide)) (TZ_clr ht3) (fun σ4 τ4 hz4 ht4 h18 =>
    c69 (d := d + 1) (l := l) (xs := xs) (σ := zclr σ4 24 0) (τ := zclr τ4 24 0) (ρ := zclr (q4 ρ) 24 .null) (ZZ_clr hz4 (by decide)) (TZ_clr ht4) (fun σ5 τ5 hz5 ht5 hf h24 hQ =>
    hq σ5 τ5 hz5 ht5 (by rw [hf 18 (by decide)]; exact h18) h24 hQ)))))))
def rF : Nat → Nat → Value := zclr (r107 (zclr (q5 (zclr (fun _ _ => .null) 0 .null)) 32 .null)) 48 .null
theorem law_0 {l : Nat} {xs : Nat → Int32} {Q : zR → Prop} (hq : ∀ σ τ, ZZ [18, 24, 26, 27, 28, 43] xs σ → TZ τ → P18 (σ 18) → σ 24 0 = -1 → QS (σ 26) (σ 27) (σ 28) → R43 (σ 43) → zRn 100 190 (23, [.ref 99, .ref 0, .ref 32, .ref 48, .int 0, zJ, zJ], [], (49, 0, l, σ, τ, rF)) Q) :
    zRn 100 190 (0, zent 190 [.ref 99], [], zS0 l xs) Q := by
  have hz0 : ZZ [] xs (fun a => bif Nat.beq a 99 then xs else fun _ => 0) := by
    refine ⟨fun b _ h9 j => ?_, rfl⟩
    show (bif Nat.beq b 99 then xs else fun _ => 0) j = 0
    cases c : Nat.beq b 99 with
    | false => rfl
    | true => exact absurd (Nat.eq_of_beq_eq_true c) h9
  have ht0 : TZ (fun _ _ => 0) := fun _ _ => rfl
  exact zreg_ok [23] 16 (c0 (d := 97) (l := l) (xs := xs) (σ := zclr (fun a => bif Nat.beq a 99 then xs else fun _ => 0) 0 0) (τ := zclr (fun _ _ => 0) 0 0) (ρ := zclr (fun _ _ => .null) 0 .null) (ZZ_clr hz0 (by decide)) (TZ_clr ht0) (fun σ1 τ1 hz1 ht1 h18 h24 hQ =>
    c107 (d := 98) (l := l) (xs := xs) (σ := zclr σ1 32 0) (τ := zclr τ1 32 0) (ρ := zclr (q5 (zclr (fun _ _ => .null) 0 .null)) 32 .null) (ZZ_mono (ZZ_clr hz1 (by decide)) (fun b hb => List.mem_append_left [43] hb)) (TZ_clr ht1) (fun σ2 τ2 hz2 ht2 hf h43 =>
    ⟨rfl, hq (zclr σ2 48 0) (zclr τ2 48 0) (ZZ_clr hz2 (by decide)) (TZ_clr ht2) (show P18 (σ2 18) from by rw [hf 18 (by decide)]; exact h18) (show σ2 24 0 = -1 from by rw [hf 24 (by decide)]; exact h24) (show QS (σ2 26) (σ2 27) (σ2 28) from by rw [hf 26 (by decide), hf 27 (by decide), hf 28 (by decide)]; exact hQ) h43⟩)))
def NB (ρ : Nat → Nat → Value) : Prop := ∀ a f, (49 ≤ a ∨ 32 ≤ f) → ρ a f = .null
theorem NB_clr {ρ : Nat → Nat → Value} {n : Nat} (h : NB ρ) : NB (zclr ρ n .null) := by
  intro a f hf
  show (bif Nat.beq a n then .null else ρ a f) = .null
  rw [h a f hf]
  cases Nat.beq a n <;> rfl
theorem NB_up {ρ : Nat → Nat → Value} {n j : Nat} {v : Value} (h : NB ρ) (hn : n < 49) (hj : j < 32) : NB (zupR ρ n j v) := by
  intro a f hf
  show (bif Nat.beq a n && Nat.beq f j then v else ρ a f) = .null
  rw [h a f hf]
  cases c : Nat.beq a n && Nat.beq f j with
  | false => rfl
  | true =>
    rw [Bool.and_eq_true] at c
    have e1 := Nat.eq_of_beq_eq_true c.1
    have e2 := Nat.eq_of_beq_eq_true c.2
    omega
theorem NB_F : NB rF := by
  unfold rF q5 q4 q3 q2 q1 q0 r78 r48 r99 r37 r69 r107
  repeat first | exact fun _ _ _ => rfl | refine NB_clr ?_ | refine NB_up ?_ (by decide) (by decide)
theorem gd_big {α : Type} : ∀ (L : List α) (n : Nat) (d : α), L.length ≤ n → L.getD n d = d := by
  intro L
  induction L with
  | nil => intro n d _; rfl
  | cons y L ih =>
    intro n d h
    cases n with
    | zero => exact absurd h (by simp)
    | succ n => exact ih n d (Nat.le_of_succ_le_succ h)
theorem zrl_len : ∀ a, a < 49 → (zrl.getD a []).length ≤ 32 := by decide +kernel
theorem zrl_49 : zrl.length ≤ 49 := by decide +kernel
theorem NB_Z : NB zrho := by
  intro a f hf
  unfold zrho
  by_cases c : a < 49
  · exact gd_big _ _ _ (Nat.le_trans (zrl_len a c) (by omega))
  · rw [gd_big zrl a [] (Nat.le_trans zrl_49 (by omega))]
    rfl
def vEq : Value → Value → Bool
  | .null, .null => true
  | .ref a, .ref b => Nat.beq a b
  | _, _ => false
theorem vEq_ok {a b : Value} (h : vEq a b = true) : a = b := by
  cases a <;> cases b <;> first | rfl | (rw [Nat.eq_of_beq_eq_true h]) | cases h
theorem rF_b : ∀ a, a < 49 → ∀ f, f < 32 → vEq (rF a f) (zrho a f) = true := by decide +kernel
theorem rF_eq : rF = zrho := by
  funext a f
  by_cases c : a < 49 ∧ f < 32
  · exact vEq_ok (rF_b a c.1 f c.2)
  · rw [NB_F a f (by omega), NB_Z a f (by omega)]
def u0 : zRu := (0, fun _ => 0, fun _ => false, fun _ _ _ => false)
theorem IV_0 {xs : Nat → Int32} {σ : Nat → Nat → Int32} {τ : Nat → Nat → Int64} (hz : ZZ [18, 24, 26, 27, 28, 43] xs σ) (ht : TZ τ) (h18 : P18 (σ 18)) (h24 : σ 24 0 = -1) (hQ : QS (σ 26) (σ 27) (σ 28)) (h43 : R43 (σ 43)) : IV 0 0 σ τ := by
  have z : ∀ b j, b ∉ [18, 24, 26, 27, 28, 43] → b ≠ 99 → σ b j = nI 0 := fun b j hb h9 => hz.1 b hb h9 j
  have g : mx (gn u0) 1 = 0 := by show max 0 (gn u0 0) = 0; rw [gn_0]; rfl
  refine ⟨u0, 0, 0, 0, 0, 0, fun _ _ => 0, ⟨Nat.zero_le _, fun _ => Nat.zero_le _, fun _ _ _ h => by cases h⟩, ⟨⟨z 1 0 (by decide) (by decide), fun k _ => z 2 k (by decide) (by decide), fun k _ => z 3 k (by decide) (by decide), fun f a b _ _ _ => ?_⟩, ⟨z 6 1 (by decide) (by decide), z 6 5 (by decide) (by decide), Nat.le_refl _, Nat.zero_le _, fun k hk => ?_, ?_, ⟨fun _ c h1 h2 => absurd h1 (by omega), fun _ c h1 h2 => absurd h1 (by omega)⟩⟩, Or.inl (z 6 6 (by decide) (by decide)), ⟨z 11 1 (by decide) (by decide), fun k _ => z 12 k (by decide) (by decide), fun _ _ _ _ => Nat.zero_le _, fun i hi => absurd hi (by omega)⟩, ⟨h18, Or.inl (z 17 6 (by decide) (by decide))⟩, hQ, Nat.zero_le _, fun _ => h24, fun h => absurd h (by omega)⟩,
    ⟨⟨z 32 1 (by decide) (by decide), fun k _ => z 33 k (by decide) (by decide), fun k _ => z 34 k (by decide) (by decide), fun f a b _ _ _ => z 35 _ (by decide) (by decide)⟩, ⟨z 32 5 (by decide) (by decide), Nat.zero_le _, fun k hk => ?_, z 32 8 (by decide) (by decide), fun v _ => ⟨0, z 37 v (by decide) (by decide), Nat.le_refl _⟩⟩, ⟨z 32 13 (by decide) (by decide), fun k _ => z 38 k (by decide) (by decide), fun i k hi => absurd hi (by omega)⟩, ⟨h43, Or.inl ⟨z 32 15 (by decide) (by decide), z 32 16 (by decide) (by decide), HT_0 (fun q _ => z 42 q (by decide) (by decide))⟩⟩, Nat.zero_le _, z 32 22 (by decide) (by decide), fun h => absurd h (by omega)⟩, Nat.le_refl _, Nat.zero_le _, Nat.le_refl _⟩
  · rw [ht 4 _]; exact zb_0 b
  · rw [show k = 0 by omega, gn_0]; exact z 7 0 (by decide) (by decide)
  · rw [g]; exact z 6 2 (by decide) (by decide)
  · rw [show k = 0 by omega, gn_0]; exact z 36 0 (by decide) (by decide)
