/-! sums by number -/
/-- how many sums of at most l counters have no heap above s -/
def PT : Nat → Nat → Nat → Nat
  | 0, _, _ => 1
  | _ + 1, 0, _ => 1
  | f + 1, s + 1, l => PT f s l + (if s + 1 ≤ l then PT f (s + 1) (l - (s + 1)) else 0)
def Pt (s l : Nat) : Nat := PT (s + l + 1) s l
theorem PT_fuel : ∀ f g s l, s + l < f → s + l < g → PT f s l = PT g s l := by
  intro f
  induction f with
  | zero => intro g s l h; omega
  | succ f ih =>
    intro g s l h1 h2
    obtain ⟨g', hg⟩ : ∃ g', g = g' + 1 := ⟨g - 1, by omega⟩
    subst hg
    cases s with
    | zero => rfl
    | succ s =>
      show PT f s l + (if s + 1 ≤ l then PT f (s + 1) (l - (s + 1)) else 0) = PT g' s l + (if s + 1 ≤ l then PT g' (s + 1) (l - (s + 1)) else 0)
      rw [ih g' s l (by omega) (by omega)]
      split
      · rw [ih g' (s + 1) (l - (s + 1)) (by omega) (by omega)]
      · rfl
theorem Pt_0 (l : Nat) : Pt 0 l = 1 := by unfold Pt; rfl
theorem Pt_S (s l : Nat) : Pt (s + 1) l = Pt s l + (if s + 1 ≤ l then Pt (s + 1) (l - (s + 1)) else 0) := by
  unfold Pt
  show PT (s + 1 + l) s l + (if s + 1 ≤ l then PT (s + 1 + l) (s + 1) (l - (s + 1)) else 0) = _
  rw [PT_fuel (s + 1 + l) (s + l + 1) s l (by omega) (by omega)]
  split
  · rw [PT_fuel (s + 1 + l) (s + 1 + (l - (s + 1)) + 1) (s + 1) (l - (s + 1)) (by omega) (by omega)]
  · rfl
/-- the heaps of one size, from the i-th on -/
def rkI (s : Nat) : Nat → Nat → Nat
  | 0, _ => 0
  | j + 1, l => Pt (s - 1) l + rkI s j (l - s)
def rk (c : Nat → Nat) : Nat → Nat → Nat
  | 0, _ => 0
  | s + 1, l => rkI (s + 1) (c (s + 1)) l + rk c s (l - c (s + 1) * (s + 1))
theorem rkI_lt {s : Nat} : ∀ j l x, 1 ≤ s → j * s ≤ l → x < Pt (s - 1) (l - j * s) → rkI s j l + x < Pt s l := by
  intro j
  induction j with
  | zero =>
    intro l x hs hj hx
    obtain ⟨s', e⟩ : ∃ s', s = s' + 1 := ⟨s - 1, by omega⟩
    subst e
    rw [Nat.zero_mul, Nat.sub_zero] at hx
    show 0 + x < Pt (s' + 1) l
    rw [Pt_S]
    have hx : x < Pt s' l := hx
    omega
  | succ j ih =>
    intro l x hs hj hx
    obtain ⟨s', e⟩ : ∃ s', s = s' + 1 := ⟨s - 1, by omega⟩
    subst e
    rw [Nat.succ_mul] at hj hx
    have h1 := ih (l - (s' + 1)) x hs (by omega) (by rw [show l - (s' + 1) - j * (s' + 1) = l - (j * (s' + 1) + (s' + 1)) by omega]; exact hx)
    show Pt s' l + rkI (s' + 1) j (l - (s' + 1)) + x < Pt (s' + 1) l
    rw [Pt_S, if_pos (by omega)]
    omega
theorem rk_lt (c : Nat → Nat) : ∀ s l, tot c s ≤ l → rk c s l < Pt s l := by
  intro s
  induction s with
  | zero => intro l _; rw [Pt_0]; show 0 < 1; omega
  | succ s ih =>
    intro l h
    have h : tot c s + c (s + 1) * (s + 1) ≤ l := h
    exact rkI_lt (c (s + 1)) l _ (by omega) (by omega) (ih _ (by omega))
/-- fewer heaps of a size: a smaller number -/
theorem rkI_less {s : Nat} : ∀ j j' l x y, 1 ≤ s → j < j' → j' * s ≤ l → x < Pt (s - 1) (l - j * s) → rkI s j l + x < rkI s j' l + y := by
  intro j
  induction j with
  | zero =>
    intro j' l x y hs hj hl hx
    obtain ⟨k, e⟩ : ∃ k, j' = k + 1 := ⟨j' - 1, by omega⟩
    subst e
    rw [Nat.zero_mul, Nat.sub_zero] at hx
    show 0 + x < Pt (s - 1) l + rkI s k (l - s) + y
    omega
  | succ j ih =>
    intro j' l x y hs hj hl hx
    obtain ⟨k, e⟩ : ∃ k, j' = k + 1 := ⟨j' - 1, by omega⟩
    subst e
    rw [Nat.succ_mul] at hx hl
    have := ih k (l - s) x y hs (by omega) (by omega) (by rw [show l - s - j * s = l - (j * s + s) by omega]; exact hx)
    show Pt (s - 1) l + rkI s j (l - s) + x < Pt (s - 1) l + rkI s k (l - s) + y
    omega
theorem rk_inj {c c' : Nat → Nat} : ∀ s l, tot c s ≤ l → tot c' s ≤ l → rk c s l = rk c' s l → ∀ k, 1 ≤ k → k ≤ s → c k = c' k := by
  intro s
  induction s with
  | zero => intro l _ _ _ k h1 h2; omega
  | succ s ih =>
    intro l h1 h2 he
    have h1 : tot c s + c (s + 1) * (s + 1) ≤ l := h1
    have h2 : tot c' s + c' (s + 1) * (s + 1) ≤ l := h2
    have he : rkI (s + 1) (c (s + 1)) l + rk c s (l - c (s + 1) * (s + 1)) = rkI (s + 1) (c' (s + 1)) l + rk c' s (l - c' (s + 1) * (s + 1)) := he
    have r1 := rk_lt c s (l - c (s + 1) * (s + 1)) (by omega)
    have r2 := rk_lt c' s (l - c' (s + 1) * (s + 1)) (by omega)
    rcases Nat.lt_trichotomy (c (s + 1)) (c' (s + 1)) with q | q | q
    · have := rkI_less (s := s + 1) (c (s + 1)) (c' (s + 1)) l (rk c s (l - c (s + 1) * (s + 1))) (rk c' s (l - c' (s + 1) * (s + 1))) (by omega) q (by omega) r1
      omega
    · intro k k1 k2
      by_cases e : k = s + 1
      · subst e; exact q
      · rw [q] at he h1
        exact ih (l - c' (s + 1) * (s + 1)) (by omega) (by omega) (by omega) k k1 (by omega)
    · have := rkI_less (s := s + 1) (c' (s + 1)) (c (s + 1)) l (rk c' s (l - c' (s + 1) * (s + 1))) (rk c s (l - c (s + 1) * (s + 1))) (by omega) q (by omega) r2
      omega
theorem Pt_18 : Pt 16 18 < 1597 := by decide +kernel
theorem Pt_le {s : Nat} (hs : s ≤ 18) {l : Nat} (hl : l ≤ 18) : Pt s l ≤ 1597 := by
  have : ∀ s, s < 19 → ∀ l, l < 19 → Pt s l ≤ 1597 := by decide +kernel
  exact this s (by omega) l (by omega)
/-- a sum that the class can hold -/
def smOk (c : Nat → Nat) : Prop := tot c 16 ≤ 18
theorem sp47 {d x l : Nat} {σ : Nat → Nat → Int32} {τ : Nat → Nat → Int64} {Q : zR → Prop} {c : Nat → Nat} (hc : smOk c) (h18 : ∀ s l, s ≤ 18 → l ≤ 18 → σ 18 (l * 19 + s) = nI (Pt s l)) (h22 : ∀ k, 1 ≤ k → k ≤ 16 → σ 22 k = nI (c k))
    (hq : Q (.inl (some (.int (nI (rk c 16 18)))), (49, x, l, σ, τ, zrho))) :
    zRn d 47 (0, [.ref 17, zJ, zJ, zJ, zJ], [], (49, x, l, σ, τ, zrho)) Q := by
  have cb : ∀ n k, 1 ≤ k → k ≤ n → c k * k ≤ tot c n := by
    intro n
    induction n with
    | zero => intro k h1 h2; omega
    | succ n ih =>
      intro k h1 h2
      have e : tot c (n + 1) = tot c n + c (n + 1) * (n + 1) := rfl
      by_cases q : k = n + 1
      · subst q; omega
      · have := ih k h1 (by omega); omega
  have cl : ∀ k, 1 ≤ k → k ≤ 16 → c k ≤ 18 := by
    intro k h1 h2
    have h3 := cb 16 k h1 h2
    have h4 : c k * 1 ≤ c k * k := Nat.mul_le_mul_left _ h1
    unfold smOk at hc
    omega
  have inner : ∀ s, 1 ≤ s → s ≤ 16 → ∀ m j num y, j + m = c s → y ≤ 18 → m * s ≤ y →
      zRn d 47 (8, [.ref 17, .int (nI (num + rkI s m y)), .int (nI (y - m * s)), .int (nI s + (-1)), zJ], [], (49, x, l, σ, τ, zrho)) Q →
      zRn d 47 (16, [.ref 17, .int (nI num), .int (nI y), .int (nI s), .int (nI j)], [], (49, x, l, σ, τ, zrho)) Q := by
    intro s hs1 hs2 m
    induction m with
    | zero =>
      intro j num y hj hl hm hk
      refine zv47_16 ⟨vp_in_nI (by omega) (by decide), fun _ => ?_, fun q => ?_⟩
      · rw [Nat.zero_mul, Nat.sub_zero] at hk
        exact hk
      · rw [nI_clamp (by omega), h22 s hs1 hs2] at q
        have := cl s hs1 hs2
        simp (disch := omega) only [nI_leI] at q
        omega
    | succ m ih =>
      intro j num y hj hl hm hk
      rw [Nat.succ_mul] at hm hk
      have := cl s hs1 hs2
      refine zv47_16 ⟨vp_in_nI (by omega) (by decide), fun q => ?_, fun _ => ⟨fun q => ?_, fun _ => ?_⟩⟩
      · rw [nI_clamp (by omega), h22 s hs1 hs2] at q
        simp (disch := omega) only [nI_leI] at q
        omega
      · simp (disch := omega) only [nI_ltI] at q
        omega
      · have e1 : nI y * 19 + nI s - 1 = nI (y * 19 + (s - 1)) := by
          rw [show (19 : Int32) = nI 19 from rfl, show (1 : Int32) = nI 1 from rfl, pk_mul, nI_add, pk_sub (by omega)]
          congr 1
          omega
        rw [e1, nI_clamp (by omega), h18 (s - 1) y (by omega) hl, nI_add, pk_sub (show s ≤ y by omega), nI_1]
        refine ⟨vp_in_nI (by omega) (by decide), ?_⟩
        refine ih (j + 1) (num + Pt (s - 1) y) (y - s) (by omega) (by omega) (by omega) ?_
        rw [show num + Pt (s - 1) y + rkI s m (y - s) = num + rkI s (m + 1) y from Nat.add_assoc _ _ _, show y - s - m * s = y - (m * s + s) by omega]
        exact hk
  have outer : ∀ s num y, s ≤ 16 → y ≤ 18 → tot c s ≤ y → num + rk c s y = rk c 16 18 → zRn d 47 (8, [.ref 17, .int (nI num), .int (nI y), .int (nI s), zJ], [], (49, x, l, σ, τ, zrho)) Q := by
    intro s
    induction s with
    | zero =>
      intro num y hs hl ht he
      refine zv47_8 ⟨fun _ => ?_, fun q => absurd (by decide) q⟩
      have he : num + 0 = rk c 16 18 := he
      rw [show num = rk c 16 18 by omega]
      exact hq
    | succ s ih =>
      intro num y hs hl ht he
      have ht : tot c s + c (s + 1) * (s + 1) ≤ y := ht
      refine zv47_8 ⟨fun q => ?_, fun _ => ?_⟩
      · simp (disch := omega) only [zlit, nI_leI, nI_ltI, nI_eq, nI_clamp, nI_add, pk_mul, pk_sub, pk_div] at q; omega
      · refine inner (s + 1) (by omega) hs (c (s + 1)) 0 num y (by omega) hl (by omega) ?_
        rw [pk_m1]
        refine ih _ _ (by omega) (by omega) (by omega) ?_
        rw [Nat.add_assoc]
        exact he
  unfold smOk at hc
  exact zv47_0 (outer 16 0 18 (by omega) (by omega) hc (by omega))
