/-! rules, options -/
abbrev zRu : Type := Nat × (Nat → Nat) × (Nat → Bool) × (Nat → Nat → Nat → Bool)
abbrev zO : Type := Nat × Nat × Nat
def kd (u : zRu) : Nat := u.1
def dg (u : zRu) : Nat → Nat := u.2.1
def nb (u : zRu) : Nat → Bool := u.2.2.1
def en (u : zRu) : Nat → Nat → Nat → Bool := u.2.2.2
/-- rules as they can be -/
def zRok (u : zRu) : Prop := kd u ≤ 4 ∧ (∀ k, dg u k ≤ 15) ∧ ∀ f a b, en u f a b = true → a ≤ b ∧ b < f ∧ f ≤ 64 ∧ a + b ≤ f
def may (u : zRu) (h t n : Nat) : Bool :=
  ((n == 0) == (t == 0)) && (Nat.ble n t && (match kd u with
    | 0 => Nat.ble 1 (h - t) && (Nat.ble (h - t) 12 && (dg u (h - t)).testBit n)
    | 1 => Nat.ble 1 (h - t) && (Nat.ble (h - t) 64 && (nb u (h - t) && Nat.blt n 2))
    | 2 => h == t && n == 2
    | 3 => h == t && n == 2
    | _ => Nat.ble 1 h && (Nat.ble h 64 && Nat.blt n 3)))
def isO (u : zRu) (h : Nat) (o : zO) : Bool := match kd u with
  | 0 => true
  | 1 => true
  | 2 => true
  | 3 => !(o.2.1 == o.2.2)
  | _ => en u h o.2.1 o.2.2
/-- the ways: t counters as n heaps -/
def row2 (t : Nat) : Nat → List zO
  | 0 => []
  | k + 1 => row2 t k ++ [(0, k + 1, t - (k + 1))]
def row3 (t a : Nat) : Nat → List zO
  | 0 => []
  | k + 1 => row3 t a k ++ [(a, a + k, t - a - (a + k))]
def rows3 (t : Nat) : Nat → List zO
  | 0 => []
  | k + 1 => rows3 t k ++ row3 t (k + 1) ((t - (k + 1)) / 2 - (k + 1) + 1)
def grp (t : Nat) : Nat → List zO
  | 0 => [(0, 0, 0)]
  | 1 => [(0, 0, t)]
  | 2 => row2 t (t / 2)
  | _ => rows3 t (t / 3)
def G (u : zRu) (h t n : Nat) : List zO := bif may u h t n then (grp t n).filter (isO u h) else []
def gO (u : zRu) (h t : Nat) : List zO := G u h t 0 ++ (G u h t 1 ++ (G u h t 2 ++ G u h t 3))
def oF (u : zRu) (h : Nat) : Nat → List zO
  | 0 => gO u h 0
  | t + 1 => gO u h (t + 1) ++ oF u h t
def opts (u : zRu) (h : Nat) : List zO := oF u h h
/-- a code with an eight -/
def any8 (u : zRu) : Nat → Bool
  | 0 => false
  | k + 1 => any8 u k || Nat.ble 8 (dg u (k + 1))
def has8 (u : zRu) : Bool := kd u == 0 && any8 u 12
theorem any8_of {u : zRu} : ∀ {n k : Nat}, 1 ≤ k → k ≤ n → 8 ≤ dg u k → any8 u n = true := by
  intro n
  induction n with
  | zero => intro k h1 h2; omega
  | succ n ih =>
    intro k h1 h2 h3
    show (any8 u n || Nat.ble 8 (dg u (n + 1))) = true
    by_cases c : k = n + 1
    · subst c; rw [Nat.ble_eq_true_of_le h3, Bool.or_true]
    · rw [ih h1 (by omega) h3, Bool.true_or]
theorem tb3 {m : Nat} (h : m ≤ 15) : m.testBit 3 = Nat.ble 8 m := by
  have : ∀ m, m < 16 → m.testBit 3 = Nat.ble 8 m := by decide
  exact this m (by omega)
theorem may3 {u : zRu} (hu : zRok u) {h t : Nat} (hm : may u h t 3 = true) : has8 u = true := by
  unfold may at hm
  unfold has8
  rw [Bool.and_eq_true, Bool.and_eq_true] at hm
  obtain ⟨_, _, hm⟩ := hm
  have h4 := hu.1
  cases hk : kd u with
  | zero =>
    rw [hk] at hm
    simp only [Bool.and_eq_true] at hm
    obtain ⟨h1, h2, h3⟩ := hm
    have h1 := Nat.le_of_ble_eq_true h1
    have h2 := Nat.le_of_ble_eq_true h2
    rw [tb3 (hu.2.1 _)] at h3
    rw [any8_of h1 h2 (Nat.le_of_ble_eq_true h3)]
    rfl
  | succ k =>
    rw [hk] at hm h4
    have h5 : k = 0 ∨ k = 1 ∨ k = 2 ∨ k = 3 := by omega
    rcases h5 with h5 | h5 | h5 | h5 <;> subst h5 <;> exfalso <;> revert hm <;> simp [Nat.blt]
theorem may_le {u : zRu} {h t n : Nat} (hm : may u h t n = true) : n ≤ t := by
  unfold may at hm
  rw [Bool.and_eq_true, Bool.and_eq_true] at hm
  exact Nat.le_of_ble_eq_true hm.2.1
theorem may_0 {u : zRu} {h t n : Nat} (hm : may u h t n = true) : n = 0 ↔ t = 0 := by
  unfold may at hm
  rw [Bool.and_eq_true] at hm
  have := hm.1
  rw [beq_iff_eq] at this
  constructor
  · intro c; rw [c] at this; exact of_decide_eq_true this.symm
  · intro c; rw [c] at this; exact of_decide_eq_true this
