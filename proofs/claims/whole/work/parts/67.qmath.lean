/-! classes of sums that no test tells apart -/
def eqF (w : Nat → Nat → Bool) : Nat → Nat → Nat → Bool
  | 0, _, _ => true
  | n + 1, j, k => eqF w n j k && (w j n == w k n)
theorem eqF_iff {w : Nat → Nat → Bool} {j k : Nat} : ∀ n, eqF w n j k = true ↔ ∀ t, t < n → w j t = w k t := by
  intro n
  induction n with
  | zero => exact ⟨fun _ t h => absurd h (by omega), fun _ => rfl⟩
  | succ n ih =>
    show (eqF w n j k && (w j n == w k n)) = true ↔ _
    rw [Bool.and_eq_true, ih, beq_iff_eq]
    refine ⟨fun ⟨a, b⟩ t ht => ?_, fun a => ⟨fun t ht => a t (by omega), a n (by omega)⟩⟩
    by_cases c : t = n
    · rw [c]; exact b
    · exact a t (by omega)
/-- a relation that is an equality of something -/
def eqv (e : Nat → Nat → Bool) : Prop := ∀ i j k, e i j = true → e j k = true → e i k = true
theorem eqF_eqv (w : Nat → Nat → Bool) (n : Nat) : eqv (eqF w n) := by
  intro i j k h1 h2
  rw [eqF_iff] at h1 h2 ⊢
  exact fun t ht => (h1 t ht).trans (h2 t ht)
/-- the first before m that is like k -/
def ll (e : Nat → Nat → Bool) (k : Nat) : Nat → Option Nat
  | 0 => none
  | m + 1 => match ll e k m with
    | some j => some j
    | none => bif e m k then some m else none
theorem ll_S (e : Nat → Nat → Bool) (k m : Nat) : (∀ j, ll e k m = some j → ll e k (m + 1) = some j) ∧ (ll e k m = none → ll e k (m + 1) = bif e m k then some m else none) := by
  refine ⟨fun j h => ?_, fun h => ?_⟩
  · show (match ll e k m with | some j => some j | none => bif e m k then some m else none) = _
    rw [h]
  · show (match ll e k m with | some j => some j | none => bif e m k then some m else none) = _
    rw [h]
theorem ll_sp (e : Nat → Nat → Bool) (k : Nat) : ∀ m, (∀ j, ll e k m = some j → j < m ∧ e j k = true ∧ ∀ i, i < j → e i k = false) ∧ (ll e k m = none → ∀ j, j < m → e j k = false) := by
  intro m
  induction m with
  | zero => exact ⟨fun j h => (by cases h), fun _ j h => absurd h (by omega)⟩
  | succ m ih =>
    have hS := ll_S e k m
    cases hl : ll e k m with
    | some j0 =>
      have h1 := hS.1 j0 hl
      refine ⟨fun j h => ?_, fun h => by rw [h1] at h; cases h⟩
      rw [h1] at h
      cases h
      have := ih.1 j0 hl
      exact ⟨by omega, this.2⟩
    | none =>
      have h1 := hS.2 hl
      have h2 := ih.2 hl
      cases he : e m k with
      | true =>
        rw [he] at h1
        refine ⟨fun j h => ?_, fun h => by rw [h1] at h; cases h⟩
        rw [h1] at h
        have h : some m = some j := h
        cases h
        exact ⟨by omega, he, h2⟩
      | false =>
        rw [he] at h1
        refine ⟨fun j h => (by rw [h1] at h; cases h), fun _ j hj => ?_⟩
        by_cases c : j = m
        · rw [c]; exact he
        · exact h2 j (by omega)
/-- how many kinds stand before k, and the kind of k -/
def cn (e : Nat → Nat → Bool) : Nat → Nat
  | 0 => 0
  | k + 1 => cn e k + match ll e k k with
    | none => 1
    | some _ => 0
def cl (e : Nat → Nat → Bool) (k : Nat) : Nat := match ll e k k with
  | none => cn e k
  | some j => cn e j
theorem cn_n {e : Nat → Nat → Bool} {k : Nat} (h : ll e k k = none) : cn e (k + 1) = cn e k + 1 := by
  show cn e k + (match ll e k k with | none => 1 | some _ => 0) = _
  rw [h]
theorem cn_s {e : Nat → Nat → Bool} {k j : Nat} (h : ll e k k = some j) : cn e (k + 1) = cn e k := by
  show cn e k + (match ll e k k with | none => 1 | some _ => 0) = _
  rw [h]
  rfl
theorem cl_n {e : Nat → Nat → Bool} {k : Nat} (h : ll e k k = none) : cl e k = cn e k := by
  show (match ll e k k with | none => cn e k | some j => cn e j) = _
  rw [h]
theorem cl_s {e : Nat → Nat → Bool} {k j : Nat} (h : ll e k k = some j) : cl e k = cn e j := by
  show (match ll e k k with | none => cn e k | some j => cn e j) = _
  rw [h]
theorem cn_up (e : Nat → Nat → Bool) (k : Nat) : cn e k ≤ cn e (k + 1) ∧ cn e (k + 1) ≤ cn e k + 1 := by
  cases h : ll e k k with
  | none => rw [cn_n h]; omega
  | some j => rw [cn_s h]; omega
theorem cn_mono (e : Nat → Nat → Bool) {j : Nat} : ∀ k, j ≤ k → cn e j ≤ cn e k := by
  intro k
  induction k with
  | zero => intro h; rw [show j = 0 by omega]; exact Nat.le_refl _
  | succ k ih =>
    intro h
    by_cases c : j = k + 1
    · rw [c]; exact Nat.le_refl _
    · exact Nat.le_trans (ih (by omega)) (cn_up e k).1
theorem cn_lt {e : Nat → Nat → Bool} {j k : Nat} (h : ll e j j = none) (hk : j < k) : cn e j < cn e k := by
  have := cn_mono e (j := j + 1) k (by omega)
  rw [cn_n h] at this
  omega
theorem cn_le (e : Nat → Nat → Bool) : ∀ k, cn e k ≤ k := by
  intro k
  induction k with
  | zero => exact Nat.le_refl 0
  | succ k ih => have := (cn_up e k).2; omega
theorem cn_surj (e : Nat → Nat → Bool) : ∀ k c, c < cn e k → ∃ j, j < k ∧ ll e j j = none ∧ cn e j = c := by
  intro k
  induction k with
  | zero => intro c h; exact absurd h (Nat.not_lt_zero _)
  | succ k ih =>
    intro c h
    by_cases w : c < cn e k
    · obtain ⟨j, j1, j2, j3⟩ := ih c w
      exact ⟨j, by omega, j2, j3⟩
    · cases hl : ll e k k with
      | none => rw [cn_n hl] at h; exact ⟨k, by omega, hl, by omega⟩
      | some j => rw [cn_s hl] at h; omega
theorem ll_first {e : Nat → Nat → Bool} (he : eqv e) {k j : Nat} (h : ll e k k = some j) : ll e j j = none := by
  have h1 := (ll_sp e k k).1 j h
  cases h2 : ll e j j with
  | none => rfl
  | some i =>
    have h3 := (ll_sp e j j).1 i h2
    have := he i j k h3.2.1 h1.2.1
    rw [h1.2.2 i h3.1] at this
    cases this
theorem cl_lt {e : Nat → Nat → Bool} (he : eqv e) (k : Nat) : cl e k < cn e (k + 1) := by
  cases h : ll e k k with
  | none => rw [cl_n h, cn_n h]; omega
  | some j =>
    rw [cl_s h, cn_s h]
    exact cn_lt (ll_first he h) ((ll_sp e k k).1 j h).1
/-- no sum before the first of a kind is of this kind -/
theorem cl_first {e : Nat → Nat → Bool} (he : eqv e) {j k : Nat} (hk : k < j) : cl e k ≠ cn e j := by
  have h1 := cl_lt he k
  have h2 := cn_mono e (j := k + 1) j hk
  omega
def nin (e : Nat → Nat → Bool) (c : Nat) : Nat → Nat
  | 0 => 0
  | k + 1 => nin e c k + if cl e k = c then 1 else 0
theorem nin_le (e : Nat → Nat → Bool) (c : Nat) : ∀ k, nin e c k ≤ k := by
  intro k
  induction k with
  | zero => exact Nat.le_refl 0
  | succ k ih =>
    show nin e c k + (if cl e k = c then 1 else 0) ≤ k + 1
    split <;> omega
theorem nin_0 {e : Nat → Nat → Bool} (he : eqv e) : ∀ k, nin e (cn e k) k = 0 := by
  intro k
  have : ∀ m, m ≤ k → nin e (cn e k) m = 0 := by
    intro m
    induction m with
    | zero => intro _; rfl
    | succ m ih =>
      intro h
      show nin e (cn e k) m + (if cl e m = cn e k then 1 else 0) = 0
      rw [ih (by omega), if_neg (cl_first he (by omega))]
  exact this k (Nat.le_refl _)
/-- the sums of up to four heaps of 1, 2, 3: how many of each -/
def trs : List (Nat × Nat × Nat) := [(0, 0, 0), (1, 0, 0), (0, 1, 0), (0, 0, 1), (2, 0, 0), (1, 1, 0), (1, 0, 1), (0, 2, 0), (0, 1, 1), (0, 0, 2), (3, 0, 0), (2, 1, 0), (2, 0, 1), (1, 2, 0), (1, 1, 1), (1, 0, 2), (0, 3, 0), (0, 2, 1), (0, 1, 2), (0, 0, 3), (4, 0, 0), (3, 1, 0), (3, 0, 1), (2, 2, 0), (2, 1, 1), (2, 0, 2), (1, 3, 0), (1, 2, 1), (1, 1, 2), (1, 0, 3), (0, 4, 0), (0, 3, 1), (0, 2, 2), (0, 1, 3), (0, 0, 4)]
def o1 (k : Nat) : Nat := (trs.getD k (0, 0, 0)).1
def o2 (k : Nat) : Nat := (trs.getD k (0, 0, 0)).2.1
def o3 (k : Nat) : Nat := (trs.getD k (0, 0, 0)).2.2
def inS (s k : Nat) : Bool := (decide (2 ≤ s) || o2 k == 0) && (decide (3 ≤ s) || o3 k == 0)
theorem inS_iff {s q : Nat} : inS s q = true ↔ (2 ≤ s ∨ o2 q = 0) ∧ (3 ≤ s ∨ o3 q = 0) := by
  unfold inS
  rw [Bool.and_eq_true, Bool.or_eq_true, Bool.or_eq_true, decide_eq_true_iff, decide_eq_true_iff, beq_iff_eq, beq_iff_eq]
def ix (s : Nat) : List Nat := (List.range 35).filter (inS s)
def ixd (s j : Nat) : Nat := (ix s).getD j 0
def nS (s : Nat) : Nat := (ix s).length
def tS (s : Nat) : Nat := ((List.range 10).filter (inS s)).length
def rkS (s q : Nat) : Nat := ((List.range q).filter (inS s)).length
def c3 (a b c : Nat) (k : Nat) : Nat := if k = 1 then a else if k = 2 then b else if k = 3 then c else 0
theorem wsm_c3 (f : Nat → Nat) (a b c : Nat) : ∀ n, wsm f (c3 a b c) (n + 3) = a * f 1 + b * f 2 + c * f 3 := by
  intro n
  induction n with
  | zero =>
    show 0 + a * f 1 + b * f 2 + c * f 3 = _
    rw [Nat.zero_add]
  | succ n ih =>
    show wsm f (c3 a b c) (n + 3) + c3 a b c (n + 3 + 1) * f (n + 3 + 1) = _
    rw [ih, show c3 a b c (n + 3 + 1) = 0 by unfold c3; rw [if_neg (by omega), if_neg (by omega), if_neg (by omega)], Nat.zero_mul, Nat.add_zero]
theorem key_c3 (a b c : Nat) : keyN (c3 a b c) = a + b * 32 + c * 512 := by
  have h : wsm U (c3 a b c) 18 = _ := wsm_c3 U a b c 15
  rw [keyN_eq, h, show U 1 = 1 from rfl, show U 2 = 32 from rfl, show U 3 = 512 from rfl]
  omega
theorem tot_c3 (a b c : Nat) : tot (c3 a b c) 18 = a + b * 2 + c * 3 := by
  have h : wsm (fun k => k) (c3 a b c) 18 = _ := wsm_c3 (fun k => k) a b c 15
  rw [tot_w, h]
  omega
/-- a sum with a test added -/
def cq (j t : Nat) : Nat → Nat := c3 (o1 j + o1 t) (o2 j + o2 t) (o3 j + o3 t)
def kq (j : Nat) : Nat := o1 j + o2 j * 32 + o3 j * 512
theorem cq_ok : ∀ j, j < 35 → ∀ t, t < 10 → (o1 j + o1 t) + (o2 j + o2 t) * 2 + (o3 j + o3 t) * 3 ≤ 18 := by decide +kernel
theorem cq_tot {j t : Nat} (hj : j < 35) (ht : t < 10) : tot (cq j t) 18 ≤ 18 := by
  unfold cq
  rw [tot_c3]
  exact cq_ok j hj t ht
theorem cq_key (j t : Nat) : keyN (cq j t) = kq j + kq t := by
  unfold cq kq
  rw [key_c3]
  omega
theorem ix_sp : ∀ s, s < 4 → 1 ≤ s → ∀ j, j < nS s → ixd s j < 35 ∧ inS s (ixd s j) = true ∧ rkS s (ixd s j) = j ∧ (j < tS s ↔ ixd s j < 10) := by decide +kernel
theorem ix_rk : ∀ s, s < 4 → 1 ≤ s → ∀ q, q < 35 → inS s q = true → rkS s q < nS s ∧ ixd s (rkS s q) = q := by decide +kernel
theorem ix_n : ∀ s, s < 4 → 1 ≤ s → nS s ≤ 35 ∧ tS s ≤ 10 ∧ 1 ≤ tS s ∧ tS s ≤ nS s ∧ rkS s 35 = nS s ∧ rkS s 10 = tS s ∧ ixd s 0 = 0 := by decide +kernel
theorem rk_S (s q : Nat) : rkS s (q + 1) = rkS s q + if inS s q = true then 1 else 0 := by
  unfold rkS
  rw [List.range_succ, List.filter_append, List.length_append]
  congr 1
  cases h : inS s q with
  | true => rw [List.filter_cons_of_pos h]; rfl
  | false => rw [List.filter_cons_of_neg (by rw [h]; decide)]; rfl
/-- numbers out of answers: the reference's and the class's -/
def frN (f : Nat → Bool) : Nat → Nat
  | 0 => 0
  | n + 1 => 2 * frN f n + (f n).toNat
def fbN (f : Nat → Bool) : Nat → Nat
  | 0 => 0
  | n + 1 => fbN f n + (f n).toNat * 2 ^ n
theorem frN_lt (f : Nat → Bool) : ∀ n, frN f n < 2 ^ n := by
  intro n
  induction n with
  | zero => show 0 < 1; omega
  | succ n ih =>
    have : (f n).toNat ≤ 1 := by cases f n <;> decide
    show 2 * frN f n + (f n).toNat < 2 ^ (n + 1)
    rw [Nat.pow_succ]
    omega
theorem fbN_lt (f : Nat → Bool) : ∀ n, fbN f n < 2 ^ n := by
  intro n
  induction n with
  | zero => show 0 < 1; omega
  | succ n ih =>
    have : (f n).toNat ≤ 1 := by cases f n <;> decide
    have h2 : (f n).toNat * 2 ^ n ≤ 1 * 2 ^ n := Nat.mul_le_mul_right _ this
    show fbN f n + (f n).toNat * 2 ^ n < 2 ^ (n + 1)
    rw [Nat.pow_succ]
    omega
theorem toNat_inj {a b : Bool} (h : a.toNat = b.toNat) : a = b := by cases a <;> cases b <;> first | rfl | cases h
theorem frN_eq {f g : Nat → Bool} : ∀ n, frN f n = frN g n ↔ ∀ t, t < n → f t = g t := by
  intro n
  induction n with
  | zero => exact ⟨fun _ t h => absurd h (by omega), fun _ => rfl⟩
  | succ n ih =>
    have h1 : (f n).toNat ≤ 1 := by cases f n <;> decide
    have h2 : (g n).toNat ≤ 1 := by cases g n <;> decide
    show 2 * frN f n + (f n).toNat = 2 * frN g n + (g n).toNat ↔ _
    constructor
    · intro h t ht
      by_cases c : t = n
      · rw [c]; exact toNat_inj (by omega)
      · exact ih.1 (by omega) t (by omega)
    · intro h
      rw [ih.2 (fun t ht => h t (by omega)), h n (by omega)]
theorem fbN_eq {f g : Nat → Bool} : ∀ n, fbN f n = fbN g n ↔ ∀ t, t < n → f t = g t := by
  intro n
  induction n with
  | zero => exact ⟨fun _ t h => absurd h (by omega), fun _ => rfl⟩
  | succ n ih =>
    have h1 := fbN_lt f n
    have h2 := fbN_lt g n
    show fbN f n + (f n).toNat * 2 ^ n = fbN g n + (g n).toNat * 2 ^ n ↔ _
    constructor
    · intro h
      have e : f n = g n := by
        cases a : f n <;> cases b : g n <;> rw [a, b] at h
        · have h : fbN f n + 0 * 2 ^ n = fbN g n + 1 * 2 ^ n := h
          omega
        · have h : fbN f n + 1 * 2 ^ n = fbN g n + 0 * 2 ^ n := h
          omega
      rw [e] at h
      intro t ht
      by_cases c : t = n
      · rw [c]; exact e
      · exact ih.1 (by omega) t (by omega)
    · intro h
      rw [ih.2 (fun t ht => h t (by omega)), h n (by omega)]
/-- the heaps of a sum, in order -/
def hqd (q i : Nat) : Nat := if i < o1 q then 1 else if i < o1 q + o2 q then 2 else if i < o1 q + o2 q + o3 q then 3 else 0
def MD (s : Nat) (r : Nat → Int32) : Prop := ∀ j, j < nS s → ∀ i, i < 4 → r (4 * j + i) = nI (hqd (ixd s j) i)
theorem hqd_key : ∀ q, q < 35 → unN (hqd q 0) + unN (hqd q 1) + unN (hqd q 2) + unN (hqd q 3) = kq q := by decide +kernel
theorem hqd_le : ∀ q, q < 35 → ∀ i, i < 4 → hqd q i ≤ 3 := by decide +kernel
def qOf (a b c : Nat) : Nat := ((List.range 35).filter (fun q => o1 q == a && o2 q == b && o3 q == c)).getD 0 35
def qOb (a b c : Nat) : Bool := Nat.ble 5 (a + b + c) || (Nat.blt (qOf a b c) 35 && (Nat.beq (o1 (qOf a b c)) a && (Nat.beq (o2 (qOf a b c)) b && Nat.beq (o3 (qOf a b c)) c)))
theorem qOb_ok : ∀ a, a < 5 → ∀ b, b < 5 → ∀ c, c < 5 → qOb a b c = true := by decide +kernel
theorem qOf_ok (a : Nat) (ha : a < 5) (b : Nat) (hb : b < 5) (c : Nat) (hc : c < 5) (h : a + b + c ≤ 4) : qOf a b c < 35 ∧ o1 (qOf a b c) = a ∧ o2 (qOf a b c) = b ∧ o3 (qOf a b c) = c := by
  have := qOb_ok a ha b hb c hc
  unfold qOb at this
  rw [Bool.or_eq_true, Bool.and_eq_true, Bool.and_eq_true, Bool.and_eq_true, Nat.ble_eq, Nat.blt_eq, Nat.beq_eq, Nat.beq_eq, Nat.beq_eq] at this
  rcases this with w | w
  · omega
  · exact w
theorem o_sum : ∀ q, q < 35 → o1 q + o2 q + o3 q ≤ 4 := by decide +kernel
theorem o_uni : ∀ q, q < 35 → qOf (o1 q) (o2 q) (o3 q) = q := by decide +kernel
theorem hqd_3 : ∀ q, q < 35 → (hqd q 3 = 0 ↔ o1 q + o2 q + o3 q < 4) := by decide +kernel
/-- the sum in play is one of the quotient's -/
def CO (s : Nat) (hp : Nat → Nat) (q : Nat) : Prop := q < 35 ∧ o1 q = ch hp 16 1 ∧ o2 q = ch hp 16 2 ∧ o3 q = ch hp 16 3 ∧ (2 ≤ s ∨ o2 q = 0) ∧ (3 ≤ s ∨ o3 q = 0) ∧ ∀ k, k < 16 → hp k ≤ 3
/-- a heap of z added -/
def AZ (s q z q' : Nat) : Prop := q' < 35 ∧ o1 q' = o1 q + one1 z 1 ∧ o2 q' = o2 q + one1 z 2 ∧ o3 q' = o3 q + one1 z 3 ∧ (2 ≤ s ∨ o2 q' = 0) ∧ (3 ≤ s ∨ o3 q' = 0)
def nz (hp : Nat → Nat) : Nat → Nat
  | 0 => 0
  | n + 1 => nz hp n + if hp n = 0 then 0 else 1
theorem nz_le (hp : Nat → Nat) : ∀ n, nz hp n ≤ n := by
  intro n
  induction n with
  | zero => exact Nat.le_refl 0
  | succ n ih =>
    show nz hp n + (if hp n = 0 then 0 else 1) ≤ n + 1
    split <;> omega
theorem one1_le (a b : Nat) : one1 a b ≤ 1 := by unfold one1; split <;> omega
theorem ch_le (hp : Nat → Nat) (k : Nat) : ∀ n, ch hp n k ≤ n := by
  intro n
  induction n with
  | zero => exact Nat.le_refl 0
  | succ n ih =>
    have := one1_le (hp n) k
    show ch hp n k + one1 (hp n) k ≤ n + 1
    omega
theorem ch_three {hp : Nat → Nat} : ∀ n, (∀ k, k < n → hp k ≤ 3) → nz hp n = ch hp n 1 + ch hp n 2 + ch hp n 3 ∧ ksh hp n = ch hp n 1 + ch hp n 2 * 32 + ch hp n 3 * 512 := by
  intro n
  induction n with
  | zero =>
    intro _
    have c0 : ∀ k, ch hp 0 k = 0 := fun _ => rfl
    rw [c0, c0, c0]
    exact ⟨rfl, rfl⟩
  | succ n ih =>
    intro h
    have hn := h n (by omega)
    obtain ⟨a, b⟩ := ih (fun k hk => h k (by omega))
    have key : ∀ v, v ≤ 3 → (if v = 0 then 0 else 1) = one1 v 1 + one1 v 2 + one1 v 3 ∧ unN v = one1 v 1 + one1 v 2 * 32 + one1 v 3 * 512 := by
      intro v hv
      exact (by decide +kernel : ∀ v, v < 4 → (if v = 0 then 0 else 1) = one1 v 1 + one1 v 2 + one1 v 3 ∧ unN v = one1 v 1 + one1 v 2 * 32 + one1 v 3 * 512) v (by omega)
    have := key (hp n) hn
    show nz hp n + (if hp n = 0 then 0 else 1) = (ch hp n 1 + one1 (hp n) 1) + (ch hp n 2 + one1 (hp n) 2) + (ch hp n 3 + one1 (hp n) 3) ∧ ksh hp n + unN (hp n) = (ch hp n 1 + one1 (hp n) 1) + (ch hp n 2 + one1 (hp n) 2) * 32 + (ch hp n 3 + one1 (hp n) 3) * 512
    rw [a, b, this.1, this.2]
    omega
theorem ch_pos {hp : Nat → Nat} {k : Nat} : ∀ n, k < n → 1 ≤ ch hp n (hp k) := by
  intro n
  induction n with
  | zero => intro h; omega
  | succ n ih =>
    intro h
    show 1 ≤ ch hp n (hp k) + one1 (hp n) (hp k)
    by_cases c : k = n
    · subst c
      unfold one1
      rw [if_pos rfl]
      omega
    · have := ih (by omega); omega
theorem co_le {s q : Nat} {hp : Nat → Nat} (h : CO s hp q) (h1 : 1 ≤ s) : (∀ k, k < 16 → hp k ≤ s) ∧ nz hp 16 ≤ 4 := by
  obtain ⟨a1, a2, a3, a4, a5, a6, a7⟩ := h
  refine ⟨fun k hk => ?_, ?_⟩
  · have h7 := a7 k hk
    have hp1 := ch_pos (hp := hp) 16 hk
    rcases (show hp k ≤ 1 ∨ hp k = 2 ∨ hp k = 3 by omega) with w | w | w
    · omega
    · rw [w, ← a3] at hp1; omega
    · rw [w, ← a4] at hp1; omega
  · have := o_sum q a1
    rw [(ch_three 16 a7).1]
    omega
theorem co_ex {s : Nat} {hp : Nat → Nat} (h3 : s ≤ 3) (h : ∀ k, k < 16 → hp k ≤ s) (hn : nz hp 16 ≤ 4) : ∃ q, CO s hp q := by
  have h7 : ∀ k, k < 16 → hp k ≤ 3 := fun k hk => Nat.le_trans (h k hk) h3
  have e := (ch_three 16 h7).1
  obtain ⟨b1, b2, b3, b4⟩ := qOf_ok (ch hp 16 1) (by omega) (ch hp 16 2) (by omega) (ch hp 16 3) (by omega) (by omega)
  refine ⟨_, b1, b2, b3, b4, ?_, ?_, h7⟩
  · rw [b3]
    by_cases w : 2 ≤ s
    · exact Or.inl w
    · exact Or.inr (ch_0 16 (fun j hj => by have := h j hj; omega))
  · rw [b4]
    by_cases w : 3 ≤ s
    · exact Or.inl w
    · exact Or.inr (ch_0 16 (fun j hj => by have := h j hj; omega))
theorem co_key {s q : Nat} {hp : Nat → Nat} (h : CO s hp q) : ksh hp 16 = kq q := by
  obtain ⟨a1, a2, a3, a4, a5, a6, a7⟩ := h
  unfold kq
  rw [(ch_three 16 a7).2, a2, a3, a4]
theorem one1_sp : ∀ z, z < 4 → 1 ≤ z → one1 z 1 + one1 z 2 + one1 z 3 = 1 ∧ unN z = one1 z 1 + one1 z 2 * 32 + one1 z 3 * 512 ∧ (one1 z 2 = 1 ↔ z = 2) ∧ (one1 z 3 = 1 ↔ z = 3) := by decide +kernel
theorem az_no {s q z q' : Nat} (h1 : 1 ≤ z) (h3 : z ≤ 3) (hs : 1 ≤ s) (h : AZ s q z q') : z ≤ s ∧ o1 q + o2 q + o3 q < 4 ∧ kq q' = kq q + unN z := by
  obtain ⟨a1, a2, a3, a4, a5, a6⟩ := h
  have ho := o_sum q' a1
  have hz := one1_sp z (by omega) h1
  have l2 := one1_le z 2
  have l3 := one1_le z 3
  refine ⟨?_, by omega, ?_⟩
  · rcases (show z = 1 ∨ z = 2 ∨ z = 3 by omega) with w | w | w
    · omega
    · have := hz.2.2.1.2 w; omega
    · have := hz.2.2.2.2 w; omega
  · unfold kq
    rw [hz.2.1, a2, a3, a4]
    omega
theorem az_ex {s q z : Nat} (h1 : 1 ≤ z) (h3 : z ≤ 3) (hz : z ≤ s) (ho : o1 q + o2 q + o3 q < 4) (hi : (2 ≤ s ∨ o2 q = 0) ∧ (3 ≤ s ∨ o3 q = 0)) : ∃ q', AZ s q z q' := by
  have hz1 := one1_sp z (by omega) h1
  have l1 := one1_le z 1
  have l2 := one1_le z 2
  have l3 := one1_le z 3
  obtain ⟨b1, b2, b3, b4⟩ := qOf_ok (o1 q + one1 z 1) (by omega) (o2 q + one1 z 2) (by omega) (o3 q + one1 z 3) (by omega) (by omega)
  refine ⟨_, b1, b2, b3, b4, ?_, ?_⟩ <;> omega
