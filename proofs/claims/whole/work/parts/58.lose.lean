/-! who wins when the last one to move loses -/
/-- counters, heaps, and how long play can last, of a sum given by how many heaps of each size it has -/
def tot (c : Nat → Nat) : Nat → Nat
  | 0 => 0
  | k + 1 => tot c k + c (k + 1) * (k + 1)
def nhs (c : Nat → Nat) : Nat → Nat
  | 0 => 0
  | k + 1 => nhs c k + c (k + 1)
def ms (c : Nat → Nat) : Nat → Nat
  | 0 => 0
  | k + 1 => ms c k + c (k + 1) * (2 * k + 1)
def one1 (h k : Nat) : Nat := if k = h then 1 else 0
/-- a move: a heap of h becomes an option -/
def mv (c : Nat → Nat) (h : Nat) (o : zO) (k : Nat) : Nat := c k - one1 h k + one1 o.1 k + one1 o.2.1 k + one1 o.2.2 k
def isMv (u : zRu) (c : Nat → Nat) (h : Nat) (o : zO) : Prop := 1 ≤ h ∧ h ≤ 18 ∧ 0 < c h ∧ o ∈ opts u h
theorem ms_cong {c c' : Nat → Nat} : ∀ n, (∀ k, 1 ≤ k → k ≤ n → c k = c' k) → ms c n = ms c' n := by
  intro n
  induction n with
  | zero => intro _; rfl
  | succ n ih =>
    intro h
    show ms c n + c (n + 1) * (2 * n + 1) = ms c' n + c' (n + 1) * (2 * n + 1)
    rw [ih (fun k h1 h2 => h k h1 (by omega)), h (n + 1) (by omega) (by omega)]
theorem tot_cong {c c' : Nat → Nat} : ∀ n, (∀ k, 1 ≤ k → k ≤ n → c k = c' k) → tot c n = tot c' n := by
  intro n
  induction n with
  | zero => intro _; rfl
  | succ n ih =>
    intro h
    show tot c n + c (n + 1) * (n + 1) = tot c' n + c' (n + 1) * (n + 1)
    rw [ih (fun k h1 h2 => h k h1 (by omega)), h (n + 1) (by omega) (by omega)]
theorem nhs_cong {c c' : Nat → Nat} : ∀ n, (∀ k, 1 ≤ k → k ≤ n → c k = c' k) → nhs c n = nhs c' n := by
  intro n
  induction n with
  | zero => intro _; rfl
  | succ n ih =>
    intro h
    show nhs c n + c (n + 1) = nhs c' n + c' (n + 1)
    rw [ih (fun k h1 h2 => h k h1 (by omega)), h (n + 1) (by omega) (by omega)]
/-- weighed sums, all at once -/
def wsm (f : Nat → Nat) (c : Nat → Nat) : Nat → Nat
  | 0 => 0
  | k + 1 => wsm f c k + c (k + 1) * f (k + 1)
theorem tot_w (c : Nat → Nat) : ∀ n, tot c n = wsm (fun k => k) c n := by
  intro n
  induction n with
  | zero => rfl
  | succ n ih => show tot c n + _ = wsm _ c n + _; rw [ih]
theorem nhs_w (c : Nat → Nat) : ∀ n, nhs c n = wsm (fun _ => 1) c n := by
  intro n
  induction n with
  | zero => rfl
  | succ n ih => show nhs c n + c (n + 1) = wsm _ c n + c (n + 1) * 1; rw [ih, Nat.mul_one]
theorem ms_w (c : Nat → Nat) : ∀ n, ms c n = wsm (fun k => 2 * k - 1) c n := by
  intro n
  induction n with
  | zero => rfl
  | succ n ih => show ms c n + c (n + 1) * (2 * n + 1) = wsm _ c n + c (n + 1) * (2 * (n + 1) - 1); rw [ih, show 2 * (n + 1) - 1 = 2 * n + 1 by omega]
theorem wsm_add (f : Nat → Nat) {c a b : Nat → Nat} : ∀ n, (∀ k, 1 ≤ k → k ≤ n → c k = a k + b k) → wsm f c n = wsm f a n + wsm f b n := by
  intro n
  induction n with
  | zero => intro _; rfl
  | succ n ih =>
    intro h
    have h1 := ih (fun k h1 h2 => h k h1 (by omega))
    show wsm f c n + c (n + 1) * f (n + 1) = wsm f a n + a (n + 1) * f (n + 1) + (wsm f b n + b (n + 1) * f (n + 1))
    rw [h1, h (n + 1) (by omega) (by omega), Nat.add_mul]
    omega
theorem wsm_one (f : Nat → Nat) (h : Nat) : ∀ n, wsm f (one1 h) n = if 1 ≤ h ∧ h ≤ n then f h else 0 := by
  intro n
  induction n with
  | zero => rw [if_neg (by omega)]; rfl
  | succ n ih =>
    show wsm f (one1 h) n + one1 h (n + 1) * f (n + 1) = _
    rw [ih]
    unfold one1
    by_cases c : n + 1 = h
    · subst c; rw [if_neg (by omega), if_pos rfl, if_pos (by omega)]; omega
    · rw [if_neg c]
      by_cases c2 : 1 ≤ h ∧ h ≤ n
      · rw [if_pos c2, if_pos (by omega)]; omega
      · rw [if_neg c2, if_neg (by omega)]; omega
/-- what a move does to a weighed sum -/
theorem wsm_mv (f : Nat → Nat) {c : Nat → Nat} {h : Nat} {o : zO} {n : Nat} (h1 : 1 ≤ h) (h2 : h ≤ n) (h3 : 0 < c h) : wsm f (mv c h o) n + f h = wsm f c n + ((if 1 ≤ o.1 ∧ o.1 ≤ n then f o.1 else 0) + (if 1 ≤ o.2.1 ∧ o.2.1 ≤ n then f o.2.1 else 0) + (if 1 ≤ o.2.2 ∧ o.2.2 ≤ n then f o.2.2 else 0)) := by
  have e1 : wsm f c n = wsm f (fun k => c k - one1 h k) n + f h := by
    have := wsm_add f (c := c) (a := fun k => c k - one1 h k) (b := one1 h) n (fun k _ _ => by
      show c k = c k - one1 h k + one1 h k
      unfold one1
      split
      · rename_i e; subst e; omega
      · omega)
    rw [this, wsm_one, if_pos ⟨h1, h2⟩]
  have e2 : wsm f (mv c h o) n = wsm f (fun k => c k - one1 h k) n + wsm f (one1 o.1) n + wsm f (one1 o.2.1) n + wsm f (one1 o.2.2) n := by
    rw [wsm_add f (c := mv c h o) (a := fun k => c k - one1 h k + one1 o.1 k + one1 o.2.1 k) (b := one1 o.2.2) n (fun k _ _ => rfl), wsm_add f (c := fun k => c k - one1 h k + one1 o.1 k + one1 o.2.1 k) (a := fun k => c k - one1 h k + one1 o.1 k) (b := one1 o.2.1) n (fun k _ _ => rfl), wsm_add f (c := fun k => c k - one1 h k + one1 o.1 k) (a := fun k => c k - one1 h k) (b := one1 o.1) n (fun k _ _ => rfl)]
  rw [e2, wsm_one, wsm_one, wsm_one, e1]
  omega
theorem ms_mv {u : zRu} (hu : zRok u) {c : Nat → Nat} {h : Nat} {o : zO} {n : Nat} (hn : h ≤ n) (h1 : 1 ≤ h) (h3 : 0 < c h) (ho : o ∈ opts u h) : ms (mv c h o) n < ms c n := by
  have hb := opt_bd hu ho
  have := wsm_mv (fun k => 2 * k - 1) (o := o) h1 hn h3
  rw [ms_w, ms_w]
  split at this <;> split at this <;> split at this <;> omega
theorem tot_mv {u : zRu} (hu : zRok u) {c : Nat → Nat} {h : Nat} {o : zO} {n : Nat} (hn : h ≤ n) (h1 : 1 ≤ h) (h3 : 0 < c h) (ho : o ∈ opts u h) : tot (mv c h o) n ≤ tot c n := by
  have hb := opt_bd hu ho
  have := wsm_mv (fun k => k) (o := o) h1 hn h3
  rw [tot_w, tot_w]
  split at this <;> split at this <;> split at this <;> omega
/-- a move leaves fewer counters, or as many in more heaps -/
theorem lvl_mv {u : zRu} (hu : zRok u) {c : Nat → Nat} {h : Nat} {o : zO} {n : Nat} (hn : h ≤ n) (h1 : 1 ≤ h) (h3 : 0 < c h) (ho : o ∈ opts u h) : tot (mv c h o) n < tot c n ∨ (tot (mv c h o) n = tot c n ∧ nhs c n < nhs (mv c h o) n) := by
  have hb := opt_bd hu ho
  have e1 := wsm_mv (fun k => k) (o := o) h1 hn h3
  have e2 := wsm_mv (fun _ => 1) (o := o) h1 hn h3
  rw [tot_w, tot_w, nhs_w, nhs_w]
  have w1 : ∀ x, x ≤ n → (if 1 ≤ x ∧ x ≤ n then x else 0) = x := by
    intro x hx
    split <;> omega
  have w2 : ∀ x, x ≤ n → (if 1 ≤ x ∧ x ≤ n then 1 else 0) = if x = 0 then 0 else 1 := by
    intro x hx
    by_cases c0 : x = 0
    · rw [if_pos c0, if_neg (by omega)]
    · rw [if_neg c0, if_pos (by omega)]
  rw [w1 _ (by omega), w1 _ (by omega), w1 _ (by omega)] at e1
  rw [w2 _ (by omega), w2 _ (by omega), w2 _ (by omega)] at e2
  by_cases a : o.1 = 0
  · by_cases b : o.2.1 = 0
    · by_cases d : o.2.2 = 0
      · omega
      · omega
    · rw [if_neg b, if_neg (show ¬ o.2.2 = 0 by omega)] at e2
      have : (if o.1 = 0 then 0 else 1) ≤ 1 := by split <;> omega
      omega
  · rw [if_neg a, if_neg (show ¬ o.2.1 = 0 by omega), if_neg (show ¬ o.2.2 = 0 by omega)] at e2
    omega
theorem ms_tot (c : Nat → Nat) : ∀ n, ms c n + nhs c n = 2 * tot c n := by
  intro n
  induction n with
  | zero => rfl
  | succ n ih =>
    show ms c n + c (n + 1) * (2 * n + 1) + (nhs c n + c (n + 1)) = 2 * (tot c n + c (n + 1) * (n + 1))
    have : c (n + 1) * (2 * n + 1) + c (n + 1) = 2 * (c (n + 1) * (n + 1)) := by
      rw [show 2 * (c (n + 1) * (n + 1)) = c (n + 1) * (2 * (n + 1)) by rw [Nat.mul_left_comm], ← Nat.mul_succ]
      congr 1
    omega
/-- who moves wins: there is no move, or one to a sum where who moves loses -/
def wn (u : zRu) : Nat → (Nat → Nat) → Prop
  | 0, _ => False
  | n + 1, c => (∀ h o, ¬ isMv u c h o) ∨ ∃ h o, isMv u c h o ∧ ¬ wn u n (mv c h o)
theorem wn_fuel {u : zRu} (hu : zRok u) : ∀ n m c, ms c 18 < n → ms c 18 < m → (wn u n c ↔ wn u m c) := by
  intro n
  induction n with
  | zero => intro m c h; omega
  | succ n ih =>
    intro m c h1 h2
    obtain ⟨k, hk⟩ : ∃ k, m = k + 1 := ⟨m - 1, by omega⟩
    subst hk
    show ((∀ h o, ¬ isMv u c h o) ∨ ∃ h o, isMv u c h o ∧ ¬ wn u n (mv c h o)) ↔ ((∀ h o, ¬ isMv u c h o) ∨ ∃ h o, isMv u c h o ∧ ¬ wn u k (mv c h o))
    have e : ∀ h o, isMv u c h o → (wn u n (mv c h o) ↔ wn u k (mv c h o)) := by
      intro h o hm
      have := ms_mv hu (n := 18) hm.2.1 hm.1 hm.2.2.1 hm.2.2.2
      exact ih k _ (by omega) (by omega)
    constructor
    · intro q
      rcases q with q | ⟨h, o, q1, q2⟩
      · exact Or.inl q
      · exact Or.inr ⟨h, o, q1, fun w => q2 ((e h o q1).mpr w)⟩
    · intro q
      rcases q with q | ⟨h, o, q1, q2⟩
      · exact Or.inl q
      · exact Or.inr ⟨h, o, q1, fun w => q2 ((e h o q1).mp w)⟩
def Wn (u : zRu) (c : Nat → Nat) : Prop := wn u (ms c 18 + 1) c
theorem Wn_eq {u : zRu} (hu : zRok u) (c : Nat → Nat) : Wn u c ↔ (∀ h o, ¬ isMv u c h o) ∨ ∃ h o, isMv u c h o ∧ ¬ Wn u (mv c h o) := by
  unfold Wn
  show ((∀ h o, ¬ isMv u c h o) ∨ ∃ h o, isMv u c h o ∧ ¬ wn u (ms c 18) (mv c h o)) ↔ _
  have e : ∀ h o, isMv u c h o → (wn u (ms c 18) (mv c h o) ↔ wn u (ms (mv c h o) 18 + 1) (mv c h o)) := by
    intro h o hm
    have := ms_mv hu (n := 18) hm.2.1 hm.1 hm.2.2.1 hm.2.2.2
    exact wn_fuel hu _ _ _ (by omega) (by omega)
  constructor
  · intro q
    rcases q with q | ⟨h, o, q1, q2⟩
    · exact Or.inl q
    · exact Or.inr ⟨h, o, q1, fun w => q2 ((e h o q1).mpr w)⟩
  · intro q
    rcases q with q | ⟨h, o, q1, q2⟩
    · exact Or.inl q
    · exact Or.inr ⟨h, o, q1, fun w => q2 ((e h o q1).mp w)⟩
theorem mv_cong {c c' : Nat → Nat} {h : Nat} {o : zO} {n : Nat} (e : ∀ k, 1 ≤ k → k ≤ n → c k = c' k) : ∀ k, 1 ≤ k → k ≤ n → mv c h o k = mv c' h o k := by
  intro k h1 h2
  unfold mv
  rw [e k h1 h2]
theorem wn_cong {u : zRu} : ∀ n c c', (∀ k, 1 ≤ k → k ≤ 18 → c k = c' k) → (wn u n c → wn u n c') ∧ (wn u n c' → wn u n c) := by
  intro n
  induction n with
  | zero => intro c c' _; exact ⟨id, id⟩
  | succ n ih =>
    have half : ∀ c c', (∀ k, 1 ≤ k → k ≤ 18 → c k = c' k) → wn u (n + 1) c → wn u (n + 1) c' := by
      intro c c' e q
      have em : ∀ h o, isMv u c h o ↔ isMv u c' h o := by
        intro h o
        constructor
        · intro ⟨a, b, d, f⟩; exact ⟨a, b, by rw [← e h a b]; exact d, f⟩
        · intro ⟨a, b, d, f⟩; exact ⟨a, b, by rw [e h a b]; exact d, f⟩
      rcases q with q | ⟨h, o, q1, q2⟩
      · exact Or.inl (fun h o w => q h o ((em h o).mpr w))
      · exact Or.inr ⟨h, o, (em h o).mp q1, fun w => q2 ((ih _ _ (mv_cong e)).2 w)⟩
    intro c c' e
    exact ⟨half c c' e, half c' c (fun k a b => (e k a b).symm)⟩
theorem Wn_cong {u : zRu} {c c' : Nat → Nat} (e : ∀ k, 1 ≤ k → k ≤ 18 → c k = c' k) : Wn u c ↔ Wn u c' := by
  unfold Wn
  rw [ms_cong 18 e]
  exact ⟨(wn_cong _ _ _ e).1, (wn_cong _ _ _ e).2⟩
