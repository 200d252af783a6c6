/-! the class: rules -/
def CE (u : zRu) (t4 : Nat → Int64) : Prop := ∀ f a b, f ≤ 64 → a ≤ 32 → b ≤ 63 → zb (t4 (f * 33 + a)) b = en u f a b
def CR (u : zRu) (s1 s2 s3 : Nat → Int32) (t4 : Nat → Int64) : Prop := s1 0 = nI (kd u) ∧ (∀ k, k < 13 → s2 k = nI (dg u k)) ∧ (∀ k, k < 65 → s3 k = bI (nb u k)) ∧ CE u t4
theorem nI_T {n : Nat} (h : n < 2147483648) : (nI n).toInt = (n : Int) := nI_toInt h
theorem sp79 {d x l : Nat} {σ : Nat → Nat → Int32} {τ : Nat → Nat → Int64} {Q : zR → Prop} {u : zRu} {f a b : Nat} (hc : CR u (σ 1) (σ 2) (σ 3) (τ 4)) (hf : f ≤ 64) (ha : a ≤ 32) (hb : b ≤ 63) (hq : Q (.inl (some (.int (bI (en u f a b)))), (49, x, l, σ, τ, zrho))) :
    zRn d 79 (0, [.ref 1, .int (nI f), .int (nI a), .int (nI b)], [], (49, x, l, σ, τ, zrho)) Q := by
  have e : nI f * 33 + nI a = nI (f * 33 + a) := by rw [show (33 : Int32) = nI 33 from rfl, pk_mul, nI_add]
  refine zv79_0 ?_
  rw [e, nI_clamp (by omega), zb_tst (by omega), hc.2.2.2 f a b hf ha hb]
  refine ⟨vp_in_nI (by omega) (by decide), fun c => ?_, fun c => ?_⟩
  · rw [c] at hq; exact hq
  · rw [show en u f a b = true by simpa using c] at hq; exact hq
theorem sp81 {d x l : Nat} {σ : Nat → Nat → Int32} {τ : Nat → Nat → Int64} {Q : zR → Prop} {u : zRu} {w : Nat} (hc : CR u (σ 1) (σ 2) (σ 3) (τ 4))
    (hq1 : ∀ k, 1 ≤ k → k ≤ 12 → nI (dg u k) &&& nI w ≠ 0 → Q (.inl (some (.int (1))), (49, x, l, σ, τ, zrho))) (hq0 : (∀ k, 1 ≤ k → k ≤ 12 → nI (dg u k) &&& nI w = 0) → Q (.inl (some (.int (0))), (49, x, l, σ, τ, zrho))) :
    zRn d 81 (0, [.ref 1, .int (nI w), zJ], [], (49, x, l, σ, τ, zrho)) Q := by
  have key : ∀ n k, k + n = 12 → (∀ j, 1 ≤ j → j ≤ k → nI (dg u j) &&& nI w = 0) → zRn d 81 (2, [.ref 1, .int (nI w), .int (nI (k + 1))], [], (49, x, l, σ, τ, zrho)) Q := by
    intro n
    induction n with
    | zero =>
      intro k hk hj
      refine zv81_2 ⟨fun _ => hq0 (fun j h1 h2 => hj j h1 (by omega)), fun c => ?_⟩
      simp (disch := omega) only [zlit, nI_leI, nI_ltI, nI_eq, nI_clamp, nI_add, pk_mul, pk_sub, pk_div] at c; omega
    | succ n ih =>
      intro k hk hj
      refine zv81_2 ⟨fun c => ?_, fun c => ⟨vp_in_nI (by omega) (by decide), ?_⟩⟩
      · simp (disch := omega) only [zlit, nI_leI, nI_ltI, nI_eq, nI_clamp, nI_add, pk_mul, pk_sub, pk_div] at c; omega
      · rw [nI_clamp (by omega), hc.2.1 _ (by omega)]
        refine ⟨fun c2 => ?_, fun c2 => hq1 (k + 1) (by omega) (by omega) c2⟩
        rw [nI_1]
        refine ih (k + 1) (by omega) (fun j h1 h2 => ?_)
        by_cases e : j = k + 1
        · subst e; exact c2
        · exact hj j h1 (by omega)
  exact zv81_0 (key 12 0 rfl (fun j h1 h2 => by omega))
theorem z_and8 : ∀ m, m < 16 → (nI m &&& nI 8 = 0 ↔ m < 8) := by decide +kernel
theorem any8_f {u : zRu} : ∀ {n : Nat}, (∀ k, 1 ≤ k → k ≤ n → dg u k < 8) → any8 u n = false := by
  intro n
  induction n with
  | zero => intro _; rfl
  | succ n ih =>
    intro h
    show (any8 u n || Nat.ble 8 (dg u (n + 1))) = false
    rw [ih (fun k h1 h2 => h k h1 (by omega)), z_ble_f (h (n + 1) (by omega) (by omega))]; rfl
theorem sp84 {d x l : Nat} {σ : Nat → Nat → Int32} {τ : Nat → Nat → Int64} {Q : zR → Prop} {u : zRu} (hu : zRok u) (hc : CR u (σ 1) (σ 2) (σ 3) (τ 4)) (hq : Q (.inl (some (.int (bI (has8 u)))), (49, x, l, σ, τ, zrho))) :
    zRn (d + 1) 84 (0, [.ref 1], [], (49, x, l, σ, τ, zrho)) Q := by
  have h4 := hu.1
  unfold has8 at hq
  refine zv84_0 ?_
  rw [hc.1]
  refine ⟨fun c => ?_, fun c => ?_⟩
  · simp (disch := omega) only [zlit, nI_leI, nI_ltI, nI_eq, nI_clamp, nI_add, pk_mul, pk_sub, pk_div] at c
    rw [z_bne c] at hq; exact hq
  · simp (disch := omega) only [zlit, nI_leI, nI_ltI, nI_eq, nI_clamp, nI_add, pk_mul, pk_sub, pk_div] at c
    rw [show kd u = 0 by omega] at hq
    refine sp81 (u := u) (w := 8) hc (fun k h1 h2 h3 => ?_) (fun h => ?_)
    · refine zv84_13 ⟨fun c => absurd c (by decide), fun _ => ?_⟩
      have h5 : 8 ≤ dg u k := by
        have := hu.2.1 k
        have h6 := (z_and8 (dg u k) (by omega))
        by_cases c : dg u k < 8
        · exact absurd (h6.mpr c) h3
        · omega
      rw [any8_of h1 h2 h5] at hq; exact hq
    · refine zv84_13 ⟨fun _ => ?_, fun c => absurd rfl c⟩
      rw [any8_f (fun k h1 h2 => (z_and8 (dg u k) (by have := hu.2.1 k; omega)).mp (h k h1 h2))] at hq; exact hq
def far2 (u : zRu) : Nat := if has8 u = true then 200 else 2000
theorem sp85 {d x l : Nat} {σ : Nat → Nat → Int32} {τ : Nat → Nat → Int64} {Q : zR → Prop} {u : zRu} (hu : zRok u) (hc : CR u (σ 1) (σ 2) (σ 3) (τ 4)) (hq : Q (.inl (some (.int (nI (far2 u)))), (49, x, l, σ, τ, zrho))) :
    zRn (d + 2) 85 (0, [.ref 1], [], (49, x, l, σ, τ, zrho)) Q := by
  unfold far2 at hq
  refine zv85_0 (sp84 hu hc (zv85_4 ⟨fun c => ?_, fun c => ?_⟩))
  · rw [bI_0] at c
    rw [if_neg (by rw [c]; decide)] at hq; exact hq
  · rw [bI_0] at c
    rw [if_pos (by simpa using c)] at hq; exact hq
theorem sp86 {d x l : Nat} {σ : Nat → Nat → Int32} {τ : Nat → Nat → Int64} {Q : zR → Prop} {u : zRu} (hu : zRok u) (hc : CR u (σ 1) (σ 2) (σ 3) (τ 4)) (hq : Q (.inl (some (.int (nI (far u)))), (49, x, l, σ, τ, zrho))) :
    zRn (d + 2) 86 (0, [.ref 1], [], (49, x, l, σ, τ, zrho)) Q := by
  unfold far at hq
  refine zv86_0 (sp84 hu hc (zv86_4 ⟨fun c => ?_, fun c => ?_⟩))
  · rw [bI_0] at c
    rw [if_neg (by rw [c]; decide)] at hq; exact hq
  · rw [bI_0] at c
    rw [if_pos (by simpa using c)] at hq; exact hq
/-- the greater of two -/
theorem sp165 {d x l : Nat} {σ : Nat → Nat → Int32} {τ : Nat → Nat → Int64} {Q : zR → Prop} {a b : Int} (a1 : -2147483648 ≤ a) (a2 : a < 2147483648) (b1 : -2147483648 ≤ b) (b2 : b < 2147483648) (hq : Q (.inl (some (.int (iI (max a b)))), (49, x, l, σ, τ, zrho))) :
    zRn d 165 (0, [.int (iI a), .int (iI b)], [], (49, x, l, σ, τ, zrho)) Q := by
  refine zv165_0 ⟨fun c => ?_, fun c => ?_⟩
  · rw [iI_ltI a1 a2 b1 b2] at c
    rw [show max a b = b by omega] at hq; exact hq
  · rw [iI_ltI a1 a2 b1 b2] at c
    rw [show max a b = a by omega] at hq; exact hq
theorem sp166 {d x l : Nat} {σ : Nat → Nat → Int32} {τ : Nat → Nat → Int64} {Q : zR → Prop} {a b : Int} (a1 : -2147483648 ≤ a) (a2 : a < 2147483648) (b1 : -2147483648 ≤ b) (b2 : b < 2147483648) (hq : Q (.inl (some (.int (iI (min a b)))), (49, x, l, σ, τ, zrho))) :
    zRn d 166 (0, [.int (iI a), .int (iI b)], [], (49, x, l, σ, τ, zrho)) Q := by
  refine zv166_0 ⟨fun c => ?_, fun c => ?_⟩
  · rw [iI_ltI b1 b2 a1 a2] at c
    rw [show min a b = b by omega] at hq; exact hq
  · rw [iI_ltI b1 b2 a1 a2] at c
    rw [show min a b = a by omega] at hq; exact hq
def lst (u : zRu) (h : Nat) : Nat := match kd u with
  | 0 => h - 12
  | 1 => h - 64
  | 2 => h
  | 3 => h
  | _ => if h ≤ 64 then 0 else h
theorem sp90 {d x l : Nat} {σ : Nat → Nat → Int32} {τ : Nat → Nat → Int64} {Q : zR → Prop} {u : zRu} {h : Nat} (hu : zRok u) (hc : CR u (σ 1) (σ 2) (σ 3) (τ 4)) (hh : h ≤ 2000) (hq : Q (.inl (some (.int (nI (lst u h)))), (49, x, l, σ, τ, zrho))) :
    zRn (d + 1) 90 (0, [.ref 1, .int (nI h)], [], (49, x, l, σ, τ, zrho)) Q := by
  have h4 := hu.1
  have hk : (σ 1 0).toInt = (kd u : Int) := by rw [hc.1]; exact nI_T (by omega)
  unfold lst at hq
  refine zv90_0 ?_
  rw [hk]
  refine ⟨fun c => by omega, fun c => ?_, fun c => ?_, fun c => ?_, fun c => ?_, fun c => ?_⟩
  · rw [show kd u = 0 by omega] at hq
    rw [show (nI h - 12) = iI ((h : Int) - 12) by rw [nI_iI, ← iI_sub]; rfl]
    refine sp165 (a := 0) (by omega) (by omega) (by omega) (by omega) (zv90_48 ?_)
    rw [iI_nat (by omega), show (max 0 ((h : Int) - 12)).toNat = h - 12 by omega]
    exact hq
  · rw [show kd u = 1 by omega] at hq
    rw [show (nI h - 64) = iI ((h : Int) - 64) by rw [nI_iI, ← iI_sub]; rfl]
    refine sp165 (a := 0) (by omega) (by omega) (by omega) (by omega) (zv90_57 ?_)
    rw [iI_nat (by omega), show (max 0 ((h : Int) - 64)).toNat = h - 64 by omega]
    exact hq
  · rw [show kd u = 2 by omega] at hq; exact hq
  · rw [show kd u = 3 by omega] at hq; exact hq
  · rw [show kd u = 4 by omega] at hq
    refine ⟨fun c2 => ?_, fun c2 => ?_⟩
    · simp (disch := omega) only [zlit, nI_leI, nI_ltI, nI_eq, nI_clamp, nI_add, pk_mul, pk_sub, pk_div] at c2
      rw [if_pos c2] at hq; exact hq
    · simp (disch := omega) only [zlit, nI_leI, nI_ltI, nI_eq, nI_clamp, nI_add, pk_mul, pk_sub, pk_div] at c2
      rw [if_neg c2] at hq; exact hq
def wy (t : Nat) : Nat → Nat
  | 0 => if t = 0 then 1 else 0
  | 1 => if 1 ≤ t then 1 else 0
  | 2 => t / 2
  | _ => (t * t + 6) / 12
theorem sp95 {d x l : Nat} {σ : Nat → Nat → Int32} {τ : Nat → Nat → Int64} {Q : zR → Prop} {t n : Nat} (hn : n ≤ 3) (ht : t ≤ 2000) (hq : Q (.inl (some (.int (nI (wy t n)))), (49, x, l, σ, τ, zrho))) :
    zRn (d + 1) 95 (0, [.int (nI t), .int (nI n)], [], (49, x, l, σ, τ, zrho)) Q := by
  refine zv95_0 ?_
  rw [nI_T (by omega)]
  refine ⟨fun c => ?_, fun c => ?_, fun c => ?_, fun c => ?_⟩
  · have e : n = 3 := by omega
    subst e
    have e2 : (nI t * nI t + 6) / 12 = nI ((t * t + 6) / 12) := by
      have hb : t * t ≤ 2000 * 2000 := Nat.mul_le_mul ht ht
      rw [show (6 : Int32) = nI 6 from rfl, show (12 : Int32) = nI 12 from rfl, pk_mul, nI_add, pk_div (by omega) (by omega) (by omega)]
    rw [e2]; exact hq
  · have e : n = 0 := by omega
    subst e
    refine ⟨fun c2 => ?_, fun c2 => ?_⟩
    · simp (disch := omega) only [zlit, nI_leI, nI_ltI, nI_eq, nI_clamp, nI_add, pk_mul, pk_sub, pk_div] at c2
      rw [show wy t 0 = 0 from if_neg c2] at hq; exact hq
    · simp (disch := omega) only [zlit, nI_leI, nI_ltI, nI_eq, nI_clamp, nI_add, pk_mul, pk_sub, pk_div] at c2
      rw [show wy t 0 = 1 from if_pos (by omega)] at hq; exact hq
  · have e : n = 1 := by omega
    subst e
    refine ⟨fun c2 => ?_, fun c2 => ?_⟩
    · simp (disch := omega) only [zlit, nI_leI, nI_ltI, nI_eq, nI_clamp, nI_add, pk_mul, pk_sub, pk_div] at c2
      rw [show wy t 1 = 0 from if_neg (by omega)] at hq; exact hq
    · simp (disch := omega) only [zlit, nI_leI, nI_ltI, nI_eq, nI_clamp, nI_add, pk_mul, pk_sub, pk_div] at c2
      rw [show wy t 1 = 1 from if_pos (by omega)] at hq; exact hq
  · have e : n = 2 := by omega
    subst e
    rw [nI_iI t]
    refine sp165 (a := 0) (by omega) (by omega) (by omega) (by omega) (zv95_54 ?_)
    rw [iI_nat (by omega), show (max 0 (t : Int)).toNat = t by omega, show (2 : Int32) = nI 2 from rfl, pk_div (by omega) (by omega) (by omega)]
    exact hq
theorem sp95m {d x l : Nat} {σ : Nat → Nat → Int32} {τ : Nat → Nat → Int64} {Q : zR → Prop} (hq : Q (.inl (some (.int (nI 0))), (49, x, l, σ, τ, zrho))) :
    zRn (d + 1) 95 (0, [.int (iI (-1)), .int (nI 2)], [], (49, x, l, σ, τ, zrho)) Q := by
  refine zv95_0 ?_
  rw [nI_T (by omega)]
  refine ⟨fun c => by omega, fun c => by omega, fun c => by omega, fun _ => ?_⟩
  refine sp165 (a := 0) (by omega) (by omega) (by omega) (by omega) (zv95_54 ?_)
  exact hq
theorem sp92 {d x l : Nat} {σ : Nat → Nat → Int32} {τ : Nat → Nat → Int64} {Q : zR → Prop} {u : zRu} {k n : Nat} (hu : zRok u) (hc : CR u (σ 1) (σ 2) (σ 3) (τ 4)) (hk : k ≤ 2000) (hn : n ≤ 3) (hq : Q (.inl (some (.int (bI (Nat.ble 1 k && (Nat.ble k 12 && (dg u k).testBit n))))), (49, x, l, σ, τ, zrho))) :
    zRn d 92 (0, [.ref 1, .int (nI k), .int (nI n)], [], (49, x, l, σ, τ, zrho)) Q := by
  refine zv92_0 ⟨fun c => ?_, fun c => ⟨fun c2 => ?_, fun c2 => ?_⟩⟩
  · simp (disch := omega) only [zlit, nI_leI, nI_ltI, nI_eq, nI_clamp, nI_add, pk_mul, pk_sub, pk_div] at c
    rw [z_ble_f (by omega)] at hq; exact hq
  · simp (disch := omega) only [zlit, nI_leI, nI_ltI, nI_eq, nI_clamp, nI_add, pk_mul, pk_sub, pk_div] at c c2
    rw [z_ble_t (by omega), z_ble_f (by omega)] at hq; exact hq
  · simp (disch := omega) only [zlit, nI_leI, nI_ltI, nI_eq, nI_clamp, nI_add, pk_mul, pk_sub, pk_div] at c c2
    rw [z_ble_t (by omega), z_ble_t (by omega), Bool.true_and, Bool.true_and] at hq
    refine ⟨vp_in_nI (by omega) (by decide), ?_⟩
    rw [nI_clamp (by omega), hc.2.1 _ (by omega), z_bit _ (by have := hu.2.1 k; omega) _ (by omega), bI_0]
    refine ⟨fun c3 => ?_, fun c3 => ?_⟩
    · rw [c3] at hq; exact hq
    · rw [show (dg u k).testBit n = true by simpa using c3] at hq; exact hq
theorem sp93 {d x l : Nat} {σ : Nat → Nat → Int32} {τ : Nat → Nat → Int64} {Q : zR → Prop} {u : zRu} {k : Nat} (hc : CR u (σ 1) (σ 2) (σ 3) (τ 4)) (hk : k ≤ 2000) (hq : Q (.inl (some (.int (bI (Nat.ble 1 k && (Nat.ble k 64 && nb u k))))), (49, x, l, σ, τ, zrho))) :
    zRn d 93 (0, [.ref 1, .int (nI k)], [], (49, x, l, σ, τ, zrho)) Q := by
  refine zv93_0 ⟨fun c => ?_, fun c => ⟨fun c2 => ?_, fun c2 => ?_⟩⟩
  · simp (disch := omega) only [zlit, nI_leI, nI_ltI, nI_eq, nI_clamp, nI_add, pk_mul, pk_sub, pk_div] at c
    rw [z_ble_f (by omega)] at hq; exact hq
  · simp (disch := omega) only [zlit, nI_leI, nI_ltI, nI_eq, nI_clamp, nI_add, pk_mul, pk_sub, pk_div] at c c2
    rw [z_ble_t (by omega), z_ble_f (by omega)] at hq; exact hq
  · simp (disch := omega) only [zlit, nI_leI, nI_ltI, nI_eq, nI_clamp, nI_add, pk_mul, pk_sub, pk_div] at c c2
    rw [z_ble_t (by omega), z_ble_t (by omega), Bool.true_and, Bool.true_and] at hq
    refine ⟨vp_in_nI (by omega) (by decide), ?_⟩
    rw [nI_clamp (by omega), hc.2.2.1 _ (by omega), bI_0]
    refine ⟨fun c3 => ?_, fun c3 => ?_⟩
    · rw [c3] at hq; exact hq
    · rw [show nb u k = true by simpa using c3] at hq; exact hq
