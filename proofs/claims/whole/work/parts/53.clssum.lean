/-! the class: sums and moves -/
theorem mx_iff {f : Nat → Nat} {b : Nat} : ∀ {n : Nat}, mx f n ≤ b ↔ ∀ k, k < n → f k ≤ b := by
  intro n
  induction n with
  | zero => exact ⟨fun _ k hk => by omega, fun _ => Nat.zero_le _⟩
  | succ n ih =>
    have e : mx f (n + 1) = max (mx f n) (f n) := rfl
    rw [e]
    constructor
    · intro h k hk
      by_cases c : k = n
      · subst c; omega
      · exact ih.mp (by omega) k (by omega)
    · intro h
      have h1 := ih.mpr (fun k hk => h k (by omega))
      have h2 := h n (by omega)
      omega
theorem far_8 {u : zRu} {h : Nat} (hh : h ≤ far u) : h ≤ 2000 ∧ (has8 u = true → h ≤ 60) := by
  unfold far at hh
  split at hh
  · exact ⟨by omega, fun _ => hh⟩
  · rename_i c; exact ⟨hh, fun e => absurd e c⟩
theorem oB_len {u : zRu} (hu : zRok u) {h : Nat} (hh : h ≤ 2000) (h8 : has8 u = true → h ≤ 60) : ∀ T, T ≤ h + 1 → (oB u h T).length ≤ T * 4004 := by
  intro T
  induction T with
  | zero => intro _; exact Nat.zero_le _
  | succ T ih =>
    intro hT
    have h1 := ih (by omega)
    have g0 := G_le (n := 0) hu (show T ≤ h by omega) hh h8 (by omega)
    have g1 := G_le (n := 1) hu (show T ≤ h by omega) hh h8 (by omega)
    have g2 := G_le (n := 2) hu (show T ≤ h by omega) hh h8 (by omega)
    have g3 := G_le (n := 3) hu (show T ≤ h by omega) hh h8 (by omega)
    have e : (oB u h (T + 1)).length = (G u h T 0).length + ((G u h T 1).length + ((G u h T 2).length + (G u h T 3).length)) + (oB u h T).length := by
      show (gO u h T ++ oB u h T).length = _
      unfold gO
      simp only [List.length_append]
    omega
theorem opts_len {u : zRu} (hu : zRok u) {h : Nat} (hh : h ≤ far u) : (opts u h).length ≤ 10000000 := by
  have := oB_len hu (far_8 hh).1 (far_8 hh).2 (h + 1) (Nat.le_refl _)
  rw [opts_B]
  have := (far_8 hh).1
  omega
/-- the move of a number: its place and its option -/
def fm (u : zRu) (hp : Nat → Nat) : Nat → Nat → Nat → Option (Nat × zO)
  | 0, _, _ => none
  | n + 1, k, m => match (opts u (hp k))[m]? with
    | some o => some (k, o)
    | none => fm u hp n (k + 1) (m - (opts u (hp k)).length)
def xsum (u : zRu) (hp : Nat → Nat) : Nat → Nat
  | 0 => 0
  | k + 1 => xsum u hp k ^^^ gn u (hp k)
def fe (hp : Nat → Nat) : Nat → Nat → Nat
  | 0, k => k
  | n + 1, k => if hp k = 0 then k else fe hp n (k + 1)
theorem fe_le (hp : Nat → Nat) : ∀ n k, k ≤ fe hp n k ∧ fe hp n k ≤ k + n := by
  intro n
  induction n with
  | zero => intro k; exact ⟨Nat.le_refl _, Nat.le_refl _⟩
  | succ n ih =>
    intro k
    show k ≤ (if hp k = 0 then k else fe hp n (k + 1)) ∧ (if hp k = 0 then k else fe hp n (k + 1)) ≤ k + (n + 1)
    split
    · omega
    · have := ih (k + 1); omega
theorem sp102 {d x l : Nat} {σ : Nat → Nat → Int32} {τ : Nat → Nat → Int64} {Q : zR → Prop} {hp : Nat → Nat} (hh : ∀ k, k < 16 → σ 12 k = nI (hp k)) (hb : ∀ k, k < 16 → hp k ≤ 2000) (hq : Q (.inl (some (.int (nI (mx hp 16)))), (49, x, l, σ, τ, zrho))) :
    zRn (d + 1) 102 (0, [.ref 11, zJ, zJ], [], (49, x, l, σ, τ, zrho)) Q := by
  have key : ∀ n k, k + n = 16 → zRn (d + 1) 102 (4, [.ref 11, .int (nI (mx hp k)), .int (nI k)], [], (49, x, l, σ, τ, zrho)) Q := by
    intro n
    induction n with
    | zero =>
      intro k hk
      refine zv102_4 ⟨fun _ => by rw [show k = 16 by omega]; exact hq, fun c => ?_⟩
      simp (disch := omega) only [zlit, nI_leI, nI_ltI, nI_eq, nI_clamp, nI_add, pk_mul, pk_sub, pk_div] at c; omega
    | succ n ih =>
      intro k hk
      have hm : mx hp k ≤ 2000 := mx_le (fun j hj => hb j (by omega))
      have hg := hb k (by omega)
      refine zv102_4 ⟨fun c => ?_, fun _ => ⟨vp_in_nI (by omega) (by decide), ?_⟩⟩
      · simp (disch := omega) only [zlit, nI_leI, nI_ltI, nI_eq, nI_clamp, nI_add, pk_mul, pk_sub, pk_div] at c; omega
      · rw [nI_clamp (by omega), hh k (by omega), nI_iI, nI_iI (hp k)]
        refine sp165 (by omega) (by omega) (by omega) (by omega) (zv102_20 ?_)
        rw [nI_1, iI_nat (by omega), show (max (mx hp k : Int) (hp k : Int)).toNat = max (mx hp k) (hp k) by omega]
        exact ih (k + 1) (by omega)
  exact zv102_0 (key 16 0 rfl)
theorem sp28 {d x l : Nat} {σ : Nat → Nat → Int32} {τ : Nat → Nat → Int64} {Q : zR → Prop} {u : zRu} {hp : Nat → Nat} (hu : zRok u) (hc : CR u (σ 1) (σ 2) (σ 3) (τ 4)) (hh : ∀ k, k < 16 → σ 12 k = nI (hp k)) (hb : ∀ k, k < 16 → hp k ≤ 2000) (hx : x < 600)
    (hq1 : (∀ k, k < 16 → hp k ≤ far u) → Q (.inl none, (49, x, l, σ, τ, zrho))) (hq0 : ¬ (∀ k, k < 16 → hp k ≤ far u) → Q (.inr 3, (49, x + 1, l, σ, τ, zrho))) :
    zRn (d + 3) 28 (0, [.ref 0], [], (49, x, l, σ, τ, zrho)) Q := by
  have hm : mx hp 16 ≤ 2000 := mx_le hb
  have hf : far u ≤ 2000 := by unfold far; split <;> omega
  refine zv28_0 (sp102 hh hb (zv28_7 (sp86 hu hc (zv28_14 ⟨fun c => ?_, fun c => ⟨hx, ?_⟩⟩))))
  · simp (disch := omega) only [nI_leI] at c
    exact hq1 (mx_iff.mp c)
  · simp (disch := omega) only [nI_leI] at c
    exact hq0 (fun e => c (mx_iff.mpr e))
theorem sp31 {d x l : Nat} {σ : Nat → Nat → Int32} {τ : Nat → Nat → Int64} {Q : zR → Prop} {u : zRu} {hp : Nat → Nat} {i : Int} (hu : zRok u) (hc : CR u (σ 1) (σ 2) (σ 3) (τ 4)) (hh : ∀ k, k < 16 → σ 12 k = nI (hp k)) (hb : ∀ k, k < 16 → hp k ≤ far u) (b1 : -2147483648 ≤ i) (b2 : i < 2147483648)
    (hq1 : ∀ (m k : Nat) o s, i = (m : Int) → fm u hp 16 0 m = some (k, o) → k < 16 → o ∈ opts u (hp k) → zCh (fun _ => nI k) s (rt o 0) (rt o 1) (rt o 2) → Q (.inl (some (.int (1))), (49, x, l, zrow σ 5 s, τ, zrho)))
    (hq0 : (i < 0 ∨ ∃ m : Nat, i = (m : Int) ∧ fm u hp 16 0 m = none) → ∀ s, Q (.inl (some (.int (0))), (49, x, l, zrow σ 5 s, τ, zrho))) :
    zRn (d + 5) 31 (0, [.ref 0, .int (iI i), zJ, zJ, zJ, zJ], [], (49, x, l, σ, τ, zrho)) Q := by
  refine zv31_0 ?_
  by_cases hi : i < 0
  · have h0 := hb 0 (by omega)
    have hl := opts_len hu h0
    refine zv31_4 ⟨fun c => absurd c (by decide), fun _ => ⟨vp_in_nI (n := 0) (by decide) (by decide), ?_⟩⟩
    rw [show (0 : Int32).toNatClampNeg = 0 from by decide, hh 0 (by omega)]
    refine sp87 hu hc (far_8 h0).1 (far_8 h0).2 (zv31_30 ⟨fun c => ?_, fun _ => ?_⟩)
    · rw [nI_iI, iI_leI (by omega) (by omega) (by omega) (by omega)] at c; omega
    · refine zv88_0 ⟨fun c => ?_, fun _ => zv31_60 ⟨Or.inl rfl, ?_⟩⟩
      · rw [show (0 : Int32) = iI 0 from rfl, iI_leI (by omega) (by omega) (by omega) (by omega)] at c; omega
      · rw [zup_row]
        exact hq0 (Or.inl hi) _
  · obtain ⟨m, hm⟩ : ∃ m : Nat, i = (m : Int) := ⟨i.toNat, by omega⟩
    have key : ∀ n k m', k + n = 16 → m' < 2147483648 → fm u hp n k m' = fm u hp 16 0 m → zRn (d + 5) 31 (4, [.ref 0, zJ, .int (nI m'), .int (nI k), zJ, zJ], [], (49, x, l, σ, τ, zrho)) Q := by
      intro n
      induction n with
      | zero =>
        intro k m' hk hm' he
        refine zv31_4 ⟨fun _ => ?_, fun c => ?_⟩
        · have := hq0 (Or.inr ⟨m, hm, by rw [← he]; rfl⟩) (σ 5)
          rw [zrow_id] at this
          exact this
        · simp (disch := omega) only [zlit, nI_leI, nI_ltI, nI_eq, nI_clamp, nI_add, pk_mul, pk_sub, pk_div] at c; omega
      | succ n ih =>
        intro k m' hk hm' he
        have h0 := hb k (by omega)
        have hl := opts_len hu h0
        have e0 : fm u hp (n + 1) k m' = match (opts u (hp k))[m']? with
          | some o => some (k, o)
          | none => fm u hp n (k + 1) (m' - (opts u (hp k)).length) := rfl
        refine zv31_4 ⟨fun c => ?_, fun _ => ⟨vp_in_nI (by omega) (by decide), ?_⟩⟩
        · simp (disch := omega) only [zlit, nI_leI, nI_ltI, nI_eq, nI_clamp, nI_add, pk_mul, pk_sub, pk_div] at c; omega
        · rw [nI_clamp (by omega), hh k (by omega)]
          refine sp87 hu hc (far_8 h0).1 (far_8 h0).2 (zv31_30 ⟨fun c => ?_, fun c => ?_⟩)
          · simp (disch := omega) only [nI_leI] at c
            rw [pk_sub c, nI_1]
            refine ih (k + 1) _ (by omega) (by omega) ?_
            rw [← he, e0, List.getElem?_eq_none c]
          · simp (disch := omega) only [nI_leI] at c
            rw [zup_row]
            refine sp88 hu hc (far_8 h0).1 (far_8 h0).2 hm' (fun o s ho hs => zv31_60 ⟨Or.inr rfl, ?_⟩) (fun ho => ?_)
            · rw [zrow_row]
              rw [ho] at e0
              refine hq1 m k o s hm (by rw [← he, e0]) (by omega) (List.mem_of_getElem? ho) ?_
              exact ⟨hs.1, hs.2⟩
            · have := List.getElem?_eq_none_iff.mp ho
              omega
    have := key 16 0 m rfl (by omega) rfl
    rw [hm, ← nI_iI]
    exact this
theorem sp30 {d x l : Nat} {σ : Nat → Nat → Int32} {τ : Nat → Nat → Int64} {Q : zR → Prop} {u : zRu} {hp : Nat → Nat} {i : Int} (hu : zRok u) (hc : CR u (σ 1) (σ 2) (σ 3) (τ 4)) (hh : ∀ k, k < 16 → σ 12 k = nI (hp k)) (hb : ∀ k, k < 16 → hp k ≤ 2000) (hx : x < 600) (b1 : -2147483648 ≤ i) (b2 : i < 2147483648)
    (hq1 : (∀ k, k < 16 → hp k ≤ far u) → ∀ (m k : Nat) o s, i = (m : Int) → fm u hp 16 0 m = some (k, o) → k < 16 → o ∈ opts u (hp k) → zCh (fun _ => nI k) s (rt o 0) (rt o 1) (rt o 2) → Q (.inl none, (49, x, l, zrow σ 5 s, τ, zrho)))
    (hq2 : (∀ k, k < 16 → hp k ≤ far u) → (i < 0 ∨ ∃ m : Nat, i = (m : Int) ∧ fm u hp 16 0 m = none) → ∀ s, Q (.inr 2, (49, x + 1, l, zrow σ 5 s, τ, zrho)))
    (hq3 : ¬ (∀ k, k < 16 → hp k ≤ far u) → Q (.inr 3, (49, x + 1, l, σ, τ, zrho))) :
    zRn (d + 6) 30 (0, [.ref 0, .int (iI i)], [], (49, x, l, σ, τ, zrho)) Q := by
  refine zv30_0 (sp28 hu hc hh hb hx (fun hf => zv30_4 ?_) (fun hf => hq3 hf))
  refine sp31 hu hc hh hf b1 b2 (fun m k o s h1 h2 h3 h4 h5 => zv30_9 ⟨fun _ => hq1 hf m k o s h1 h2 h3 h4 h5, fun c => absurd (by decide) c⟩) (fun h s => zv30_9 ⟨fun c => absurd rfl c, fun _ => ⟨hx, hq2 hf h s⟩⟩)
theorem sp50 {d x l : Nat} {σ : Nat → Nat → Int32} {τ : Nat → Nat → Int64} {Q : zR → Prop} {e : Nat} {i : Int} (he : e ≤ 2000) (h1 : σ 6 1 = nI e) (b1 : -2147483648 ≤ i) (b2 : i < 2147483648)
    (hq1 : 0 ≤ i → i ≤ e → Q (.inl (some (.int (1))), (49, x, l, σ, τ, zrho))) (hq0 : ¬ (0 ≤ i ∧ i ≤ e) → Q (.inl (some (.int (0))), (49, x, l, σ, τ, zrho))) :
    zRn d 50 (0, [.ref 6, .int (iI i)], [], (49, x, l, σ, τ, zrho)) Q := by
  refine zv50_0 ?_
  rw [h1, nI_iI e, show (0 : Int32) = iI 0 from rfl, iI_ltI (by omega) (by omega) (by omega) (by omega), iI_ltI (by omega) (by omega) (by omega) (by omega)]
  exact ⟨fun c => hq0 (by omega), fun c => ⟨fun c2 => hq0 (by omega), fun c2 => hq1 (by omega) (by omega)⟩⟩
theorem sp32 {d x l : Nat} {σ : Nat → Nat → Int32} {τ : Nat → Nat → Int64} {Q : zR → Prop} {u : zRu} {e kn : Nat} {hp : Nat → Nat} (hn : CN u e kn (σ 6) (σ 7) (τ 9) (τ 10)) (hh : ∀ k, k < 16 → σ 12 k = nI (hp k)) (hb : ∀ k, k < 16 → hp k ≤ 2000) (hx : x < 600)
    (hq1 : (∀ k, k < 16 → hp k ≤ e) → Q (.inl (some (.int (nI (xsum u hp 16)))), (49, x, l, σ, τ, zrho))) (hq0 : ¬ (∀ k, k < 16 → hp k ≤ e) → Q (.inr 1, (49, x + 1, l, σ, τ, zrho))) :
    zRn (d + 2) 32 (0, [.ref 0, zJ, zJ], [], (49, x, l, σ, τ, zrho)) Q := by
  obtain ⟨n1, n2, n3, n4, n5, n6, n7⟩ := hn
  have hm : mx hp 16 ≤ 2000 := mx_le hb
  refine zv32_0 (sp102 hh hb (zv32_11 ?_))
  rw [nI_iI]
  refine sp50 (by omega) n1 (by omega) (by omega) (fun _ c => zv32_14 ⟨fun _ => ?_, fun c => absurd (by decide) c⟩) (fun c => zv32_14 ⟨fun c => absurd rfl c, fun _ => ⟨hx, hq0 (fun e => c ?_)⟩⟩)
  · have hall := mx_iff.mp (show mx hp 16 ≤ e by omega)
    have key : ∀ n k, k + n = 16 → zRn (d + 2) 32 (32, [.ref 0, .int (nI (xsum u hp k)), .int (nI k)], [], (49, x, l, σ, τ, zrho)) Q := by
      intro n
      induction n with
      | zero =>
        intro k hk
        refine zv32_32 ⟨fun _ => by rw [show k = 16 by omega]; exact hq1 hall, fun c => ?_⟩
        simp (disch := omega) only [zlit, nI_leI, nI_ltI, nI_eq, nI_clamp, nI_add, pk_mul, pk_sub, pk_div] at c; omega
      | succ n ih =>
        intro k hk
        have h1 := hall k (by omega)
        have h2 := hb k (by omega)
        refine zv32_32 ⟨fun c => ?_, fun _ => ⟨vp_in_nI (by omega) (by decide), ?_⟩⟩
        · simp (disch := omega) only [zlit, nI_leI, nI_ltI, nI_eq, nI_clamp, nI_add, pk_mul, pk_sub, pk_div] at c; omega
        · rw [nI_clamp (show k < 2 ^ 31 by omega), hh k (by omega), nI_clamp (by omega), n5 _ (by omega), z_xor, nI_1]
          exact ⟨vp_in_nI (by omega) (by decide), ih (k + 1) (by omega)⟩
    exact key 16 0 rfl
  · have := mx_iff.mpr e
    omega
theorem sp105 {d x l : Nat} {σ : Nat → Nat → Int32} {τ : Nat → Nat → Int64} {Q : zR → Prop} {hp : Nat → Nat} {f : Nat} (hh : ∀ k, k < 16 → σ 12 k = nI (hp k)) (hb : ∀ k, k < 16 → hp k ≤ 2000) (hf : f ≤ 16)
    (hq1 : fe hp (16 - f) f < 16 → hp (fe hp (16 - f) f) = 0 → Q (.inl (some (.int (nI (fe hp (16 - f) f)))), (49, x, l, σ, τ, zrho))) (hq0 : fe hp (16 - f) f = 16 → Q (.inl (some (.int (-1))), (49, x, l, σ, τ, zrho))) :
    zRn d 105 (0, [.ref 11, .int (nI f), zJ], [], (49, x, l, σ, τ, zrho)) Q := by
  have key : ∀ n k, k + n = 16 → fe hp n k = fe hp (16 - f) f → zRn d 105 (2, [.ref 11, zJ, .int (nI k)], [], (49, x, l, σ, τ, zrho)) Q := by
    intro n
    induction n with
    | zero =>
      intro k hk he
      refine zv105_2 ⟨fun _ => hq0 (by rw [← he]; show k = 16; omega), fun c => ?_⟩
      simp (disch := omega) only [zlit, nI_leI, nI_ltI, nI_eq, nI_clamp, nI_add, pk_mul, pk_sub, pk_div] at c; omega
    | succ n ih =>
      intro k hk he
      have e0 : fe hp (n + 1) k = if hp k = 0 then k else fe hp n (k + 1) := rfl
      have := hb k (by omega)
      refine zv105_2 ⟨fun c => ?_, fun _ => ⟨vp_in_nI (by omega) (by decide), ?_⟩⟩
      · simp (disch := omega) only [zlit, nI_leI, nI_ltI, nI_eq, nI_clamp, nI_add, pk_mul, pk_sub, pk_div] at c; omega
      · rw [nI_clamp (by omega), hh k (by omega), nI_1]
        refine ⟨fun c => ?_, fun c => ?_⟩
        · simp (disch := omega) only [zlit, nI_leI, nI_ltI, nI_eq, nI_clamp, nI_add, pk_mul, pk_sub, pk_div] at c
          rw [if_neg c] at e0
          exact ih (k + 1) (by omega) (by rw [← e0]; exact he)
        · simp (disch := omega) only [zlit, nI_leI, nI_ltI, nI_eq, nI_clamp, nI_add, pk_mul, pk_sub, pk_div] at c
          rw [if_pos (by omega)] at e0
          rw [← he, e0] at hq1
          exact hq1 (by omega) (by omega)
  exact zv105_0 (key (16 - f) f (by omega) rfl)
