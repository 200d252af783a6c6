/-! the reference: the table of sums -/
def pr (k : Int64) (t : Nat) : Nat := (hsh k + t) % 4096
theorem pr_lt (k : Int64) (t : Nat) : pr k t < 4096 := Nat.mod_lt _ (by omega)
theorem pr_0 (k : Int64) : pr k 0 = hsh k := by
  unfold pr
  rw [Nat.add_zero]
  exact Nat.mod_eq_of_lt (hsh_lt k)
theorem pr_ne {k : Int64} {a b : Nat} (h1 : a < b) (h2 : b < 4096) : pr k a ≠ pr k b := by
  unfold pr
  have := hsh_lt k
  omega
theorem pr_at (k : Int64) {q : Nat} (hq : q < 4096) : ∃ t, t < 4096 ∧ pr k t = q := by
  have := hsh_lt k
  refine ⟨(q + 4096 - hsh k) % 4096, Nat.mod_lt _ (by omega), ?_⟩
  unfold pr
  omega
def cnz (f : Nat → Nat) : Nat → Nat
  | 0 => 0
  | k + 1 => cnz f k + if f k = 0 then 0 else 1
theorem cnz_full {f : Nat → Nat} : ∀ n, (∀ q, q < n → f q ≠ 0) → cnz f n = n := by
  intro n
  induction n with
  | zero => intro _; rfl
  | succ n ih =>
    intro h
    show cnz f n + (if f n = 0 then 0 else 1) = n + 1
    rw [ih (fun q hq => h q (by omega)), if_neg (h n (by omega))]
theorem cnz_hole {f : Nat → Nat} (n : Nat) (h : cnz f n < n) : ∃ q, q < n ∧ f q = 0 := by
  apply Classical.byContradiction
  intro hn
  have := cnz_full (f := f) n (fun q hq e => hn ⟨q, hq, e⟩)
  omega
theorem cnz_up {f : Nat → Nat} {q v : Nat} : ∀ n, cnz (fun j => if j = q then v else f j) n ≤ cnz f n + (if q < n then 1 else 0) := by
  intro n
  induction n with
  | zero => exact Nat.zero_le _
  | succ n ih =>
    show cnz (fun j => if j = q then v else f j) n + (if (if n = q then v else f n) = 0 then 0 else 1) ≤ cnz f n + (if f n = 0 then 0 else 1) + (if q < n + 1 then 1 else 0)
    by_cases c : n = q
    · subst c
      rw [if_neg (by omega)] at ih
      rw [if_pos rfl, if_pos (show n < n + 1 by omega)]
      split <;> split <;> omega
    · rw [if_neg c]
      by_cases c2 : q < n
      · rw [if_pos c2] at ih; rw [if_pos (show q < n + 1 by omega)]; omega
      · rw [if_neg c2] at ih; rw [if_neg (show ¬ q < n + 1 by omega)]; omega
theorem cnz_0 {f : Nat → Nat} : ∀ n, (∀ q, q < n → f q = 0) → cnz f n = 0 := by
  intro n
  induction n with
  | zero => intro _; rfl
  | succ n ih =>
    intro h
    show cnz f n + (if f n = 0 then 0 else 1) = 0
    rw [ih (fun q hq => h q (by omega)), if_pos (h n (by omega))]
/-- where a search for a number ends -/
def stp (K : Nat → Int64) (sl : Nat → Nat) (k : Int64) (q : Nat) : Prop := sl q = 0 ∨ K (sl q - 1) = k
/-- n numbers are found by their slots -/
def HT (n : Nat) (K : Nat → Int64) (s : Nat → Int32) : Prop := ∃ sl : Nat → Nat, (∀ q, q < 4096 → s q = nI (sl q)) ∧ (∀ q, q < 4096 → sl q ≤ n) ∧ cnz sl 4096 ≤ n ∧
  ∀ i, i < n → ∃ t, t < 4096 ∧ sl (pr (K i) t) ≠ 0 ∧ K (sl (pr (K i) t) - 1) = K i ∧ ∀ t', t' < t → sl (pr (K i) t') ≠ 0 ∧ K (sl (pr (K i) t') - 1) ≠ K i
theorem HT_0 {K : Nat → Int64} {s : Nat → Int32} (h : ∀ q, q < 4096 → s q = 0) : HT 0 K s :=
  ⟨fun _ => 0, h, fun _ _ => Nat.le_refl 0, by rw [cnz_0 4096 (fun _ _ => rfl)]; exact Nat.le_refl 0, fun i hi => absurd hi (by omega)⟩
theorem sp148 {d x l : Nat} {σ : Nat → Nat → Int32} {τ : Nat → Nat → Int64} {Q : zR → Prop} {n : Nat} {k : Int64} {sl : Nat → Nat} (hn : n ≤ 1700) (h1 : ∀ q, q < 4096 → σ 42 q = nI (sl q)) (h2 : ∀ q, q < 4096 → sl q ≤ n) (h3 : cnz sl 4096 ≤ n)
    (hq : ∀ t, t < 4096 → stp (τ 40) sl k (pr k t) → (∀ t', t' < t → ¬ stp (τ 40) sl k (pr k t')) → Q (.inl (some (.int (nI (pr k t)))), (49, x, l, σ, τ, zrho))) :
    zRn d 148 (0, [.ref 32, .long k, zJ, zJ], [], (49, x, l, σ, τ, zrho)) Q := by
  obtain ⟨q0, hq0, e0⟩ := cnz_hole (f := sl) 4096 (by omega)
  obtain ⟨t0, ht0, et0⟩ := pr_at k hq0
  have key : ∀ m t, t + m = t0 → (∀ t', t' < t → ¬ stp (τ 40) sl k (pr k t')) → zRn d 148 (14, [.ref 32, .long k, zJ, .int (nI (pr k t))], [], (49, x, l, σ, τ, zrho)) Q := by
    intro m
    induction m with
    | zero =>
      intro t ht hp
      have hpl := pr_lt k t
      have es : sl (pr k t) = 0 := by rw [show t = t0 by omega, et0]; exact e0
      refine zv148_14 ⟨vp_in_nI (by omega) (by decide), fun _ => hq t (by omega) (Or.inl es) hp, fun c => ?_⟩
      rw [nI_clamp (by omega), h1 _ hpl, es] at c
      exact absurd (by decide) c
    | succ m ih =>
      intro t ht hp
      have hpl := pr_lt k t
      have hsl := h2 _ hpl
      refine zv148_14 ⟨vp_in_nI (by omega) (by decide), fun c => ?_, fun c => ?_⟩
      · rw [nI_clamp (by omega), h1 _ hpl] at c
        simp (disch := omega) only [zlit, nI_leI, nI_ltI, nI_eq, nI_clamp, nI_add, pk_mul, pk_sub, pk_div] at c
        exact hq t (by omega) (Or.inl (by omega)) hp
      · rw [nI_clamp (by omega), h1 _ hpl] at c ⊢
        simp (disch := omega) only [zlit, nI_leI, nI_ltI, nI_eq, nI_clamp, nI_add, pk_mul, pk_sub, pk_div] at c
        rw [show nI (sl (pr k t)) - 1 = nI (sl (pr k t) - 1) from pk_sub (b := 1) (by omega), nI_clamp (by omega)]
        refine ⟨vp_in_nI (by omega) (by decide), vp_in_nI (by omega) (by decide), fun c2 => ?_, fun c2 => ?_⟩
        · rw [lg_cmp_eq] at c2
          exact hq t (by omega) (Or.inr c2) hp
        · rw [lg_cmp_eq] at c2
          rw [nI_1, pk_andN (by omega) 12 (by decide)]
          have e : (pr k t + 1) % 2 ^ 12 = pr k (t + 1) := by unfold pr; omega
          rw [e]
          refine ih (t + 1) (by omega) (fun t' ht' => ?_)
          by_cases w : t' = t
          · subst w
            intro q
            rcases q with q | q
            · omega
            · exact c2 q
          · exact hp t' (by omega)
  refine zv148_0 ?_
  rw [hsh_0]
  have := key t0 0 (by omega) (fun t' h => absurd h (by omega))
  rwa [pr_0] at this
/-- the place of a number that is there -/
theorem sp148k {d x l : Nat} {σ : Nat → Nat → Int32} {τ : Nat → Nat → Int64} {Q : zR → Prop} {n i : Nat} (hn : n ≤ 1700) (hH : HT n (τ 40) (σ 42)) (hi : i < n)
    (hq : ∀ q m, q < 4096 → m < n → σ 42 q = nI (m + 1) → τ 40 m = τ 40 i → Q (.inl (some (.int (nI q))), (49, x, l, σ, τ, zrho))) :
    zRn d 148 (0, [.ref 32, .long (τ 40 i), zJ, zJ], [], (49, x, l, σ, τ, zrho)) Q := by
  obtain ⟨sl, a1, a2, a3, a4⟩ := hH
  refine sp148 hn a1 a2 a3 (fun t ht hs hm => ?_)
  obtain ⟨ti, b1, b2, b3, b4⟩ := a4 i hi
  have e : t = ti := by
    rcases Nat.lt_trichotomy t ti with w | w | w
    · have := b4 t w
      rcases hs with q | q
      · exact absurd q this.1
      · exact absurd q this.2
    · exact w
    · exact absurd (Or.inr b3) (hm ti w)
  subst e
  have := a2 _ (pr_lt (τ 40 i) t)
  refine hq _ (sl (pr (τ 40 i) t) - 1) (pr_lt _ _) (by omega) ?_ b3
  rw [a1 _ (pr_lt _ _)]
  congr 1
  omega
theorem sp149 {d x l : Nat} {σ : Nat → Nat → Int32} {τ : Nat → Nat → Int64} {Q : zR → Prop} {n : Nat} {k : Int64} (hn : n < 1700) (h16 : σ 32 16 = nI n) (hH : HT n (τ 40) (σ 42))
    (hq : ∀ s42, HT (n + 1) (vp_updL (τ 40) n k) s42 → Q (.inl none, (49, x, l, zrow (zrow σ 42 s42) 32 (upd (σ 32) 16 (nI (n + 1))), zrowL τ 40 (vp_updL (τ 40) n k), zrho))) :
    zRn (d + 1) 149 (0, [.ref 32, .long k, zJ], [], (49, x, l, σ, τ, zrho)) Q := by
  obtain ⟨sl, a1, a2, a3, a4⟩ := hH
  refine zv149_0 ?_
  rw [h16, nI_clamp (by omega), zupL_row]
  refine ⟨vp_in_nI (by omega) (by decide), ?_⟩
  have hK : ∀ i, i < n → vp_updL (τ 40) n k i = τ 40 i := fun i hi => pk_uLn (by omega)
  have hn' : vp_updL (τ 40) n k n = k := pk_uLs
  refine sp148 (n := n) (sl := sl) (by omega) a1 a2 a3 (fun t ht hs hm => zv149_19 ?_)
  have eτ : zrowL τ 40 (vp_updL (τ 40) n k) 40 = vp_updL (τ 40) n k := zrowL_me _ _ _
  rw [eτ] at hs hm
  have hpl := pr_lt k t
  rw [h16, nI_clamp (by omega), zup_row, zup_row, nI_1]
  refine ⟨vp_in_nI (by omega) (by decide), ?_⟩
  refine hq (upd (σ 42) (pr k t) (nI (n + 1))) ?_
  refine ⟨fun q => if q = pr k t then n + 1 else sl q, fun q hq => ?_, fun q hq => ?_, ?_, fun i hi => ?_⟩
  · exact z_upd (σ 42) sl 4096 (pr k t) (n + 1) a1 q hq
  · show (if q = pr k t then n + 1 else sl q) ≤ n + 1
    have := a2 q hq
    split <;> omega
  · have := cnz_up (f := sl) (q := pr k t) (v := n + 1) 4096
    rw [if_pos hpl] at this
    omega
  · by_cases ck : vp_updL (τ 40) n k i = k
    · rw [ck]
      refine ⟨t, ht, ?_, ?_, fun t' ht' => ?_⟩
      · show (if pr k t = pr k t then n + 1 else sl (pr k t)) ≠ 0
        rw [if_pos rfl]; omega
      · show vp_updL (τ 40) n k ((if pr k t = pr k t then n + 1 else sl (pr k t)) - 1) = k
        rw [if_pos rfl]; exact hn'
      · have e := pr_ne (k := k) ht' ht
        show (if pr k t' = pr k t then n + 1 else sl (pr k t')) ≠ 0 ∧ vp_updL (τ 40) n k ((if pr k t' = pr k t then n + 1 else sl (pr k t')) - 1) ≠ k
        rw [if_neg e]
        have := hm t' ht'
        exact ⟨fun q => this (Or.inl q), fun q => this (Or.inr q)⟩
    · have hi' : i < n := by
        apply Classical.byContradiction
        intro w
        apply ck
        rw [show i = n by omega]; exact hn'
      have ei := hK i hi'
      rw [ei] at ck ⊢
      obtain ⟨ti, b1, b2, b3, b4⟩ := a4 i hi'
      have hsl : ∀ q, q < 4096 → sl q ≠ 0 → vp_updL (τ 40) n k (sl q - 1) = τ 40 (sl q - 1) := fun q w1 w2 => hK _ (by have := a2 q w1; omega)
      refine ⟨ti, b1, ?_⟩
      have e0 : pr (τ 40 i) ti ≠ pr k t := by
        intro e
        rw [e] at b2 b3
        rcases hs with w | w
        · exact b2 w
        · rw [hsl _ hpl b2, b3] at w; exact ck w
      show (if pr (τ 40 i) ti = pr k t then n + 1 else sl (pr (τ 40 i) ti)) ≠ 0 ∧ vp_updL (τ 40) n k ((if pr (τ 40 i) ti = pr k t then n + 1 else sl (pr (τ 40 i) ti)) - 1) = τ 40 i ∧ _
      rw [if_neg e0]
      refine ⟨b2, (hsl _ (pr_lt _ _) b2).trans b3, fun t' ht' => ?_⟩
      show (if pr (τ 40 i) t' = pr k t then n + 1 else sl (pr (τ 40 i) t')) ≠ 0 ∧ vp_updL (τ 40) n k ((if pr (τ 40 i) t' = pr k t then n + 1 else sl (pr (τ 40 i) t')) - 1) ≠ τ 40 i
      obtain ⟨c1, c2⟩ := b4 t' ht'
      by_cases w : pr (τ 40 i) t' = pr k t
      · rw [if_pos w]
        refine ⟨by omega, ?_⟩
        show vp_updL (τ 40) n k n ≠ τ 40 i
        rw [hn']
        exact fun q => ck q.symm
      · rw [if_neg w, hsl _ (pr_lt _ _) c1]
        exact ⟨c1, c2⟩
