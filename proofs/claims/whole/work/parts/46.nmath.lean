/-! nimbers -/
theorem oB_mem {u : zRu} {h : Nat} {o : zO} : ∀ {T : Nat}, o ∈ oB u h T ↔ ∃ t n, t < T ∧ n ≤ 3 ∧ o ∈ G u h t n := by
  intro T
  induction T with
  | zero => exact ⟨fun h => absurd h List.not_mem_nil, fun ⟨t, n, h1, _⟩ => by omega⟩
  | succ T ih =>
    constructor
    · intro h1
      have h1 : o ∈ gO u h T ++ oB u h T := h1
      rcases List.mem_append.mp h1 with h1 | h1
      · unfold gO at h1
        rcases List.mem_append.mp h1 with h1 | h1
        · exact ⟨T, 0, by omega, by omega, h1⟩
        rcases List.mem_append.mp h1 with h1 | h1
        · exact ⟨T, 1, by omega, by omega, h1⟩
        rcases List.mem_append.mp h1 with h1 | h1
        · exact ⟨T, 2, by omega, by omega, h1⟩
        · exact ⟨T, 3, by omega, by omega, h1⟩
      · obtain ⟨t, n, h2, h3, h4⟩ := ih.mp h1
        exact ⟨t, n, by omega, h3, h4⟩
    · intro ⟨t, n, h1, h2, h3⟩
      show o ∈ gO u h T ++ oB u h T
      by_cases c : t = T
      · subst c
        apply List.mem_append_left
        unfold gO
        have h5 : n = 0 ∨ n = 1 ∨ n = 2 ∨ n = 3 := by omega
        rcases h5 with h5 | h5 | h5 | h5 <;> subst h5
        · exact List.mem_append_left _ h3
        · exact List.mem_append_right _ (List.mem_append_left _ h3)
        · exact List.mem_append_right _ (List.mem_append_right _ (List.mem_append_left _ h3))
        · exact List.mem_append_right _ (List.mem_append_right _ (List.mem_append_right _ h3))
      · exact List.mem_append_right _ (ih.mpr ⟨t, n, by omega, h2, h3⟩)
theorem opts_mem {u : zRu} {h : Nat} {o : zO} : o ∈ opts u h ↔ ∃ t n, t ≤ h ∧ n ≤ 3 ∧ o ∈ G u h t n := by
  rw [opts_B, oB_mem]
  constructor
  · intro ⟨t, n, h1, h2, h3⟩; exact ⟨t, n, by omega, h2, h3⟩
  · intro ⟨t, n, h1, h2, h3⟩; exact ⟨t, n, by omega, h2, h3⟩
/-- a bound on nimbers: how long play can last -/
def bd (u : zRu) (h : Nat) : Nat := match kd u with
  | 0 => h
  | 1 => h
  | 2 => h - 1
  | 3 => h - 1
  | _ => if h ≤ 64 then 2 * h - 1 else 0
theorem bd_k01 {u : zRu} (hk : kd u = 0 ∨ kd u = 1) (h : Nat) : bd u h = h := by
  unfold bd
  rcases hk with hk | hk <;> (rw [hk]; rfl)
theorem bd_k23 {u : zRu} (hk : kd u = 2 ∨ kd u = 3) (h : Nat) : bd u h = h - 1 := by
  unfold bd
  rcases hk with hk | hk <;> (rw [hk]; rfl)
theorem bd_k4 {u : zRu} (hk : kd u = 4) (h : Nat) : bd u h = if h ≤ 64 then 2 * h - 1 else 0 := by
  unfold bd
  rw [hk]; rfl
theorem opt_bd {u : zRu} (hu : zRok u) {h : Nat} {o : zO} (ho : o ∈ opts u h) : o.1 < h ∧ o.2.1 < h ∧ o.2.2 < h ∧ o.1 ≤ o.2.1 ∧ o.2.1 ≤ o.2.2 ∧ o.1 + o.2.1 + o.2.2 ≤ h ∧ bd u o.1 + bd u o.2.1 + bd u o.2.2 < bd u h := by
  obtain ⟨t, n, h1, h2, h3⟩ := opts_mem.mp ho
  obtain ⟨m1, m2, m3⟩ := G_may h3
  have c1 := may_le m1
  have c2 := may_0 m1
  have hg := grp_mem h2 c1 c2 m2
  have h4 := hu.1
  obtain ⟨a, b, c⟩ := o
  dsimp only at hg ⊢
  have h5 : kd u = 0 ∨ kd u = 1 ∨ kd u = 2 ∨ kd u = 3 ∨ kd u = 4 := by omega
  rcases h5 with h5 | h5 | h5 | h5 | h5
  · have := may_k0 h5 (h := h) c1 c2
    rw [m1] at this
    have := this.symm
    simp only [Bool.and_eq_true] at this
    have := Nat.le_of_ble_eq_true this.1
    rw [bd_k01 (Or.inl h5), bd_k01 (Or.inl h5), bd_k01 (Or.inl h5), bd_k01 (Or.inl h5)]
    omega
  · have := may_k1 h5 (h := h) c1 c2
    rw [m1] at this
    have := this.symm
    simp only [Bool.and_eq_true] at this
    have := Nat.le_of_ble_eq_true this.1
    rw [bd_k01 (Or.inr h5), bd_k01 (Or.inr h5), bd_k01 (Or.inr h5), bd_k01 (Or.inr h5)]
    omega
  · have := may_k2 h5 (h := h) c1 c2
    rw [m1] at this
    have := this.symm
    simp only [Bool.and_eq_true, beq_iff_eq] at this
    rw [bd_k23 (Or.inl h5), bd_k23 (Or.inl h5), bd_k23 (Or.inl h5), bd_k23 (Or.inl h5)]
    omega
  · have := may_k3 h5 (h := h) c1 c2
    rw [m1] at this
    have := this.symm
    simp only [Bool.and_eq_true, beq_iff_eq] at this
    rw [bd_k23 (Or.inr h5), bd_k23 (Or.inr h5), bd_k23 (Or.inr h5), bd_k23 (Or.inr h5)]
    omega
  · have hh := may4 h5 m1
    rw [isO_4 h5] at m3
    have := hu.2.2 _ _ _ m3
    dsimp only at this
    have hn : n ≤ 2 := by
      have := may_k4 h5 (h := h) c1 c2
      rw [m1] at this
      have := this.symm
      simp only [Bool.and_eq_true] at this
      have := Nat.le_of_ble_eq_true this.2.2
      omega
    have ha := hg.2.2.2.1 hn
    rw [bd_k4 h5, bd_k4 h5, bd_k4 h5, bd_k4 h5, if_pos (by omega), if_pos (by omega), if_pos (by omega), if_pos hh]
    omega
theorem bd_le {u : zRu} {h : Nat} (hh : h ≤ 2000) : bd u h ≤ 2000 := by
  unfold bd
  split <;> first | omega | (split <;> omega)
/-- the least that isn't there -/
def mexg (L : List Nat) : Nat → Nat → Nat
  | 0, v => v
  | n + 1, v => bif L.contains v then mexg L n (v + 1) else v
theorem mexg_spec (L : List Nat) (B : Nat) (hB : ∀ w, w ∈ L → w < B) : ∀ n v, B ≤ v + n → (∀ w, w < v → w ∈ L) → mexg L n v ∉ L ∧ ∀ w, w < mexg L n v → w ∈ L := by
  intro n
  induction n with
  | zero =>
    intro v h1 h2
    exact ⟨fun c => by have := hB _ c; have : v < B := this; omega, h2⟩
  | succ n ih =>
    intro v h1 h2
    show (bif L.contains v then mexg L n (v + 1) else v) ∉ L ∧ ∀ w, w < (bif L.contains v then mexg L n (v + 1) else v) → w ∈ L
    cases c : L.contains v with
    | false =>
      refine ⟨fun e => ?_, h2⟩
      have : L.contains v = true := List.contains_iff_mem.mpr e
      rw [c] at this; cases this
    | true =>
      refine ih (v + 1) (by omega) (fun w hw => ?_)
      by_cases e : w = v
      · subst e; exact List.contains_iff_mem.mp c
      · exact h2 w (by omega)
def mex (L : List Nat) : Nat := mexg L 4096 0
theorem mex_spec {L : List Nat} (hB : ∀ w, w ∈ L → w < 4096) : mex L ∉ L ∧ ∀ w, w < mex L → w ∈ L := mexg_spec L 4096 hB 4096 0 (by omega) (fun w h => by omega)
theorem mex_le {L : List Nat} {b : Nat} (hb : b ≤ 4096) (hB : ∀ w, w ∈ L → w < b) : mex L ≤ b := by
  have := mex_spec (L := L) (fun w h => by have := hB w h; omega)
  by_cases c : mex L ≤ b
  · exact c
  · have := hB b (this.2 b (by omega)); omega
def xo (f : Nat → Nat) (o : zO) : Nat := f o.1 ^^^ f o.2.1 ^^^ f o.2.2
def gt (u : zRu) : Nat → Nat → Nat
  | 0 => fun _ => 0
  | n + 1 => fun k => if k = n + 1 then mex ((opts u (n + 1)).map (xo (gt u n))) else gt u n k
def gn (u : zRu) (h : Nat) : Nat := gt u h h
theorem gt_gn (u : zRu) {k : Nat} : ∀ {n : Nat}, k ≤ n → gt u n k = gn u k := by
  intro n
  induction n with
  | zero => intro h; rw [show k = 0 by omega]; rfl
  | succ n ih =>
    intro h
    by_cases c : k = n + 1
    · subst c; rfl
    · show (if k = n + 1 then _ else gt u n k) = _
      rw [if_neg c]; exact ih (by omega)
theorem gn_0 (u : zRu) : gn u 0 = 0 := rfl
theorem gn_S {u : zRu} (hu : zRok u) (h : Nat) : gn u h = mex ((opts u h).map (xo (gn u))) := by
  cases h with
  | zero => rw [opts_0]; rfl
  | succ n =>
    show (if n + 1 = n + 1 then mex ((opts u (n + 1)).map (xo (gt u n))) else _) = _
    rw [if_pos rfl]
    congr 1
    apply List.map_congr_left
    intro o ho
    have := opt_bd hu ho
    unfold xo
    rw [gt_gn u (by omega), gt_gn u (by omega), gt_gn u (by omega)]
theorem xor_le : ∀ n a b : Nat, a ≤ n → a ^^^ b ≤ a + b := by
  intro n
  induction n with
  | zero => intro a b h; rw [show a = 0 by omega, Nat.zero_xor]; omega
  | succ n ih =>
    intro a b h
    have h1 := Nat.div_add_mod (a ^^^ b) 2
    have h2 : (a ^^^ b) / 2 = a / 2 ^^^ b / 2 := Nat.xor_div_two
    have h3 : (a ^^^ b) % 2 ≤ a % 2 + b % 2 := by
      have : (a ^^^ b) % 2 = (a % 2) ^^^ (b % 2) := Nat.xor_mod_two_pow (n := 1)
      have ha : a % 2 = 0 ∨ a % 2 = 1 := by omega
      have hb : b % 2 = 0 ∨ b % 2 = 1 := by omega
      rcases ha with ha | ha <;> rcases hb with hb | hb <;> rw [ha, hb] at this ⊢ <;> rw [this] <;> decide
    have h4 := ih (a / 2) (b / 2) (by omega)
    rw [h2] at h1
    omega
theorem gn_bd {u : zRu} (hu : zRok u) : ∀ n h, h ≤ n → h ≤ 2000 → gn u h ≤ bd u h := by
  intro n
  induction n with
  | zero => intro h h1 _; rw [show h = 0 by omega, gn_0]; exact Nat.zero_le _
  | succ n ih =>
    intro h h1 h2
    rw [gn_S hu]
    refine mex_le (by have := bd_le (u := u) h2; omega) (fun w hw => ?_)
    obtain ⟨o, ho, hw⟩ := List.mem_map.mp hw
    have hb := opt_bd hu ho
    have a1 := ih o.1 (by omega) (by omega)
    have a2 := ih o.2.1 (by omega) (by omega)
    have a3 := ih o.2.2 (by omega) (by omega)
    have x1 := xor_le _ (gn u o.1) (gn u o.2.1) (Nat.le_refl _)
    have x2 := xor_le _ (gn u o.1 ^^^ gn u o.2.1) (gn u o.2.2) (Nat.le_refl _)
    unfold xo at hw
    omega
theorem gn_le {u : zRu} (hu : zRok u) {h : Nat} (hh : h ≤ 2000) : gn u h ≤ 2000 := by
  have := gn_bd hu h h (Nat.le_refl h) hh
  have := bd_le (u := u) hh
  omega
theorem xor_lt {a b : Nat} (ha : a < 2048) (hb : b < 2048) : a ^^^ b < 2048 := Nat.xor_lt_two_pow (n := 11) ha hb
theorem xo_lt {u : zRu} (hu : zRok u) {o : zO} (h1 : o.1 ≤ 2000) (h2 : o.2.1 ≤ 2000) (h3 : o.2.2 ≤ 2000) : xo (gn u) o < 2048 := by
  have := gn_le hu h1
  have := gn_le hu h2
  have := gn_le hu h3
  exact xor_lt (xor_lt (by omega) (by omega)) (by omega)
/-- the least nimber, from its marks -/
theorem gn_is {u : zRu} (hu : zRok u) {h v : Nat} (hh : h ≤ 2000) (h1 : v ∉ (opts u h).map (xo (gn u))) (h2 : ∀ w, w < v → w ∈ (opts u h).map (xo (gn u))) : v = gn u h := by
  have := mex_spec (L := (opts u h).map (xo (gn u))) (fun w hw => by
    obtain ⟨o, ho, hw⟩ := List.mem_map.mp hw
    have hb := opt_bd hu ho
    have := xo_lt hu (o := o) (by omega) (by omega) (by omega)
    omega)
  rw [← gn_S hu] at this
  rcases Nat.lt_trichotomy v (gn u h) with c | c | c
  · exact absurd (this.2 v c) h1
  · exact c
  · exact absurd (h2 _ c) this.1
def mx (f : Nat → Nat) : Nat → Nat
  | 0 => 0
  | k + 1 => max (mx f k) (f k)
def cntI (f : Nat → Nat) (a : Int32) : Nat → Nat
  | 0 => 0
  | k + 1 => cntI f a k + (if nI (f k) = a then 1 else 0)
theorem mx_le {f : Nat → Nat} {b : Nat} : ∀ {n : Nat}, (∀ k, k < n → f k ≤ b) → mx f n ≤ b := by
  intro n
  induction n with
  | zero => intro _; exact Nat.zero_le _
  | succ n ih =>
    intro h
    have h1 := ih (fun k hk => h k (by omega))
    have h2 := h n (by omega)
    show max (mx f n) (f n) ≤ b
    omega
