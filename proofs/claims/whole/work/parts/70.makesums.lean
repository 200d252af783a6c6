/-! the reference: the sums of up to four heaps -/
theorem nI_leE {a b : Nat} (ha : a < 2147483648) (hb : b < 2147483648) : (nI a ≤ nI b) = (a ≤ b) := propext (nI_leI ha hb)
theorem nI_ltE {a b : Nat} (ha : a < 2147483648) (hb : b < 2147483648) : (nI a < nI b) = (a < b) := propext (nI_ltI ha hb)
theorem nI_q0 {a : Nat} (ha : a < 2147483648) : (nI a = 0) = (a = 0) := propext (nI_eq (b := 0) ha (by decide))
theorem nI_q1 {a : Nat} (ha : a < 2147483648) : (nI a = 1) = (a = 1) := propext (nI_eq (b := 1) ha (by decide))
theorem nI_q2 {a : Nat} (ha : a < 2147483648) : (nI a = 2) = (a = 2) := propext (nI_eq (b := 2) ha (by decide))
theorem nI_q3 {a : Nat} (ha : a < 2147483648) : (nI a = 3) = (a = 3) := propext (nI_eq (b := 3) ha (by decide))
theorem nI_q4 {a : Nat} (ha : a < 2147483648) : (nI a = 4) = (a = 4) := propext (nI_eq (b := 4) ha (by decide))
def isI (v : Nat) (w : Bool) (s : Nat) : Bool := bif w then decide (1 ≤ v ∧ v ≤ s) else decide (v = 0)
def gd (h v s : Nat) : Bool := isI (v / 64 % 4) (decide (0 < h)) s && (isI (v / 16 % 4) (decide (1 < h)) s && (isI (v / 4 % 4) (decide (2 < h)) s && (isI (v % 4) (decide (3 < h)) s && (decide (h < 2 ∨ v / 64 % 4 ≤ v / 16 % 4) && (decide (h < 3 ∨ v / 16 % 4 ≤ v / 4 % 4) && decide (h < 4 ∨ v / 4 % 4 ≤ v % 4))))))
def lpv (s h : Nat) : Nat → List Nat → List Nat
  | 0, L => L
  | k + 1, L => lpv s h k (bif gd h (255 - k) s then L ++ [255 - k] else L)
def lph (s : Nat) : Nat → List Nat → Nat → List Nat × Nat
  | 0, L, T => (L, T)
  | k + 1, L, T => lph s k (lpv s (4 - k) 256 L) (if 4 - k = 2 then (lpv s (4 - k) 256 L).length else T)
def vsL : Nat → List Nat
  | 1 => [0, 64, 80, 84, 85]
  | 2 => [0, 64, 128, 80, 96, 160, 84, 88, 104, 168, 85, 86, 90, 106, 170]
  | _ => [0, 64, 128, 192, 80, 96, 112, 160, 176, 240, 84, 88, 92, 104, 108, 124, 168, 172, 188, 252, 85, 86, 87, 90, 91, 95, 106, 107, 111, 127, 170, 171, 175, 191, 255]
theorem lph_ok : ∀ s, s < 4 → 1 ≤ s → lph s 5 [] 0 = (vsL s, tS s) := by decide +kernel
theorem vs_ok : ∀ s, s < 4 → 1 ≤ s → (vsL s).length = nS s ∧ ∀ j, j < nS s → (vsL s).getD j 0 / 64 % 4 = hqd (ixd s j) 0 ∧ (vsL s).getD j 0 / 16 % 4 = hqd (ixd s j) 1 ∧ (vsL s).getD j 0 / 4 % 4 = hqd (ixd s j) 2 ∧ (vsL s).getD j 0 % 4 = hqd (ixd s j) 3 := by decide +kernel
theorem lpv_le (s h : Nat) : ∀ k L, L.length ≤ (lpv s h k L).length := by
  intro k
  induction k with
  | zero => intro L; exact Nat.le_refl _
  | succ k ih =>
    intro L
    show L.length ≤ (lpv s h k (bif gd h (255 - k) s then L ++ [255 - k] else L)).length
    cases gd h (255 - k) s with
    | true =>
      have := ih (L ++ [255 - k])
      rw [List.length_append] at this
      have h1 : ([255 - k] : List Nat).length = 1 := rfl
      show L.length ≤ (lpv s h k (L ++ [255 - k])).length
      omega
    | false => exact ih L
theorem lph_le (s : Nat) : ∀ k L T, L.length ≤ (lph s k L T).1.length := by
  intro k
  induction k with
  | zero => intro L T; exact Nat.le_refl _
  | succ k ih =>
    intro L T
    exact Nat.le_trans (lpv_le s (4 - k) 256 L) (ih _ _)
theorem sp158 {d x l : Nat} {σ : Nat → Nat → Int32} {τ : Nat → Nat → Int64} {Q : zR → Prop} {v s : Nat} {w : Bool} (hv : v ≤ 3) (hs : s ≤ 3) (hq : Q (.inl (some (.int (bI (isI v w s)))), (49, x, l, σ, τ, zrho))) : zRn (d + 1) 158 (0, [.int (nI v), .int (bI w), .int (nI s)], [], (49, x, l, σ, τ, zrho)) Q := by
  unfold isI at hq
  refine zv158_0 ?_
  rw [nI_q0 (by omega)]
  cases w with
  | false =>
    refine ⟨fun _ => ⟨fun c => ?_, fun c => ?_⟩, fun q => absurd rfl q⟩
    · have hq : Q (.inl (some (.int (bI (decide (v = 0))))), (49, x, l, σ, τ, zrho)) := hq
      rw [decide_eq_false c] at hq; exact hq
    · have hq : Q (.inl (some (.int (bI (decide (v = 0))))), (49, x, l, σ, τ, zrho)) := hq
      rw [decide_eq_true (Classical.not_not.1 c)] at hq; exact hq
  | true =>
    have hq : Q (.inl (some (.int (bI (decide (1 ≤ v ∧ v ≤ s))))), (49, x, l, σ, τ, zrho)) := hq
    refine ⟨fun q => absurd q (by decide), fun _ => ?_⟩
    refine sp110n (a := v) (b := 1) (c := s) (by omega) (by omega) (by omega) (fun k1 k2 => zv158_10 ⟨Or.inr rfl, ?_⟩) (fun k => zv158_10 ⟨Or.inl rfl, ?_⟩)
    · rw [decide_eq_true ⟨k1, k2⟩] at hq; exact hq
    · rw [decide_eq_false k] at hq; exact hq
theorem and_f1 {a b : Bool} (h : a = false) : (a && b) = false := by rw [h]; rfl
theorem and_t1 {a b : Bool} (h : a = true) : (a && b) = b := by rw [h]; rfl
theorem mk_v {d x l : Nat} {σ : Nat → Nat → Int32} {τ : Nat → Nat → Int64} {Q : zR → Prop} {s h v n : Nat} (hs : s ≤ 3) (hh : h < 5) (hv : v < 256) (h23 : σ 32 23 = nI n)
    (hq0 : gd h v s = false → zRn (d + 2) 157 (251, [.ref 32, .int (nI s), .int (nI h), .int (nI v), zJ, zJ, zJ, zJ, zJ], [], (49, x, l, σ, τ, zrho)) Q)
    (hq1 : gd h v s = true → n < 35 ∧ ∀ r, (∀ j, j < 4 * n → r j = σ 45 j) → r (4 * n) = nI (v / 64 % 4) → r (4 * n + 1) = nI (v / 16 % 4) → r (4 * n + 2) = nI (v / 4 % 4) → r (4 * n + 3) = nI (v % 4) → zRn (d + 2) 157 (251, [.ref 32, .int (nI s), .int (nI h), .int (nI v), zJ, zJ, zJ, zJ, zJ], [], (49, x, l, zrow (zrow σ 45 r) 32 (upd (σ 32) 23 (nI (n + 1))), τ, zrho)) Q) :
    zRn (d + 2) 157 (14, [.ref 32, .int (nI s), .int (nI h), .int (nI v), zJ, zJ, zJ, zJ, zJ], [], (49, x, l, σ, τ, zrho)) Q := by
  have e6 : (nI v >>> ((6 : Int32) &&& 31)) &&& 3 = nI (v / 64 % 4) := by rw [z_shr6 (by omega), pk_andN (by omega) 2 (by decide)]
  have e4 : (nI v >>> ((4 : Int32) &&& 31)) &&& 3 = nI (v / 16 % 4) := by rw [show nI v >>> ((4 : Int32) &&& 31) = nI (v / 16) from pk_shrN (by omega) _ 4 (by decide), pk_andN (by omega) 2 (by decide)]
  have e2 : (nI v >>> ((2 : Int32) &&& 31)) &&& 3 = nI (v / 4 % 4) := by rw [show nI v >>> ((2 : Int32) &&& 31) = nI (v / 4) from pk_shrN (by omega) _ 2 (by decide), pk_andN (by omega) 2 (by decide)]
  have e0 : nI v &&& 3 = nI (v % 4) := pk_andN (by omega) 2 (by decide)
  have l6 : v / 64 % 4 < 4 := Nat.mod_lt _ (by omega)
  have l4 : v / 16 % 4 < 4 := Nat.mod_lt _ (by omega)
  have l2 : v / 4 % 4 < 4 := Nat.mod_lt _ (by omega)
  have l0 : v % 4 < 4 := Nat.mod_lt _ (by omega)
  unfold gd at hq0 hq1
  generalize v / 64 % 4 = a at e6 l6 hq0 hq1
  generalize v / 16 % 4 = b at e4 l4 hq0 hq1
  generalize v / 4 % 4 = c at e2 l2 hq0 hq1
  generalize v % 4 = e at e0 l0 hq0 hq1
  generalize hG : (isI a (decide (0 < h)) s && (isI b (decide (1 < h)) s && (isI c (decide (2 < h)) s && (isI e (decide (3 < h)) s && (decide (h < 2 ∨ a ≤ b) && (decide (h < 3 ∨ b ≤ c) && decide (h < 4 ∨ c ≤ e))))))) = G at hq0 hq1
  have no : G = false → zRn (d + 2) 157 (175, [.ref 32, .int (nI s), .int (nI h), .int (nI v), .int (nI a), .int (nI b), .int (nI c), .int (nI e), zJ], [], (49, x, l, σ, τ, zrho)) Q := fun q => zw157_175 (zw157_176 ⟨fun _ => hq0 q, fun q2 => absurd rfl q2⟩)
  have no1 : G = false → zRn (d + 2) 157 (127, [.ref 32, .int (nI s), .int (nI h), .int (nI v), .int (nI a), .int (nI b), .int (nI c), .int (nI e), zJ], [], (49, x, l, σ, τ, zrho)) Q := fun q => zw157_127 (zw157_128 ⟨fun _ => no q, fun q2 => absurd rfl q2⟩)
  have yes : G = true → zRn (d + 2) 157 (176, [.ref 32, .int (nI s), .int (nI h), .int (nI v), .int (nI a), .int (nI b), .int (nI c), .int (nI e), zJ], [.int 1], (49, x, l, σ, τ, zrho)) Q := by
    intro q
    obtain ⟨hn, hq1⟩ := hq1 q
    refine zw157_176 ⟨fun q2 => absurd q2 (by decide), fun _ => ?_⟩
    have f0 : (4 : Int32) * nI n = nI (4 * n) := by rw [show (4 : Int32) = nI 4 from rfl, pk_mul]
    have f1 : nI (4 * n) + 1 = nI (4 * n + 1) := nI_1 _
    have f2 : nI (4 * n) + 2 = nI (4 * n + 2) := nI_add _ 2
    have f3 : nI (4 * n) + 3 = nI (4 * n + 3) := nI_add _ 3
    rw [h23, f0, f1, f2, f3, nI_clamp (by omega), nI_clamp (by omega), nI_clamp (by omega), nI_clamp (by omega), nI_1]
    refine ⟨vp_in_nI (by omega) (by decide), vp_in_nI (by omega) (by decide), vp_in_nI (by omega) (by decide), vp_in_nI (by omega) (by decide), ?_⟩
    simp only [zup_row, zrow_row, zrow_me]
    refine hq1 _ (fun j hj => ?_) ?_ ?_ ?_ ?_
    · rw [pk_un (by omega), pk_un (by omega), pk_un (by omega), pk_un (by omega)]
    · rw [pk_un (by omega), pk_un (by omega), pk_un (by omega), upd_s rfl]
    · rw [pk_un (by omega), pk_un (by omega), upd_s rfl]
    · rw [pk_un (by omega), upd_s rfl]
    · rw [upd_s rfl]
  have m3 : (isI a (decide (0 < h)) s = true) → (isI b (decide (1 < h)) s = true) → (isI c (decide (2 < h)) s = true) → (isI e (decide (3 < h)) s = true) → zRn (d + 2) 157 (128, [.ref 32, .int (nI s), .int (nI h), .int (nI v), .int (nI a), .int (nI b), .int (nI c), .int (nI e), zJ], [.int 1], (49, x, l, σ, τ, zrho)) Q := by
    intro g1 g2 g3 g4
    rw [and_t1 g1, and_t1 g2, and_t1 g3, and_t1 g4] at hG
    have s3 : (h < 2 ∨ a ≤ b) → (h < 3 ∨ b ≤ c) → zRn (d + 2) 157 (159, [.ref 32, .int (nI s), .int (nI h), .int (nI v), .int (nI a), .int (nI b), .int (nI c), .int (nI e), zJ], [], (49, x, l, σ, τ, zrho)) Q := by
      intro k1 k2
      rw [and_t1 (decide_eq_true k1), and_t1 (decide_eq_true k2)] at hG
      refine zw157_159 ?_
      rw [show (nI h < 4) = (h < 4) from nI_ltE (b := 4) (by omega) (by omega), nI_ltI (by omega) (by omega)]
      refine ⟨fun q => yes (by rw [← hG]; exact decide_eq_true (Or.inl q)), fun q => ⟨fun q2 => no (by rw [← hG]; exact decide_eq_false (by omega)), fun q2 => yes (by rw [← hG]; exact decide_eq_true (by omega))⟩⟩
    have s2 : (h < 2 ∨ a ≤ b) → zRn (d + 2) 157 (147, [.ref 32, .int (nI s), .int (nI h), .int (nI v), .int (nI a), .int (nI b), .int (nI c), .int (nI e), zJ], [], (49, x, l, σ, τ, zrho)) Q := by
      intro k1
      refine zw157_147 ?_
      rw [show (nI h < 3) = (h < 3) from nI_ltE (b := 3) (by omega) (by omega), nI_ltI (by omega) (by omega)]
      refine ⟨fun q => s3 k1 (Or.inl q), fun q => ⟨fun q2 => no (by rw [← hG, and_t1 (decide_eq_true k1)]; exact and_f1 (decide_eq_false (by omega))), fun q2 => s3 k1 (by omega)⟩⟩
    refine zw157_128 ⟨fun q => absurd q (by decide), fun _ => ?_⟩
    rw [show (nI h < 2) = (h < 2) from nI_ltE (b := 2) (by omega) (by omega), nI_ltI (by omega) (by omega)]
    refine ⟨fun q => s2 (Or.inl q), fun q => ⟨fun q2 => no (by rw [← hG]; exact and_f1 (decide_eq_false (by omega))), fun q2 => s2 (by omega)⟩⟩
  have g4 : isI a (decide (0 < h)) s = true → isI b (decide (1 < h)) s = true → isI c (decide (2 < h)) s = true → ∀ w : Bool, w = decide (3 < h) → zRn (d + 2) 157 (116, [.ref 32, .int (nI s), .int (nI h), .int (nI v), .int (nI a), .int (nI b), .int (nI c), .int (nI e), zJ], [.int (bI w), .int (nI e)], (49, x, l, σ, τ, zrho)) Q := by
    intro k1 k2 k3 w hw
    refine zw157_116 (sp158 (by omega) hs (zw157_120 ⟨fun q => ?_, fun q => ?_⟩))
    · rw [bI_0, hw] at q
      exact no1 (by rw [← hG, and_t1 k1, and_t1 k2, and_t1 k3]; exact and_f1 q)
    · rw [bI_0, hw] at q
      exact m3 k1 k2 k3 (by simpa using q)
  have g3 : isI a (decide (0 < h)) s = true → isI b (decide (1 < h)) s = true → ∀ w : Bool, w = decide (2 < h) → zRn (d + 2) 157 (97, [.ref 32, .int (nI s), .int (nI h), .int (nI v), .int (nI a), .int (nI b), .int (nI c), .int (nI e), zJ], [.int (bI w), .int (nI c)], (49, x, l, σ, τ, zrho)) Q := by
    intro k1 k2 w hw
    refine zw157_97 (sp158 (by omega) hs (zw157_101 ⟨fun q => ?_, fun q => ?_⟩))
    · rw [bI_0, hw] at q
      exact no1 (by rw [← hG, and_t1 k1, and_t1 k2]; exact and_f1 q)
    · rw [bI_0, hw] at q
      rw [show (nI h ≤ 3) = (h ≤ 3) from nI_leE (b := 3) (by omega) (by omega)]
      exact ⟨fun q2 => g4 k1 k2 (by simpa using q) false (decide_eq_false (by omega)).symm, fun q2 => g4 k1 k2 (by simpa using q) true (decide_eq_true (by omega)).symm⟩
  have g2 : isI a (decide (0 < h)) s = true → ∀ w : Bool, w = decide (1 < h) → zRn (d + 2) 157 (78, [.ref 32, .int (nI s), .int (nI h), .int (nI v), .int (nI a), .int (nI b), .int (nI c), .int (nI e), zJ], [.int (bI w), .int (nI b)], (49, x, l, σ, τ, zrho)) Q := by
    intro k1 w hw
    refine zw157_78 (sp158 (by omega) hs (zw157_82 ⟨fun q => ?_, fun q => ?_⟩))
    · rw [bI_0, hw] at q
      exact no1 (by rw [← hG, and_t1 k1]; exact and_f1 q)
    · rw [bI_0, hw] at q
      rw [show (nI h ≤ 2) = (h ≤ 2) from nI_leE (b := 2) (by omega) (by omega)]
      exact ⟨fun q2 => g3 k1 (by simpa using q) false (decide_eq_false (by omega)).symm, fun q2 => g3 k1 (by simpa using q) true (decide_eq_true (by omega)).symm⟩
  have g1 : ∀ w : Bool, w = decide (0 < h) → zRn (d + 2) 157 (59, [.ref 32, .int (nI s), .int (nI h), .int (nI v), .int (nI a), .int (nI b), .int (nI c), .int (nI e), zJ], [.int (bI w), .int (nI a)], (49, x, l, σ, τ, zrho)) Q := by
    intro w hw
    refine zw157_59 (sp158 (by omega) hs (zw157_63 ⟨fun q => ?_, fun q => ?_⟩))
    · rw [bI_0, hw] at q
      exact no1 (by rw [← hG]; exact and_f1 q)
    · rw [bI_0, hw] at q
      rw [show (nI h ≤ 1) = (h ≤ 1) from nI_leE (b := 1) (by omega) (by omega)]
      exact ⟨fun q2 => g2 (by simpa using q) false (decide_eq_false (by omega)).symm, fun q2 => g2 (by simpa using q) true (decide_eq_true (by omega)).symm⟩
  refine zw157_14 ?_
  rw [e6, e4, e2, e0, show (256 ≤ nI v) = (256 ≤ v) from nI_leE (a := 256) (by omega) (by omega), show (nI h ≤ 0) = (h ≤ 0) from nI_leE (b := 0) (by omega) (by omega)]
  exact ⟨fun q => absurd q (by omega), fun _ => ⟨fun q2 => g1 false (decide_eq_false (by omega)).symm, fun q2 => g1 true (decide_eq_true (by omega)).symm⟩⟩
def MDl (L : List Nat) (r : Nat → Int32) : Prop := ∀ j, j < L.length → r (4 * j) = nI (L.getD j 0 / 64 % 4) ∧ r (4 * j + 1) = nI (L.getD j 0 / 16 % 4) ∧ r (4 * j + 2) = nI (L.getD j 0 / 4 % 4) ∧ r (4 * j + 3) = nI (L.getD j 0 % 4)
theorem getD_app (L : List Nat) (v : Nat) : (∀ j, j < L.length → (L ++ [v]).getD j 0 = L.getD j 0) ∧ (L ++ [v]).getD L.length 0 = v := by
  induction L with
  | nil => exact ⟨fun j h => absurd h (Nat.not_lt_zero _), rfl⟩
  | cons y L ih =>
    refine ⟨fun j h => ?_, ih.2⟩
    cases j with
    | zero => rfl
    | succ j => exact ih.1 j (Nat.lt_of_succ_lt_succ h)
theorem MDl_app {L : List Nat} {v : Nat} {r r' : Nat → Int32} (h : MDl L r) (h1 : ∀ j, j < 4 * L.length → r' j = r j) (a0 : r' (4 * L.length) = nI (v / 64 % 4)) (a1 : r' (4 * L.length + 1) = nI (v / 16 % 4)) (a2 : r' (4 * L.length + 2) = nI (v / 4 % 4)) (a3 : r' (4 * L.length + 3) = nI (v % 4)) : MDl (L ++ [v]) r' := by
  intro j hj
  rw [List.length_append] at hj
  have hj : j < L.length + 1 := hj
  by_cases c : j = L.length
  · rw [c, (getD_app L v).2]
    exact ⟨a0, a1, a2, a3⟩
  · rw [(getD_app L v).1 j (by omega), h1 _ (by omega), h1 _ (by omega), h1 _ (by omega), h1 _ (by omega)]
    exact h j (by omega)
/-- all v for one number of heaps -/
theorem mk_vs {d x l s h : Nat} {τ : Nat → Nat → Int64} {Q : zR → Prop} {σ : Nat → Nat → Int32} (hs : s ≤ 3) (hh : h < 5) {F : List Nat} (hF : F.length ≤ 35)
    (hq : ∀ σ', (∀ b, b ≠ 32 → b ≠ 45 → σ' b = σ b) → (∀ j, j ≠ 23 → j ≠ 24 → σ' 32 j = σ 32 j) → σ' 32 24 = σ 32 24 → σ' 32 23 = nI F.length → MDl F (σ' 45) → zRn (d + 2) 157 (14, [.ref 32, .int (nI s), .int (nI h), .int (nI 256), zJ, zJ, zJ, zJ, zJ], [], (49, x, l, σ', τ, zrho)) Q) :
    ∀ k L σ', k ≤ 256 → lpv s h k L = F → (∀ b, b ≠ 32 → b ≠ 45 → σ' b = σ b) → (∀ j, j ≠ 23 → j ≠ 24 → σ' 32 j = σ 32 j) → σ' 32 24 = σ 32 24 → σ' 32 23 = nI L.length → MDl L (σ' 45) → zRn (d + 2) 157 (14, [.ref 32, .int (nI s), .int (nI h), .int (nI (256 - k)), zJ, zJ, zJ, zJ, zJ], [], (49, x, l, σ', τ, zrho)) Q := by
  intro k
  induction k with
  | zero =>
    intro L σ' _ hL f1 f2 f24 h23 hM
    have hL : L = F := hL
    subst hL
    exact hq σ' f1 f2 f24 h23 hM
  | succ k ih =>
    intro L σ' hk hL f1 f2 f24 h23 hM
    have hL : lpv s h k (bif gd h (255 - k) s then L ++ [255 - k] else L) = F := hL
    rw [show 256 - (k + 1) = 255 - k by omega]
    have nx : nI (255 - k) + 1 = nI (256 - k) := by rw [nI_1]; congr 1; omega
    refine mk_v (n := L.length) hs hh (by omega) h23 (fun q => zw157_251 ?_) (fun q => ⟨?_, fun r r1 q0 q1 q2 q3 => zw157_251 ?_⟩)
    · rw [q] at hL
      rw [nx]
      exact ih L σ' (by omega) hL f1 f2 f24 h23 hM
    · rw [q] at hL
      have hL : lpv s h k (L ++ [255 - k]) = F := hL
      have := lpv_le s h k (L ++ [255 - k])
      rw [hL, List.length_append] at this
      have : L.length + 1 ≤ F.length := this
      omega
    · rw [q] at hL
      rw [nx]
      refine ih (L ++ [255 - k]) _ (by omega) hL (fun b b1 b2 => ?_) (fun j j1 j2 => ?_) ?_ ?_ ?_
      · rw [zrow_ne _ _ b1, zrow_ne _ _ b2, f1 b b1 b2]
      · rw [zrow_me, pk_un j1, f2 j j1 j2]
      · rw [zrow_me, pk_un (by decide), f24]
      · rw [zrow_me, upd_s rfl, List.length_append]; rfl
      · exact MDl_app hM r1 q0 q1 q2 q3
theorem sp157 {d x l : Nat} {σ : Nat → Nat → Int32} {τ : Nat → Nat → Int64} {Q : zR → Prop} {s : Nat} (h1 : 1 ≤ s) (h3 : s ≤ 3)
    (hq : ∀ σ', (∀ b, b ≠ 32 → b ≠ 45 → σ' b = σ b) → (∀ j, j ≠ 23 → j ≠ 24 → σ' 32 j = σ 32 j) → σ' 32 23 = nI (nS s) → σ' 32 24 = nI (tS s) → MD s (σ' 45) → Q (.inl none, (49, x, l, σ', τ, zrho))) :
    zRn (d + 2) 157 (0, [.ref 32, .int (nI s), zJ, zJ, zJ, zJ, zJ, zJ, zJ], [], (49, x, l, σ, τ, zrho)) Q := by
  have hok := lph_ok s (by omega) h1
  have hv := vs_ok s (by omega) h1
  have hn := ix_n s (by omega) h1
  have key : ∀ k L T σ', k ≤ 5 → lph s k L T = (vsL s, tS s) → (∀ b, b ≠ 32 → b ≠ 45 → σ' b = σ b) → (∀ j, j ≠ 23 → j ≠ 24 → σ' 32 j = σ 32 j) → (k ≤ 2 → σ' 32 24 = nI T) → σ' 32 23 = nI L.length → MDl L (σ' 45) → zRn (d + 2) 157 (7, [.ref 32, .int (nI s), .int (nI (5 - k)), zJ, zJ, zJ, zJ, zJ, zJ], [], (49, x, l, σ', τ, zrho)) Q := by
    intro k
    induction k with
    | zero =>
      intro L T σ' _ hL f1 f2 f24 h23 hM
      have hL : (L, T) = (vsL s, tS s) := hL
      cases hL
      refine zw157_7 ⟨fun _ => hq σ' f1 f2 (by rw [h23, hv.1]) (f24 (by omega)) ?_, fun q => absurd (by decide) q⟩
      intro j hj i hi
      obtain ⟨e0, e1, e2, e3⟩ := hv.2 j hj
      obtain ⟨m0, m1, m2, m3⟩ := hM j (by rw [hv.1]; exact hj)
      rw [e0] at m0
      rw [e1] at m1
      rw [e2] at m2
      rw [e3] at m3
      rcases (show i = 0 ∨ i = 1 ∨ i = 2 ∨ i = 3 by omega) with rfl | rfl | rfl | rfl
      · exact m0
      · exact m1
      · exact m2
      · exact m3
    | succ k ih =>
      intro L T σ' hk hL f1 f2 f24 h23 hM
      have hL : lph s k (lpv s (4 - k) 256 L) (if 4 - k = 2 then (lpv s (4 - k) 256 L).length else T) = (vsL s, tS s) := hL
      have hle := lph_le s k (lpv s (4 - k) 256 L) (if 4 - k = 2 then (lpv s (4 - k) 256 L).length else T)
      rw [hL] at hle
      have hle : (lpv s (4 - k) 256 L).length ≤ (vsL s).length := hle
      rw [show 5 - (k + 1) = 4 - k by omega]
      refine zw157_7 ⟨fun q => ?_, fun _ => ?_⟩
      · simp (disch := omega) only [zlit, nI_leI, nI_ltI, nI_eq, nI_clamp, nI_add, pk_mul, pk_sub, pk_div] at q; omega
      · have nx : nI (4 - k) + 1 = nI (5 - k) := by rw [nI_1]; congr 1; omega
        refine mk_vs (σ := σ') (s := s) (h := 4 - k) (F := lpv s (4 - k) 256 L) h3 (by omega) (by omega) (fun σ2 g1 g2 g24 g23 gM => zw157_14 ⟨fun _ => ⟨fun q => ?_, fun q => ?_⟩, fun q => absurd (by decide) q⟩) 256 L σ' (Nat.le_refl _) rfl (fun _ _ _ => rfl) (fun _ _ _ => rfl) rfl h23 hM
        · rw [nI_q2 (by omega)] at q
          rw [if_neg q] at hL
          rw [nx]
          exact ih _ T σ2 (by omega) hL (fun b b1 b2 => (g1 b b1 b2).trans (f1 b b1 b2)) (fun j j1 j2 => (g2 j j1 j2).trans (f2 j j1 j2)) (fun q2 => g24.trans (f24 (by omega))) g23 gM
        · rw [nI_q2 (by omega)] at q
          have q : 4 - k = 2 := Classical.not_not.1 q
          rw [if_pos q] at hL
          rw [nx, zup_row, g23]
          refine ih _ _ _ (by omega) hL (fun b b1 b2 => ?_) (fun j j1 j2 => ?_) (fun _ => ?_) ?_ gM
          · rw [zrow_ne _ _ b1, g1 b b1 b2, f1 b b1 b2]
          · rw [zrow_me, pk_un j2, g2 j j1 j2, f2 j j1 j2]
          · rw [zrow_me, upd_s rfl]
          · rw [zrow_me, pk_un (by decide)]; exact g23
  refine zw157_0 ?_
  rw [zup_row]
  refine key 5 [] 0 _ (Nat.le_refl _) hok (fun b b1 b2 => zrow_ne _ _ b1) (fun j j1 j2 => by rw [zrow_me, pk_un j1]) (fun q => absurd q (by omega)) ?_ (fun j hj => absurd hj (Nat.not_lt_zero _))
  rw [zrow_me, upd_s rfl]
  rfl
