/-! the class: marks -/
def zrowL (τ : Nat → Nat → Int64) (a : Nat) (s : Nat → Int64) : Nat → Nat → Int64 := fun b => bif Nat.beq b a then s else τ b
theorem zupL_row (τ : Nat → Nat → Int64) (a j : Nat) (v : Int64) : zupL τ a j v = zrowL τ a (vp_updL (τ a) j v) := by
  funext b
  unfold zupL zrowL
  cases c : Nat.beq b a with
  | false => rfl
  | true => rw [Nat.eq_of_beq_eq_true c]
theorem zrowL_row (τ : Nat → Nat → Int64) (a : Nat) (s t : Nat → Int64) : zrowL (zrowL τ a s) a t = zrowL τ a t := by
  funext b
  unfold zrowL
  cases c : Nat.beq b a <;> rfl
theorem zrowL_me (τ : Nat → Nat → Int64) (a : Nat) (s : Nat → Int64) : zrowL τ a s a = s := by
  unfold zrowL
  rw [Nat.beq_refl]
  rfl
theorem zrowL_id (τ : Nat → Nat → Int64) (a : Nat) : zrowL τ a (τ a) = τ := by
  funext b
  unfold zrowL
  cases c : Nat.beq b a with
  | false => rfl
  | true => rw [Nat.eq_of_beq_eq_true c]; rfl
theorem zrowL_ne (τ : Nat → Nat → Int64) {a b : Nat} (s : Nat → Int64) (h : b ≠ a) : zrowL τ a s b = τ b := by
  unfold zrowL
  rw [show Nat.beq b a = false from by
    cases c : Nat.beq b a with
    | false => rfl
    | true => exact absurd (Nat.eq_of_beq_eq_true c) h]
  rfl
theorem zrowL_sw (τ : Nat → Nat → Int64) {a b : Nat} (s t : Nat → Int64) (h : a ≠ b) : zrowL (zrowL τ a s) b t = zrowL (zrowL τ b t) a s := by
  funext c
  by_cases h1 : c = b
  · subst h1; rw [zrowL_me, zrowL_ne _ _ (by omega), zrowL_me]
  · rw [zrowL_ne _ _ h1]
    by_cases h2 : c = a
    · subst h2; rw [zrowL_me, zrowL_me]
    · rw [zrowL_ne _ _ h2, zrowL_ne _ _ h2, zrowL_ne _ _ h1]
def mk (t : Nat → Int64) (f v : Nat) : Bool := zb (t (f + v / 64)) (v % 64)
def Mk (t t' : Nat → Int64) (f : Nat) (P : Nat → Prop) : Prop := (∀ w, w < 2048 → (mk t' f w = true ↔ mk t f w = true ∨ P w)) ∧ ∀ j, (j < f ∨ f + 32 ≤ j) → t' j = t j
theorem Mk.refl {t : Nat → Int64} {f : Nat} {P : Nat → Prop} (h : ∀ w, ¬ P w) : Mk t t f P := ⟨fun w _ => ⟨Or.inl, fun q => q.elim id (fun p => absurd p (h w))⟩, fun _ _ => rfl⟩
theorem Mk.trans {a b c : Nat → Int64} {f : Nat} {P R S : Nat → Prop} (h1 : Mk a b f P) (h2 : Mk b c f R) (h : ∀ w, S w ↔ P w ∨ R w) : Mk a c f S := by
  refine ⟨fun w hw => ?_, fun j hj => (h2.2 j hj).trans (h1.2 j hj)⟩
  rw [h2.1 w hw, h1.1 w hw, h w, or_assoc]
theorem Mk.iff {a b : Nat → Int64} {f : Nat} {P R : Nat → Prop} (h1 : Mk a b f P) (h : ∀ w, w < 2048 → (P w ↔ R w)) : Mk a b f R := ⟨fun w hw => by rw [h1.1 w hw, h w hw], h1.2⟩
theorem sp65_8 {d x l : Nat} {σ : Nat → Nat → Int32} {τ : Nat → Nat → Int64} {Q : zR → Prop} {f v : Nat} (hf : f + 32 ≤ 32) (hv : v < 2048) (hq : ∀ t, Mk (τ 8) t f (fun w => w = v) → Q (.inl none, (49, x, l, σ, zrowL τ 8 t, zrho))) :
    zRn d 65 (0, [.ref 8, .int (nI f), .int (nI v)], [], (49, x, l, σ, τ, zrho)) Q := by
  refine zv65_r8_0 ?_
  rw [z_shr6 (by omega), z_and63 (by omega), nI_add, nI_clamp (by omega), zupL_row]
  refine ⟨vp_in_nI (by omega) (by decide), vp_in_nI (by omega) (by decide), hq _ ⟨fun w hw => ?_, fun j hj => pk_uLn (by omega)⟩⟩
  unfold mk
  by_cases c : f + w / 64 = f + v / 64
  · rw [c, pk_uLs, zb_set (by omega) _ (by omega), Bool.or_eq_true, decide_eq_true_iff]
    constructor
    · intro q
      rcases q with q | q
      · exact Or.inl q
      · exact Or.inr (by omega)
    · intro q
      rcases q with q | q
      · exact Or.inl q
      · exact Or.inr (by omega)
  · rw [pk_uLn c]
    exact ⟨Or.inl, fun q => q.elim id (fun e => absurd (by rw [e]) c)⟩
theorem sp65_9 {d x l : Nat} {σ : Nat → Nat → Int32} {τ : Nat → Nat → Int64} {Q : zR → Prop} {f v : Nat} (hf : f + 32 ≤ 512) (hv : v < 2048) (hq : ∀ t, Mk (τ 9) t f (fun w => w = v) → Q (.inl none, (49, x, l, σ, zrowL τ 9 t, zrho))) :
    zRn d 65 (0, [.ref 9, .int (nI f), .int (nI v)], [], (49, x, l, σ, τ, zrho)) Q := by
  refine zv65_r9_0 ?_
  rw [z_shr6 (by omega), z_and63 (by omega), nI_add, nI_clamp (by omega), zupL_row]
  refine ⟨vp_in_nI (by omega) (by decide), vp_in_nI (by omega) (by decide), hq _ ⟨fun w hw => ?_, fun j hj => pk_uLn (by omega)⟩⟩
  unfold mk
  by_cases c : f + w / 64 = f + v / 64
  · rw [c, pk_uLs, zb_set (by omega) _ (by omega), Bool.or_eq_true, decide_eq_true_iff]
    constructor
    · intro q
      rcases q with q | q
      · exact Or.inl q
      · exact Or.inr (by omega)
    · intro q
      rcases q with q | q
      · exact Or.inl q
      · exact Or.inr (by omega)
  · rw [pk_uLn c]
    exact ⟨Or.inl, fun q => q.elim id (fun e => absurd (by rw [e]) c)⟩
theorem sp65_10 {d x l : Nat} {σ : Nat → Nat → Int32} {τ : Nat → Nat → Int64} {Q : zR → Prop} {f v : Nat} (hf : f + 32 ≤ 512) (hv : v < 2048) (hq : ∀ t, Mk (τ 10) t f (fun w => w = v) → Q (.inl none, (49, x, l, σ, zrowL τ 10 t, zrho))) :
    zRn d 65 (0, [.ref 10, .int (nI f), .int (nI v)], [], (49, x, l, σ, τ, zrho)) Q := by
  refine zv65_r10_0 ?_
  rw [z_shr6 (by omega), z_and63 (by omega), nI_add, nI_clamp (by omega), zupL_row]
  refine ⟨vp_in_nI (by omega) (by decide), vp_in_nI (by omega) (by decide), hq _ ⟨fun w hw => ?_, fun j hj => pk_uLn (by omega)⟩⟩
  unfold mk
  by_cases c : f + w / 64 = f + v / 64
  · rw [c, pk_uLs, zb_set (by omega) _ (by omega), Bool.or_eq_true, decide_eq_true_iff]
    constructor
    · intro q
      rcases q with q | q
      · exact Or.inl q
      · exact Or.inr (by omega)
    · intro q
      rcases q with q | q
      · exact Or.inl q
      · exact Or.inr (by omega)
  · rw [pk_uLn c]
    exact ⟨Or.inl, fun q => q.elim id (fun e => absurd (by rw [e]) c)⟩
theorem sp63_9 {d x l : Nat} {σ : Nat → Nat → Int32} {τ : Nat → Nat → Int64} {Q : zR → Prop} {f : Nat} (hf : f + 32 ≤ 512) (hq : ∀ t, (∀ w, w < 2048 → mk t f w = false) → (∀ j, (j < f ∨ f + 32 ≤ j) → t j = τ 9 j) → Q (.inl none, (49, x, l, σ, zrowL τ 9 t, zrho))) :
    zRn d 63 (0, [.ref 9, .int (nI f), zJ], [], (49, x, l, σ, τ, zrho)) Q := by
  have key : ∀ m k t, k + m = 32 → (∀ i, i < k → t (f + i) = 0) → (∀ j, (j < f ∨ f + 32 ≤ j) → t j = τ 9 j) → zRn d 63 (2, [.ref 9, .int (nI f), .int (nI k)], [], (49, x, l, σ, zrowL τ 9 t, zrho)) Q := by
    intro m
    induction m with
    | zero =>
      intro k t hk h1 h2
      refine zv63_r9_2 ⟨fun _ => hq t (fun w hw => ?_) h2, fun c => ?_⟩
      · unfold mk
        rw [h1 (w / 64) (by omega), zb_0]
      · simp (disch := omega) only [zlit, nI_leI, nI_ltI, nI_eq, nI_clamp, nI_add, pk_mul, pk_sub, pk_div] at c; omega
    | succ m ih =>
      intro k t hk h1 h2
      refine zv63_r9_2 ⟨fun c => ?_, fun _ => ?_⟩
      · simp (disch := omega) only [zlit, nI_leI, nI_ltI, nI_eq, nI_clamp, nI_add, pk_mul, pk_sub, pk_div] at c; omega
      · rw [nI_add, nI_clamp (by omega), nI_1, zupL_row, zrowL_row]
        refine ⟨vp_in_nI (by omega) (by decide), ih (k + 1) _ (by omega) (fun i hi => ?_) (fun j hj => ?_)⟩
        · show vp_updL t (f + k) 0 (f + i) = 0
          by_cases c : i = k
          · rw [c, pk_uLs]
          · rw [pk_uLn (by omega)]; exact h1 i (by omega)
        · show vp_updL t (f + k) 0 j = τ 9 j
          rw [pk_uLn (by omega)]; exact h2 j hj
  have := key 32 0 (τ 9) rfl (fun i hi => by omega) (fun _ _ => rfl)
  rw [zrowL_id] at this
  exact zv63_r9_0 this
theorem sp64_9 {d x l : Nat} {σ : Nat → Nat → Int32} {τ : Nat → Nat → Int64} {Q : zR → Prop} {f : Nat} (hf : f + 32 ≤ 512) (hq : ∀ t, Mk (τ 8) t 0 (fun w => w < 2048 ∧ mk (τ 9) f w = true) → Q (.inl none, (49, x, l, σ, zrowL τ 8 t, zrho))) :
    zRn d 64 (0, [.ref 6, .ref 9, .int (nI f), zJ], [], (49, x, l, σ, τ, zrho)) Q := by
  have key : ∀ m k t, k + m = 32 → (∀ i, i < k → t i = τ 8 i ||| τ 9 (f + i)) → (∀ j, k ≤ j → t j = τ 8 j) → zRn d 64 (2, [.ref 6, .ref 9, .int (nI f), .int (nI k)], [], (49, x, l, σ, zrowL τ 8 t, zrho)) Q := by
    intro m
    induction m with
    | zero =>
      intro k t hk h1 h2
      refine zv64_r6_r9_2 ⟨fun _ => hq t ⟨fun w hw => ?_, fun j hj => h2 j (by omega)⟩, fun c => ?_⟩
      · unfold mk
        rw [Nat.zero_add, h1 (w / 64) (by omega), zb_or, Bool.or_eq_true]
        exact ⟨fun q => q.elim Or.inl (fun q => Or.inr ⟨hw, q⟩), fun q => q.elim Or.inl (fun q => Or.inr q.2)⟩
      · simp (disch := omega) only [zlit, nI_leI, nI_ltI, nI_eq, nI_clamp, nI_add, pk_mul, pk_sub, pk_div] at c; omega
    | succ m ih =>
      intro k t hk h1 h2
      refine zv64_r6_r9_2 ⟨fun c => ?_, fun _ => ?_⟩
      · simp (disch := omega) only [zlit, nI_leI, nI_ltI, nI_eq, nI_clamp, nI_add, pk_mul, pk_sub, pk_div] at c; omega
      · rw [nI_add, nI_clamp (by omega), nI_clamp (by omega), nI_1, zupL_row, zrowL_row]
        refine ⟨vp_in_nI (by omega) (by decide), vp_in_nI (by omega) (by decide), vp_in_nI (by omega) (by decide), ih (k + 1) _ (by omega) (fun i hi => ?_) (fun j hj => ?_)⟩
        · show vp_updL t k (t k ||| τ 9 (f + k)) i = _
          by_cases c : i = k
          · rw [c, pk_uLs, h2 k (by omega)]
          · rw [pk_uLn (by omega)]; exact h1 i (by omega)
        · show vp_updL t k (t k ||| τ 9 (f + k)) j = τ 8 j
          rw [pk_uLn (by omega)]; exact h2 j (by omega)
  have := key 32 0 (τ 8) rfl (fun i hi => by omega) (fun _ _ => rfl)
  rw [zrowL_id] at this
  exact zv64_r6_r9_0 this
theorem sp63_10 {d x l : Nat} {σ : Nat → Nat → Int32} {τ : Nat → Nat → Int64} {Q : zR → Prop} {f : Nat} (hf : f + 32 ≤ 512) (hq : ∀ t, (∀ w, w < 2048 → mk t f w = false) → (∀ j, (j < f ∨ f + 32 ≤ j) → t j = τ 10 j) → Q (.inl none, (49, x, l, σ, zrowL τ 10 t, zrho))) :
    zRn d 63 (0, [.ref 10, .int (nI f), zJ], [], (49, x, l, σ, τ, zrho)) Q := by
  have key : ∀ m k t, k + m = 32 → (∀ i, i < k → t (f + i) = 0) → (∀ j, (j < f ∨ f + 32 ≤ j) → t j = τ 10 j) → zRn d 63 (2, [.ref 10, .int (nI f), .int (nI k)], [], (49, x, l, σ, zrowL τ 10 t, zrho)) Q := by
    intro m
    induction m with
    | zero =>
      intro k t hk h1 h2
      refine zv63_r10_2 ⟨fun _ => hq t (fun w hw => ?_) h2, fun c => ?_⟩
      · unfold mk
        rw [h1 (w / 64) (by omega), zb_0]
      · simp (disch := omega) only [zlit, nI_leI, nI_ltI, nI_eq, nI_clamp, nI_add, pk_mul, pk_sub, pk_div] at c; omega
    | succ m ih =>
      intro k t hk h1 h2
      refine zv63_r10_2 ⟨fun c => ?_, fun _ => ?_⟩
      · simp (disch := omega) only [zlit, nI_leI, nI_ltI, nI_eq, nI_clamp, nI_add, pk_mul, pk_sub, pk_div] at c; omega
      · rw [nI_add, nI_clamp (by omega), nI_1, zupL_row, zrowL_row]
        refine ⟨vp_in_nI (by omega) (by decide), ih (k + 1) _ (by omega) (fun i hi => ?_) (fun j hj => ?_)⟩
        · show vp_updL t (f + k) 0 (f + i) = 0
          by_cases c : i = k
          · rw [c, pk_uLs]
          · rw [pk_uLn (by omega)]; exact h1 i (by omega)
        · show vp_updL t (f + k) 0 j = τ 10 j
          rw [pk_uLn (by omega)]; exact h2 j hj
  have := key 32 0 (τ 10) rfl (fun i hi => by omega) (fun _ _ => rfl)
  rw [zrowL_id] at this
  exact zv63_r10_0 this
theorem sp64_10 {d x l : Nat} {σ : Nat → Nat → Int32} {τ : Nat → Nat → Int64} {Q : zR → Prop} {f : Nat} (hf : f + 32 ≤ 512) (hq : ∀ t, Mk (τ 8) t 0 (fun w => w < 2048 ∧ mk (τ 10) f w = true) → Q (.inl none, (49, x, l, σ, zrowL τ 8 t, zrho))) :
    zRn d 64 (0, [.ref 6, .ref 10, .int (nI f), zJ], [], (49, x, l, σ, τ, zrho)) Q := by
  have key : ∀ m k t, k + m = 32 → (∀ i, i < k → t i = τ 8 i ||| τ 10 (f + i)) → (∀ j, k ≤ j → t j = τ 8 j) → zRn d 64 (2, [.ref 6, .ref 10, .int (nI f), .int (nI k)], [], (49, x, l, σ, zrowL τ 8 t, zrho)) Q := by
    intro m
    induction m with
    | zero =>
      intro k t hk h1 h2
      refine zv64_r6_r10_2 ⟨fun _ => hq t ⟨fun w hw => ?_, fun j hj => h2 j (by omega)⟩, fun c => ?_⟩
      · unfold mk
        rw [Nat.zero_add, h1 (w / 64) (by omega), zb_or, Bool.or_eq_true]
        exact ⟨fun q => q.elim Or.inl (fun q => Or.inr ⟨hw, q⟩), fun q => q.elim Or.inl (fun q => Or.inr q.2)⟩
      · simp (disch := omega) only [zlit, nI_leI, nI_ltI, nI_eq, nI_clamp, nI_add, pk_mul, pk_sub, pk_div] at c; omega
    | succ m ih =>
      intro k t hk h1 h2
      refine zv64_r6_r10_2 ⟨fun c => ?_, fun _ => ?_⟩
      · simp (disch := omega) only [zlit, nI_leI, nI_ltI, nI_eq, nI_clamp, nI_add, pk_mul, pk_sub, pk_div] at c; omega
      · rw [nI_add, nI_clamp (by omega), nI_clamp (by omega), nI_1, zupL_row, zrowL_row]
        refine ⟨vp_in_nI (by omega) (by decide), vp_in_nI (by omega) (by decide), vp_in_nI (by omega) (by decide), ih (k + 1) _ (by omega) (fun i hi => ?_) (fun j hj => ?_)⟩
        · show vp_updL t k (t k ||| τ 10 (f + k)) i = _
          by_cases c : i = k
          · rw [c, pk_uLs, h2 k (by omega)]
          · rw [pk_uLn (by omega)]; exact h1 i (by omega)
        · show vp_updL t k (t k ||| τ 10 (f + k)) j = τ 8 j
          rw [pk_uLn (by omega)]; exact h2 j (by omega)
  have := key 32 0 (τ 8) rfl (fun i hi => by omega) (fun _ _ => rfl)
  rw [zrowL_id] at this
  exact zv64_r6_r10_0 this
theorem sp167 {d x l : Nat} {σ : Nat → Nat → Int32} {τ : Nat → Nat → Int64} {Q : zR → Prop} (hq : ∀ t, (∀ w, w < 2048 → mk t 0 w = false) → Q (.inl none, (49, x, l, σ, zrowL τ 8 t, zrho))) :
    zRn d 167 (0, [.ref 8, .long 0, zJ, zJ, zJ], [], (49, x, l, σ, τ, zrho)) Q := by
  have key : ∀ m k t, k + m = 32 → (∀ i, i < k → t i = 0) → zRn d 167 (6, [.ref 8, .long 0, zJ, .int (nI k), .int (nI 32)], [], (49, x, l, σ, zrowL τ 8 t, zrho)) Q := by
    intro m
    induction m with
    | zero =>
      intro k t hk h1
      refine zv167_6 ⟨fun _ => hq t (fun w hw => ?_), fun c => ?_⟩
      · unfold mk
        rw [Nat.zero_add, h1 (w / 64) (by omega), zb_0]
      · simp (disch := omega) only [zlit, nI_leI, nI_ltI, nI_eq, nI_clamp, nI_add, pk_mul, pk_sub, pk_div] at c; omega
    | succ m ih =>
      intro k t hk h1
      refine zv167_6 ⟨fun c => ?_, fun _ => ?_⟩
      · simp (disch := omega) only [zlit, nI_leI, nI_ltI, nI_eq, nI_clamp, nI_add, pk_mul, pk_sub, pk_div] at c; omega
      · rw [nI_clamp (by omega), nI_1, zupL_row, zrowL_row]
        refine ⟨vp_in_nI (by omega) (by decide), ih (k + 1) _ (by omega) (fun i hi => ?_)⟩
        show vp_updL t k 0 i = 0
        by_cases c : i = k
        · rw [c, pk_uLs]
        · rw [pk_uLn (by omega)]; exact h1 i (by omega)
  have := key 32 0 (τ 8) rfl (fun i hi => by omega)
  rw [zrowL_id] at this
  exact zv167_0 this
theorem sp66 {d x l : Nat} {σ : Nat → Nat → Int32} {τ : Nat → Nat → Int64} {Q : zR → Prop} {g : Nat} (hg : g ≤ 2000) (h1 : mk (τ 8) 0 g = false) (h2 : ∀ w, w < g → mk (τ 8) 0 w = true) (hq : Q (.inl (some (.int (nI g))), (49, x, l, σ, τ, zrho))) :
    zRn d 66 (0, [.ref 6, zJ], [], (49, x, l, σ, τ, zrho)) Q := by
  have key : ∀ m k, k + m = g → zRn d 66 (2, [.ref 6, .int (nI k)], [], (49, x, l, σ, τ, zrho)) Q := by
    intro m
    induction m with
    | zero =>
      intro k hk
      have hk : k = g := by omega
      subst hk
      refine zv66_2 ⟨fun _ => hq, fun c => ?_⟩
      rw [z_shr6 (by omega), z_and63 (by omega), nI_clamp (by omega), zb_tst (by omega)]
      simp (disch := omega) only [zlit, nI_leI, nI_ltI, nI_eq, nI_clamp, nI_add, pk_mul, pk_sub, pk_div] at c
      refine ⟨vp_in_nI (by omega) (by decide), fun _ => hq, fun c2 => ?_⟩
      unfold mk at h1
      rw [Nat.zero_add] at h1
      exact absurd h1 c2
    | succ m ih =>
      intro k hk
      refine zv66_2 ⟨fun c => ?_, fun c => ?_⟩
      · simp (disch := omega) only [zlit, nI_leI, nI_ltI, nI_eq, nI_clamp, nI_add, pk_mul, pk_sub, pk_div] at c; omega
      · rw [z_shr6 (by omega), z_and63 (by omega), nI_clamp (by omega), zb_tst (by omega), nI_1]
        refine ⟨vp_in_nI (by omega) (by decide), fun c2 => ?_, fun _ => ih (k + 1) (by omega)⟩
        have := h2 k (by omega)
        unfold mk at this
        rw [Nat.zero_add, c2] at this
        cases this
  exact zv66_0 (key g 0 (by omega))
theorem xo2 (u : zRu) (b c : Nat) : xo (gn u) (0, b, c) = gn u b ^^^ gn u c := by
  unfold xo
  rw [gn_0, Nat.zero_xor]
theorem sp60_8 {d x l : Nat} {σ : Nat → Nat → Int32} {τ : Nat → Nat → Int64} {Q : zR → Prop} {u : zRu} {f c : Nat} (hu : zRok u) (hf : f + 32 ≤ 32) (hc : c ≤ 2000) (h7 : ∀ k, k < c → σ 7 k = nI (gn u k))
    (hq : ∀ t, Mk (τ 8) t f (fun w => ∃ i, 1 ≤ i ∧ 2 * i ≤ c ∧ w = xo (gn u) (0, i, c - i)) → Q (.inl none, (49, x, l, σ, zrowL τ 8 t, zrho))) :
    zRn (d + 1) 60 (0, [.ref 6, .ref 8, .int (nI f), .int (nI c), zJ], [], (49, x, l, σ, τ, zrho)) Q := by
  have key : ∀ m k t, k + m = c / 2 → Mk (τ 8) t f (fun w => ∃ i, 1 ≤ i ∧ i ≤ k ∧ w = xo (gn u) (0, i, c - i)) → zRn (d + 1) 60 (3, [.ref 6, .ref 8, .int (nI f), .int (nI c), .int (nI (k + 1))], [], (49, x, l, σ, zrowL τ 8 t, zrho)) Q := by
    intro m
    induction m with
    | zero =>
      intro k t hk h1
      refine zv60_r6_r8_3 ⟨fun _ => hq t (h1.iff (fun w _ => ?_)), fun c2 => ?_⟩
      · exact ⟨fun ⟨i, a, b, e⟩ => ⟨i, a, by omega, e⟩, fun ⟨i, a, b, e⟩ => ⟨i, a, by omega, e⟩⟩
      · simp (disch := omega) only [zlit, nI_leI, nI_ltI, nI_eq, nI_clamp, nI_add, pk_mul, pk_sub, pk_div] at c2; omega
    | succ m ih =>
      intro k t hk h1
      have g1 := gn_le hu (show k + 1 ≤ 2000 by omega)
      have g2 := gn_le hu (show c - (k + 1) ≤ 2000 by omega)
      refine zv60_r6_r8_3 ⟨fun c2 => ?_, fun _ => ?_⟩
      · simp (disch := omega) only [zlit, nI_leI, nI_ltI, nI_eq, nI_clamp, nI_add, pk_mul, pk_sub, pk_div] at c2; omega
      · rw [pk_sub (show k + 1 ≤ c by omega), nI_clamp (by omega), nI_clamp (by omega), h7 _ (by omega), h7 _ (by omega), z_xor]
        refine ⟨vp_in_nI (by omega) (by decide), vp_in_nI (by omega) (by decide), ?_⟩
        refine sp65_8 hf (xor_lt (by omega) (by omega)) (fun t2 h2 => zv60_r6_r8_33 ?_)
        rw [zrowL_row, nI_1]
        refine ih (k + 1) t2 (by omega) (h1.trans h2 (fun w => ?_))
        rw [← xo2]
        constructor
        · intro ⟨i, a, b, e⟩
          by_cases c3 : i = k + 1
          · subst c3; exact Or.inr e
          · exact Or.inl ⟨i, a, by omega, e⟩
        · intro q
          rcases q with ⟨i, a, b, e⟩ | q
          · exact ⟨i, a, by omega, e⟩
          · exact ⟨k + 1, by omega, by omega, q⟩
  have := key (c / 2) 0 (τ 8) (by omega) (Mk.refl (fun w ⟨i, a, b, _⟩ => by omega))
  rw [zrowL_id] at this
  exact zv60_r6_r8_0 this
theorem sp60_9 {d x l : Nat} {σ : Nat → Nat → Int32} {τ : Nat → Nat → Int64} {Q : zR → Prop} {u : zRu} {f c : Nat} (hu : zRok u) (hf : f + 32 ≤ 512) (hc : c ≤ 2000) (h7 : ∀ k, k < c → σ 7 k = nI (gn u k))
    (hq : ∀ t, Mk (τ 9) t f (fun w => ∃ i, 1 ≤ i ∧ 2 * i ≤ c ∧ w = xo (gn u) (0, i, c - i)) → Q (.inl none, (49, x, l, σ, zrowL τ 9 t, zrho))) :
    zRn (d + 1) 60 (0, [.ref 6, .ref 9, .int (nI f), .int (nI c), zJ], [], (49, x, l, σ, τ, zrho)) Q := by
  have key : ∀ m k t, k + m = c / 2 → Mk (τ 9) t f (fun w => ∃ i, 1 ≤ i ∧ i ≤ k ∧ w = xo (gn u) (0, i, c - i)) → zRn (d + 1) 60 (3, [.ref 6, .ref 9, .int (nI f), .int (nI c), .int (nI (k + 1))], [], (49, x, l, σ, zrowL τ 9 t, zrho)) Q := by
    intro m
    induction m with
    | zero =>
      intro k t hk h1
      refine zv60_r6_r9_3 ⟨fun _ => hq t (h1.iff (fun w _ => ?_)), fun c2 => ?_⟩
      · exact ⟨fun ⟨i, a, b, e⟩ => ⟨i, a, by omega, e⟩, fun ⟨i, a, b, e⟩ => ⟨i, a, by omega, e⟩⟩
      · simp (disch := omega) only [zlit, nI_leI, nI_ltI, nI_eq, nI_clamp, nI_add, pk_mul, pk_sub, pk_div] at c2; omega
    | succ m ih =>
      intro k t hk h1
      have g1 := gn_le hu (show k + 1 ≤ 2000 by omega)
      have g2 := gn_le hu (show c - (k + 1) ≤ 2000 by omega)
      refine zv60_r6_r9_3 ⟨fun c2 => ?_, fun _ => ?_⟩
      · simp (disch := omega) only [zlit, nI_leI, nI_ltI, nI_eq, nI_clamp, nI_add, pk_mul, pk_sub, pk_div] at c2; omega
      · rw [pk_sub (show k + 1 ≤ c by omega), nI_clamp (by omega), nI_clamp (by omega), h7 _ (by omega), h7 _ (by omega), z_xor]
        refine ⟨vp_in_nI (by omega) (by decide), vp_in_nI (by omega) (by decide), ?_⟩
        refine sp65_9 hf (xor_lt (by omega) (by omega)) (fun t2 h2 => zv60_r6_r9_33 ?_)
        rw [zrowL_row, nI_1]
        refine ih (k + 1) t2 (by omega) (h1.trans h2 (fun w => ?_))
        rw [← xo2]
        constructor
        · intro ⟨i, a, b, e⟩
          by_cases c3 : i = k + 1
          · subst c3; exact Or.inr e
          · exact Or.inl ⟨i, a, by omega, e⟩
        · intro q
          rcases q with ⟨i, a, b, e⟩ | q
          · exact ⟨i, a, by omega, e⟩
          · exact ⟨k + 1, by omega, by omega, q⟩
  have := key (c / 2) 0 (τ 9) (by omega) (Mk.refl (fun w ⟨i, a, b, _⟩ => by omega))
  rw [zrowL_id] at this
  exact zv60_r6_r9_0 this
theorem sp61 {d x l : Nat} {σ : Nat → Nat → Int32} {τ : Nat → Nat → Int64} {Q : zR → Prop} {u : zRu} {f c : Nat} (hu : zRok u) (hf : f + 32 ≤ 512) (hc : c ≤ 2000) (h7 : ∀ k, k < c → σ 7 k = nI (gn u k))
    (hq : ∀ t, Mk (τ 10) t f (fun w => ∃ a b, 1 ≤ a ∧ a ≤ b ∧ a + 2 * b ≤ c ∧ w = xo (gn u) (a, b, c - a - b)) → Q (.inl none, (49, x, l, σ, zrowL τ 10 t, zrho))) :
    zRn (d + 1) 61 (0, [.ref 6, .ref 10, .int (nI f), .int (nI c), zJ, zJ], [], (49, x, l, σ, τ, zrho)) Q := by
  have inner : ∀ a, 1 ≤ a → 3 * a ≤ c →
      (∀ t, Mk (τ 10) t f (fun w => ∃ i b, 1 ≤ i ∧ i ≤ a ∧ i ≤ b ∧ i + 2 * b ≤ c ∧ w = xo (gn u) (i, b, c - i - b)) → zRn (d + 1) 61 (3, [.ref 6, .ref 10, .int (nI f), .int (nI c), .int (nI (a + 1)), zJ], [], (49, x, l, σ, zrowL τ 10 t, zrho)) Q) →
      ∀ m b t, b + m = (c - a) / 2 + 1 → a ≤ b → Mk (τ 10) t f (fun w => ∃ i j, 1 ≤ i ∧ i ≤ a ∧ i ≤ j ∧ i + 2 * j ≤ c ∧ (i = a → j < b) ∧ w = xo (gn u) (i, j, c - i - j)) →
      zRn (d + 1) 61 (15, [.ref 6, .ref 10, .int (nI f), .int (nI c), .int (nI a), .int (nI b)], [], (49, x, l, σ, zrowL τ 10 t, zrho)) Q := by
    intro a ha1 ha2 hk m
    induction m with
    | zero =>
      intro b t hb hab h1
      refine zv61_15 ⟨fun _ => ?_, fun c2 => ?_⟩
      · rw [nI_1]
        refine hk t (h1.iff (fun w _ => ?_))
        exact ⟨fun ⟨i, j, e1, e2, e3, e4, e5, e6⟩ => ⟨i, j, e1, e2, e3, e4, e6⟩, fun ⟨i, j, e1, e2, e3, e4, e6⟩ => ⟨i, j, e1, e2, e3, e4, fun _ => by omega, e6⟩⟩
      · simp (disch := omega) only [zlit, nI_leI, nI_ltI, nI_eq, nI_clamp, nI_add, pk_mul, pk_sub, pk_div] at c2; omega
    | succ m ih =>
      intro b t hb hab h1
      have g1 := gn_le hu (show a ≤ 2000 by omega)
      have g2 := gn_le hu (show b ≤ 2000 by omega)
      have g3 := gn_le hu (show c - a - b ≤ 2000 by omega)
      refine zv61_15 ⟨fun c2 => ?_, fun _ => ?_⟩
      · simp (disch := omega) only [zlit, nI_leI, nI_ltI, nI_eq, nI_clamp, nI_add, pk_mul, pk_sub, pk_div] at c2; omega
      · rw [pk_sub (show a ≤ c by omega), pk_sub (show b ≤ c - a by omega), nI_clamp (by omega), nI_clamp (by omega), nI_clamp (by omega), h7 _ (by omega), h7 _ (by omega), h7 _ (by omega), z_xor, z_xor]
        refine ⟨vp_in_nI (by omega) (by decide), vp_in_nI (by omega) (by decide), vp_in_nI (by omega) (by decide), ?_⟩
        refine sp65_10 hf (xor_lt (xor_lt (by omega) (by omega)) (by omega)) (fun t2 h2 => zv61_59 ?_)
        rw [zrowL_row, nI_1]
        refine ih (b + 1) t2 (by omega) (by omega) (h1.trans h2 (fun w => ?_))
        constructor
        · intro ⟨i, j, e1, e2, e3, e4, e5, e6⟩
          by_cases c3 : i = a ∧ j = b
          · obtain ⟨c3, c4⟩ := c3
            subst c3; subst c4; exact Or.inr e6
          · exact Or.inl ⟨i, j, e1, e2, e3, e4, fun e => by have := e5 e; omega, e6⟩
        · intro q
          rcases q with ⟨i, j, e1, e2, e3, e4, e5, e6⟩ | q
          · exact ⟨i, j, e1, e2, e3, e4, fun e => by have := e5 e; omega, e6⟩
          · exact ⟨a, b, by omega, by omega, by omega, by omega, fun _ => by omega, q⟩
  have key : ∀ m k t, k + m = c / 3 → Mk (τ 10) t f (fun w => ∃ i b, 1 ≤ i ∧ i ≤ k ∧ i ≤ b ∧ i + 2 * b ≤ c ∧ w = xo (gn u) (i, b, c - i - b)) → zRn (d + 1) 61 (3, [.ref 6, .ref 10, .int (nI f), .int (nI c), .int (nI (k + 1)), zJ], [], (49, x, l, σ, zrowL τ 10 t, zrho)) Q := by
    intro m
    induction m with
    | zero =>
      intro k t hk h1
      refine zv61_3 ⟨fun _ => hq t (h1.iff (fun w _ => ?_)), fun c2 => ?_⟩
      · exact ⟨fun ⟨i, j, e1, e2, e3, e4, e6⟩ => ⟨i, j, e1, e3, e4, e6⟩, fun ⟨i, j, e1, e3, e4, e6⟩ => ⟨i, j, e1, by omega, e3, e4, e6⟩⟩
      · simp (disch := omega) only [zlit, nI_leI, nI_ltI, nI_eq, nI_clamp, nI_add, pk_mul, pk_sub, pk_div] at c2; omega
    | succ m ih =>
      intro k t hk h1
      refine zv61_3 ⟨fun c2 => ?_, fun _ => ?_⟩
      · simp (disch := omega) only [zlit, nI_leI, nI_ltI, nI_eq, nI_clamp, nI_add, pk_mul, pk_sub, pk_div] at c2; omega
      · refine inner (k + 1) (by omega) (by omega) (fun t2 h2 => ih (k + 1) t2 (by omega) h2) ((c - (k + 1)) / 2 + 1 - (k + 1)) (k + 1) t (by omega) (by omega) (h1.iff (fun w _ => ?_))
        exact ⟨fun ⟨i, j, e1, e2, e3, e4, e6⟩ => ⟨i, j, e1, by omega, e3, e4, fun e => by omega, e6⟩, fun ⟨i, j, e1, e2, e3, e4, e5, e6⟩ => ⟨i, j, e1, Nat.le_of_lt_succ (Nat.lt_of_le_of_ne e2 (fun e => by have := e5 e; omega)), e3, e4, e6⟩⟩
  have := key (c / 3) 0 (τ 10) (by omega) (Mk.refl (fun w ⟨i, b, a1, a2, _⟩ => by omega))
  rw [zrowL_id] at this
  exact zv61_0 this
theorem sp62 {d x l : Nat} {σ : Nat → Nat → Int32} {τ : Nat → Nat → Int64} {Q : zR → Prop} {c : Nat} (hc : c ≤ 2000) (hq : Q (.inl (some (.int (nI (c % 16 * 32)))), (49, x, l, σ, τ, zrho))) :
    zRn d 62 (0, [.int (nI c)], [], (49, x, l, σ, τ, zrho)) Q := by
  refine zv62_0 ?_
  rw [show (16 : Int32) = nI 16 from rfl, pk_rem (by omega) (by omega) (by omega), show (32 : Int32) = nI 32 from rfl, pk_mul]
  exact hq
