/-! the reference: sums and moves -/
def RS (H : Nat → Nat → Nat) (pl : Nat) (s32 s38 s39 : Nat → Int32) : Prop := s32 13 = nI pl ∧ (∀ k, k < 16 → s38 k = nI (H pl k)) ∧ ∀ i k, i < pl → k < 16 → s39 (16 * i + k) = nI (H i k)
theorem sp140 {d x l : Nat} {σ : Nat → Nat → Int32} {τ : Nat → Nat → Int64} {Q : zR → Prop} {u : zRu} {hp : Nat → Nat} (hu : zRok u) (hr : RR u (σ 32) (σ 33) (σ 34) (σ 35)) (hh : ∀ k, k < 16 → σ 38 k = nI (hp k)) (hb : ∀ k, k < 16 → hp k ≤ 2000)
    (hq1 : (∀ k, k < 16 → hp k ≤ far u) → Q (.inl (some (.int (1))), (49, x, l, σ, τ, zrho))) (hq0 : ¬ (∀ k, k < 16 → hp k ≤ far u) → Q (.inl (some (.int (0))), (49, x, l, σ, τ, zrho))) :
    zRn (d + 2) 140 (0, [.ref 32, zJ, zJ], [], (49, x, l, σ, τ, zrho)) Q := by
  have key : ∀ n k (w : Bool), k + n = 16 → (w = true ↔ ∀ j, j < k → hp j ≤ far u) → zRn (d + 2) 140 (4, [.ref 32, .int (bI w), .int (nI k)], [], (49, x, l, σ, τ, zrho)) Q := by
    intro n
    induction n with
    | zero =>
      intro k w hk hw
      have hk : k = 16 := by omega
      subst hk
      refine zv140_4 ⟨fun _ => ⟨bI_01 w, ?_⟩, fun c => ?_⟩
      · cases w with
        | true => exact hq1 (hw.mp rfl)
        | false => exact hq0 (fun e => by have := hw.mpr e; cases this)
      · simp (disch := omega) only [zlit, nI_leI, nI_ltI, nI_eq, nI_clamp, nI_add, pk_mul, pk_sub, pk_div] at c; omega
    | succ n ih =>
      intro k w hk hw
      have := hb k (by omega)
      have no : ∀ (w2 : Bool), w2 = false → (w = false ∨ ¬ hp k ≤ far u) → (w2 = true ↔ ∀ j, j < k + 1 → hp j ≤ far u) := by
        intro w2 e1 e2
        constructor
        · intro e; rw [e1] at e; cases e
        · intro e
          exfalso
          rcases e2 with e2 | e2
          · have := hw.mpr (fun j hj => e j (by omega))
            rw [e2] at this; cases this
          · exact e2 (e k (by omega))
      refine zv140_4 ⟨fun c => ?_, fun _ => ⟨fun c => ?_, fun c => ⟨vp_in_nI (by omega) (by decide), ?_⟩⟩⟩
      · simp (disch := omega) only [zlit, nI_leI, nI_ltI, nI_eq, nI_clamp, nI_add, pk_mul, pk_sub, pk_div] at c; omega
      · rw [bI_0] at c
        rw [nI_1]
        exact ih (k + 1) false (by omega) (no false rfl (Or.inl c))
      · rw [bI_0] at c
        have c : w = true := by simpa using c
        rw [nI_clamp (by omega), hh k (by omega), nI_iI (hp k)]
        refine sp125 hu hr (by omega) (by omega) (fun _ e2 => zv140_24 ⟨fun c2 => absurd c2 (by decide), fun _ => ?_⟩) (fun e => zv140_24 ⟨fun _ => ?_, fun c2 => absurd rfl c2⟩)
        · rw [nI_1]
          refine ih (k + 1) true (by omega) ⟨fun _ j hj => ?_, fun _ => rfl⟩
          by_cases e : j = k
          · subst e; omega
          · exact hw.mp c j (by omega)
        · rw [nI_1]
          exact ih (k + 1) false (by omega) (no false rfl (Or.inr (by omega)))
  exact zv140_0 (key 16 0 true rfl ⟨fun _ j hj => by omega, fun _ => rfl⟩)
theorem zfrm_0 {s : Nat → Int32} : zwf7 s (upd s 0 0) := zwf7_0 (zwf7.refl _)
theorem sp141 {d x l : Nat} {σ : Nat → Nat → Int32} {τ : Nat → Nat → Int64} {Q : zR → Prop} {u : zRu} {hp : Nat → Nat} (hu : zRok u) (hr : RR u (σ 32) (σ 33) (σ 34) (σ 35)) (hh : ∀ k, k < 16 → σ 38 k = nI (hp k)) (hb : ∀ k, k < 16 → hp k ≤ 2000)
    (hq1 : (∀ k, k < 16 → hp k ≤ far u) → ∀ s, zwf7 (σ 32) s → s 0 = nI 0 → Q (.inl (some (.int (nI (zsum (fun k => (opts u (hp k)).length) 16)))), (49, x, l, zrow σ 32 s, τ, zrho)))
    (hq0 : ¬ (∀ k, k < 16 → hp k ≤ far u) → ∀ s, zwf7 (σ 32) s → s 0 = nI 1 → Q (.inl (some (.int (0))), (49, x, l, zrow σ 32 s, τ, zrho))) :
    zRn (d + 4) 141 (0, [.ref 32, zJ, zJ], [], (49, x, l, σ, τ, zrho)) Q := by
  refine zv141_0 ?_
  rw [zup_row]
  refine sp140 hu (zwf7_RR zfrm_0 hr) hh hb (fun hf => zv141_9 ⟨fun _ => ?_, fun c => absurd (by decide) c⟩) (fun hf => zv141_9 ⟨fun c => absurd rfl c, fun _ => zv109_0 (zv141_17 ?_)⟩)
  · have key : ∀ n k s, k + n = 16 → zwf7 (σ 32) s → s 0 = nI 0 → zRn (d + 4) 141 (22, [.ref 32, .int (nI (zsum (fun k => (opts u (hp k)).length) k)), .int (nI k)], [], (49, x, l, zrow σ 32 s, τ, zrho)) Q := by
      intro n
      induction n with
      | zero =>
        intro k s hk hs h0
        refine zv141_22 ⟨fun _ => by rw [show k = 16 by omega]; exact hq1 hf s hs h0, fun c => ?_⟩
        simp (disch := omega) only [zlit, nI_leI, nI_ltI, nI_eq, nI_clamp, nI_add, pk_mul, pk_sub, pk_div] at c; omega
      | succ n ih =>
        intro k s hk hs h0
        refine zv141_22 ⟨fun c => ?_, fun _ => ⟨vp_in_nI (by omega) (by decide), ?_⟩⟩
        · simp (disch := omega) only [zlit, nI_leI, nI_ltI, nI_eq, nI_clamp, nI_add, pk_mul, pk_sub, pk_div] at c; omega
        · show zRn (d + 3) 126 (0, [.ref 32, .int (σ 38 ((nI k).toNatClampNeg)), zJ], [], _) _
          rw [nI_clamp (by omega), hh k (by omega)]
          refine sp126 hu (zwf7_RR hs hr) (hb k (by omega)) (fun s2 h2 => zv141_39 ?_)
          rw [zrow_row, nI_add, nI_1]
          exact ih (k + 1) s2 (by omega) (hs.trans h2.seven) ((h2 0 (by decide) (by decide) (by decide) (by decide) (by decide) (by decide)).trans h0)
    exact key 16 0 _ rfl zfrm_0 rfl
  · rw [zup_row, zrow_row]
    exact hq0 hf _ (zwf7_0 zfrm_0) rfl
theorem sp142 {d x l : Nat} {σ : Nat → Nat → Int32} {τ : Nat → Nat → Int64} {Q : zR → Prop} {u : zRu} {hp : Nat → Nat} {m : Nat} (hu : zRok u) (hr : RR u (σ 32) (σ 33) (σ 34) (σ 35)) (hh : ∀ k, k < 16 → σ 38 k = nI (hp k)) (hf : ∀ k, k < 16 → hp k ≤ far u) (hm : m < 2147483648)
    (hq1 : ∀ k o s, fm u hp 16 0 m = some (k, o) → k < 16 → o ∈ opts u (hp k) → zwf6 (σ 32) s → s 9 = nI o.1 → s 10 = nI o.2.1 → s 11 = nI o.2.2 → Q (.inl (some (.int (nI k))), (49, x, l, zrow σ 32 s, τ, zrho)))
    (hq0 : fm u hp 16 0 m = none → ∀ s, zwf6 (σ 32) s → Q (.inl (some (.int (-1))), (49, x, l, zrow σ 32 s, τ, zrho))) :
    zRn (d + 4) 142 (0, [.ref 32, .int (nI m), zJ, zJ, zJ], [], (49, x, l, σ, τ, zrho)) Q := by
  have key : ∀ n k m' s, k + n = 16 → m' < 2147483648 → zwf6 (σ 32) s → fm u hp n k m' = fm u hp 16 0 m → zRn (d + 4) 142 (4, [.ref 32, zJ, .int (nI m'), .int (nI k), zJ], [], (49, x, l, zrow σ 32 s, τ, zrho)) Q := by
    intro n
    induction n with
    | zero =>
      intro k m' s hk hm' hs he
      refine zv142_4 ⟨fun _ => hq0 (by rw [← he]; rfl) s hs, fun c => ?_⟩
      simp (disch := omega) only [zlit, nI_leI, nI_ltI, nI_eq, nI_clamp, nI_add, pk_mul, pk_sub, pk_div] at c; omega
    | succ n ih =>
      intro k m' s hk hm' hs he
      have h0 := hf k (by omega)
      have hl := opts_len hu h0
      have e0 : fm u hp (n + 1) k m' = match (opts u (hp k))[m']? with
        | some o => some (k, o)
        | none => fm u hp n (k + 1) (m' - (opts u (hp k)).length) := rfl
      refine zv142_4 ⟨fun c => ?_, fun _ => ⟨fun c => ?_, fun _ => ⟨vp_in_nI (by omega) (by decide), ?_⟩⟩⟩
      · simp (disch := omega) only [zlit, nI_leI, nI_ltI, nI_eq, nI_clamp, nI_add, pk_mul, pk_sub, pk_div] at c; omega
      · simp (disch := omega) only [zlit, nI_leI, nI_ltI, nI_eq, nI_clamp, nI_add, pk_mul, pk_sub, pk_div] at c; omega
      · show zRn (d + 3) 126 (0, [.ref 32, .int (σ 38 ((nI k).toNatClampNeg)), zJ], [], _) _
        rw [nI_clamp (by omega), hh k (by omega)]
        refine sp126 hu (zwf6_RR hs hr) (far_8 h0).1 (fun s2 h2 => zv142_24 ⟨fun c => ?_, fun c => ⟨vp_in_nI (by omega) (by decide), ?_⟩⟩)
        · simp (disch := omega) only [nI_leI] at c
          rw [zrow_row, pk_sub c, nI_1]
          refine ih (k + 1) _ s2 (by omega) (by omega) (hs.trans h2) ?_
          rw [← he, e0, List.getElem?_eq_none c]
        · simp (disch := omega) only [nI_leI] at c
          rw [zrow_row]
          show zRn (d + 3) 127 (0, [.ref 32, .int (σ 38 ((nI k).toNatClampNeg)), .int (nI m'), zJ], [], _) _
          rw [nI_clamp (by omega), hh k (by omega)]
          refine sp127 hu (zwf6_RR (hs.trans h2) hr) (far_8 h0).1 hm' (fun s3 o h3 ho h9 h10 h11 => zv142_43 ?_) (fun s3 h3 ho => ?_)
          · rw [zrow_row]
            rw [ho] at e0
            exact hq1 k o s3 (by rw [← he, e0]) (by omega) (List.mem_of_getElem? ho) ((hs.trans h2).trans h3) h9 h10 h11
          · have := List.getElem?_eq_none_iff.mp ho
            omega
  have := key 16 0 m (σ 32) rfl hm (zwf6.refl _) rfl
  rw [zrow_id] at this
  exact zv142_0 this
theorem rt_le {o : zO} {b w : Nat} (h1 : o.1 ≤ b) (h2 : o.2.1 ≤ b) (h3 : o.2.2 ≤ b) : rt o w ≤ b := by
  unfold rt
  split <;> first | assumption | exact Nat.zero_le _
theorem sp143 {d x l : Nat} {σ : Nat → Nat → Int32} {τ : Nat → Nat → Int64} {Q : zR → Prop} {u : zRu} {hp : Nat → Nat} {i j : Int} (hu : zRok u) (hr : RR u (σ 32) (σ 33) (σ 34) (σ 35)) (hh : ∀ k, k < 16 → σ 38 k = nI (hp k)) (hb : ∀ k, k < 16 → hp k ≤ 2000) (b1 : -2147483648 ≤ i) (b2 : i < 2147483648) (b3 : -2147483648 ≤ j) (b4 : j < 2147483648)
    (hq1 : (∀ k, k < 16 → hp k ≤ far u) → ∀ (m k w : Nat) o s, i = (m : Int) → j = (w : Int) → w ≤ 3 → fm u hp 16 0 m = some (k, o) → zwf7 (σ 32) s → s 0 = nI 0 → Q (.inl (some (.int (if w = 0 then nI k else nI (rt o (w - 1))))), (49, x, l, zrow σ 32 s, τ, zrho)))
    (hq2 : (∀ k, k < 16 → hp k ≤ far u) → (¬ (0 ≤ j ∧ j ≤ 3) ∨ i < 0 ∨ ∃ m : Nat, i = (m : Int) ∧ fm u hp 16 0 m = none) → ∀ s, zwf7 (σ 32) s → s 0 = nI 2 → Q (.inl (some (.int (0))), (49, x, l, zrow σ 32 s, τ, zrho)))
    (hq0 : ¬ (∀ k, k < 16 → hp k ≤ far u) → ∀ s, zwf7 (σ 32) s → s 0 = nI 1 → Q (.inl (some (.int (0))), (49, x, l, zrow σ 32 s, τ, zrho))) :
    zRn (d + 5) 143 (0, [.ref 32, .int (iI i), .int (iI j), zJ], [], (49, x, l, σ, τ, zrho)) Q := by
  refine zv143_0 ?_
  rw [zup_row]
  refine sp140 hu (zwf7_RR zfrm_0 hr) hh hb (fun hf => zv143_9 ⟨fun _ => ⟨fun c => ?_, fun c => ?_⟩, fun c => absurd (by decide) c⟩) (fun hf => zv143_9 ⟨fun c => absurd rfl c, fun _ => zv109_0 (zv143_17 ?_)⟩)
  · rw [show (0 : Int32) = iI 0 from rfl, iI_ltI b1 b2 (by omega) (by omega)] at c
    refine zv109_0 (zv143_36 ?_)
    rw [zup_row, zrow_row]
    exact hq2 hf (Or.inr (Or.inl c)) _ (zwf7_0 zfrm_0) rfl
  · rw [show (0 : Int32) = iI 0 from rfl, iI_ltI b1 b2 (by omega) (by omega)] at c
    obtain ⟨m, hm⟩ : ∃ m : Nat, i = (m : Int) := ⟨i.toNat, by omega⟩
    refine sp110 (b := 0) (c := 3) b3 b4 (by omega) (by omega) (by omega) (by omega) (fun c1 c2 => zv143_28 ⟨fun _ => ?_, fun c => absurd (by decide) c⟩) (fun c1 => zv143_28 ⟨fun c => absurd rfl c, fun _ => zv109_0 (zv143_36 ?_)⟩)
    · obtain ⟨w, hw⟩ : ∃ w : Nat, j = (w : Int) := ⟨j.toNat, by omega⟩
      rw [hm, ← nI_iI, hw, ← nI_iI]
      refine sp142 hu (zwf7_RR zfrm_0 hr) hh hf (by omega) (fun k o s h1 h2 h3 h4 h9 h10 h11 => zv143_42 ⟨fun _ => ⟨fun c5 => ?_, fun c5 => ?_⟩, fun c4 => ?_⟩) (fun h1 s h2 => zv143_42 ⟨fun c4 => absurd c4 (by decide), fun _ => zv109_0 (zv143_52 ?_)⟩)
      · simp (disch := omega) only [zlit, nI_leI, nI_ltI, nI_eq, nI_clamp, nI_add, pk_mul, pk_sub, pk_div] at c5
        rw [zrow_row, show (1 : Int32) = nI 1 from rfl, pk_sub (by omega)]
        have hob := opt_bd hu h3
        have hk2 := hb k h2
        refine sp129 (o := o) (by omega) h9 h10 h11 (by omega) (by omega) (by omega) (zv143_68 ?_)
        have := hq1 hf m k w o s hm hw (by omega) h1 (zfrm_0.trans h4.seven) (h4 0 (by decide) (by decide) (by decide) (by decide) (by decide) (by decide))
        rw [if_neg c5] at this
        exact this
      · simp (disch := omega) only [zlit, nI_leI, nI_ltI, nI_eq, nI_clamp, nI_add, pk_mul, pk_sub, pk_div] at c5
        rw [zrow_row]
        refine zv143_68 ?_
        have := hq1 hf m k w o s hm hw (by omega) h1 (zfrm_0.trans h4.seven) (h4 0 (by decide) (by decide) (by decide) (by decide) (by decide) (by decide))
        rw [if_pos (by omega)] at this
        exact this
      · simp (disch := omega) only [zlit, nI_leI, nI_ltI, nI_eq, nI_clamp, nI_add, pk_mul, pk_sub, pk_div] at c4; omega
      · rw [zup_row, zrow_row, zrow_row]
        exact hq2 hf (Or.inr (Or.inr ⟨m, hm, h1⟩)) _ (zwf7_0 (zfrm_0.trans h2.seven)) rfl
    · rw [zup_row, zrow_row]
      exact hq2 hf (Or.inl c1) _ (zwf7_0 zfrm_0) rfl
  · rw [zup_row, zrow_row]
    exact hq0 hf _ (zwf7_0 zfrm_0) rfl
theorem sp147 {d x l : Nat} {σ : Nat → Nat → Int32} {τ : Nat → Nat → Int64} {Q : zR → Prop} {u : zRu} {e st : Nat} {hp : Nat → Nat} (hn : RN u e st (σ 32) (σ 36) (σ 37)) (hh : ∀ k, k < 16 → σ 38 k = nI (hp k)) (hb : ∀ k, k < 16 → hp k ≤ 2000)
    (hq1 : (∀ k, k < 16 → hp k ≤ e) → ∀ s, zwf7 (σ 32) s → s 0 = nI 0 → Q (.inl (some (.int (nI (xsum u hp 16)))), (49, x, l, zrow σ 32 s, τ, zrho)))
    (hq0 : ¬ (∀ k, k < 16 → hp k ≤ e) → ∀ s, zwf7 (σ 32) s → s 0 = nI 1 → Q (.inl (some (.int (0))), (49, x, l, zrow σ 32 s, τ, zrho))) :
    zRn (d + 1) 147 (0, [.ref 32, zJ, zJ], [], (49, x, l, σ, τ, zrho)) Q := by
  obtain ⟨n1, n2, n3, n4, n5⟩ := hn
  refine zv147_0 ?_
  rw [zup_row]
  have key : ∀ n k, k + n = 16 → (∀ j, j < k → hp j ≤ e) → zRn (d + 1) 147 (9, [.ref 32, .int (nI (xsum u hp k)), .int (nI k)], [], (49, x, l, zrow σ 32 (upd (σ 32) 0 0), τ, zrho)) Q := by
    intro n
    induction n with
    | zero =>
      intro k hk hj
      have hk : k = 16 := by omega
      subst hk
      refine zv147_9 ⟨fun _ => hq1 hj _ zfrm_0 rfl, fun c => ?_⟩
      simp (disch := omega) only [zlit, nI_leI, nI_ltI, nI_eq, nI_clamp, nI_add, pk_mul, pk_sub, pk_div] at c; omega
    | succ n ih =>
      intro k hk hj
      have h2 := hb k (by omega)
      refine zv147_9 ⟨fun c => ?_, fun _ => ⟨vp_in_nI (by omega) (by decide), fun c => ?_, fun c => ?_⟩⟩
      · simp (disch := omega) only [zlit, nI_leI, nI_ltI, nI_eq, nI_clamp, nI_add, pk_mul, pk_sub, pk_div] at c; omega
      · have c : σ 38 ((nI k).toNatClampNeg) ≤ σ 32 5 := c
        rw [nI_clamp (by omega), hh k (by omega), n1] at c
        simp (disch := omega) only [nI_leI] at c
        refine ⟨vp_in_nI (by omega) (by decide), ?_, ?_⟩
        · show vp_in (σ 38 ((nI k).toNatClampNeg)) 2001
          rw [nI_clamp (by omega), hh k (by omega)]
          exact vp_in_nI (by omega) (by decide)
        · show zRn (d + 1) 147 (9, [.ref 32, .int (nI (xsum u hp k) ^^^ σ 36 ((σ 38 ((nI k).toNatClampNeg)).toNatClampNeg)), .int (nI k + 1)], [], _) Q
          rw [nI_clamp (show k < 2 ^ 31 by omega), hh k (by omega), nI_clamp (by omega), n3 _ c, z_xor, nI_1]
          refine ih (k + 1) (by omega) (fun j hj2 => ?_)
          by_cases e2 : j = k
          · subst e2; exact c
          · exact hj j (by omega)
      · have c : ¬ σ 38 ((nI k).toNatClampNeg) ≤ σ 32 5 := c
        rw [nI_clamp (by omega), hh k (by omega), n1] at c
        simp (disch := omega) only [nI_leI] at c
        refine zv109_0 (zv147_33 ?_)
        rw [zup_row, zrow_row]
        exact hq0 (fun q => c (q k (by omega))) _ (zwf7_0 zfrm_0) rfl
  exact key 16 0 rfl (fun j hj => by omega)
