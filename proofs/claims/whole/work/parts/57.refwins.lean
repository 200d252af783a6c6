/-! wins -/
def xsx (u : zRu) (hp : Nat → Nat) (P : Nat) : Nat → Nat
  | 0 => 0
  | k + 1 => if k = P then xsx u hp P k else xsx u hp P k ^^^ gn u (hp k)
theorem xsx_sum {u : zRu} {hp : Nat → Nat} {P : Nat} : ∀ n, xsum u hp n = if P < n then xsx u hp P n ^^^ gn u (hp P) else xsx u hp P n := by
  intro n
  induction n with
  | zero => rfl
  | succ n ih =>
    have e1 : xsum u hp (n + 1) = xsum u hp n ^^^ gn u (hp n) := rfl
    have e2 : xsx u hp P (n + 1) = if n = P then xsx u hp P n else xsx u hp P n ^^^ gn u (hp n) := rfl
    rw [e1, e2, ih]
    by_cases c : n = P
    · subst c
      rw [if_neg (by omega), if_pos (by omega), if_pos rfl]
    · rw [if_neg c]
      by_cases c2 : P < n
      · rw [if_pos c2, if_pos (by omega), Nat.xor_assoc, Nat.xor_assoc, Nat.xor_comm (gn u (hp P))]
      · rw [if_neg c2, if_neg (by omega)]
/-- whether a move leaves a sum without value -/
def winB (u : zRu) (hp : Nat → Nat) (P : Nat) (o : zO) : Bool := xsx u hp P 16 ^^^ xo (gn u) o == 0
theorem xsx_lt {u : zRu} (hu : zRok u) {hp : Nat → Nat} {P : Nat} : ∀ n, (∀ k, k < n → hp k ≤ 2000) → xsx u hp P n < 2048 := by
  intro n
  induction n with
  | zero => intro _; show 0 < 2048; omega
  | succ n ih =>
    intro h
    have h1 := ih (fun k hk => h k (by omega))
    have h2 := gn_le hu (h n (by omega))
    show (if n = P then xsx u hp P n else xsx u hp P n ^^^ gn u (hp n)) < 2048
    split
    · exact h1
    · exact xor_lt h1 (by omega)
theorem sp145 {d x l : Nat} {σ : Nat → Nat → Int32} {τ : Nat → Nat → Int64} {Q : zR → Prop} {u : zRu} {e st : Nat} {hp : Nat → Nat} {i : Int} (hu : zRok u) (hr : RR u (σ 32) (σ 33) (σ 34) (σ 35)) (hn : RN u e st (σ 32) (σ 36) (σ 37)) (hh : ∀ k, k < 16 → σ 38 k = nI (hp k)) (hb : ∀ k, k < 16 → hp k ≤ 2000) (b1 : -2147483648 ≤ i) (b2 : i < 2147483648)
    (hq1 : (∀ k, k < 16 → hp k ≤ far u) → (∀ k, k < 16 → hp k ≤ e) → ∀ (m k : Nat) o s, i = (m : Int) → fm u hp 16 0 m = some (k, o) → zwf7 (σ 32) s → s 0 = nI 0 → Q (.inl (some (.int (bI (winB u hp k o)))), (49, x, l, zrow σ 32 s, τ, zrho)))
    (hq3 : (∀ k, k < 16 → hp k ≤ far u) → ¬ (∀ k, k < 16 → hp k ≤ e) → ∀ (m k : Nat) o s, i = (m : Int) → fm u hp 16 0 m = some (k, o) → zwf7 (σ 32) s → s 0 = nI 3 → Q (.inl (some (.int (0))), (49, x, l, zrow σ 32 s, τ, zrho)))
    (hq2 : (∀ k, k < 16 → hp k ≤ far u) → (i < 0 ∨ ∃ m : Nat, i = (m : Int) ∧ fm u hp 16 0 m = none) → ∀ s, zwf7 (σ 32) s → s 0 = nI 2 → Q (.inl (some (.int (0))), (49, x, l, zrow σ 32 s, τ, zrho)))
    (hq0 : ¬ (∀ k, k < 16 → hp k ≤ far u) → ∀ s, zwf7 (σ 32) s → s 0 = nI 1 → Q (.inl (some (.int (0))), (49, x, l, zrow σ 32 s, τ, zrho))) :
    zRn (d + 5) 145 (0, [.ref 32, .int (iI i), zJ, zJ, zJ, zJ], [], (49, x, l, σ, τ, zrho)) Q := by
  obtain ⟨n1, n2, n3, n4, n5⟩ := hn
  refine zw145_0 ?_
  rw [zup_row]
  refine sp140 hu (zwf7_RR zfrm_0 hr) hh hb (fun hf => zw145_9 ⟨fun _ => ⟨fun c => ?_, fun c => ?_⟩, fun c => absurd (by decide) c⟩) (fun hf => zw145_9 ⟨fun c => absurd rfl c, fun _ => zv109_0 (zw145_17 ⟨fun _ => ?_, fun c => absurd (by decide) c⟩)⟩)
  · rw [show (0 : Int32) = iI 0 from rfl, iI_leI (by omega) (by omega) b1 b2] at c
    obtain ⟨m, hm⟩ : ∃ m : Nat, i = (m : Int) := ⟨i.toNat, by omega⟩
    rw [hm, ← nI_iI]
    refine sp142 hu (zwf7_RR zfrm_0 hr) hh hf (by omega) (fun P o s h1 hP h3 h4 h9 h10 h11 => zw145_39 ⟨fun _ => ?_, fun c4 => ?_⟩) (fun h1 s h2 => zw145_39 ⟨fun c4 => absurd c4 (by decide), fun _ => zv109_0 (zw145_49 ⟨fun _ => ?_, fun c => absurd (by decide) c⟩)⟩)
    · rw [zrow_row]
      have hob := opt_bd hu h3
      have hPb := hb P hP
      have hs7 : zwf7 (σ 32) s := zfrm_0.trans h4.seven
      have s0 : s 0 = nI 0 := h4 0 (by decide) (by decide) (by decide) (by decide) (by decide) (by decide)
      have hs5 : s 5 = nI e := (hs7 5 (by decide) (by decide) (by decide) (by decide) (by decide) (by decide) (by decide)).trans n1
      have loop : ∀ n k (w : Bool) v, k + n = 16 → (w = true ↔ (∀ j, j < k → hp j ≤ e) ∧ o.1 ≤ e ∧ o.2.1 ≤ e ∧ o.2.2 ≤ e) → (w = true → v = xsx u hp P k) →
          zRn (d + 5) 145 (103, [.ref 32, zJ, .int (nI P), .int (nI v), .int (bI w), .int (nI k)], [], (49, x, l, zrow σ 32 s, τ, zrho)) Q := by
        intro n
        induction n with
        | zero =>
          intro k w v hk hw hv
          have hk : k = 16 := by omega
          subst hk
          refine zw145_103 ⟨fun _ => ⟨fun c4 => ?_, fun c4 => ?_⟩, fun c4 => ?_⟩
          · rw [bI_0] at c4
            have c4 : w = true := by simpa using c4
            obtain ⟨q1, q2, q3, q4⟩ := hw.mp c4
            have hv := hv c4
            subst hv
            have g1 : (zrow σ 32 s) 32 9 = nI o.1 := h9
            have g2 : (zrow σ 32 s) 32 10 = nI o.2.1 := h10
            have g3 : (zrow σ 32 s) 32 11 = nI o.2.2 := h11
            rw [g1, g2, g3, nI_clamp (by omega), nI_clamp (by omega), nI_clamp (by omega)]
            have g4 : (zrow σ 32 s) 36 o.1 = nI (gn u o.1) := n3 _ q2
            have g5 : (zrow σ 32 s) 36 o.2.1 = nI (gn u o.2.1) := n3 _ q3
            have g6 : (zrow σ 32 s) 36 o.2.2 = nI (gn u o.2.2) := n3 _ q4
            rw [g4, g5, g6, z_xor, z_xor, z_xor]
            have ex : xsx u hp P 16 ^^^ gn u o.1 ^^^ gn u o.2.1 ^^^ gn u o.2.2 = xsx u hp P 16 ^^^ xo (gn u) o := by
              unfold xo
              rw [Nat.xor_assoc, Nat.xor_assoc, Nat.xor_assoc]
            rw [ex]
            have hlt := xor_lt (xsx_lt hu (P := P) 16 hb) (xo_lt hu (o := o) (by omega) (by omega) (by omega))
            have hr1 := hq1 hf q1 m P o s hm h1 hs7 s0
            unfold winB at hr1
            refine ⟨vp_in_nI (by omega) (by decide), vp_in_nI (by omega) (by decide), vp_in_nI (by omega) (by decide), fun c5 => ?_, fun c5 => ?_⟩
            · simp (disch := omega) only [zlit, nI_leI, nI_ltI, nI_eq, nI_clamp, nI_add, pk_mul, pk_sub, pk_div] at c5
              rw [z_bne c5] at hr1; exact hr1
            · simp (disch := omega) only [zlit, nI_leI, nI_ltI, nI_eq, nI_clamp, nI_add, pk_mul, pk_sub, pk_div] at c5
              rw [show xsx u hp P 16 ^^^ xo (gn u) o = 0 by omega] at hr1; exact hr1
          · rw [bI_0] at c4
            have c4 : w = false := by simpa using c4
            refine zv109_0 (zw145_182 ⟨fun _ => ?_, fun c => absurd (by decide) c⟩)
            rw [zup_row, zrow_row]
            refine hq3 hf (fun q => ?_) m P o _ hm h1 (zwf7_0 hs7) rfl
            have hPe := q P hP
            have := hw.mpr ⟨q, by omega, by omega, by omega⟩
            rw [c4] at this; cases this
          · simp (disch := omega) only [zlit, nI_leI, nI_ltI, nI_eq, nI_clamp, nI_add, pk_mul, pk_sub, pk_div] at c4; omega
        | succ n ih =>
          intro k w v hk hw hv
          have hk2 := hb k (by omega)
          have p134 : ∀ (w2 : Bool), (w2 = true ↔ (∀ j, j < k + 1 → hp j ≤ e) ∧ o.1 ≤ e ∧ o.2.1 ≤ e ∧ o.2.2 ≤ e) → zRn (d + 5) 145 (134, [.ref 32, zJ, .int (nI P), .int (nI v), zJ, .int (nI k)], [.int (bI w2)], (49, x, l, zrow σ 32 s, τ, zrho)) Q := by
            intro w2 hw2
            refine zw145_134 ⟨fun c4 => zw145_165 ?_, fun c4 => ⟨fun c5 => ?_, fun c5 => zw145_165 ?_⟩⟩
            · rw [bI_0] at c4
              rw [nI_1]
              exact ih (k + 1) w2 v (by omega) hw2 (fun q => by rw [c4] at q; cases q)
            · rw [bI_0] at c4
              have c4 : w2 = true := by simpa using c4
              simp (disch := omega) only [zlit, nI_leI, nI_ltI, nI_eq, nI_clamp, nI_add, pk_mul, pk_sub, pk_div] at c5
              have q1 := (hw2.mp c4).1 k (by omega)
              have hw1 : w = true := hw.mpr ⟨fun j hj => (hw2.mp c4).1 j (by omega), (hw2.mp c4).2⟩
              have hv1 := hv hw1
              refine ⟨vp_in_nI (by omega) (by decide), ?_, zw145_165 ?_⟩
              · show vp_in (σ 38 ((nI k).toNatClampNeg)) 2001
                rw [nI_clamp (by omega), hh k (by omega)]
                exact vp_in_nI (by omega) (by decide)
              · have g : nI v ^^^ (zrow σ 32 s) 36 (((zrow σ 32 s) 38 ((nI k).toNatClampNeg)).toNatClampNeg) = nI (v ^^^ gn u (hp k)) := by
                  show nI v ^^^ σ 36 ((σ 38 ((nI k).toNatClampNeg)).toNatClampNeg) = _
                  rw [nI_clamp (show k < 2 ^ 31 by omega), hh k (by omega), nI_clamp (by omega), n3 _ q1, z_xor]
                rw [g, nI_1]
                refine ih (k + 1) w2 _ (by omega) hw2 (fun _ => ?_)
                show v ^^^ gn u (hp k) = if k = P then xsx u hp P k else xsx u hp P k ^^^ gn u (hp k)
                rw [if_neg c5, hv1]
            · rw [bI_0] at c4
              have c4 : w2 = true := by simpa using c4
              simp (disch := omega) only [zlit, nI_leI, nI_ltI, nI_eq, nI_clamp, nI_add, pk_mul, pk_sub, pk_div] at c5
              have hw1 : w = true := hw.mpr ⟨fun j hj => (hw2.mp c4).1 j (by omega), (hw2.mp c4).2⟩
              have hv1 := hv hw1
              rw [nI_1]
              refine ih (k + 1) w2 v (by omega) hw2 (fun _ => ?_)
              show v = if k = P then xsx u hp P k else xsx u hp P k ^^^ gn u (hp k)
              rw [if_pos (by omega), hv1]
          refine zw145_103 ⟨fun c4 => ?_, fun _ => ⟨fun c4 => ?_, fun c4 => ⟨vp_in_nI (by omega) (by decide), fun c5 => ?_, fun c5 => ?_⟩⟩⟩
          · simp (disch := omega) only [zlit, nI_leI, nI_ltI, nI_eq, nI_clamp, nI_add, pk_mul, pk_sub, pk_div] at c4; omega
          · rw [bI_0] at c4
            refine p134 false ⟨fun q => (by cases q), fun q => ?_⟩
            have := hw.mpr ⟨fun j hj => q.1 j (by omega), q.2⟩
            rw [c4] at this; cases this
          · have c5 : s 5 < σ 38 ((nI k).toNatClampNeg) := c5
            rw [hs5, nI_clamp (by omega), hh k (by omega)] at c5
            simp (disch := omega) only [nI_ltI] at c5
            refine p134 false ⟨fun q => (by cases q), fun q => ?_⟩
            have := q.1 k (by omega); omega
          · rw [bI_0] at c4
            have c4 : w = true := by simpa using c4
            have c5 : ¬ s 5 < σ 38 ((nI k).toNatClampNeg) := c5
            rw [hs5, nI_clamp (by omega), hh k (by omega)] at c5
            simp (disch := omega) only [nI_ltI] at c5
            refine p134 true ⟨fun _ => ⟨fun j hj => ?_, (hw.mp c4).2⟩, fun _ => rfl⟩
            by_cases ej : j = k
            · subst ej; omega
            · exact (hw.mp c4).1 j (by omega)
      have p98 : ∀ (w : Bool), (w = true ↔ o.1 ≤ e ∧ o.2.1 ≤ e ∧ o.2.2 ≤ e) → zRn (d + 5) 145 (98, [.ref 32, zJ, .int (nI P), .int 0, zJ, zJ], [.int (bI w)], (49, x, l, zrow σ 32 s, τ, zrho)) Q := by
        intro w hw
        exact zw145_98 (loop 16 0 w 0 rfl ⟨fun q => ⟨fun j hj => by omega, hw.mp q⟩, fun q => hw.mpr q.2⟩ (fun _ => rfl))
      have g1 : (zrow σ 32 s) 32 9 = nI o.1 := h9
      have g2 : (zrow σ 32 s) 32 10 = nI o.2.1 := h10
      have g3 : (zrow σ 32 s) 32 11 = nI o.2.2 := h11
      have g5 : (zrow σ 32 s) 32 5 = nI e := hs5
      refine zw145_58 ?_
      rw [g1, g2, g3, g5]
      refine ⟨fun c4 => ?_, fun c4 => ⟨fun c5 => ?_, fun c5 => ⟨fun c6 => ?_, fun c6 => ?_⟩⟩⟩
      · simp (disch := omega) only [nI_ltI] at c4
        exact p98 false ⟨fun q => (by cases q), fun q => by omega⟩
      · simp (disch := omega) only [nI_ltI] at c5
        exact p98 false ⟨fun q => (by cases q), fun q => by omega⟩
      · simp (disch := omega) only [nI_ltI] at c6
        exact p98 false ⟨fun q => (by cases q), fun q => by omega⟩
      · simp (disch := omega) only [nI_ltI] at c4 c5 c6
        exact p98 true ⟨fun _ => by omega, fun _ => rfl⟩
    · simp (disch := omega) only [zlit, nI_leI, nI_ltI, nI_eq, nI_clamp, nI_add, pk_mul, pk_sub, pk_div] at c4; omega
    · rw [zup_row, zrow_row, zrow_row]
      exact hq2 hf (Or.inr ⟨m, hm, h1⟩) _ (zwf7_0 (zfrm_0.trans h2.seven)) rfl
  · rw [show (0 : Int32) = iI 0 from rfl, iI_leI (by omega) (by omega) b1 b2] at c
    refine zw145_39 ⟨fun c4 => absurd c4 (by decide), fun _ => zv109_0 (zw145_49 ⟨fun _ => ?_, fun c => absurd (by decide) c⟩)⟩
    rw [zup_row, zrow_row]
    exact hq2 hf (Or.inl (by omega)) _ (zwf7_0 zfrm_0) rfl
  · rw [zup_row, zrow_row]
    exact hq0 hf _ (zwf7_0 zfrm_0) rfl
