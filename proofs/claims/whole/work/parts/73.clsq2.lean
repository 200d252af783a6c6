/-! the class: quotient, classOf, ofClass -/
def CQ (W : Nat → Nat → Bool) (s : Nat) (s24 s25 s29 s30 s31 : Nat → Int32) : Prop := CQi W s 35 s24 s25 s29 s30 s31
theorem sp20 {d x l : Nat} {σ : Nat → Nat → Int32} {τ : Nat → Nat → Int64} {Q : zR → Prop} {u : zRu} {W : Nat → Nat → Bool} {i : Int} (hu : zRok u) (hW : ∀ q t, W q t = true ↔ Wn u (cq q t)) (hc : CR u (σ 1) (σ 2) (σ 3) (τ 4)) (hf : CF u (σ 17) (σ 18) (σ 19) (σ 20) (σ 21)) (hS : QS (σ 26) (σ 27) (σ 28)) (hx : x < 600) (b1 : -2147483648 ≤ i) (b2 : i < 2147483648)
    (hq1 : ∀ s : Nat, i = (s : Int) → 1 ≤ s → s ≤ 3 → ∀ σ', (∀ q, q ≠ 17 → q ≠ 19 → q ≠ 20 → q ≠ 21 → q ≠ 22 → q ≠ 23 → q ≠ 24 → q ≠ 25 → q ≠ 29 → q ≠ 30 → q ≠ 31 → σ' q = σ q) → CF u (σ' 17) (σ' 18) (σ' 19) (σ' 20) (σ' 21) → CQ W s (σ' 24) (σ' 25) (σ' 29) (σ' 30) (σ' 31) → Q (.inl (some (.int (nI (cn (eqF (fun k t => W (ixd s k) (ixd s t)) (tS s)) (nS s))))), (49, x, l, σ', τ, zrho)))
    (hq0 : ¬ (1 ≤ i ∧ i ≤ 3) → Q (.inr 0, (49, x + 1, l, σ, τ, zrho))) :
    zRn (d + 79) 20 (0, [.ref 0, .int (iI i)], [], (49, x, l, σ, τ, zrho)) Q := by
  refine zv20_0 ?_
  rw [show (iI i < 1) = (i < 1) from iI_ltI (b := 1) b1 b2 (by omega) (by omega), show (iI i ≤ 3) = (i ≤ 3) from iI_leI (b := 3) b1 b2 (by omega) (by omega)]
  refine ⟨fun c => ⟨hx, hq0 (by omega)⟩, fun c => ⟨fun c2 => ?_, fun c2 => ⟨hx, hq0 (by omega)⟩⟩⟩
  obtain ⟨s, hs⟩ : ∃ s : Nat, i = (s : Int) := ⟨i.toNat, by omega⟩
  rw [hs, ← nI_iI]
  refine sp41 (d := d + 73) hu hc hf (fun σ1 f1 r1 ot1 me1 => zv20_31 ?_)
  have g : ∀ q, q ≠ 17 → q ≠ 19 → q ≠ 20 → q ≠ 21 → q ≠ 22 → q ≠ 23 → σ1 q = σ q := f1
  have hS1 : QS (σ1 26) (σ1 27) (σ1 28) := by
    rw [g 26 (by decide) (by decide) (by decide) (by decide) (by decide) (by decide), g 27 (by decide) (by decide) (by decide) (by decide) (by decide) (by decide), g 28 (by decide) (by decide) (by decide) (by decide) (by decide) (by decide)]
    exact hS
  have h18 : P18 (σ1 18) := by rw [g 18 (by decide) (by decide) (by decide) (by decide) (by decide) (by decide)]; exact hf.1
  refine sp70 (d := d) (u := u) (s := s) (W := W) hu hW (by omega) (by omega) hS1 h18 ot1 me1 (fun σ2 f2 m2 hQ => zv20_43 ?_)
  have h24 := hQ.1
  rw [(ix_n s (by omega) (by omega)).2.2.2.2.1] at h24
  rw [h24]
  refine hq1 s hs (by omega) (by omega) σ2 (fun q w1 w2 w3 w4 w5 w6 w7 w8 w9 w10 w11 => (f2 q w2 w5 w7 w8 w9 w10 w11).trans (f1 q w1 w2 w3 w4 w5 w6)) ?_ hQ
  refine ⟨?_, Or.inr ⟨?_, ?_, m2⟩⟩
  · rw [f2 18 (by decide) (by decide) (by decide) (by decide) (by decide) (by decide) (by decide)]; exact h18
  · rw [f2 17 (by decide) (by decide) (by decide) (by decide) (by decide) (by decide) (by decide)]; exact r1
  · rw [f2 20 (by decide) (by decide) (by decide) (by decide) (by decide) (by decide) (by decide), f2 21 (by decide) (by decide) (by decide) (by decide) (by decide) (by decide) (by decide)]; exact ot1
theorem sp73 {d x l : Nat} {σ : Nat → Nat → Int32} {τ : Nat → Nat → Int64} {Q : zR → Prop} {hp : Nat → Nat} (hS : QS (σ 26) (σ 27) (σ 28)) (hh : ∀ k, k < 16 → σ 12 k = nI (hp k)) (hb : ∀ k, k < 16 → hp k ≤ 2000)
    (hq1 : ∀ q, q < 35 → o1 q = ch hp 16 1 → o2 q = ch hp 16 2 → o3 q = ch hp 16 3 → (∀ k, k < 16 → hp k ≤ 3) → Q (.inl (some (.int (σ 29 q))), (49, x, l, σ, τ, zrho)))
    (hq0 : (∀ q, ¬ (q < 35 ∧ o1 q = ch hp 16 1 ∧ o2 q = ch hp 16 2 ∧ o3 q = ch hp 16 3 ∧ ∀ k, k < 16 → hp k ≤ 3)) → Q (.inl (some (.int (-1))), (49, x, l, σ, τ, zrho))) :
    zRn (d + 1) 73 (0, [.ref 24, .ref 12, zJ, zJ, zJ, zJ], [], (49, x, l, σ, τ, zrho)) Q := by
  have one : ∀ a b : Nat, a = b → one1 a b = 1 := fun a b h => by unfold one1; rw [if_pos h.symm]
  have zer : ∀ a b : Nat, ¬ a = b → one1 a b = 0 := fun a b h => by unfold one1; rw [if_neg (fun q => h q.symm)]
  have key : ∀ n k, k + n = 16 → (∀ j, j < k → hp j ≤ 3) → zRn (d + 1) 73 (10, [.ref 24, .ref 12, .int (nI (ch hp k 1)), .int (nI (ch hp k 2)), .int (nI (ch hp k 3)), .int (nI k)], [], (49, x, l, σ, τ, zrho)) Q := by
    intro n
    induction n with
    | zero =>
      intro k hk hs
      have hk : k = 16 := by omega
      subst hk
      have l1 := ch_le hp 1 16
      have l2 := ch_le hp 2 16
      have l3 := ch_le hp 3 16
      refine zw73_10 ⟨fun _ => ?_, fun c => absurd (by decide) c⟩
      refine sp74 (by omega) (by omega) (by omega) hS (fun q w1 w2 w3 w4 => zw73_91 (hq1 q w1 w2 w3 w4 hs)) (fun w => zw73_91 (hq0 (fun q hq => w q hq.1 ⟨hq.2.1, hq.2.2.1, hq.2.2.2.1⟩)))
    | succ n ih =>
      intro k hk hs
      have hbk := hb k (by omega)
      have e12 : σ 12 ((nI k).toNatClampNeg) = nI (hp k) := by rw [nI_clamp (by omega)]; exact hh k (by omega)
      have vk : vp_in (nI k) 16 := vp_in_nI (by omega) (by decide)
      have n1 : (nI (hp k) = 1) = (hp k = 1) := nI_q1 (by omega)
      have n2 : (nI (hp k) = 2) = (hp k = 2) := nI_q2 (by omega)
      have n3 : (nI (hp k) = 3) = (hp k = 3) := nI_q3 (by omega)
      have inc : ∀ v (a : Int32), a = nI (one1 (hp k) v) → nI (ch hp k v) + a = nI (ch hp (k + 1) v) := by
        intro v a ha
        rw [ha, nI_add]
        rfl
      have a0 : ∀ v, ¬ hp k = v → (0 : Int32) = nI (one1 (hp k) v) := fun v h => by rw [zer _ _ h]; rfl
      have a1 : ∀ v, hp k = v → (1 : Int32) = nI (one1 (hp k) v) := fun v h => by rw [one _ _ h]; rfl
      refine zw73_10 ⟨fun c => ?_, fun _ => ⟨vk, fun c => ?_, fun c => ?_⟩⟩
      · have c : nI 16 ≤ nI k := c
        simp (disch := omega) only [zlit, nI_leI, nI_ltI, nI_eq, nI_clamp, nI_add, pk_mul, pk_sub, pk_div] at c; omega
      · rw [e12] at c
        simp (disch := omega) only [zlit, nI_leI, nI_ltI, nI_eq, nI_clamp, nI_add, pk_mul, pk_sub, pk_div] at c
        have go := ih (k + 1) (by omega) (fun j hj => by
          by_cases w : j = k
          · rw [w]; exact c
          · exact hs j (by omega))
        have s3 : zRn (d + 1) 73 (59, [.ref 24, .ref 12, .int (nI (ch hp (k + 1) 1)), .int (nI (ch hp (k + 1) 2)), .int (nI (ch hp k 3)), .int (nI k)], [], (49, x, l, σ, τ, zrho)) Q := by
          refine zw73_59 ⟨vk, fun w => ?_, fun w => ?_⟩
          · rw [e12, n3] at w
            rw [inc 3 0 (a0 3 w), nI_1]; exact go
          · rw [e12, n3] at w
            rw [inc 3 1 (a1 3 (Classical.not_not.1 w)), nI_1]; exact go
        have s2 : zRn (d + 1) 73 (43, [.ref 24, .ref 12, .int (nI (ch hp (k + 1) 1)), .int (nI (ch hp k 2)), .int (nI (ch hp k 3)), .int (nI k)], [], (49, x, l, σ, τ, zrho)) Q := by
          refine zw73_43 ⟨vk, fun w => ?_, fun w => ?_⟩
          · rw [e12, n2] at w
            rw [inc 2 0 (a0 2 w)]; exact s3
          · rw [e12, n2] at w
            rw [inc 2 1 (a1 2 (Classical.not_not.1 w))]; exact s3
        refine zw73_27 ⟨vk, fun w => ?_, fun w => ?_⟩
        · rw [e12, n1] at w
          rw [inc 1 0 (a0 1 w)]; exact s2
        · rw [e12, n1] at w
          rw [inc 1 1 (a1 1 (Classical.not_not.1 w))]; exact s2
      · rw [e12] at c
        simp (disch := omega) only [zlit, nI_leI, nI_ltI, nI_eq, nI_clamp, nI_add, pk_mul, pk_sub, pk_div] at c
        exact hq0 (fun q hq => c (hq.2.2.2.2 k (by omega)))
  exact zw73_0 (key 16 0 (by omega) (fun j hj => absurd hj (by omega)))
theorem sp21_0 {d x l : Nat} {σ : Nat → Nat → Int32} {τ : Nat → Nat → Int64} {Q : zR → Prop} (h24 : σ 24 0 = -1) (hx : x < 600) (hq : Q (.inr 1, (49, x + 1, l, σ, τ, zrho))) : zRn (d + 1) 21 (0, [.ref 0, zJ], [], (49, x, l, σ, τ, zrho)) Q := by
  refine zv21_0 (zv29_0 ?_)
  rw [h24]
  exact ⟨fun c => absurd rfl c, fun _ => ⟨hx, hq⟩⟩
theorem sp22_0 {d x l : Nat} {σ : Nat → Nat → Int32} {τ : Nat → Nat → Int64} {Q : zR → Prop} {a1 a2 : Int32} (h24 : σ 24 0 = -1) (hx : x < 600) (hq : Q (.inr 1, (49, x + 1, l, σ, τ, zrho))) : zRn (d + 1) 22 (0, [.ref 0, .int a1, .int a2], [], (49, x, l, σ, τ, zrho)) Q := by
  refine zv22_0 (zv29_0 ?_)
  rw [h24]
  exact ⟨fun c => absurd rfl c, fun _ => ⟨hx, hq⟩⟩
theorem ni_m1 {n : Nat} (hn : n < 1000) : ¬ nI n = -1 := by
  rw [nI_iI, show (-1 : Int32) = iI (-1) from rfl, iI_eqI (by omega) (by omega) (by omega) (by omega)]
  omega
theorem sp21 {d x l : Nat} {σ : Nat → Nat → Int32} {τ : Nat → Nat → Int64} {Q : zR → Prop} {s : Nat} {hp : Nat → Nat} {W : Nat → Nat → Bool} (h1 : 1 ≤ s) (h3 : s ≤ 3) (hS : QS (σ 26) (σ 27) (σ 28)) (hQ : CQ W s (σ 24) (σ 25) (σ 29) (σ 30) (σ 31)) (hh : ∀ k, k < 16 → σ 12 k = nI (hp k)) (hb : ∀ k, k < 16 → hp k ≤ 2000) (hx : x < 600)
    (hq1 : ∀ q, CO s hp q → Q (.inl (some (.int (nI (cl (eqF (fun k t => W (ixd s k) (ixd s t)) (tS s)) (rkS s q))))), (49, x, l, σ, τ, zrho)))
    (hq0 : (∀ q, ¬ CO s hp q) → Q (.inr 3, (49, x + 1, l, σ, τ, zrho))) :
    zRn (d + 2) 21 (0, [.ref 0, zJ], [], (49, x, l, σ, τ, zrho)) Q := by
  have hn := ix_n s (by omega) h1
  unfold CQ CQi at hQ
  have hev := eqF_eqv (fun k t => W (ixd s k) (ixd s t)) (tS s)
  generalize he : eqF (fun k t => W (ixd s k) (ixd s t)) (tS s) = e at hev hQ hq1
  obtain ⟨c1, c2, c3, c4⟩ := hQ
  have hcn := cn_le e (rkS s 35)
  refine zv21_0 (zv29_0 ⟨fun _ => zv21_4 ?_, fun c => ?_⟩)
  · refine sp73 hS hh hb (fun q w1 w2 w3 w4 w5 => zv21_18 ?_) (fun w => zv21_18 ⟨fun c => absurd rfl c, fun _ => ⟨hx, hq0 (fun q hc => w q ⟨hc.1, hc.2.1, hc.2.2.1, hc.2.2.2.1, hc.2.2.2.2.2.2⟩)⟩⟩)
    rw [c2 q w1]
    by_cases hi : inS s q = true
    · rw [if_pos hi]
      have hr := ix_rk s (by omega) h1 q w1 hi
      have hcl := cl_lt hev (rkS s q)
      have hcc := cn_le e (rkS s q + 1)
      refine ⟨fun _ => hq1 q ⟨w1, w2, w3, w4, (inS_iff.1 hi).1, (inS_iff.1 hi).2, w5⟩, fun c => absurd (ni_m1 (by omega)) c⟩
    · rw [if_neg hi]
      refine ⟨fun c => absurd rfl c, fun _ => ⟨hx, hq0 (fun q' hc => hi ?_)⟩⟩
      have : q' = q := by rw [← o_uni q' hc.1, ← o_uni q w1, hc.2.1, hc.2.2.1, hc.2.2.2.1, w2, w3, w4]
      rw [← this]
      exact inS_iff.2 ⟨hc.2.2.2.2.1, hc.2.2.2.2.2.1⟩
  · rw [c1] at c
    exact absurd (ni_m1 (by omega)) c
theorem sp72 {d x l : Nat} {σ : Nat → Nat → Int32} {τ : Nat → Nat → Int64} {Q : zR → Prop} {s q c z : Nat} (hc : c < 35) (hq35 : q < 35) (h30 : σ 30 c = nI q) (hz1 : 1 ≤ z) (hz3 : z ≤ 3) (hS : QS (σ 26) (σ 27) (σ 28))
    (hq1 : ∀ q', q' < 35 → o1 q' = o1 q + one1 z 1 → o2 q' = o2 q + one1 z 2 → o3 q' = o3 q + one1 z 3 → Q (.inl (some (.int (σ 29 q'))), (49, x, l, σ, τ, zrho)))
    (hq0 : (∀ q', q' < 35 → ¬ (o1 q' = o1 q + one1 z 1 ∧ o2 q' = o2 q + one1 z 2 ∧ o3 q' = o3 q + one1 z 3)) → Q (.inl (some (.int (-1))), (49, x, l, σ, τ, zrho))) :
    zRn (d + 1) 72 (0, [.ref 24, .int (nI c), .int (nI z), zJ], [], (49, x, l, σ, τ, zrho)) Q := by
  have one : ∀ a b : Nat, a = b → one1 a b = 1 := fun a b h => by unfold one1; rw [if_pos h.symm]
  have zer : ∀ a b : Nat, ¬ a = b → one1 a b = 0 := fun a b h => by unfold one1; rw [if_neg (fun q => h q.symm)]
  obtain ⟨e1, e2, e3⟩ := hS q hq35
  have ho := o_le q hq35
  have l1 := one1_le z 1
  have l2 := one1_le z 2
  have l3 := one1_le z 3
  have vq : vp_in (nI q) 35 := vp_in_nI (by omega) (by decide)
  have n1 : (nI z = 1) = (z = 1) := nI_q1 (by omega)
  have n2 : (nI z = 2) = (z = 2) := nI_q2 (by omega)
  have n3 : (nI z = 3) = (z = 3) := nI_q3 (by omega)
  have a0 : ∀ v, ¬ z = v → (0 : Int32) = nI (one1 z v) := fun v h => by rw [zer _ _ h]; rfl
  have a1 : ∀ v, z = v → (1 : Int32) = nI (one1 z v) := fun v h => by rw [one _ _ h]; rfl
  have s4 : zRn (d + 1) 72 (58, [zJ, zJ, zJ, zJ], [.int (nI (one1 z 3)), .int (nI (o3 q)), .int (nI (o2 q + one1 z 2)), .int (nI (o1 q + one1 z 1)), .ref 24], (49, x, l, σ, τ, zrho)) Q := by
    refine zw72_58 ?_
    rw [nI_add]
    exact sp74 (by omega) (by omega) (by omega) hS (fun q' w1 w2 w3 w4 => zw72_62 (hq1 q' w1 w2 w3 w4)) (fun w => zw72_62 (hq0 w))
  have s3 : zRn (d + 1) 72 (41, [.ref 24, zJ, .int (nI z), .int (nI q)], [.int (nI (one1 z 2)), .int (nI (o2 q)), .int (nI (o1 q + one1 z 1)), .ref 24], (49, x, l, σ, τ, zrho)) Q := by
    refine zw72_41 ⟨vq, fun w => ?_, fun w => ?_⟩
    · rw [n3] at w
      rw [nI_clamp (by omega), e3, nI_add, a0 3 w]; exact s4
    · rw [n3] at w
      rw [nI_clamp (by omega), e3, nI_add, a1 3 (Classical.not_not.1 w)]; exact s4
  have s2 : zRn (d + 1) 72 (24, [.ref 24, zJ, .int (nI z), .int (nI q)], [.int (nI (one1 z 1)), .int (nI (o1 q)), .ref 24], (49, x, l, σ, τ, zrho)) Q := by
    refine zw72_24 ⟨vq, fun w => ?_, fun w => ?_⟩
    · rw [n2] at w
      rw [nI_clamp (by omega), e2, nI_add, a0 2 w]; exact s3
    · rw [n2] at w
      rw [nI_clamp (by omega), e2, nI_add, a1 2 (Classical.not_not.1 w)]; exact s3
  refine zw72_0 ?_
  rw [nI_clamp (by omega), h30, nI_clamp (by omega), e1, n1]
  refine ⟨vp_in_nI (by omega) (by decide), vq, fun w => ?_, fun w => ?_⟩
  · rw [a0 1 w]; exact s2
  · rw [a1 1 (Classical.not_not.1 w)]; exact s2
theorem fb_bit {W : Nat → Nat → Bool} {s q : Nat} : nI (cbN W s q) &&& 1 = nI ((W q 0).toNat) := by
  have h0 : inS s 0 = true := inS_iff.2 ⟨Or.inr rfl, Or.inr rfl⟩
  have hlt : cbN W s q < 1024 := fbN_lt _ 10
  have : ∀ n, fbN (fun t => inS s t && W q t) (n + 1) % 2 = (W q 0).toNat := by
    intro n
    induction n with
    | zero =>
      show (0 + (inS s 0 && W q 0).toNat * 2 ^ 0) % 2 = _
      rw [h0]
      cases W q 0 <;> rfl
    | succ n ih =>
      show (fbN (fun t => inS s t && W q t) (n + 1) + (inS s (n + 1) && W q (n + 1)).toNat * 2 ^ (n + 1)) % 2 = _
      rw [Nat.pow_succ, ← Nat.mul_assoc, Nat.add_mul_mod_self_right, ih]
  rw [pk_andN (by omega) 1 (by decide)]
  congr 1
  exact this 9
theorem sp22 {d x l : Nat} {σ : Nat → Nat → Int32} {τ : Nat → Nat → Int64} {Q : zR → Prop} {s : Nat} {W : Nat → Nat → Bool} {e : Nat → Nat → Bool} {c w : Int} (h1 : 1 ≤ s) (h3 : s ≤ 3) (he : eqF (fun k t => W (ixd s k) (ixd s t)) (tS s) = e) (hS : QS (σ 26) (σ 27) (σ 28)) (hQ : CQ W s (σ 24) (σ 25) (σ 29) (σ 30) (σ 31)) (hx : x < 600)
    (b1 : -2147483648 ≤ c) (b2 : c < 2147483648) (d1 : -2147483648 ≤ w) (d2 : w < 2147483648)
    (hq0 : ∀ j, j < nS s → ll e j j = none → c = (cn e j : Int) → w = 0 → Q (.inl (some (.int (bI (W (ixd s j) 0)))), (49, x, l, σ, τ, zrho)))
    (hq1 : ∀ j, j < nS s → ll e j j = none → c = (cn e j : Int) → w = 1 → Q (.inl (some (.int (nI (nin e (cn e j) (nS s))))), (49, x, l, σ, τ, zrho)))
    (hq2 : ∀ (j z q' : Nat), j < nS s → ll e j j = none → c = (cn e j : Int) → w = (z : Int) + 1 → 1 ≤ z → z ≤ 3 → AZ s (ixd s j) z q' → Q (.inl (some (.int (nI (cl e (rkS s q'))))), (49, x, l, σ, τ, zrho)))
    (hq3 : ∀ (j z : Nat), j < nS s → ll e j j = none → c = (cn e j : Int) → w = (z : Int) + 1 → 1 ≤ z → z ≤ 3 → (∀ q', ¬ AZ s (ixd s j) z q') → Q (.inl (some (.int (-1))), (49, x, l, σ, τ, zrho)))
    (hqn : ¬ (0 ≤ c ∧ c < (cn e (nS s) : Int) ∧ 0 ≤ w ∧ w ≤ 4) → Q (.inr 2, (49, x + 1, l, σ, τ, zrho))) :
    zRn (d + 3) 22 (0, [.ref 0, .int (iI c), .int (iI w)], [], (49, x, l, σ, τ, zrho)) Q := by
  have hn := ix_n s (by omega) h1
  unfold CQ CQi at hQ
  rw [he] at hQ
  unfold CQe at hQ
  rw [hn.2.2.2.2.1] at hQ
  obtain ⟨c1, c2, c3, c4⟩ := hQ
  have hcn := cn_le e (nS s)
  have lc0 : (iI c < 0) = (c < 0) := iI_ltI (b := 0) b1 b2 (by omega) (by omega)
  have lw0 : (iI w < 0) = (w < 0) := iI_ltI (b := 0) d1 d2 (by omega) (by omega)
  have lw4 : (iI w ≤ 4) = (w ≤ 4) := iI_leI (b := 4) d1 d2 (by omega) (by omega)
  have lcf : (σ 24 0 ≤ iI c) = ((cn e (nS s) : Int) ≤ c) := by rw [c1, nI_iI]; exact iI_leI (by omega) (by omega) b1 b2
  refine zv22_0 (zv29_0 ⟨fun _ => zv22_4 ?_, fun k => ?_⟩)
  · rw [lc0, lcf, lw0, lw4]
    refine ⟨fun k => ⟨hx, hqn (by omega)⟩, fun k => ⟨fun k2 => ⟨hx, hqn (by omega)⟩, fun k2 => ⟨fun k3 => ⟨hx, hqn (by omega)⟩, fun k3 => ⟨fun k4 => ?_, fun k4 => ⟨hx, hqn (by omega)⟩⟩⟩⟩⟩
    obtain ⟨c', hc'⟩ : ∃ c' : Nat, c = (c' : Int) := ⟨c.toNat, by omega⟩
    obtain ⟨w', hw'⟩ : ∃ w' : Nat, w = (w' : Int) := ⟨w.toNat, by omega⟩
    obtain ⟨j0, j1, j2, j3⟩ := cn_surj e (nS s) c' (by omega)
    have hcj : c = (cn e j0 : Int) := by rw [hc', j3]
    have hx1 := ix_sp s (by omega) h1 j0 j1
    have eic : iI c = nI (cn e j0) := by rw [hcj, ← nI_iI]
    have eiw : iI w = nI w' := by rw [hw', ← nI_iI]
    have hcj0 := cn_le e j0
    have h4 := c4 j0 j1 j2
    rw [eic, eiw, nI_q1 (by omega), nI_q0 (by omega)]
    have vc : vp_in (nI (cn e j0)) 35 := vp_in_nI (by omega) (by decide)
    refine ⟨fun k5 => ⟨fun k6 => ?_, fun k6 => ⟨vc, ?_⟩⟩, fun k5 => ?_⟩
    · have ez : nI w' - 1 = nI (w' - 1) := pk_sub (b := 1) (by omega)
      rw [ez]
      refine sp72 (s := s) (q := ixd s j0) (by omega) hx1.1 h4.2 (by omega) (by omega) hS (fun q' w1 w2 w3 w4 => zv22_87 ?_) (fun w => zv22_87 ?_)
      · rw [c2 q' w1]
        by_cases hi : inS s q' = true
        · rw [if_pos hi]
          exact hq2 j0 (w' - 1) q' j1 j2 hcj (by omega) (by omega) (by omega) ⟨w1, w2, w3, w4, (inS_iff.1 hi).1, (inS_iff.1 hi).2⟩
        · rw [if_neg hi]
          refine hq3 j0 (w' - 1) j1 j2 hcj (by omega) (by omega) (by omega) (fun q2 hz => hi ?_)
          have : q2 = q' := by rw [← o_uni q2 hz.1, ← o_uni q' w1, hz.2.1, hz.2.2.1, hz.2.2.2.1, w2, w3, w4]
          rw [← this]
          exact inS_iff.2 hz.2.2.2.2
      · exact hq3 j0 (w' - 1) j1 j2 hcj (by omega) (by omega) (by omega) (fun q2 hz => w q2 hz.1 ⟨hz.2.1, hz.2.2.1, hz.2.2.2.1⟩)
    · rw [nI_clamp (by omega), c3 _ (cn_lt j2 j1)]
      exact zv22_87 (hq1 j0 j1 j2 hcj (by omega))
    · refine zv71_0 ?_
      rw [nI_clamp (by omega), h4.1, fb_bit]
      have := hq0 j0 j1 j2 hcj (by omega)
      cases hb : W (ixd s j0) 0 with
      | true =>
        rw [hb] at this
        exact ⟨vc, fun q => absurd q (by decide), fun _ => zv22_50 ⟨fun q => absurd q (by decide), fun _ => this⟩⟩
      | false =>
        rw [hb] at this
        exact ⟨vc, fun _ => zv22_50 ⟨fun _ => this, fun q => absurd rfl q⟩, fun q => absurd rfl q⟩
  · rw [c1] at k
    exact absurd (ni_m1 (by omega)) k
