/-! the class: the quotient -/
def QS (s26 s27 s28 : Nat → Int32) : Prop := ∀ k, k < 35 → s26 k = nI (o1 k) ∧ s27 k = nI (o2 k) ∧ s28 k = nI (o3 k)
theorem o_le : ∀ k, k < 35 → o1 k ≤ 4 ∧ o2 k ≤ 4 ∧ o3 k ≤ 4 := by decide +kernel

theorem sp75 {d x l : Nat} {σ : Nat → Nat → Int32} {τ : Nat → Nat → Int64} {Q : zR → Prop} {q s : Nat} (hq35 : q < 35) (h3 : s ≤ 3) (hS : QS (σ 26) (σ 27) (σ 28)) (hq : Q (.inl (some (.int (bI (inS s q)))), (49, x, l, σ, τ, zrho))) :
    zRn d 75 (0, [.ref 24, .int (nI q), .int (nI s)], [], (49, x, l, σ, τ, zrho)) Q := by
  have ho := o_le q hq35
  obtain ⟨e1, e2, e3⟩ := hS q hq35
  have q1 : ((2 ≤ s ∨ o2 q = 0) ∧ (3 ≤ s ∨ o3 q = 0)) → Q (.inl (some (.int (1))), (49, x, l, σ, τ, zrho)) := fun c => by rw [inS_iff.2 c] at hq; exact hq
  have q0 : ¬ ((2 ≤ s ∨ o2 q = 0) ∧ (3 ≤ s ∨ o3 q = 0)) → Q (.inl (some (.int (0))), (49, x, l, σ, τ, zrho)) := fun c => by
    cases h : inS s q with
    | true => exact absurd (inS_iff.1 h) c
    | false => rw [h] at hq; exact hq
  refine zv75_0 ?_
  rw [nI_clamp (by omega), e2, e3]
  simp (disch := omega) only [zlit, nI_leI, nI_ltI, nI_eq, nI_clamp, nI_add, pk_mul, pk_sub, pk_div]
  refine ⟨fun c => ⟨fun c2 => q1 (by omega), fun c2 => ⟨vp_in_nI (by omega) (by decide), fun c3 => q0 (by omega), fun c3 => q1 (by omega)⟩⟩, fun c => ⟨vp_in_nI (by omega) (by decide), fun c2 => q0 (by omega), fun c2 => ⟨fun c3 => q1 (by omega), fun c3 => ⟨vp_in_nI (by omega) (by decide), fun c4 => q0 (by omega), fun c4 => q1 (by omega)⟩⟩⟩⟩
theorem sp74 {d x l : Nat} {σ : Nat → Nat → Int32} {τ : Nat → Nat → Int64} {Q : zR → Prop} {a b c : Nat} (ha : a ≤ 1000) (hb : b ≤ 1000) (hc : c ≤ 1000) (hS : QS (σ 26) (σ 27) (σ 28))
    (hq1 : ∀ q, q < 35 → o1 q = a → o2 q = b → o3 q = c → Q (.inl (some (.int (σ 29 q))), (49, x, l, σ, τ, zrho))) (hq0 : (∀ q, q < 35 → ¬ (o1 q = a ∧ o2 q = b ∧ o3 q = c)) → Q (.inl (some (.int (-1))), (49, x, l, σ, τ, zrho))) :
    zRn d 74 (0, [.ref 24, .int (nI a), .int (nI b), .int (nI c), zJ], [], (49, x, l, σ, τ, zrho)) Q := by
  have key : ∀ n k, k + n = 35 → (∀ q, q < k → ¬ (o1 q = a ∧ o2 q = b ∧ o3 q = c)) → zRn d 74 (3, [.ref 24, .int (nI a), .int (nI b), .int (nI c), .int (nI k)], [], (49, x, l, σ, τ, zrho)) Q := by
    intro n
    induction n with
    | zero =>
      intro k hk hn
      have hk : k = 35 := by omega
      subst hk
      exact zv74_3 ⟨fun _ => hq0 hn, fun c => absurd (by decide) c⟩
    | succ n ih =>
      intro k hk hn
      have ho := o_le k (by omega)
      obtain ⟨e1, e2, e3⟩ := hS k (by omega)
      have go : ¬ (o1 k = a ∧ o2 k = b ∧ o3 k = c) → zRn d 74 (3, [.ref 24, .int (nI a), .int (nI b), .int (nI c), .int (nI k + 1)], [], (49, x, l, σ, τ, zrho)) Q := by
        intro w
        rw [nI_1]
        refine ih (k + 1) (by omega) (fun q hq => ?_)
        by_cases w2 : q = k
        · rw [w2]; exact w
        · exact hn q (by omega)
      refine zv74_3 ⟨fun c => ?_, fun _ => ?_⟩
      · simp (disch := omega) only [zlit, nI_leI, nI_ltI, nI_eq, nI_clamp, nI_add, pk_mul, pk_sub, pk_div] at c; omega
      · rw [nI_clamp (by omega), e1, e2, e3]
        rw [nI_eq (by omega) (by omega), nI_eq (by omega) (by omega), nI_eq (by omega) (by omega)]
        exact ⟨vp_in_nI (by omega) (by decide), fun w => go (fun q => w q.1), fun w => ⟨vp_in_nI (by omega) (by decide), fun w2 => go (fun q => w2 q.2.1), fun w2 => ⟨vp_in_nI (by omega) (by decide), fun w3 => go (fun q => w3 q.2.2), fun w3 => ⟨vp_in_nI (by omega) (by decide), hq1 k (by omega) (Classical.not_not.1 w) (Classical.not_not.1 w2) (Classical.not_not.1 w3)⟩⟩⟩⟩
  exact zv74_0 (key 35 0 (by omega) (fun q hq => absurd hq (by omega)))
theorem or_bit {b n : Nat} (hb : b < 2 ^ n) (hn : n < 10) : nI b ||| ((1 : Int32) <<< (nI n &&& 31)) = nI (b + 2 ^ n) := by
  have e : (1 : Int32) <<< (nI n &&& 31) = nI (2 ^ n) := (by decide +kernel : ∀ n, n < 10 → (1 : Int32) <<< (nI n &&& 31) = nI (2 ^ n)) n hn
  have h2 : 2 ^ n ≤ 2 ^ 9 := Nat.pow_le_pow_right (by omega) (by omega)
  rw [e]
  apply Int32.toBitVec_inj.1
  apply BitVec.eq_of_toNat_eq
  rw [Int32.toBitVec_or, BitVec.toNat_or]
  show (BitVec.ofNat 32 b).toNat ||| (BitVec.ofNat 32 (2 ^ n)).toNat = (BitVec.ofNat 32 (b + 2 ^ n)).toNat
  rw [BitVec.toNat_ofNat, BitVec.toNat_ofNat, BitVec.toNat_ofNat, Nat.mod_eq_of_lt (by omega), Nat.mod_eq_of_lt (by omega), Nat.mod_eq_of_lt (by omega)]
  have := Nat.two_pow_add_eq_or_of_lt hb 1
  rw [Nat.mul_one] at this
  rw [Nat.or_comm, ← this, Nat.add_comm]
theorem or_0 (b : Int32) : b ||| 0 = b := by
  apply Int32.toBitVec_inj.1
  rw [Int32.toBitVec_or]
  exact BitVec.or_zero
theorem cq_sm {j t : Nat} (hj : j < 35) (ht : t < 10) : smO (cq j t) ∧ ms (cq j t) 16 ≤ 36 := by
  have h := cq_ok j hj t ht
  have h1 : tot (cq j t) 16 ≤ 18 := by
    have e : wsm (fun k => k) (cq j t) 16 = _ := wsm_c3 (fun k => k) (o1 j + o1 t) (o2 j + o2 t) (o3 j + o3 t) 13
    rw [tot_w, e]
    omega
  have h2 := ms_tot (cq j t) 16
  exact ⟨⟨h1, rfl, rfl⟩, by omega⟩
/-- the class's number for a sum's answers -/
def cbN (W : Nat → Nat → Bool) (s q : Nat) : Nat := fbN (fun t => inS s t && W q t) 10
theorem sp76 {d x l : Nat} {σ : Nat → Nat → Int32} {τ : Nat → Nat → Int64} {Q : zR → Prop} {u : zRu} {q s : Nat} {W : Nat → Nat → Bool} (hu : zRok u) (hW : ∀ q t, W q t = true ↔ Wn u (cq q t)) (hq35 : q < 35) (h3 : s ≤ 3) (hS : QS (σ 26) (σ 27) (σ 28)) (h18 : P18 (σ 18)) (hot : OT u (σ 20) (σ 21)) (hme : Memo u (σ 19))
    (hq : ∀ a b, Memo u a → Q (.inl (some (.int (nI (cbN W s q)))), (49, x, l, L2 σ a b, τ, zrho))) :
    zRn (d + 77) 76 (0, [.ref 24, .int (nI q), .int (nI s), .ref 17, zJ, zJ], [], (49, x, l, σ, τ, zrho)) Q := by
  have key : ∀ n t a b, t + n = 10 → Memo u a → zRn (d + 77) 76 (6, [.ref 24, .int (nI q), .int (nI s), .ref 17, .int (nI (fbN (fun t => inS s t && W q t) t)), .int (nI t)], [], (49, x, l, L2 σ a b, τ, zrho)) Q := by
    intro n
    induction n with
    | zero =>
      intro t a b ht ha
      have ht : t = 10 := by omega
      subst ht
      exact zv76_6 ⟨fun _ => hq a b ha, fun c => absurd (by decide) c⟩
    | succ n ih =>
      intro t a b ht ha
      have hlt := fbN_lt (fun t => inS s t && W q t) t
      have hp : 2 ^ t ≤ 2 ^ 9 := Nat.pow_le_pow_right (by omega) (by omega)
      refine zv76_6 ⟨fun c => ?_, fun _ => ?_⟩
      · simp (disch := omega) only [zlit, nI_leI, nI_ltI, nI_eq, nI_clamp, nI_add, pk_mul, pk_sub, pk_div] at c; omega
      · refine sp75 (by omega) h3 hS (zv76_20 ⟨fun c => ?_, fun c => ?_⟩)
        · rw [bI_0] at c
          rw [nI_1]
          have e : fbN (fun t => inS s t && W q t) (t + 1) = fbN (fun t => inS s t && W q t) t := by
            show fbN (fun t => inS s t && W q t) t + (inS s t && W q t).toNat * 2 ^ t = _
            rw [c]
            show _ + 0 * 2 ^ t = _
            omega
          rw [← e]
          exact ih (t + 1) a b (by omega) ha
        · rw [bI_0] at c
          have c : inS s t = true := by simpa using c
          refine sp39 (d := d + 75) (fun z hz => zv76_27 ?_)
          rw [L2_22]
          obtain ⟨a1, a2, a3⟩ := hS q hq35
          obtain ⟨b1, b2, b3⟩ := hS t (by omega)
          have f1 : ∀ z, (L2 σ a z) 26 ((nI q).toNatClampNeg) + (L2 σ a z) 26 ((nI t).toNatClampNeg) = nI (o1 q + o1 t) := by
            intro z
            rw [nI_clamp (by omega), nI_clamp (by omega)]
            show σ 26 q + σ 26 t = _
            rw [a1, b1, nI_add]
          have f2 : ∀ z, (L2 σ a z) 27 ((nI q).toNatClampNeg) + (L2 σ a z) 27 ((nI t).toNatClampNeg) = nI (o2 q + o2 t) := by
            intro z
            rw [nI_clamp (by omega), nI_clamp (by omega)]
            show σ 27 q + σ 27 t = _
            rw [a2, b2, nI_add]
          have f3 : ∀ z, (L2 σ a z) 28 ((nI q).toNatClampNeg) + (L2 σ a z) 28 ((nI t).toNatClampNeg) = nI (o3 q + o3 t) := by
            intro z
            rw [nI_clamp (by omega), nI_clamp (by omega)]
            show σ 28 q + σ 28 t = _
            rw [a3, b3, nI_add]
          refine ⟨vp_in_nI (by omega) (by decide), vp_in_nI (by omega) (by decide), ?_⟩
          rw [f1]
          refine sp40 (h := 1) (by omega) (zv76_46 ?_)
          rw [L2_22]
          refine ⟨vp_in_nI (by omega) (by decide), vp_in_nI (by omega) (by decide), ?_⟩
          rw [f2]
          refine sp40 (h := 2) (by omega) (zv76_65 ?_)
          rw [L2_22]
          refine ⟨vp_in_nI (by omega) (by decide), vp_in_nI (by omega) (by decide), ?_⟩
          rw [f3]
          refine sp40 (h := 3) (by omega) (zv76_84 ?_)
          rw [L2_22]
          have hsm := cq_sm hq35 (show t < 10 by omega)
          have h22 : ∀ k, 1 ≤ k → k ≤ 16 → (upd (upd (upd z 1 (z 1 + nI (o1 q + o1 t))) 2 ((upd z 1 (z 1 + nI (o1 q + o1 t))) 2 + nI (o2 q + o2 t))) 3 ((upd (upd z 1 (z 1 + nI (o1 q + o1 t))) 2 ((upd z 1 (z 1 + nI (o1 q + o1 t))) 2 + nI (o2 q + o2 t))) 3 + nI (o3 q + o3 t))) k = nI (cq q t k) := by
            intro k k1 k2
            have z0 : ∀ v : Nat, (0 : Int32) + nI v = nI v := fun v => by rw [show (0 : Int32) = nI 0 from rfl, nI_add, Nat.zero_add]
            unfold cq c3
            by_cases w3 : k = 3
            · subst w3
              rw [upd_s rfl, pk_un (by decide), pk_un (by decide), hz 3 (by omega), z0]
              rfl
            · rw [pk_un w3]
              by_cases w2 : k = 2
              · subst w2
                rw [upd_s rfl, pk_un (by decide), hz 2 (by omega), z0]
                rfl
              · rw [pk_un w2]
                by_cases w1 : k = 1
                · subst w1
                  rw [upd_s rfl, hz 1 (by omega), z0]
                  rfl
                · rw [pk_un w1, hz k (by omega), if_neg w1, if_neg w2, if_neg w3]
                  rfl
          have e1 : W q t = true → fbN (fun t => inS s t && W q t) (t + 1) = fbN (fun t => inS s t && W q t) t + 2 ^ t := by
            intro w
            show fbN (fun t => inS s t && W q t) t + (inS s t && W q t).toNat * 2 ^ t = _
            rw [c, w]
            show _ + 1 * 2 ^ t = _
            omega
          have e0 : W q t = false → fbN (fun t => inS s t && W q t) (t + 1) = fbN (fun t => inS s t && W q t) t := by
            intro w
            show fbN (fun t => inS s t && W q t) t + (inS s t && W q t).toNat * 2 ^ t = _
            rw [c, w]
            show _ + 0 * 2 ^ t = _
            omega
          refine sp42 (d := d) (c := cq q t) hu hsm.2 hsm.1 h18 hot ha h22 (fun w a' b' ha' => zv76_90 ⟨fun q => absurd q (by decide), fun _ => ?_⟩) (fun w a' b' ha' => zv76_90 ⟨fun _ => ?_, fun q => absurd rfl q⟩)
          · rw [L2_L2, or_bit hlt (by omega), nI_1, ← e1 ((hW q t).2 w)]
            exact ih (t + 1) a' b' (by omega) ha'
          · have w0 : W q t = false := by
              cases h : W q t with
              | true => exact absurd ((hW q t).1 h) w
              | false => rfl
            rw [L2_L2, or_0, nI_1, ← e0 w0]
            exact ih (t + 1) a' b' (by omega) ha'
  refine zv76_0 ?_
  have := key 10 0 (σ 19) (σ 22) (by omega) hme
  rwa [L2_id] at this
theorem sp77 {d x l : Nat} {σ : Nat → Nat → Int32} {τ : Nat → Nat → Int64} {Q : zR → Prop} {q c0 f : Nat} {b : Int32} (hq35 : q < 35) (hf : σ 24 0 = nI f) (hf35 : f < 35) (hc : c0 ≤ f) (hne : ∀ c, c < c0 → σ 31 c ≠ b) (hca : c0 < f → σ 31 c0 = b)
    (hq1 : c0 = f → Q (.inl none, (49, x, l, zup (zup (zup (zup (zup (zup σ 31 c0 b) 30 c0 (nI q)) 25 c0 0) 24 0 (nI (f + 1))) 25 c0 1) 29 q (nI c0), τ, zrho)))
    (hq2 : c0 < f → Q (.inl none, (49, x, l, zup (zup σ 25 c0 (σ 25 c0 + 1)) 29 q (nI c0), τ, zrho))) :
    zRn d 77 (0, [.ref 24, .int (nI q), .int b, zJ], [], (49, x, l, σ, τ, zrho)) Q := by
  have key : ∀ n c, c + n = c0 → zRn d 77 (2, [.ref 24, .int (nI q), .int b, .int (nI c)], [], (49, x, l, σ, τ, zrho)) Q := by
    intro n
    induction n with
    | zero =>
      intro c hcn
      have hcn : c = c0 := by omega
      subst hcn
      refine zv77_2 ?_
      rw [hf, nI_clamp (by omega), nI_clamp (by omega), nI_leI (by omega) (by omega), nI_eq (by omega) (by omega), upd_s rfl, nI_1]
      have v1 : vp_in (nI c) 35 := vp_in_nI (by omega) (by decide)
      have v2 : vp_in (nI q) 35 := vp_in_nI (by omega) (by decide)
      refine ⟨fun w => ⟨fun w2 => absurd (show c = f by omega) w2, fun w2 => ⟨v1, v1, v1, v1, v1, v2, hq1 (by omega)⟩⟩, fun w => ⟨v1, fun _ => ⟨fun w2 => ⟨v1, v1, v2, hq2 (by omega)⟩, fun w2 => absurd (show ¬ c = f by omega) w2⟩, fun w2 => absurd (hca (by omega)) w2⟩⟩
    | succ n ih =>
      intro c hcn
      refine zv77_2 ?_
      rw [hf, nI_clamp (by omega), nI_leI (by omega) (by omega)]
      refine ⟨fun w => absurd w (by omega), fun w => ⟨vp_in_nI (by omega) (by decide), fun w2 => absurd w2 (hne c (by omega)), fun _ => ?_⟩⟩
      rw [nI_1]
      exact ih (c + 1) (by omega)
  exact zv77_0 (key c0 0 (by omega))
/-- how the quotient stands when the first q sums have been seen -/
def CQe (e W : Nat → Nat → Bool) (s q : Nat) (s24 s25 s29 s30 s31 : Nat → Int32) : Prop :=
  s24 0 = nI (cn e (rkS s q)) ∧ (∀ p, p < q → s29 p = if inS s p = true then nI (cl e (rkS s p)) else -1) ∧ (∀ c, c < cn e (rkS s q) → s25 c = nI (nin e c (rkS s q))) ∧ ∀ j, j < rkS s q → ll e j j = none → s31 (cn e j) = nI (cbN W s (ixd s j)) ∧ s30 (cn e j) = nI (ixd s j)
def CQi (W : Nat → Nat → Bool) (s q : Nat) (s24 s25 s29 s30 s31 : Nat → Int32) : Prop := CQe (eqF (fun k t => W (ixd s k) (ixd s t)) (tS s)) W s q s24 s25 s29 s30 s31
theorem rk_mono (s : Nat) {p : Nat} : ∀ q, p ≤ q → rkS s p ≤ rkS s q := by
  intro q
  induction q with
  | zero => intro h; rw [show p = 0 by omega]; exact Nat.le_refl _
  | succ q ih =>
    intro h
    by_cases c : p = q + 1
    · rw [c]; exact Nat.le_refl _
    · have := ih (by omega)
      rw [rk_S]
      omega
theorem cb_eq {W : Nat → Nat → Bool} {s j k : Nat} (h1 : 1 ≤ s) (h3 : s ≤ 3) : cbN W s (ixd s j) = cbN W s (ixd s k) ↔ eqF (fun k t => W (ixd s k) (ixd s t)) (tS s) j k = true := by
  unfold cbN
  rw [fbN_eq, eqF_iff]
  have hn := ix_n s (by omega) h1
  constructor
  · intro h t ht
    have hx := ix_sp s (by omega) h1 t (by omega)
    have := h (ixd s t) (hx.2.2.2.1 ht)
    rw [hx.2.1] at this
    exact this
  · intro h t ht
    cases hi : inS s t with
    | false => rfl
    | true =>
      have hr := ix_rk s (by omega) h1 t (by omega) hi
      have hx := ix_sp s (by omega) h1 (rkS s t) hr.1
      have := h (rkS s t) (hx.2.2.2.2 (by rw [hr.2]; exact ht))
      rw [hr.2] at this
      exact this
def zfQ (σ σ' : Nat → Nat → Int32) : Prop := ∀ b, b ≠ 19 → b ≠ 22 → b ≠ 24 → b ≠ 25 → b ≠ 29 → b ≠ 30 → b ≠ 31 → σ' b = σ b
theorem zfQ.trans {a b c : Nat → Nat → Int32} (h1 : zfQ a b) (h2 : zfQ b c) : zfQ a c := fun q w1 w2 w3 w4 w5 w6 w7 => (h2 q w1 w2 w3 w4 w5 w6 w7).trans (h1 q w1 w2 w3 w4 w5 w6 w7)
theorem zfQ_row (σ : Nat → Nat → Int32) (a : Nat) (s : Nat → Int32) (ha : a = 19 ∨ a = 22 ∨ a = 24 ∨ a = 25 ∨ a = 29 ∨ a = 30 ∨ a = 31) : zfQ σ (zrow σ a s) := fun q w1 w2 w3 w4 w5 w6 w7 => zrow_ne _ _ (by omega)
theorem sp70 {d x l : Nat} {σ : Nat → Nat → Int32} {τ : Nat → Nat → Int64} {Q : zR → Prop} {u : zRu} {s : Nat} {W : Nat → Nat → Bool} (hu : zRok u) (hW : ∀ q t, W q t = true ↔ Wn u (cq q t)) (h1 : 1 ≤ s) (h3 : s ≤ 3) (hS : QS (σ 26) (σ 27) (σ 28)) (h18 : P18 (σ 18)) (hot : OT u (σ 20) (σ 21)) (hme : Memo u (σ 19))
    (hq : ∀ σ', zfQ σ σ' → Memo u (σ' 19) → CQi W s 35 (σ' 24) (σ' 25) (σ' 29) (σ' 30) (σ' 31) → Q (.inl none, (49, x, l, σ', τ, zrho))) :
    zRn (d + 78) 70 (0, [.ref 24, .int (nI s), .ref 17, zJ], [], (49, x, l, σ, τ, zrho)) Q := by
  have hn := ix_n s (by omega) h1
  have hev := eqF_eqv (fun k t => W (ixd s k) (ixd s t)) (tS s)
  generalize he : eqF (fun k t => W (ixd s k) (ixd s t)) (tS s) = e at hev
  have cbe : ∀ j k, cbN W s (ixd s j) = cbN W s (ixd s k) ↔ e j k = true := fun j k => by rw [← he]; exact cb_eq h1 h3
  have cblt : ∀ q, cbN W s q < 1024 := fun q => fbN_lt _ 10
  have key : ∀ n q σ', q + n = 35 → zfQ σ σ' → Memo u (σ' 19) → CQi W s q (σ' 24) (σ' 25) (σ' 29) (σ' 30) (σ' 31) → zRn (d + 78) 70 (7, [.ref 24, .int (nI s), .ref 17, .int (nI q)], [], (49, x, l, σ', τ, zrho)) Q := by
    intro n
    induction n with
    | zero =>
      intro q σ' hqn hz hm hi
      have hqn : q = 35 := by omega
      subst hqn
      exact zv70_7 ⟨fun _ => hq σ' hz hm hi, fun c => absurd (by decide) c⟩
    | succ n ih =>
      intro q σ' hqn hz hm hi
      unfold CQi at hi
      rw [he] at hi
      obtain ⟨i1, i2, i3, i4⟩ := hi
      refine zv70_7 ⟨fun c => ?_, fun _ => ⟨vp_in_nI (by omega) (by decide), ?_⟩⟩
      · simp (disch := omega) only [zlit, nI_leI, nI_ltI, nI_eq, nI_clamp, nI_add, pk_mul, pk_sub, pk_div] at c; omega
      · rw [nI_clamp (by omega), zup_row]
        have hS' : QS (σ' 26) (σ' 27) (σ' 28) := by
          rw [hz 26 (by decide) (by decide) (by decide) (by decide) (by decide) (by decide) (by decide), hz 27 (by decide) (by decide) (by decide) (by decide) (by decide) (by decide) (by decide), hz 28 (by decide) (by decide) (by decide) (by decide) (by decide) (by decide) (by decide)]
          exact hS
        have h18' : P18 (σ' 18) := by rw [hz 18 (by decide) (by decide) (by decide) (by decide) (by decide) (by decide) (by decide)]; exact h18
        have hot' : OT u (σ' 20) (σ' 21) := by
          rw [hz 20 (by decide) (by decide) (by decide) (by decide) (by decide) (by decide) (by decide), hz 21 (by decide) (by decide) (by decide) (by decide) (by decide) (by decide) (by decide)]
          exact hot
        refine sp75 (by omega) h3 hS' (zv70_26 ⟨fun c => ?_, fun c => ?_⟩)
        · rw [bI_0] at c
          refine zv70_41 ?_
          rw [nI_1]
          refine ih (q + 1) _ (by omega) (hz.trans (zfQ_row _ _ _ (by omega))) hm ?_
          unfold CQi
          rw [he]
          unfold CQe
          have er : rkS s (q + 1) = rkS s q := by rw [rk_S, if_neg (by rw [c]; decide), Nat.add_zero]
          rw [er]
          refine ⟨i1, fun p hp => ?_, i3, i4⟩
          by_cases w : p = q
          · rw [w, zrow_me, upd_s rfl, if_neg (by rw [c]; decide)]
          · rw [zrow_me, pk_un w]
            exact i2 p (by omega)
        · rw [bI_0] at c
          have c : inS s q = true := by simpa using c
          have hr := ix_rk s (by omega) h1 q (by omega) c
          have er : rkS s (q + 1) = rkS s q + 1 := by rw [rk_S, if_pos c]
          refine sp76 (d := d) (q := q) (s := s) hu hW (by omega) h3 hS' h18' hot' hm (fun a b ha => zv70_38 ?_)
          generalize hk : rkS s q = k at i1 i3 i4 er hr
          have hcnk := cn_le e k
          have hlk := ll_sp e k k
          have hclt := cl_lt hev k
          have hsurj := cn_surj e k
          have hcu := cn_up e k
          refine sp77 (q := q) (c0 := cl e k) (f := cn e k) (by omega) i1 (by omega) ?_ (fun c1 hc1 => ?_) (fun hc1 => ?_) (fun hc1 => zv70_41 ?_) (fun hc1 => zv70_41 ?_)
          · cases hl : ll e k k with
            | none => rw [cl_n hl]; exact Nat.le_refl _
            | some j => rw [cl_s hl]; exact cn_mono e k (by have := (hlk.1 j hl).1; omega)
          · have hc2 : c1 < cn e k := by
              cases hl : ll e k k with
              | none => rw [cl_n hl] at hc1; exact hc1
              | some j =>
                rw [cl_s hl] at hc1
                have := cn_mono e (j := j) k (by have := (hlk.1 j hl).1; omega)
                omega
            obtain ⟨j', j1, j2, j3⟩ := hsurj c1 hc2
            have h31 := (i4 j' j1 j2).1
            rw [j3] at h31
            intro heq
            have heq : σ' 31 c1 = nI (cbN W s q) := heq
            rw [h31, nI_eq (by have := cblt (ixd s j'); omega) (by have := cblt q; omega), ← hr.2, cbe] at heq
            cases hl : ll e k k with
            | none =>
              rw [hlk.2 hl j' j1] at heq
              cases heq
            | some j =>
              have hj := hlk.1 j hl
              rw [cl_s hl] at hc1
              have : j' < j := by
                apply Classical.byContradiction
                intro w
                have := cn_mono e (j := j) j' (by omega)
                omega
              rw [hj.2.2 j' this] at heq
              cases heq
          · cases hl : ll e k k with
            | none => rw [cl_n hl] at hc1; omega
            | some j =>
              have hj := hlk.1 j hl
              have h31 := (i4 j hj.1 (ll_first hev hl)).1
              rw [cl_s hl]
              show σ' 31 (cn e j) = nI (cbN W s q)
              rw [h31, ← hr.2, (cbe j k).2 hj.2.1]
          · have hl : ll e k k = none := by
              cases hl : ll e k k with
              | none => rfl
              | some j =>
                rw [cl_s hl] at hc1
                have := cn_lt (ll_first hev hl) (hlk.1 j hl).1
                omega
            simp only [zup_row]
            rw [nI_1]
            refine ih (q + 1) _ (by omega) (((((((hz.trans (zfQ_row _ _ _ (by omega))).trans (zfQ_row _ _ _ (by omega))).trans (zfQ_row _ _ _ (by omega))).trans (zfQ_row _ _ _ (by omega))).trans (zfQ_row _ _ _ (by omega))).trans (zfQ_row _ _ _ (by omega))).trans ((zfQ_row _ _ _ (by omega)).trans ((zfQ_row _ _ _ (by omega)).trans (zfQ_row _ _ _ (by omega))))) ha ?_
            unfold CQi
            rw [he]
            unfold CQe
            rw [er, cn_n hl]
            refine ⟨?_, fun p hp => ?_, fun c1 hc1 => ?_, fun j hj hjl => ?_⟩
            · show upd (σ' 24) 0 (nI (cn e k + 1)) 0 = _
              exact upd_s rfl
            · show upd (upd (σ' 29) q (-1)) q (nI (cl e k)) p = _
              by_cases w : p = q
              · rw [w, upd_s rfl, if_pos c, hk]
              · rw [pk_un w, pk_un w]
                exact i2 p (by omega)
            · show upd (upd (σ' 25) (cl e k) 0) (cl e k) 1 c1 = nI (nin e c1 k + if cl e k = c1 then 1 else 0)
              by_cases w : c1 = cl e k
              · rw [upd_s w, if_pos w.symm, w, cl_n hl, nin_0 hev k]
                rfl
              · rw [pk_un w, pk_un w, if_neg (fun q => w q.symm)]
                exact i3 c1 (by rw [cl_n hl] at w; omega)
            · show upd (σ' 31) (cl e k) (nI (cbN W s q)) (cn e j) = _ ∧ upd (σ' 30) (cl e k) (nI q) (cn e j) = _
              by_cases w : j = k
              · rw [w, cl_n hl, upd_s rfl, upd_s rfl, hr.2]
                exact ⟨rfl, rfl⟩
              · have := cn_lt hjl (show j < k by omega)
                rw [pk_un (by rw [cl_n hl]; omega), pk_un (by rw [cl_n hl]; omega)]
                exact i4 j (by omega) hjl
          · obtain ⟨j0, hl⟩ : ∃ j, ll e k k = some j := by
              cases hl : ll e k k with
              | none => rw [cl_n hl] at hc1; omega
              | some j => exact ⟨j, rfl⟩
            simp only [zup_row]
            rw [nI_1]
            refine ih (q + 1) _ (by omega) ((((hz.trans (zfQ_row _ _ _ (by omega))).trans (zfQ_row _ _ _ (by omega))).trans (zfQ_row _ _ _ (by omega))).trans ((zfQ_row _ _ _ (by omega)).trans (zfQ_row _ _ _ (by omega)))) ha ?_
            unfold CQi
            rw [he]
            unfold CQe
            rw [er, cn_s hl]
            refine ⟨i1, fun p hp => ?_, fun c1 hc2 => ?_, fun j hj hjl => ?_⟩
            · show upd (upd (σ' 29) q (-1)) q (nI (cl e k)) p = _
              by_cases w : p = q
              · rw [w, upd_s rfl, if_pos c, hk]
              · rw [pk_un w, pk_un w]
                exact i2 p (by omega)
            · show upd (σ' 25) (cl e k) (σ' 25 (cl e k) + 1) c1 = nI (nin e c1 k + if cl e k = c1 then 1 else 0)
              by_cases w : c1 = cl e k
              · rw [upd_s w, if_pos w.symm, ← w, i3 c1 hc2, nI_1]
              · rw [pk_un w, if_neg (fun q => w q.symm)]
                exact i3 c1 hc2
            · have hjk : j < k := by
                apply Classical.byContradiction
                intro w
                rw [show j = k by omega, hl] at hjl
                cases hjl
              exact i4 j hjk hjl
  refine zv70_0 ?_
  rw [zup_row]
  refine key 35 0 _ (by omega) (zfQ_row _ _ _ (by omega)) hme ?_
  refine ⟨?_, fun p hp => absurd hp (by omega), fun c hc => absurd hc (Nat.not_lt_zero _), fun j hj => absurd hj (Nat.not_lt_zero _)⟩
  rw [zrow_me, upd_s rfl]
  rfl
