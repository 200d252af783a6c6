/-! the reference: periods -/
theorem pp_one {u : zRu} {e : Nat} (h0 : kd u ≠ 0) (h1 : rch u = 0) : pp u e 1 = some 0 := by
  have hb : bnd u 1 0 = 0 := by unfold bnd; rw [if_neg h0, h1]
  show (if e + 1 < bnd u 1 0 + 1 then none else if bnd u 1 0 ≤ 0 then some 0 else _) = some 0
  rw [hb, if_neg (by omega), if_pos (by omega)]
theorem pp_end {u : zRu} {e : Nat} (h : kd u = 0 ∨ 1 ≤ rch u) : pp u e (e + 1) = none := by
  have hb : 1 ≤ bnd u (e + 1) 0 := by
    unfold bnd
    split <;> omega
  show (if e + 1 < bnd u (e + 1) 0 + (e + 1) then none else _) = none
  rw [if_pos (by omega)]
theorem ppF_le {u : zRu} {e p : Nat} : ∀ k n m r, ppF u e p k n m = some r → n ≤ m → m + k ≤ e + 1 → r ≤ e + 1 := by
  intro k
  induction k with
  | zero => intro n m r hr; cases hr
  | succ k ih2 =>
    intro n m r hr hnm hmk
    have e9 : ppF u e p (k + 1) n m = if e + 1 < bnd u p n + p then none else if bnd u p n ≤ m then some n else if gn u m = gn u (m + p) then ppF u e p k n (m + 1) else ppF u e p k (m + 1) (m + 1) := rfl
    rw [e9] at hr
    split at hr
    · cases hr
    · split at hr
      · cases hr; omega
      · split at hr
        · exact ih2 _ _ _ hr (by omega) (by omega)
        · exact ih2 _ _ _ hr (by omega) (by omega)
theorem sp136 {d x l : Nat} {σ : Nat → Nat → Int32} {τ : Nat → Nat → Int64} {Q : zR → Prop} {u : zRu} {e st p : Nat} (hu : zRok u) (h1 : kd u ≤ 1) (hr : RR u (σ 32) (σ 33) (σ 34) (σ 35)) (hn : RN u e st (σ 32) (σ 36) (σ 37)) (hp1 : 1 ≤ p) (hp : p ≤ e ∨ p = 1) (hk : p = 1 ∨ kd u = 0 ∨ 1 ≤ rch u)
    (hq : Q (.inl (some (.int (pI (pp u e p)))), (49, x, l, σ, τ, zrho))) :
    zRn d 136 (0, [.ref 32, .int (nI p), .int (nI (rch u)), zJ, zJ, zJ, zJ], [], (49, x, l, σ, τ, zrho)) Q := by
  obtain ⟨n1, n2, n3, n4, n5⟩ := hn
  have hrl := rch_le u
  have hbl : ∀ n, n ≤ e → n ≤ bnd u p n ∧ bnd u p n ≤ 10000 := by
    intro n hn
    unfold bnd
    split <;> omega
  have k56 : ∀ k n m, (∀ n', n < n' → n' ≤ e → pI (ppF u e p (e + 1 - n') n' n') = pI (pp u e p) → zRn d 136 (5, [.ref 32, .int (nI p), .int (nI (rch u)), .int (nI n'), .int 0, zJ, zJ], [], (49, x, l, σ, τ, zrho)) Q) →
      m + k = e + 1 → n ≤ m → n ≤ e → m ≤ bnd u p n → bnd u p n + p ≤ e + 1 → pI (ppF u e p k n m) = pI (pp u e p) →
      zRn d 136 (56, [.ref 32, .int (nI p), .int (nI (rch u)), .int (nI n), zJ, .int (nI (bnd u p n)), .int (nI m)], [], (49, x, l, σ, τ, zrho)) Q := by
    intro k
    induction k with
    | zero => intro n m h5 hmk hnm hne hmb hbe he; omega
    | succ k ih =>
      intro n m h5 hmk hnm hne hmb hbe he
      have hb := hbl n hne
      have e0 : ppF u e p (k + 1) n m = if e + 1 < bnd u p n + p then none else if bnd u p n ≤ m then some n else if gn u m = gn u (m + p) then ppF u e p k n (m + 1) else ppF u e p k (m + 1) (m + 1) := rfl
      rw [e0, if_neg (by omega)] at he
      refine zv136_56 ⟨fun c => ⟨fun c2 => ?_, fun c2 => ⟨fun c3 => absurd c3 (by decide), fun _ => ?_⟩⟩, fun c => ?_⟩
      · simp (disch := omega) only [nI_leI, nI_eq] at c c2
        omega
      · simp (disch := omega) only [nI_leI] at c
        rw [if_pos c] at he
        refine zv136_5 ⟨fun _ => ?_, fun c4 => absurd (by decide) c4⟩
        rw [← he] at hq
        exact hq
      · simp (disch := omega) only [nI_leI] at c
        rw [if_neg c] at he
        have g1 := gn_le hu (show m ≤ 2000 by omega)
        have g2 := gn_le hu (show m + p ≤ 2000 by omega)
        rw [nI_add, nI_clamp (by omega), nI_clamp (by omega), n3 _ (by omega), n3 _ (by omega), nI_1]
        refine ⟨vp_in_nI (by omega) (by decide), vp_in_nI (by omega) (by decide), fun c2 => ⟨fun _ => ⟨fun _ => ?_, fun c3 => absurd rfl c3⟩, fun c3 => ?_⟩, fun c2 => ?_⟩
        · simp (disch := omega) only [nI_eq] at c2
          rw [if_neg c2] at he
          refine h5 (m + 1) (by omega) (by omega) ?_
          rw [show e + 1 - (m + 1) = k by omega]; exact he
        · simp (disch := omega) only [nI_eq] at c3
          omega
        · simp (disch := omega) only [nI_eq] at c2
          rw [if_pos (by omega)] at he
          exact ih n (m + 1) h5 (by omega) (by omega) hne (by omega) hbe he
  have k5 : ∀ j n, e - n ≤ j → n ≤ e → pI (ppF u e p (e + 1 - n) n n) = pI (pp u e p) → zRn d 136 (5, [.ref 32, .int (nI p), .int (nI (rch u)), .int (nI n), .int 0, zJ, zJ], [], (49, x, l, σ, τ, zrho)) Q := by
    intro j
    induction j with
    | zero =>
      intro n hj hne he
      have hb := hbl n hne
      have e0 : ppF u e p (e + 1 - n) n n = if e + 1 < bnd u p n + p then none else if bnd u p n ≤ n then some n else if gn u n = gn u (n + p) then ppF u e p (e - n) n (n + 1) else ppF u e p (e - n) (n + 1) (n + 1) := by
        rw [show e + 1 - n = (e - n) + 1 by omega]; rfl
      have fwd : bnd u p n + p ≤ e + 1 → zRn d 136 (56, [.ref 32, .int (nI p), .int (nI (rch u)), .int (nI n), zJ, .int (nI (bnd u p n)), .int (nI n)], [], (49, x, l, σ, τ, zrho)) Q := by
        intro hbe
        exact k56 (e + 1 - n) n n (fun n' a b _ => by omega) (by omega) (by omega) hne hb.1 hbe he
      have tl : ∀ B : Int32, B = nI (bnd u p n) → ((B ≤ nI n → zRn d 136 (56, [.ref 32, .int (nI p), .int (nI (rch u)), .int (nI n), zJ, .int B, .int (nI n)], [], (49, x, l, σ, τ, zrho)) Q) ∧ (¬ (B ≤ nI n) → ((B - 1 + nI p ≤ σ 32 5 → zRn d 136 (56, [.ref 32, .int (nI p), .int (nI (rch u)), .int (nI n), zJ, .int B, .int (nI n)], [], (49, x, l, σ, τ, zrho)) Q) ∧ (¬ (B - 1 + nI p ≤ σ 32 5) → Q (.inl (some (.int (-1))), (49, x, l, σ, τ, zrho)))))) := by
        intro B hB
        have eB : B - 1 + nI p = iI ((bnd u p n : Int) - 1 + p) := by
          rw [hB, nI_iI, nI_iI p, show (1 : Int32) = iI 1 from rfl, iI_sub, iI_add]
        rw [eB, hB, n1, nI_iI e, iI_leI (by omega) (by omega) (by omega) (by omega)]
        refine ⟨fun c => ?_, fun c => ⟨fun c2 => ?_, fun c2 => ?_⟩⟩
        · simp (disch := omega) only [nI_leI] at c
          refine fwd ?_
          unfold bnd at c ⊢
          split at c
          · omega
          · rw [if_neg (by assumption)]; omega
        · exact fwd (by omega)
        · rw [e0, if_pos (by omega)] at he
          rw [← he] at hq
          exact hq
      refine zv136_5 ⟨fun c => absurd rfl c, fun _ => ⟨fun c => ?_, fun c => ?_⟩⟩
      · rw [hr.1] at c
        simp (disch := omega) only [zlit, nI_leI, nI_ltI, nI_eq, nI_clamp, nI_add, pk_mul, pk_sub, pk_div] at c
        have hb2 : bnd u p n = n + rch u := by unfold bnd; rw [if_neg c]
        exact tl _ (by rw [hb2, nI_add])
      · rw [hr.1] at c
        simp (disch := omega) only [zlit, nI_leI, nI_ltI, nI_eq, nI_clamp, nI_add, pk_mul, pk_sub, pk_div] at c
        have hb2 : bnd u p n = 2 * n + p + rch u := by unfold bnd; rw [if_pos (by omega)]
        exact tl _ (by rw [hb2, show (2 : Int32) = nI 2 from rfl, pk_mul, nI_add, nI_add])
    | succ j ih =>
      intro n hj hne he
      have hb := hbl n hne
      have e0 : ppF u e p (e + 1 - n) n n = if e + 1 < bnd u p n + p then none else if bnd u p n ≤ n then some n else if gn u n = gn u (n + p) then ppF u e p (e - n) n (n + 1) else ppF u e p (e - n) (n + 1) (n + 1) := by
        rw [show e + 1 - n = (e - n) + 1 by omega]; rfl
      have fwd : bnd u p n + p ≤ e + 1 → zRn d 136 (56, [.ref 32, .int (nI p), .int (nI (rch u)), .int (nI n), zJ, .int (nI (bnd u p n)), .int (nI n)], [], (49, x, l, σ, τ, zrho)) Q := by
        intro hbe
        exact k56 (e + 1 - n) n n (fun n' a b q => ih n' (by omega) b q) (by omega) (by omega) hne hb.1 hbe he
      have tl : ∀ B : Int32, B = nI (bnd u p n) → ((B ≤ nI n → zRn d 136 (56, [.ref 32, .int (nI p), .int (nI (rch u)), .int (nI n), zJ, .int B, .int (nI n)], [], (49, x, l, σ, τ, zrho)) Q) ∧ (¬ (B ≤ nI n) → ((B - 1 + nI p ≤ σ 32 5 → zRn d 136 (56, [.ref 32, .int (nI p), .int (nI (rch u)), .int (nI n), zJ, .int B, .int (nI n)], [], (49, x, l, σ, τ, zrho)) Q) ∧ (¬ (B - 1 + nI p ≤ σ 32 5) → Q (.inl (some (.int (-1))), (49, x, l, σ, τ, zrho)))))) := by
        intro B hB
        have eB : B - 1 + nI p = iI ((bnd u p n : Int) - 1 + p) := by
          rw [hB, nI_iI, nI_iI p, show (1 : Int32) = iI 1 from rfl, iI_sub, iI_add]
        rw [eB, hB, n1, nI_iI e, iI_leI (by omega) (by omega) (by omega) (by omega)]
        refine ⟨fun c => ?_, fun c => ⟨fun c2 => ?_, fun c2 => ?_⟩⟩
        · simp (disch := omega) only [nI_leI] at c
          refine fwd ?_
          unfold bnd at c ⊢
          split at c
          · omega
          · rw [if_neg (by assumption)]; omega
        · exact fwd (by omega)
        · rw [e0, if_pos (by omega)] at he
          rw [← he] at hq
          exact hq
      refine zv136_5 ⟨fun c => absurd rfl c, fun _ => ⟨fun c => ?_, fun c => ?_⟩⟩
      · rw [hr.1] at c
        simp (disch := omega) only [zlit, nI_leI, nI_ltI, nI_eq, nI_clamp, nI_add, pk_mul, pk_sub, pk_div] at c
        have hb2 : bnd u p n = n + rch u := by unfold bnd; rw [if_neg c]
        exact tl _ (by rw [hb2, nI_add])
      · rw [hr.1] at c
        simp (disch := omega) only [zlit, nI_leI, nI_ltI, nI_eq, nI_clamp, nI_add, pk_mul, pk_sub, pk_div] at c
        have hb2 : bnd u p n = 2 * n + p + rch u := by unfold bnd; rw [if_pos (by omega)]
        exact tl _ (by rw [hb2, show (2 : Int32) = nI 2 from rfl, pk_mul, nI_add, nI_add])
  exact zv136_0 (k5 e 0 (by omega) (by omega) rfl)
theorem sp137 {d x l : Nat} {σ : Nat → Nat → Int32} {τ : Nat → Nat → Int64} {Q : zR → Prop} {u : zRu} {e st : Nat} {i : Int} (hu : zRok u) (hr : RR u (σ 32) (σ 33) (σ 34) (σ 35)) (hn : RN u e st (σ 32) (σ 36) (σ 37)) (b1 : -2147483648 ≤ i) (b2 : i < 2147483648)
    (hq1 : ∀ w : Nat, i = (w : Int) → w ≤ 1 → ∀ s, zwf7 (σ 32) s → s 0 = nI 0 → Q (.inl (some (.int (pV (perR u e) w))), (49, x, l, zrow σ 32 s, τ, zrho)))
    (hq0 : ¬ (0 ≤ i ∧ i ≤ 1) → ∀ s, zwf7 (σ 32) s → s 0 = nI 1 → Q (.inl (some (.int (0))), (49, x, l, zrow σ 32 s, τ, zrho))) :
    zRn (d + 1) 137 (0, [.ref 32, .int (iI i), zJ, zJ, zJ], [], (49, x, l, σ, τ, zrho)) Q := by
  have h4 := hu.1
  have hf : zwf7 (σ 32) (upd (σ 32) 0 0) := zwf7_0 (zwf7.refl _)
  have hrr := zwf7_RR hf hr
  have hnn : RN u e st (upd (σ 32) 0 0) (σ 36) (σ 37) := by
    obtain ⟨n1, n2, n3, n4, n5⟩ := hn
    exact ⟨n1, n2, n3, n4, n5⟩
  have he : e ≤ 2000 := hn.2.1
  refine zv137_0 ?_
  rw [zup_row]
  refine sp110 (b := 0) (c := 1) b1 b2 (by omega) (by omega) (by omega) (by omega) (fun c1 c2 => ?_) (fun c1 => ?_)
  · obtain ⟨w, hw⟩ : ∃ w : Nat, i = (w : Int) := ⟨i.toNat, by omega⟩
    have ret : ∀ v, v = pV (perR u e) w → Q (.inl (some (.int (v))), (49, x, l, zrow σ 32 (upd (σ 32) 0 0), τ, zrho)) := by
      intro v hv
      rw [hv]
      exact hq1 w hw (by omega) _ hf rfl
    refine zv137_11 ⟨fun _ => ⟨fun c3 => ?_, fun c3 => ?_⟩, fun c3 => absurd (by decide) c3⟩
    · have c3 : 1 < σ 32 1 := c3
      rw [hr.1] at c3
      simp (disch := omega) only [zlit, nI_leI, nI_ltI, nI_eq, nI_clamp, nI_add, pk_mul, pk_sub, pk_div] at c3
      refine ret _ ?_
      rw [show perR u e = none from if_pos (Or.inl c3)]; rfl
    · have c3 : ¬ 1 < σ 32 1 := c3
      rw [hr.1] at c3
      simp (disch := omega) only [zlit, nI_leI, nI_ltI, nI_eq, nI_clamp, nI_add, pk_mul, pk_sub, pk_div] at c3
      refine sp117 hu hrr (zv137_32 ⟨fun c5 => ?_, fun c5 => ?_⟩)
      · rw [bI_0] at c5
        have hR : perR u e = pf u e (e + 1) 1 := if_neg (fun q => q.elim c3 (fun q => by rw [c5] at q; cases q))
        have loop : ∀ m p, p + m = e + 2 → 1 ≤ p → (p = 1 ∨ kd u = 0 ∨ 1 ≤ rch u) → pf u e m p = perR u e → zRn (d + 1) 137 (44, [.ref 32, .int (iI i), .int (nI (rch u)), .int (nI p), zJ], [], (49, x, l, zrow σ 32 (upd (σ 32) 0 0), τ, zrho)) Q := by
          intro m
          induction m with
          | zero =>
            intro p hm hp1 hk hpf
            refine zv137_44 ⟨fun c6 => ?_, fun _ => ⟨fun _ => ret _ (by rw [← hpf]; rfl), fun c6 => ?_⟩⟩
            · have c6 : nI p ≤ σ 32 5 := c6
              rw [hn.1] at c6
              simp (disch := omega) only [zlit, nI_leI, nI_ltI, nI_eq, nI_clamp, nI_add, pk_mul, pk_sub, pk_div] at c6; omega
            · simp (disch := omega) only [zlit, nI_leI, nI_ltI, nI_eq, nI_clamp, nI_add, pk_mul, pk_sub, pk_div] at c6; omega
          | succ m ih =>
            intro p hm hp1 hk hpf
            have e0 : pf u e (m + 1) p = match pp u e p with
              | some n => some (p, n)
              | none => pf u e m (p + 1) := rfl
            have go : (p ≤ e ∨ p = 1) → zRn d 136 (0, [.ref 32, .int (nI p), .int (nI (rch u)), zJ, zJ, zJ, zJ], [], (49, x, l, zrow σ 32 (upd (σ 32) 0 0), τ, zrho)) (zret (d + 1) 137 60 63 [.ref 32, .int (iI i), .int (nI (rch u)), .int (nI p), zJ] [] Q) := by
              intro hp
              refine sp136 hu (by omega) hrr hnn hp1 hp hk (zv137_63 ?_)
              cases hpp : pp u e p with
              | none =>
                rw [hpp] at e0
                refine ⟨fun _ => ?_, fun c7 => absurd (by decide) c7⟩
                rw [nI_1]
                refine ih (p + 1) (by omega) (by omega) ?_ (by rw [← hpf, e0])
                by_cases k0 : kd u = 0
                · exact Or.inr (Or.inl k0)
                · by_cases k1 : rch u = 0
                  · exfalso
                    rcases hk with hk | hk | hk
                    · subst hk
                      rw [pp_one k0 k1] at hpp; cases hpp
                    · exact k0 hk
                    · omega
                  · exact Or.inr (Or.inr (by omega))
              | some n =>
                rw [hpp] at e0
                have hn2 := ppF_le _ _ _ _ hpp (by omega) (by omega)
                refine ⟨fun c7 => ?_, fun _ => ⟨fun c8 => ?_, fun c8 => ?_⟩⟩
                · have c7 : nI n < 0 := c7
                  simp (disch := omega) only [zlit, nI_leI, nI_ltI, nI_eq, nI_clamp, nI_add, pk_mul, pk_sub, pk_div] at c7; omega
                · rw [hw] at c8
                  rw [← nI_iI] at c8
                  simp (disch := omega) only [zlit, nI_leI, nI_ltI, nI_eq, nI_clamp, nI_add, pk_mul, pk_sub, pk_div] at c8
                  refine ret _ ?_
                  rw [← hpf, e0]
                  show nI n = if w = 0 then nI p else nI n
                  rw [if_neg c8]
                · rw [hw] at c8
                  rw [← nI_iI] at c8
                  simp (disch := omega) only [zlit, nI_leI, nI_ltI, nI_eq, nI_clamp, nI_add, pk_mul, pk_sub, pk_div] at c8
                  refine ret _ ?_
                  rw [← hpf, e0]
                  show nI p = if w = 0 then nI p else nI n
                  rw [if_pos (by omega)]
            refine zv137_44 ⟨fun c6 => ?_, fun c6 => ⟨fun c7 => ?_, fun c7 => ?_⟩⟩
            · have c6 : nI p ≤ σ 32 5 := c6
              rw [hn.1] at c6
              simp (disch := omega) only [zlit, nI_leI, nI_ltI, nI_eq, nI_clamp, nI_add, pk_mul, pk_sub, pk_div] at c6
              exact go (Or.inl c6)
            · have c6 : ¬ nI p ≤ σ 32 5 := c6
              rw [hn.1] at c6
              simp (disch := omega) only [zlit, nI_leI, nI_ltI, nI_eq, nI_clamp, nI_add, pk_mul, pk_sub, pk_div] at c6 c7
              have hp2 : p = e + 1 := by omega
              have hm0 : m = 0 := by omega
              subst hp2; subst hm0
              refine ret _ ?_
              rw [← hpf, e0, pp_end (by omega)]; rfl
            · simp (disch := omega) only [zlit, nI_leI, nI_ltI, nI_eq, nI_clamp, nI_add, pk_mul, pk_sub, pk_div] at c7
              exact go (Or.inr (by omega))
        refine sp135 hu hrr (by omega) (zv137_41 ?_)
        exact loop (e + 1) 1 (by omega) (by omega) (Or.inl rfl) hR.symm
      · rw [bI_0] at c5
        refine ret _ ?_
        rw [show perR u e = none from if_pos (Or.inr (by simpa using c5))]; rfl
  · refine zv137_11 ⟨fun c3 => absurd rfl c3, fun _ => zv109_0 (zv137_19 ?_)⟩
    rw [zup_row, zrow_row]
    exact hq0 c1 _ (zwf7_0 hf) rfl
