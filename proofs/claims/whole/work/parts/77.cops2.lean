/-! the class's calls: play -/
theorem rt_xo {u : zRu} {o : zO} (h1 : o.1 ≤ o.2.1) (h2 : o.2.1 ≤ o.2.2) : gn u (rt o 0) ^^^ gn u (rt o 1) ^^^ gn u (rt o 2) = xo (gn u) o := by
  obtain ⟨a, b, c⟩ := o
  dsimp only at h1 h2
  show _ = gn u a ^^^ gn u b ^^^ gn u c
  by_cases ha : 0 < a
  · have := rt3 (a := a) (b := b) (c := c) ha (by omega) (by omega)
    rw [this.1, this.2.1, this.2.2]
  · have ha : a = 0 := by omega
    subst ha
    by_cases hb : 0 < b
    · have := rt2 (b := b) (c := c) hb (by omega)
      rw [this.1, this.2.1, this.2.2, gn_0, Nat.xor_zero, Nat.zero_xor]
    · have hb : b = 0 := by omega
      subst hb
      have := rt1 (c := c)
      rw [this.1, this.2.1, this.2.2, gn_0, Nat.xor_zero, Nat.xor_zero, Nat.zero_xor, Nat.zero_xor]
theorem fm_pos {u : zRu} {hp : Nat → Nat} {k : Nat} {o : zO} (ho : o ∈ opts u (hp k)) : 0 < hp k := by
  apply Classical.byContradiction
  intro h
  rw [show hp k = 0 by omega, opts_0] at ho
  cases ho
theorem sp15 {d x l : Nat} {σ : Nat → Nat → Int32} {τ : Nat → Nat → Int64} {Q : zR → Prop} {u : zRu} {e kn pl s : Nat} {H : Nat → Nat → Nat} {i : Int} (hu : zRok u) (hI : CI u e kn pl s H σ τ) (hx : x < 600) (hpl : pl < 512) (b1 : -2147483648 ≤ i) (b2 : i < 2147483648)
    (hq1 : (∀ k, k < 16 → H pl k ≤ far u) → ∀ (m k : Nat) o, i = (m : Int) → fm u (H pl) 16 0 m = some (k, o) → room (H pl) (rt o 1) (rt o 2) → ∀ σ', FC σ σ' → CI u e kn (pl + 1) s (fun j => if j = pl + 1 then nh (H pl) k (rt o 0) (rt o 1) (rt o 2) else H j) σ' τ → Q (.inl (some (.int (nI (pl + 1)))), (49, x, l, σ', τ, zrho)))
    (hq3 : (∀ k, k < 16 → H pl k ≤ far u) → ∀ (m k : Nat) o, i = (m : Int) → fm u (H pl) 16 0 m = some (k, o) → ¬ room (H pl) (rt o 1) (rt o 2) → ∀ t, Q (.inr 1, (49, x + 1, l, zrow σ 5 t, τ, zrho)))
    (hq2 : (∀ k, k < 16 → H pl k ≤ far u) → (i < 0 ∨ ∃ m : Nat, i = (m : Int) ∧ fm u (H pl) 16 0 m = none) → ∀ t, Q (.inr 2, (49, x + 1, l, zrow σ 5 t, τ, zrho)))
    (hq0 : ¬ (∀ k, k < 16 → H pl k ≤ far u) → Q (.inr 3, (49, x + 1, l, σ, τ, zrho))) :
    zRn (d + 7) 15 (0, [.ref 0, .int (iI i)], [], (49, x, l, σ, τ, zrho)) Q := by
  have hb := cs_b hI.2.2.2.1
  refine zv15_0 (sp30 (d := d) hu hI.1 hI.2.2.2.1.2.1 hb hx b1 b2 (fun hf m k o t hm hfm hk ho hc => zv15_5 ?_) hq2 hq0)
  have hob := opt_bd hu ho
  have hbk := hb k hk
  have hbd : o.1 ≤ 2000 ∧ o.2.1 ≤ 2000 ∧ o.2.2 ≤ 2000 := by omega
  have r0 := rt_le (w := 0) hbd.1 hbd.2.1 hbd.2.2
  have r1 := rt_le (w := 1) hbd.1 hbd.2.1 hbd.2.2
  have r2 := rt_le (w := 2) hbd.1 hbd.2.1 hbd.2.2
  obtain ⟨i1, i2, i3, i4, i5, i6, i7⟩ := hI
  refine sp103 (d := d + 5) (H := H) (pl := pl) (P := k) (a := rt o 0) (b := rt o 1) (c := rt o 2) i4 hpl hk (fm_pos ho) r0 r1 r2 (rt_pos (by omega) (by omega)) hc.1 hc.2.1 hc.2.2.1 hc.2.2.2 (fun g1 g2 σ' f hs => zv15_16 ⟨fun _ => ?_, fun q => absurd (by decide) q⟩) (fun g => zv15_16 ⟨fun q => absurd rfl q, fun _ => ⟨hx, hq3 hf m k o hm hfm g t⟩⟩)
  rw [hs.1]
  refine hq1 hf m k o hm hfm ⟨g1, g2⟩ σ' (fun b hb => ?_) ?_
  · rw [f b (by omega)]
    exact zrow_ne _ _ (by omega)
  · have g : ∀ b, (b < 11 ∨ 16 < b) → b ≠ 5 → σ' b = σ b := fun b h1 h2 => by rw [f b h1, zrow_ne _ _ h2]
    unfold CI CQc
    rw [g 1 (by omega) (by decide), g 2 (by omega) (by decide), g 3 (by omega) (by decide), g 6 (by omega) (by decide), g 7 (by omega) (by decide), g 17 (by omega) (by decide), g 18 (by omega) (by decide), g 19 (by omega) (by decide), g 20 (by omega) (by decide), g 21 (by omega) (by decide), g 24 (by omega) (by decide), g 25 (by omega) (by decide), g 26 (by omega) (by decide), g 27 (by omega) (by decide), g 28 (by omega) (by decide), g 29 (by omega) (by decide), g 30 (by omega) (by decide), g 31 (by omega) (by decide)]
    exact ⟨i1, i2, i3, hs, i5, i6, i7⟩
theorem sp16 {d x l : Nat} {σ : Nat → Nat → Int32} {τ : Nat → Nat → Int64} {Q : zR → Prop} {u : zRu} {e kn pl s : Nat} {H : Nat → Nat → Nat} {i : Int} (hu : zRok u) (hI : CI u e kn pl s H σ τ) (hx : x < 600) (b1 : -2147483648 ≤ i) (b2 : i < 2147483648)
    (hq1 : (∀ k, k < 16 → H pl k ≤ far u) → (∀ k, k < 16 → H pl k ≤ e) → ∀ (m k : Nat) o t, i = (m : Int) → fm u (H pl) 16 0 m = some (k, o) → Q (.inl (some (.int (bI (winB u (H pl) k o)))), (49, x, l, zrow σ 5 t, τ, zrho)))
    (hq3 : (∀ k, k < 16 → H pl k ≤ far u) → ¬ (∀ k, k < 16 → H pl k ≤ e) → ∀ (m k : Nat) o t, i = (m : Int) → fm u (H pl) 16 0 m = some (k, o) → Q (.inr 1, (49, x + 1, l, zrow σ 5 t, τ, zrho)))
    (hq2 : (∀ k, k < 16 → H pl k ≤ far u) → (i < 0 ∨ ∃ m : Nat, i = (m : Int) ∧ fm u (H pl) 16 0 m = none) → ∀ t, Q (.inr 2, (49, x + 1, l, zrow σ 5 t, τ, zrho)))
    (hq0 : ¬ (∀ k, k < 16 → H pl k ≤ far u) → Q (.inr 3, (49, x + 1, l, σ, τ, zrho))) :
    zRn (d + 7) 16 (0, [.ref 0, .int (iI i), zJ, zJ], [], (49, x, l, σ, τ, zrho)) Q := by
  have hb := cs_b hI.2.2.2.1
  refine zv16_0 (sp30 (d := d) hu hI.1 hI.2.2.2.1.2.1 hb hx b1 b2 (fun hf m k o t hm hfm hk ho hc => zv16_5 ?_) hq2 hq0)
  have hob := opt_bd hu ho
  obtain ⟨i1, ⟨n1, n2, n3, n4, n5, n6, n7⟩, i3, i4, i5, i6, i7⟩ := hI
  refine sp32 (d := d + 4) (u := u) (e := e) (kn := kn) (hp := H pl) ⟨n1, n2, n3, n4, n5, n6, n7⟩ i4.2.1 hb hx (fun he => zv16_9 ?_) (fun he => hq3 hf he m k o t hm hfm)
  have hek := he k hk
  have hbk := hb k hk
  have hbd : o.1 ≤ e ∧ o.2.1 ≤ e ∧ o.2.2 ≤ e := by omega
  have r0 := rt_le (w := 0) hbd.1 hbd.2.1 hbd.2.2
  have r1 := rt_le (w := 1) hbd.1 hbd.2.1 hbd.2.2
  have r2 := rt_le (w := 2) hbd.1 hbd.2.1 hbd.2.2
  have e0 : (zrow σ 5 t) 5 0 = nI k := hc.1
  have e1 : (zrow σ 5 t) 5 1 = nI (rt o 0) := hc.2.1
  have e2 : (zrow σ 5 t) 5 2 = nI (rt o 1) := hc.2.2.1
  have e3 : (zrow σ 5 t) 5 3 = nI (rt o 2) := hc.2.2.2
  have e12 : (zrow σ 5 t) 12 k = nI (H pl k) := i4.2.1 k hk
  have e7 : ∀ j, j ≤ e → (zrow σ 5 t) 7 j = nI (gn u j) := fun j hj => n5 j (by omega)
  rw [e0, nI_clamp (by omega), e12, nI_clamp (by omega), e7 _ hek, z_xor]
  refine ⟨vp_in_nI (by omega) (by decide), vp_in_nI (by omega) (by decide), zv51_0 ?_⟩
  rw [e1, e2, e3, nI_clamp (by omega), nI_clamp (by omega), nI_clamp (by omega), e7 _ r0, e7 _ r1, e7 _ r2, z_xor, z_xor, rt_xo (by omega) (by omega)]
  refine ⟨vp_in_nI (by omega) (by decide), vp_in_nI (by omega) (by decide), vp_in_nI (by omega) (by decide), zv16_48 ?_⟩
  rw [z_xor]
  have hxs := xsx_sum (u := u) (hp := H pl) (P := k) 16
  rw [if_pos hk] at hxs
  rw [hxs, Nat.xor_assoc (xsx u (H pl) k 16), Nat.xor_self, Nat.xor_zero]
  have l1 := xsx_lt hu (hp := H pl) (P := k) 16 hb
  have l2 := xo_lt hu (o := o) (by omega) (by omega) (by omega)
  have l3 := xor_lt l1 l2
  have fin := hq1 hf he m k o t hm hfm
  unfold winB at fin
  rw [nI_q0 (by omega)]
  refine ⟨fun q => ?_, fun q => ?_⟩
  · rw [show (xsx u (H pl) k 16 ^^^ xo (gn u) o == 0) = false from by rw [beq_eq_false_iff_ne]; exact q] at fin
    exact fin
  · rw [show (xsx u (H pl) k 16 ^^^ xo (gn u) o == 0) = true from by rw [beq_iff_eq]; exact Classical.not_not.1 q] at fin
    exact fin
theorem sp17 {d x l : Nat} {σ : Nat → Nat → Int32} {τ : Nat → Nat → Int64} {Q : zR → Prop} {u : zRu} {e kn pl s : Nat} {H : Nat → Nat → Nat} (hI : CI u e kn pl s H σ τ) (hx : x < 600) (hpl : pl < 512)
    (hq1 : ∀ p, pl = p + 1 → ∀ σ', FC σ σ' → CI u e kn p s H σ' τ → Q (.inl (some (.int (nI p))), (49, x, l, σ', τ, zrho))) (hq0 : pl = 0 → Q (.inr 1, (49, x + 1, l, σ, τ, zrho))) :
    zRn (d + 2) 17 (0, [.ref 0], [], (49, x, l, σ, τ, zrho)) Q := by
  obtain ⟨i1, i2, i3, i4, i5, i6, i7⟩ := hI
  refine zv17_0 ?_
  rw [i4.1, nI_q0 (by omega)]
  refine ⟨fun c => ?_, fun c => ⟨hx, hq0 (Classical.not_not.1 c)⟩⟩
  obtain ⟨p, hp⟩ : ∃ p, pl = p + 1 := ⟨pl - 1, by omega⟩
  rw [hp] at i4
  refine sp104 (d := d) (H := H) (pl := p) i4 (by omega) (fun σ' f hs => zv17_27 ?_)
  rw [hs.1]
  refine hq1 p hp σ' (fun b hb => f b (by omega)) ?_
  unfold CI CQc
  rw [f 1 (by omega), f 2 (by omega), f 3 (by omega), f 6 (by omega), f 7 (by omega), f 17 (by omega), f 18 (by omega), f 19 (by omega), f 20 (by omega), f 21 (by omega), f 24 (by omega), f 25 (by omega), f 26 (by omega), f 27 (by omega), f 28 (by omega), f 29 (by omega), f 30 (by omega), f 31 (by omega)]
  exact ⟨i1, i2, i3, hs, i5, i6, i7⟩
theorem sp18 {d x l : Nat} {σ : Nat → Nat → Int32} {τ : Nat → Nat → Int64} {Q : zR → Prop} {u : zRu} {e kn pl s : Nat} {H : Nat → Nat → Nat} (hI : CI u e kn pl s H σ τ) (hx : x < 600)
    (hq1 : (∀ k, k < 16 → H pl k ≤ e) → Q (.inl (some (.int (nI (xsum u (H pl) 16)))), (49, x, l, σ, τ, zrho))) (hq0 : ¬ (∀ k, k < 16 → H pl k ≤ e) → Q (.inr 1, (49, x + 1, l, σ, τ, zrho))) :
    zRn (d + 3) 18 (0, [.ref 0], [], (49, x, l, σ, τ, zrho)) Q := by
  refine zv18_0 (sp32 (d := d) hI.2.1 hI.2.2.2.1.2.1 (cs_b hI.2.2.2.1) hx (fun h => zv18_4 (hq1 h)) hq0)
/-- what count answers -/
def cnV (u : zRu) (e pl s : Nat) (hp : Nat → Nat) (k : Int32) (i : Int) : Int32 := if i = 0 then nI e else if i = 1 then nI (mx (gn u) (e + 1)) else if i = 2 then nI (nz hp 16) else if i = 3 then nI pl else if i = 4 then k else -1
theorem sp23 {d x l : Nat} {σ : Nat → Nat → Int32} {τ : Nat → Nat → Int64} {Q : zR → Prop} {u : zRu} {e kn pl s : Nat} {H : Nat → Nat → Nat} {i : Int} (hI : CI u e kn pl s H σ τ) (b1 : -2147483648 ≤ i) (b2 : i < 2147483648)
    (hq : Q (.inl (some (.int (cnV u e pl s (H pl) (σ 24 0) i))), (49, x, l, σ, τ, zrho))) :
    zRn (d + 1) 23 (0, [.ref 0, .int (iI i)], [], (49, x, l, σ, τ, zrho)) Q := by
  obtain ⟨i1, ⟨n1, n2, n3, n4, n5, n6, n7⟩, i3, i4, i5, i6, i7⟩ := hI
  have hb := cs_b i4
  unfold cnV at hq
  refine zv23_0 ?_
  rw [show (iI i).toInt = i from Int32.toInt_ofInt_of_le (by omega) (by omega)]
  refine ⟨fun c => ?_, fun c => ?_, fun c => ?_, fun c => ?_, fun c => ?_, fun c => ?_⟩
  · rw [if_neg (by omega), if_neg (by omega), if_neg (by omega), if_neg (by omega), if_neg (by omega)] at hq
    exact hq
  · rw [if_pos c] at hq
    rw [n1]; exact hq
  · rw [if_neg (by omega), if_pos c] at hq
    rw [n6]; exact hq
  · rw [if_neg (by omega), if_neg (by omega), if_pos c] at hq
    have key : ∀ n k, k + n = 16 → zRn d 100 (4, [.ref 11, .int (nI (nz (H pl) k)), .int (nI k)], [], (49, x, l, σ, τ, zrho)) (zret (d + 1) 23 56 59 [zJ, zJ] [] Q) := by
      intro n
      induction n with
      | zero =>
        intro k hk
        have hk : k = 16 := by omega
        subst hk
        exact zv100_4 ⟨fun _ => zv23_59 hq, fun c => absurd (by decide) c⟩
      | succ n ih =>
        intro k hk
        have hbk := hb k (by omega)
        refine zv100_4 ⟨fun c => ?_, fun _ => ⟨vp_in_nI (by omega) (by decide), ?_⟩⟩
        · simp (disch := omega) only [zlit, nI_leI, nI_ltI, nI_eq, nI_clamp, nI_add, pk_mul, pk_sub, pk_div] at c; omega
        · rw [nI_clamp (by omega), i4.2.1 k (by omega), show (nI (H pl k) ≤ 0) = (H pl k ≤ 0) from nI_leE (b := 0) (by omega) (by omega), nI_1]
          have := ih (k + 1) (by omega)
          refine ⟨fun c => ?_, fun c => ?_⟩
          · rw [show nI (nz (H pl) k) + 0 = nI (nz (H pl) (k + 1)) from by
              show _ = nI (nz (H pl) k + if H pl k = 0 then 0 else 1)
              rw [if_pos (by omega)]; exact nI_add _ 0]
            exact this
          · rw [show nI (nz (H pl) k) + 1 = nI (nz (H pl) (k + 1)) from by
              show _ = nI (nz (H pl) k + if H pl k = 0 then 0 else 1)
              rw [if_neg (by omega)]; exact nI_1 _]
            exact this
    exact zv100_0 (key 16 0 (by omega))
  · rw [if_neg (by omega), if_neg (by omega), if_neg (by omega), if_pos c] at hq
    rw [i4.1]; exact hq
  · rw [if_neg (by omega), if_neg (by omega), if_neg (by omega), if_neg (by omega), if_pos c] at hq
    exact hq
