/-! the class's calls -/
theorem CI_5 {u : zRu} {e kn pl s : Nat} {H : Nat → Nat → Nat} {σ : Nat → Nat → Int32} {τ : Nat → Nat → Int64} (h : CI u e kn pl s H σ τ) (t : Nat → Int32) : CI u e kn pl s H (zrow σ 5 t) τ := h
theorem cs_b {H : Nat → Nat → Nat} {pl : Nat} {a b c d e f : Nat → Int32} (h : CS H pl a b c d e f) : ∀ k, k < 16 → H pl k ≤ 2000 := fun k hk => h.2.2.1 pl k (Nat.le_refl _) hk
theorem sp5 {d x l : Nat} {σ : Nat → Nat → Int32} {τ : Nat → Nat → Int64} {Q : zR → Prop} {u : zRu} {e kn pl s : Nat} {H : Nat → Nat → Nat} {i : Int} (hu : zRok u) (hI : CI u e kn pl s H σ τ) (hx : x < 600) (b1 : -2147483648 ≤ i) (b2 : i < 2147483648)
    (hq1 : ∀ n : Nat, i = (n : Int) → n ≤ far2 u → ∀ σ' τ' kn', FC σ σ' → FCt τ τ' → CI u n kn' pl s H σ' τ' → Q (.inl (some (.int (nI (mx (gn u) (n + 1))))), (49, x, l, σ', τ', zrho)))
    (hq0 : ¬ (0 ≤ i ∧ i ≤ far2 u) → Q (.inr 0, (49, x + 1, l, σ, τ, zrho))) :
    zRn (d + 5) 5 (0, [.ref 0, .int (iI i)], [], (49, x, l, σ, τ, zrho)) Q := by
  obtain ⟨i1, i2, i3, i4, i5, i6, i7⟩ := hI
  have hf2 : far2 u ≤ 2000 := by unfold far2; split <;> omega
  refine zv5_0 ?_
  rw [show (iI i < 0) = (i < 0) from iI_ltI (b := 0) b1 b2 (by omega) (by omega)]
  refine ⟨fun c => ⟨hx, hq0 (by omega)⟩, fun c => ?_⟩
  refine sp85 (d := d + 2) hu i1 (zv5_12 ?_)
  rw [nI_iI (far2 u), iI_leI b1 b2 (by omega) (by omega)]
  refine ⟨fun c2 => ?_, fun c2 => ⟨hx, hq0 (by omega)⟩⟩
  obtain ⟨n, hn⟩ : ∃ k : Nat, i = (k : Int) := ⟨i.toNat, by omega⟩
  rw [hn, ← nI_iI]
  refine sp53 (d := d) hu i1 i2 (by omega) (fun s6 a t8 t9 t10 hN h6 => zv5_37 ?_)
  rw [show (zrow (zrow σ 7 a) 6 s6) 6 2 = nI (mx (gn u) (n + 1)) from hN.2.2.2.2.2.1]
  refine hq1 n hn (by omega) _ _ (max kn n) ((FC_row _ _ (by omega)).trans (FC_row _ _ (by omega))) ((FCt_row _ _ (by omega)).trans ((FCt_row _ _ (by omega)).trans (FCt_row _ _ (by omega)))) ?_
  exact ⟨i1, hN, Or.inl h6, i4, i5, i6, i7⟩
theorem sp6 {d x l : Nat} {σ : Nat → Nat → Int32} {τ : Nat → Nat → Int64} {Q : zR → Prop} {u : zRu} {e kn pl s : Nat} {H : Nat → Nat → Nat} {i : Int} (hI : CI u e kn pl s H σ τ) (hx : x < 600) (b1 : -2147483648 ≤ i) (b2 : i < 2147483648)
    (hq1 : ∀ n : Nat, i = (n : Int) → n ≤ e → Q (.inl (some (.int (nI (gn u n)))), (49, x, l, σ, τ, zrho))) (hq0 : ¬ (0 ≤ i ∧ i ≤ e) → Q (.inr 2, (49, x + 1, l, σ, τ, zrho))) :
    zRn (d + 1) 6 (0, [.ref 0, .int (iI i)], [], (49, x, l, σ, τ, zrho)) Q := by
  obtain ⟨i1, ⟨n1, n2, n3, n4, n5, n6, n7⟩, _⟩ := hI
  refine zv6_0 (sp50 (e := e) (by omega) n1 b1 b2 (fun c1 c2 => zv6_8 ⟨fun _ => ?_, fun q => absurd (by decide) q⟩) (fun c => zv6_8 ⟨fun q => absurd rfl q, fun _ => ⟨hx, hq0 c⟩⟩))
  obtain ⟨n, hn⟩ : ∃ k : Nat, i = (k : Int) := ⟨i.toNat, by omega⟩
  rw [hn, ← nI_iI, nI_clamp (by omega), n5 n (by omega)]
  exact ⟨vp_in_nI (by omega) (by decide), hq1 n hn (by omega)⟩
theorem sp7 {d x l : Nat} {σ : Nat → Nat → Int32} {τ : Nat → Nat → Int64} {Q : zR → Prop} {u : zRu} {e kn pl s : Nat} {H : Nat → Nat → Nat} {a : Int32} (hI : CI u e kn pl s H σ τ) (hq : Q (.inl (some (.int (nI (cntI (gn u) a (e + 1))))), (49, x, l, σ, τ, zrho))) :
    zRn (d + 1) 7 (0, [.ref 0, .int a], [], (49, x, l, σ, τ, zrho)) Q := by
  obtain ⟨i1, ⟨n1, n2, n3, n4, n5, n6, n7⟩, _⟩ := hI
  have key : ∀ n k, k + n = e + 1 → zRn d 52 (4, [.ref 6, .int a, .int (nI (cntI (gn u) a k)), .int (nI k)], [], (49, x, l, σ, τ, zrho)) (zret (d + 1) 7 5 8 [zJ, zJ] [] Q) := by
    intro n
    induction n with
    | zero =>
      intro k hk
      refine zv52_4 ⟨fun _ => zv7_8 ?_, fun c => ?_⟩
      · rw [show k = e + 1 by omega]; exact hq
      · rw [n1, nI_ltI (by omega) (by omega)] at c; omega
    | succ n ih =>
      intro k hk
      refine zv52_4 ⟨fun c => ?_, fun _ => ⟨vp_in_nI (by omega) (by decide), ?_⟩⟩
      · rw [n1, nI_ltI (by omega) (by omega)] at c; omega
      · rw [nI_clamp (by omega), n5 k (by omega), nI_1]
        have := ih (k + 1) (by omega)
        refine ⟨fun c => ?_, fun c => ?_⟩
        · rw [show nI (cntI (gn u) a k) + 0 = nI (cntI (gn u) a (k + 1)) from by
            show _ = nI (cntI (gn u) a k + if nI (gn u k) = a then 1 else 0)
            rw [if_neg c]; exact nI_add _ 0]
          exact this
        · rw [show nI (cntI (gn u) a k) + 1 = nI (cntI (gn u) a (k + 1)) from by
            show _ = nI (cntI (gn u) a k + if nI (gn u k) = a then 1 else 0)
            rw [if_pos (Classical.not_not.1 c)]; exact nI_1 _]
          exact this
  exact zv7_0 (zv52_0 (key (e + 1) 0 (by omega)))
theorem sp8 {d x l : Nat} {σ : Nat → Nat → Int32} {τ : Nat → Nat → Int64} {Q : zR → Prop} {u : zRu} {e kn pl s : Nat} {H : Nat → Nat → Nat} {i : Int} (hu : zRok u) (hI : CI u e kn pl s H σ τ) (hx : x < 600) (b1 : -2147483648 ≤ i) (b2 : i < 2147483648)
    (hq1 : ∀ w : Nat, i = (w : Int) → w ≤ 1 → ∀ σ', FC σ σ' → CI u e kn pl s H σ' τ → Q (.inl (some (.int (pV (perR u e) w))), (49, x, l, σ', τ, zrho))) (hq0 : ¬ (0 ≤ i ∧ i ≤ 1) → Q (.inr 2, (49, x + 1, l, σ, τ, zrho))) :
    zRn (d + 3) 8 (0, [.ref 0, .int (iI i)], [], (49, x, l, σ, τ, zrho)) Q := by
  obtain ⟨i1, i2, i3, i4, i5, i6, i7⟩ := hI
  refine zv8_0 ?_
  rw [show (iI i < 0) = (i < 0) from iI_ltI (b := 0) b1 b2 (by omega) (by omega), show (iI i ≤ 1) = (i ≤ 1) from iI_leI (b := 1) b1 b2 (by omega) (by omega)]
  refine ⟨fun c => ⟨hx, hq0 (by omega)⟩, fun c => ⟨fun c2 => ?_, fun c2 => ⟨hx, hq0 (by omega)⟩⟩⟩
  obtain ⟨w, hw⟩ : ∃ k : Nat, i = (k : Int) := ⟨i.toNat, by omega⟩
  rw [hw, ← nI_iI]
  refine sp67 (d := d) hu i1 i2 i3 (fun t h1 h6 h3 h4 => zv8_30 ?_)
  have hN : CN u e kn t (σ 7) (τ 9) (τ 10) := by
    have g : ∀ j, j ≠ 3 → j ≠ 4 → j ≠ 6 → t j = σ 6 j := fun j a b c => h1 j (by simp [a, b, c])
    unfold CN at i2 ⊢
    rw [g 1 (by decide) (by decide) (by decide), g 5 (by decide) (by decide) (by decide), g 2 (by decide) (by decide) (by decide)]
    exact i2
  have hq := hq1 w hw (by omega) (zrow σ 6 t) (FC_row _ _ (by omega)) ⟨i1, hN, Or.inr ⟨h6, h3, h4⟩, i4, i5, i6, i7⟩
  rw [nI_q0 (by omega)]
  refine ⟨fun c => ?_, fun c => ?_⟩
  · show Q (.inl (some (.int (t 4))), _)
    rw [h4, ← show w = 1 by omega]
    exact hq
  · show Q (.inl (some (.int (t 3))), _)
    rw [h3, ← show w = 0 by omega]
    exact hq
theorem sp26 {d x l : Nat} {σ : Nat → Nat → Int32} {τ : Nat → Nat → Int64} {Q : zR → Prop} {u : zRu} {i : Int} (hu : zRok u) (hc : CR u (σ 1) (σ 2) (σ 3) (τ 4)) (hx : x < 600) (b1 : -2147483648 ≤ i) (b2 : i < 2147483648)
    (hq1 : ∀ n : Nat, i = (n : Int) → n ≤ far u → Q (.inl none, (49, x, l, σ, τ, zrho))) (hq0 : ¬ (0 ≤ i ∧ i ≤ far u) → Q (.inr 0, (49, x + 1, l, σ, τ, zrho))) :
    zRn (d + 3) 26 (0, [.ref 0, .int (iI i)], [], (49, x, l, σ, τ, zrho)) Q := by
  have hf : far u ≤ 2000 := by unfold far; split <;> omega
  refine zv26_0 ?_
  rw [show (iI i < 0) = (i < 0) from iI_ltI (b := 0) b1 b2 (by omega) (by omega)]
  refine ⟨fun c => ⟨hx, hq0 (by omega)⟩, fun c => sp86 (d := d) hu hc (zv26_12 ?_)⟩
  rw [nI_iI (far u), iI_leI b1 b2 (by omega) (by omega)]
  exact ⟨fun c2 => hq1 i.toNat (by omega) (by omega), fun c2 => ⟨hx, hq0 (by omega)⟩⟩
theorem sp9 {d x l : Nat} {σ : Nat → Nat → Int32} {τ : Nat → Nat → Int64} {Q : zR → Prop} {u : zRu} {e kn pl s : Nat} {H : Nat → Nat → Nat} {i : Int} (hu : zRok u) (hI : CI u e kn pl s H σ τ) (hx : x < 600) (b1 : -2147483648 ≤ i) (b2 : i < 2147483648)
    (hq1 : ∀ n : Nat, i = (n : Int) → n ≤ far u → Q (.inl (some (.int (nI (opts u n).length))), (49, x, l, σ, τ, zrho))) (hq0 : ¬ (0 ≤ i ∧ i ≤ far u) → Q (.inr 0, (49, x + 1, l, σ, τ, zrho))) :
    zRn (d + 5) 9 (0, [.ref 0, .int (iI i)], [], (49, x, l, σ, τ, zrho)) Q := by
  refine zv9_0 (sp26 (d := d + 1) hu hI.1 hx b1 b2 (fun n hn hf => zv9_5 ?_) hq0)
  have h8 := far_8 hf
  rw [hn, ← nI_iI]
  exact sp87 (d := d) hu hI.1 h8.1 h8.2 (zv9_13 (hq1 n hn hf))
theorem sp10 {d x l : Nat} {σ : Nat → Nat → Int32} {τ : Nat → Nat → Int64} {Q : zR → Prop} {u : zRu} {e kn pl s : Nat} {H : Nat → Nat → Nat} {i j k : Int} (hu : zRok u) (hI : CI u e kn pl s H σ τ) (hx : x < 600) (b1 : -2147483648 ≤ i) (b2 : i < 2147483648) (c1 : -2147483648 ≤ j) (c2 : j < 2147483648) (d1 : -2147483648 ≤ k) (d2 : k < 2147483648)
    (hq1 : ∀ (n m w : Nat) o t, i = (n : Int) → n ≤ far u → j = (m : Int) → k = (w : Int) → w ≤ 2 → (opts u n)[m]? = some o → Q (.inl (some (.int (nI (rt o w)))), (49, x, l, zrow σ 5 t, τ, zrho)))
    (hq0 : ¬ (0 ≤ i ∧ i ≤ far u) → Q (.inr 0, (49, x + 1, l, σ, τ, zrho)))
    (hq2 : ∀ n : Nat, i = (n : Int) → n ≤ far u → (¬ (0 ≤ k ∧ k ≤ 2) ∨ j < 0 ∨ ∃ m : Nat, j = (m : Int) ∧ (opts u n)[m]? = none) → Q (.inr 2, (49, x + 1, l, σ, τ, zrho))) :
    zRn (d + 5) 10 (0, [.ref 0, .int (iI i), .int (iI j), .int (iI k)], [], (49, x, l, σ, τ, zrho)) Q := by
  refine zv10_0 (sp26 (d := d + 1) hu hI.1 hx b1 b2 (fun n hn hf => zv10_5 ?_) hq0)
  have h8 := far_8 hf
  rw [show (iI k < 0) = (k < 0) from iI_ltI (b := 0) d1 d2 (by omega) (by omega), show (2 < iI k) = (2 < k) from iI_ltI (a := 2) (by omega) (by omega) d1 d2]
  refine ⟨fun q => ⟨hx, hq2 n hn hf (by omega)⟩, fun q => ⟨fun q2 => ⟨hx, hq2 n hn hf (by omega)⟩, fun q2 => ?_⟩⟩
  obtain ⟨w, hw⟩ : ∃ y : Nat, k = (y : Int) := ⟨k.toNat, by omega⟩
  by_cases hj : 0 ≤ j
  · obtain ⟨m, hm⟩ : ∃ y : Nat, j = (y : Int) := ⟨j.toNat, by omega⟩
    rw [hn, hm, hw, ← nI_iI, ← nI_iI, ← nI_iI]
    refine sp88 (d := d) hu hI.1 h8.1 h8.2 (by omega) (fun o t ho hc => zv10_27 ⟨fun _ => ?_, fun q => absurd (by decide) q⟩) (fun ho => zv10_27 ⟨fun q => absurd rfl q, fun _ => ⟨hx, hq2 n hn hf (Or.inr (Or.inr ⟨m, hm, ho⟩))⟩⟩)
    have fin := hq1 n m w o t hn hf hm hw (by omega) ho
    refine zv35_0 ?_
    rw [nI_q0 (by omega), nI_q1 (by omega)]
    refine ⟨fun q3 => ⟨fun q4 => zv10_48 ?_, fun q4 => zv10_48 ?_⟩, fun q3 => zv10_48 ?_⟩
    · show Q (.inl (some (.int (t 3))), _)
      rw [hc.2.2.2, ← show w = 2 by omega]; exact fin
    · show Q (.inl (some (.int (t 2))), _)
      rw [hc.2.2.1, ← show w = 1 by omega]; exact fin
    · show Q (.inl (some (.int (t 1))), _)
      rw [hc.2.1, ← show w = 0 by omega]; exact fin
  · rw [hn, ← nI_iI]
    refine zv88_0 ⟨fun q3 => ?_, fun q3 => zv10_27 ⟨fun q => absurd rfl q, fun _ => ⟨hx, hq2 n hn hf (by omega)⟩⟩⟩
    rw [show (0 ≤ iI j) = (0 ≤ j) from iI_leI (a := 0) (by omega) (by omega) c1 c2] at q3
    exact absurd q3 hj
theorem sp27 {d x l : Nat} {σ : Nat → Nat → Int32} {τ : Nat → Nat → Int64} {Q : zR → Prop} {i : Int} (hx : x < 600) (b1 : -2147483648 ≤ i) (b2 : i < 2147483648) (hq1 : ∀ p : Nat, i = (p : Int) → p < 16 → Q (.inl none, (49, x, l, σ, τ, zrho))) (hq0 : ¬ (0 ≤ i ∧ i ≤ 15) → Q (.inr 2, (49, x + 1, l, σ, τ, zrho))) :
    zRn d 27 (0, [.int (iI i)], [], (49, x, l, σ, τ, zrho)) Q := by
  refine zv27_0 ?_
  rw [show (iI i < 0) = (i < 0) from iI_ltI (b := 0) b1 b2 (by omega) (by omega), show (iI i < 16) = (i < 16) from iI_ltI (b := 16) b1 b2 (by omega) (by omega)]
  exact ⟨fun c => ⟨hx, hq0 (by omega)⟩, fun c => ⟨fun c2 => hq1 i.toNat (by omega) (by omega), fun c2 => ⟨hx, hq0 (by omega)⟩⟩⟩
/-- a heap put: moves before are forgotten -/
def Hp (hp : Nat → Nat) (p v : Nat) : Nat → Nat → Nat := fun _ k => if k = p then v else hp k
theorem sp11 {d x l : Nat} {σ : Nat → Nat → Int32} {τ : Nat → Nat → Int64} {Q : zR → Prop} {u : zRu} {e kn pl s : Nat} {H : Nat → Nat → Nat} {i j : Int} (hI : CI u e kn pl s H σ τ) (hx : x < 600) (b1 : -2147483648 ≤ i) (b2 : i < 2147483648) (c1 : -2147483648 ≤ j) (c2 : j < 2147483648)
    (hq1 : ∀ p v : Nat, i = (p : Int) → p < 16 → j = (v : Int) → v ≤ 2000 → ∀ σ', FC σ σ' → CI u e kn 0 s (Hp (H pl) p v) σ' τ → Q (.inl (some (.int (nI (H pl p)))), (49, x, l, σ', τ, zrho)))
    (hq0 : ¬ (0 ≤ i ∧ i ≤ 15) → Q (.inr 2, (49, x + 1, l, σ, τ, zrho)))
    (hq2 : (0 ≤ i ∧ i ≤ 15) → ¬ (0 ≤ j ∧ j ≤ 2000) → Q (.inr 0, (49, x + 1, l, σ, τ, zrho))) :
    zRn (d + 1) 11 (0, [.ref 0, .int (iI i), .int (iI j), zJ], [], (49, x, l, σ, τ, zrho)) Q := by
  obtain ⟨i1, i2, i3, i4, i5, i6, i7⟩ := hI
  refine zv11_0 (sp27 hx b1 b2 (fun p hp h16 => zv11_4 ?_) hq0)
  rw [show (iI j < 0) = (j < 0) from iI_ltI (b := 0) c1 c2 (by omega) (by omega), show (iI j ≤ 2000) = (j ≤ 2000) from iI_leI (b := 2000) c1 c2 (by omega) (by omega)]
  refine ⟨fun c => ⟨hx, hq2 (by omega) (by omega)⟩, fun c => ⟨fun c3 => ?_, fun c3 => ⟨hx, hq2 (by omega) (by omega)⟩⟩⟩
  obtain ⟨v, hv⟩ : ∃ y : Nat, j = (y : Int) := ⟨j.toNat, by omega⟩
  rw [hp, hv, ← nI_iI, ← nI_iI, nI_clamp (by omega), i4.2.1 p h16]
  refine ⟨vp_in_nI (by omega) (by decide), vp_in_nI (by omega) (by decide), hq1 p v hp h16 hv (by omega) _ ((FC_up _ _ _ (by omega)).trans (FC_up _ _ _ (by omega))) ⟨i1, i2, i3, ⟨?_, fun k hk => ?_, fun i' k hi hk => ?_, fun i' hi => absurd hi (by omega)⟩, i5, i6, i7⟩⟩
  · show upd (σ 11) 1 0 1 = nI 0
    rw [upd_s rfl]; rfl
  · show upd (σ 12) p (nI v) k = nI (if k = p then v else H pl k)
    exact z_upd (σ 12) (H pl) 16 p v i4.2.1 k hk
  · show (if k = p then v else H pl k) ≤ 2000
    have := cs_b i4 k hk
    split <;> omega
theorem sp12 {d x l : Nat} {σ : Nat → Nat → Int32} {τ : Nat → Nat → Int64} {Q : zR → Prop} {u : zRu} {e kn pl s : Nat} {H : Nat → Nat → Nat} {i : Int} (hI : CI u e kn pl s H σ τ) (hx : x < 600) (b1 : -2147483648 ≤ i) (b2 : i < 2147483648)
    (hq1 : ∀ p : Nat, i = (p : Int) → p < 16 → Q (.inl (some (.int (nI (H pl p)))), (49, x, l, σ, τ, zrho))) (hq0 : ¬ (0 ≤ i ∧ i ≤ 15) → Q (.inr 2, (49, x + 1, l, σ, τ, zrho))) :
    zRn (d + 1) 12 (0, [.ref 0, .int (iI i)], [], (49, x, l, σ, τ, zrho)) Q := by
  refine zv12_0 (sp27 hx b1 b2 (fun p hp h16 => zv12_4 ?_) hq0)
  rw [hp, ← nI_iI, nI_clamp (by omega), hI.2.2.2.1.2.1 p h16]
  exact ⟨vp_in_nI (by omega) (by decide), hq1 p hp h16⟩
theorem sp13 {d x l : Nat} {σ : Nat → Nat → Int32} {τ : Nat → Nat → Int64} {Q : zR → Prop} {u : zRu} {e kn pl s : Nat} {H : Nat → Nat → Nat} (hu : zRok u) (hI : CI u e kn pl s H σ τ) (hx : x < 600)
    (hq1 : (∀ k, k < 16 → H pl k ≤ far u) → Q (.inl (some (.int (nI (zsum (fun k => (opts u (H pl k)).length) 16)))), (49, x, l, σ, τ, zrho))) (hq0 : ¬ (∀ k, k < 16 → H pl k ≤ far u) → Q (.inr 3, (49, x + 1, l, σ, τ, zrho))) :
    zRn (d + 5) 13 (0, [.ref 0, zJ, zJ], [], (49, x, l, σ, τ, zrho)) Q := by
  have hh := hI.2.2.2.1.2.1
  refine zv13_0 (sp28 (d := d + 1) hu hI.1 hh (cs_b hI.2.2.2.1) hx (fun hf => zv13_4 ?_) hq0)
  have key : ∀ n k, k + n = 16 → zRn (d + 5) 13 (8, [.ref 0, .int (nI (zsum (fun k => (opts u (H pl k)).length) k)), .int (nI k)], [], (49, x, l, σ, τ, zrho)) Q := by
    intro n
    induction n with
    | zero =>
      intro k hk
      have hk : k = 16 := by omega
      subst hk
      exact zv13_8 ⟨fun _ => hq1 hf, fun c => absurd (by decide) c⟩
    | succ n ih =>
      intro k hk
      have h8 := far_8 (hf k (by omega))
      refine zv13_8 ⟨fun c => ?_, fun _ => ⟨vp_in_nI (by omega) (by decide), ?_⟩⟩
      · simp (disch := omega) only [zlit, nI_leI, nI_ltI, nI_eq, nI_clamp, nI_add, pk_mul, pk_sub, pk_div] at c; omega
      · rw [nI_clamp (by omega), hh k (by omega)]
        refine sp87 (d := d) hu hI.1 h8.1 h8.2 (zv13_31 ?_)
        rw [nI_add, nI_1]
        exact ih (k + 1) (by omega)
  exact key 16 0 (by omega)
theorem sp14 {d x l : Nat} {σ : Nat → Nat → Int32} {τ : Nat → Nat → Int64} {Q : zR → Prop} {u : zRu} {e kn pl s : Nat} {H : Nat → Nat → Nat} {i j : Int} (hu : zRok u) (hI : CI u e kn pl s H σ τ) (hx : x < 600) (b1 : -2147483648 ≤ i) (b2 : i < 2147483648) (c1 : -2147483648 ≤ j) (c2 : j < 2147483648)
    (hq1 : (∀ k, k < 16 → H pl k ≤ far u) → ∀ (m k w : Nat) o t, i = (m : Int) → j = (w : Int) → w ≤ 3 → fm u (H pl) 16 0 m = some (k, o) → Q (.inl (some (.int (if w = 0 then nI k else nI (rt o (w - 1))))), (49, x, l, zrow σ 5 t, τ, zrho)))
    (hq2 : (∀ k, k < 16 → H pl k ≤ far u) → (¬ (0 ≤ j ∧ j ≤ 3) ∨ i < 0 ∨ ∃ m : Nat, i = (m : Int) ∧ fm u (H pl) 16 0 m = none) → ∀ t, Q (.inr 2, (49, x + 1, l, zrow σ 5 t, τ, zrho)))
    (hq0 : ¬ (∀ k, k < 16 → H pl k ≤ far u) → Q (.inr 3, (49, x + 1, l, σ, τ, zrho))) :
    zRn (d + 7) 14 (0, [.ref 0, .int (iI i), .int (iI j)], [], (49, x, l, σ, τ, zrho)) Q := by
  refine zv14_0 (sp30 (d := d) hu hI.1 hI.2.2.2.1.2.1 (cs_b hI.2.2.2.1) hx b1 b2 (fun hf m k o t hm hfm hk ho hc => zv14_5 ?_) (fun hf hn t => hq2 hf (Or.inr hn) t) hq0)
  rw [show (iI j < 0) = (j < 0) from iI_ltI (b := 0) c1 c2 (by omega) (by omega), show (iI j ≤ 3) = (j ≤ 3) from iI_leI (b := 3) c1 c2 (by omega) (by omega)]
  refine ⟨fun q => ⟨hx, hq2 hf (by omega) t⟩, fun q => ⟨fun q2 => ?_, fun q2 => ⟨hx, hq2 hf (by omega) t⟩⟩⟩
  obtain ⟨w, hw⟩ : ∃ y : Nat, j = (y : Int) := ⟨j.toNat, by omega⟩
  have fin := hq1 hf m k w o t hm hw (by omega) hfm
  rw [hw, ← nI_iI, nI_q0 (by omega)]
  refine ⟨fun q3 => ?_, fun q3 => ?_⟩
  · rw [show nI w - 1 = nI (w - 1) from pk_sub (b := 1) (by omega)]
    rw [if_neg q3] at fin
    refine zv35_0 ?_
    rw [nI_q0 (by omega), nI_q1 (by omega)]
    refine ⟨fun q3 => ⟨fun q4 => zv14_48 ?_, fun q4 => zv14_48 ?_⟩, fun q3 => zv14_48 ?_⟩
    · show Q (.inl (some (.int (t 3))), _)
      rw [hc.2.2.2, ← show w - 1 = 2 by omega]; exact fin
    · show Q (.inl (some (.int (t 2))), _)
      rw [hc.2.2.1, ← show w - 1 = 1 by omega]; exact fin
    · show Q (.inl (some (.int (t 1))), _)
      rw [hc.2.1, ← show w - 1 = 0 by omega]; exact fin
  · rw [if_pos (Classical.not_not.1 q3)] at fin
    refine zv14_48 ?_
    show Q (.inl (some (.int (t 0))), _)
    rw [hc.1]; exact fin
