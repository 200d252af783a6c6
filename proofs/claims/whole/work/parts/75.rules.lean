/-! rules told -/
def setK (u : zRu) (k : Nat) : zRu := (k, dg u, nb u, en u)
def setD (u : zRu) (p v : Nat) : zRu := (kd u, fun j => if j = p then v else dg u j, nb u, en u)
def setN (u : zRu) (p : Nat) (v : Bool) : zRu := (kd u, dg u, fun j => if j = p then v else nb u j, en u)
def setE (u : zRu) (f a b : Nat) (v : Bool) : zRu := (kd u, dg u, nb u, fun f' a' b' => if f' = f ∧ a' = a ∧ b' = b then v else en u f' a' b')
theorem ok_K {u : zRu} (hu : zRok u) {k : Nat} (hk : k ≤ 4) : zRok (setK u k) := ⟨hk, hu.2⟩
theorem ok_D {u : zRu} (hu : zRok u) {p v : Nat} (hv : v ≤ 15) : zRok (setD u p v) := ⟨hu.1, fun k => by
  show (if k = p then v else dg u k) ≤ 15
  have := hu.2.1 k
  split <;> omega, hu.2.2⟩
theorem ok_N {u : zRu} (hu : zRok u) {p : Nat} {v : Bool} : zRok (setN u p v) := hu
theorem ok_E {u : zRu} (hu : zRok u) {f a b : Nat} {v : Bool} (h1 : a ≤ b) (h2 : b < f) (h3 : f ≤ 64) (h4 : a + b ≤ f) : zRok (setE u f a b v) := ⟨hu.1, hu.2.1, fun f' a' b' h => by
  have h : (if f' = f ∧ a' = a ∧ b' = b then v else en u f' a' b') = true := h
  by_cases c : f' = f ∧ a' = a ∧ b' = b
  · omega
  · rw [if_neg c] at h
    exact hu.2.2 f' a' b' h⟩
theorem sp1 {d x l : Nat} {σ : Nat → Nat → Int32} {τ : Nat → Nat → Int64} {Q : zR → Prop} {u : zRu} {e kn pl s : Nat} {H : Nat → Nat → Nat} {i : Int} (hI : CI u e kn pl s H σ τ) (hx : x < 600) (b1 : -2147483648 ≤ i) (b2 : i < 2147483648)
    (hq1 : ∀ k : Nat, i = (k : Int) → k ≤ 4 → ∀ σ', FC σ σ' → CI (setK u k) 0 0 pl 0 H σ' τ → Q (.inl (some (.int (nI (kd u)))), (49, x, l, σ', τ, zrho)))
    (hq0 : ¬ (0 ≤ i ∧ i ≤ 4) → Q (.inr 0, (49, x + 1, l, σ, τ, zrho))) :
    zRn (d + 2) 1 (0, [.ref 0, .int (iI i), zJ], [], (49, x, l, σ, τ, zrho)) Q := by
  obtain ⟨i1, i2, i3, i4, i5, i6, i7⟩ := hI
  refine zv1_0 ?_
  rw [show (iI i < 0) = (i < 0) from iI_ltI (b := 0) b1 b2 (by omega) (by omega), show (iI i ≤ 4) = (i ≤ 4) from iI_leI (b := 4) b1 b2 (by omega) (by omega), i1.1]
  refine ⟨fun c => ⟨hx, hq0 (by omega)⟩, fun c => ⟨fun c2 => ?_, fun c2 => ⟨hx, hq0 (by omega)⟩⟩⟩
  obtain ⟨k, hk⟩ : ∃ k : Nat, i = (k : Int) := ⟨i.toNat, by omega⟩
  rw [hk, ← nI_iI]
  refine sp24 (u := u) (u' := setK u k) ?_ i2 i4 i5.1 i6 (fun σ' f hI' => zv1_39 (hq1 k hk (by omega) σ' ((FC_up _ _ _ (by omega)).trans f) hI'))
  exact ⟨show upd (σ 1) 0 (nI k) 0 = nI k from upd_s rfl, i1.2⟩
theorem sp112 {d x l : Nat} {σ : Nat → Nat → Int32} {τ : Nat → Nat → Int64} {Q : zR → Prop} {u : zRu} {e st pl s : Nat} {H : Nat → Nat → Nat} {i : Int} (hI : RI u e st pl s H σ τ) (b1 : -2147483648 ≤ i) (b2 : i < 2147483648)
    (hq1 : ∀ k : Nat, i = (k : Int) → k ≤ 4 → ∀ σ', FR σ σ' → σ' 32 0 = nI 0 → RI (setK u k) 0 st pl 0 H σ' τ → Q (.inl (some (.int (nI (kd u)))), (49, x, l, σ', τ, zrho)))
    (hq0 : ¬ (0 ≤ i ∧ i ≤ 4) → Q (.inl (some (.int (0))), (49, x, l, zrow σ 32 (upd (σ 32) 0 (nI 1)), τ, zrho))) :
    zRn (d + 1) 112 (0, [.ref 32, .int (iI i), zJ], [], (49, x, l, σ, τ, zrho)) Q := by
  have hI0 := RI_7 hI (zwf7_c (σ 32) 0)
  obtain ⟨i1, i2, i3, i4, i5⟩ := hI0
  refine zv112_0 ?_
  rw [zup_row]
  refine sp110 (a := i) (b := 0) (c := 4) b1 b2 (by omega) (by omega) (by omega) (by omega) (fun k1 k2 => zv112_11 ⟨fun _ => ?_, fun c => absurd (by decide) c⟩) (fun k => zv112_11 ⟨fun c => absurd rfl c, fun _ => zv109_0 (zv112_19 ?_)⟩)
  · obtain ⟨k, hk⟩ : ∃ k : Nat, i = (k : Int) := ⟨i.toNat, by omega⟩
    rw [i1.1, hk, ← nI_iI, zup_row, zrow_row, zrow_me]
    have ot : ∀ j, j ≠ 1 → upd (upd (σ 32) 0 0) 1 (nI k) j = (zrow σ 32 (upd (σ 32) 0 0)) 32 j := fun j h => by rw [zrow_me, pk_un h]
    refine sp111 (u := u) (u' := setK u k) (e := e) (st := st) (pl := pl) (H := H) ?_ ?_ ?_ ?_ (fun σ' f f0 hI' => zv112_34 (hq1 k hk (by omega) σ' ((FR_row _ _ (by omega) (by omega)).trans f) ?_ hI'))
    · rw [zrow_me]
      exact ⟨upd_s rfl, i1.2⟩
    · rw [zrow_me]
      unfold RN at i2 ⊢
      rw [ot 5 (by decide), ot 8 (by decide)]
      exact i2
    · rw [zrow_me]
      unfold RS at i3 ⊢
      rw [ot 13 (by decide)]
      exact i3
    · rw [zrow_me]
      unfold RF RFk at i4 ⊢
      rw [ot 15 (by decide), ot 16 (by decide)]
      exact i4
    · rw [f0, zrow_me, pk_un (by decide), upd_s rfl]
      rfl
  · rw [zup_row, zrow_row, zrow_me, upd_upd]
    exact hq0 k
theorem sp2 {d x l : Nat} {σ : Nat → Nat → Int32} {τ : Nat → Nat → Int64} {Q : zR → Prop} {u : zRu} {e kn pl s : Nat} {H : Nat → Nat → Nat} {i j : Int} (hI : CI u e kn pl s H σ τ) (hx : x < 600) (b1 : -2147483648 ≤ i) (b2 : i < 2147483648) (d1 : -2147483648 ≤ j) (d2 : j < 2147483648)
    (hq1 : ∀ p v : Nat, i = (p : Int) → j = (v : Int) → 1 ≤ p → p ≤ 12 → v ≤ 15 → ∀ σ', FC σ σ' → CI (setD u p v) 0 0 pl 0 H σ' τ → Q (.inl (some (.int (nI (dg u p)))), (49, x, l, σ', τ, zrho)))
    (hq0 : ¬ (1 ≤ i ∧ i ≤ 12) → Q (.inr 2, (49, x + 1, l, σ, τ, zrho)))
    (hq2 : (1 ≤ i ∧ i ≤ 12) → ¬ (0 ≤ j ∧ j ≤ 15) → Q (.inr 0, (49, x + 1, l, σ, τ, zrho))) :
    zRn (d + 2) 2 (0, [.ref 0, .int (iI i), .int (iI j), zJ], [], (49, x, l, σ, τ, zrho)) Q := by
  obtain ⟨i1, i2, i3, i4, i5, i6, i7⟩ := hI
  refine zv2_0 ?_
  rw [show (iI i < 1) = (i < 1) from iI_ltI (b := 1) b1 b2 (by omega) (by omega), show (iI i ≤ 12) = (i ≤ 12) from iI_leI (b := 12) b1 b2 (by omega) (by omega), show (iI j < 0) = (j < 0) from iI_ltI (b := 0) d1 d2 (by omega) (by omega), show (iI j ≤ 15) = (j ≤ 15) from iI_leI (b := 15) d1 d2 (by omega) (by omega)]
  refine ⟨fun c => ⟨hx, hq0 (by omega)⟩, fun c => ⟨fun c2 => ⟨fun c3 => ⟨hx, hq2 (by omega) (by omega)⟩, fun c3 => ⟨fun c4 => ?_, fun c4 => ⟨hx, hq2 (by omega) (by omega)⟩⟩⟩, fun c2 => ⟨hx, hq0 (by omega)⟩⟩⟩
  obtain ⟨p, hp⟩ : ∃ k : Nat, i = (k : Int) := ⟨i.toNat, by omega⟩
  obtain ⟨v, hv⟩ : ∃ k : Nat, j = (k : Int) := ⟨j.toNat, by omega⟩
  rw [hp, hv, ← nI_iI, ← nI_iI, nI_clamp (by omega), i1.2.1 p (by omega)]
  refine ⟨vp_in_nI (by omega) (by decide), vp_in_nI (by omega) (by decide), sp24 (u := u) (u' := setD u p v) ?_ i2 i4 i5.1 i6 (fun σ' f hI' => zv2_65 (hq1 p v hp hv (by omega) (by omega) (by omega) σ' ((FC_up _ _ _ (by omega)).trans f) hI'))⟩
  exact ⟨i1.1, z_upd (σ 2) (dg u) 13 p v i1.2.1, i1.2.2⟩
theorem sp113 {d x l : Nat} {σ : Nat → Nat → Int32} {τ : Nat → Nat → Int64} {Q : zR → Prop} {u : zRu} {e st pl s : Nat} {H : Nat → Nat → Nat} {i j : Int} (hI : RI u e st pl s H σ τ) (b1 : -2147483648 ≤ i) (b2 : i < 2147483648) (d1 : -2147483648 ≤ j) (d2 : j < 2147483648)
    (hq1 : ∀ p v : Nat, i = (p : Int) → j = (v : Int) → 1 ≤ p → p ≤ 12 → v ≤ 15 → ∀ σ', FR σ σ' → σ' 32 0 = nI 0 → RI (setD u p v) 0 st pl 0 H σ' τ → Q (.inl (some (.int (nI (dg u p)))), (49, x, l, σ', τ, zrho)))
    (hq0 : ¬ (1 ≤ i ∧ i ≤ 12) → Q (.inl (some (.int (0))), (49, x, l, zrow σ 32 (upd (σ 32) 0 (nI 1)), τ, zrho)))
    (hq2 : (1 ≤ i ∧ i ≤ 12) → ¬ (0 ≤ j ∧ j ≤ 15) → Q (.inl (some (.int (0))), (49, x, l, zrow σ 32 (upd (σ 32) 0 (nI 2)), τ, zrho))) :
    zRn (d + 1) 113 (0, [.ref 32, .int (iI i), .int (iI j), zJ], [], (49, x, l, σ, τ, zrho)) Q := by
  have hI0 := RI_7 hI (zwf7_c (σ 32) 0)
  obtain ⟨i1, i2, i3, i4, i5⟩ := hI0
  refine zv113_0 ?_
  rw [zup_row]
  refine sp110 (a := i) (b := 1) (c := 12) b1 b2 (by omega) (by omega) (by omega) (by omega) (fun k1 k2 => zv113_12 ⟨fun _ => ?_, fun c => absurd (by decide) c⟩) (fun k => zv113_12 ⟨fun c => absurd rfl c, fun _ => zv109_0 (zv113_20 ?_)⟩)
  · refine sp110 (a := j) (b := 0) (c := 15) d1 d2 (by omega) (by omega) (by omega) (by omega) (fun k3 k4 => zv113_28 ⟨fun _ => ?_, fun c => absurd (by decide) c⟩) (fun k => zv113_28 ⟨fun c => absurd rfl c, fun _ => zv109_0 (zv113_36 ?_)⟩)
    · obtain ⟨p, hp⟩ : ∃ k : Nat, i = (k : Int) := ⟨i.toNat, by omega⟩
      obtain ⟨v, hv⟩ : ∃ k : Nat, j = (k : Int) := ⟨j.toNat, by omega⟩
      rw [hp, hv, ← nI_iI, ← nI_iI, nI_clamp (by omega), i1.2.1 p (by omega)]
      refine ⟨vp_in_nI (by omega) (by decide), vp_in_nI (by omega) (by decide), sp111 (u := u) (u' := setD u p v) (e := e) (st := st) (pl := pl) (H := H) ?_ i2 i3 i4 (fun σ' f f0 hI' => zv113_55 (hq1 p v hp hv (by omega) (by omega) (by omega) σ' (((FR_row _ _ (by omega) (by omega)).trans (FR_up _ _ _ (by omega) (by omega))).trans f) ?_ hI'))⟩
      · exact ⟨i1.1, z_upd (σ 33) (dg u) 13 p v i1.2.1, i1.2.2⟩
      · rw [f0]
        show upd (σ 32) 0 0 0 = nI 0
        rw [upd_s rfl]; rfl
    · rw [zup_row, zrow_row, zrow_me, upd_upd]
      exact hq2 (by omega) k
  · rw [zup_row, zrow_row, zrow_me, upd_upd]
    exact hq0 k
theorem sp3 {d x l : Nat} {σ : Nat → Nat → Int32} {τ : Nat → Nat → Int64} {Q : zR → Prop} {u : zRu} {e kn pl s : Nat} {H : Nat → Nat → Nat} {i : Int} {v : Bool} (hI : CI u e kn pl s H σ τ) (hx : x < 600) (b1 : -2147483648 ≤ i) (b2 : i < 2147483648)
    (hq1 : ∀ p : Nat, i = (p : Int) → 1 ≤ p → p ≤ 64 → ∀ σ', FC σ σ' → CI (setN u p v) 0 0 pl 0 H σ' τ → Q (.inl (some (.int (bI (nb u p)))), (49, x, l, σ', τ, zrho)))
    (hq0 : ¬ (1 ≤ i ∧ i ≤ 64) → Q (.inr 0, (49, x + 1, l, σ, τ, zrho))) :
    zRn (d + 2) 3 (0, [.ref 0, .int (iI i), .int (bI v), zJ], [], (49, x, l, σ, τ, zrho)) Q := by
  obtain ⟨i1, i2, i3, i4, i5, i6, i7⟩ := hI
  refine zv3_0 ?_
  rw [show (iI i < 1) = (i < 1) from iI_ltI (b := 1) b1 b2 (by omega) (by omega), show (iI i ≤ 64) = (i ≤ 64) from iI_leI (b := 64) b1 b2 (by omega) (by omega)]
  refine ⟨fun c => ⟨hx, hq0 (by omega)⟩, fun c => ⟨fun c2 => ?_, fun c2 => ⟨hx, hq0 (by omega)⟩⟩⟩
  obtain ⟨p, hp⟩ : ∃ k : Nat, i = (k : Int) := ⟨i.toNat, by omega⟩
  rw [hp, ← nI_iI, nI_clamp (by omega), i1.2.2.1 p (by omega)]
  refine ⟨vp_in_nI (by omega) (by decide), vp_in_nI (by omega) (by decide), bI_01 v, sp24 (u := u) (u' := setN u p v) ?_ i2 i4 i5.1 i6 (fun σ' f hI' => zv3_45 ⟨bI_01 _, hq1 p hp (by omega) (by omega) σ' ((FC_up _ _ _ (by omega)).trans f) hI'⟩)⟩
  exact ⟨i1.1, i1.2.1, z_updb (σ 3) (nb u) 65 p v i1.2.2.1, i1.2.2.2⟩
theorem sp114 {d x l : Nat} {σ : Nat → Nat → Int32} {τ : Nat → Nat → Int64} {Q : zR → Prop} {u : zRu} {e st pl s : Nat} {H : Nat → Nat → Nat} {i : Int} {v : Bool} (hI : RI u e st pl s H σ τ) (b1 : -2147483648 ≤ i) (b2 : i < 2147483648)
    (hq1 : ∀ p : Nat, i = (p : Int) → 1 ≤ p → p ≤ 64 → ∀ σ', FR σ σ' → σ' 32 0 = nI 0 → RI (setN u p v) 0 st pl 0 H σ' τ → Q (.inl (some (.int (bI (nb u p)))), (49, x, l, σ', τ, zrho)))
    (hq0 : ¬ (1 ≤ i ∧ i ≤ 64) → Q (.inl (some (.int (0))), (49, x, l, zrow σ 32 (upd (σ 32) 0 (nI 1)), τ, zrho))) :
    zRn (d + 1) 114 (0, [.ref 32, .int (iI i), .int (bI v), zJ], [], (49, x, l, σ, τ, zrho)) Q := by
  have hI0 := RI_7 hI (zwf7_c (σ 32) 0)
  obtain ⟨i1, i2, i3, i4, i5⟩ := hI0
  refine zv114_0 ?_
  rw [zup_row]
  refine sp110 (a := i) (b := 1) (c := 64) b1 b2 (by omega) (by omega) (by omega) (by omega) (fun k1 k2 => zv114_12 ⟨fun _ => ?_, fun c => absurd (by decide) c⟩) (fun k => zv114_12 ⟨fun c => absurd rfl c, fun _ => zv109_0 (zv114_20 ⟨fun _ => ?_, fun c => absurd (by decide) c⟩)⟩)
  · obtain ⟨p, hp⟩ : ∃ k : Nat, i = (k : Int) := ⟨i.toNat, by omega⟩
    rw [hp, ← nI_iI, nI_clamp (by omega), i1.2.2.1 p (by omega)]
    refine ⟨vp_in_nI (by omega) (by decide), vp_in_nI (by omega) (by decide), bI_01 v, sp111 (u := u) (u' := setN u p v) (e := e) (st := st) (pl := pl) (H := H) ?_ i2 i3 i4 (fun σ' f f0 hI' => zv114_47 ⟨bI_01 _, hq1 p hp (by omega) (by omega) σ' (((FR_row _ _ (by omega) (by omega)).trans (FR_up _ _ _ (by omega) (by omega))).trans f) ?_ hI'⟩)⟩
    · exact ⟨i1.1, i1.2.1, z_updb (σ 34) (nb u) 65 p v i1.2.2.1, i1.2.2.2⟩
    · rw [f0]
      show upd (σ 32) 0 0 0 = nI 0
      rw [upd_s rfl]; rfl
  · rw [zup_row, zrow_row, zrow_me, upd_upd]
    exact hq0 k
def isE (f a b : Int) : Prop := 1 ≤ f ∧ f ≤ 64 ∧ 0 ≤ a ∧ a < f ∧ 0 ≤ b ∧ b < f ∧ a + b ≤ f
theorem sp25 {d x l : Nat} {σ : Nat → Nat → Int32} {τ : Nat → Nat → Int64} {Q : zR → Prop} {f a b : Int} (f1 : -2147483648 ≤ f) (f2 : f < 2147483648) (a1 : -2147483648 ≤ a) (a2 : a < 2147483648) (b1 : -2147483648 ≤ b) (b2 : b < 2147483648) (hq1 : isE f a b → Q (.inl (some (.int (1))), (49, x, l, σ, τ, zrho))) (hq0 : ¬ isE f a b → Q (.inl (some (.int (0))), (49, x, l, σ, τ, zrho))) :
    zRn d 25 (0, [.int (iI f), .int (iI a), .int (iI b)], [], (49, x, l, σ, τ, zrho)) Q := by
  unfold isE at hq1 hq0
  refine zv25_0 ?_
  rw [show (iI f < 1) = (f < 1) from iI_ltI (b := 1) f1 f2 (by omega) (by omega), show (64 < iI f) = (64 < f) from iI_ltI (a := 64) (by omega) (by omega) f1 f2, show (iI a < 0) = (a < 0) from iI_ltI (b := 0) a1 a2 (by omega) (by omega), iI_leI f1 f2 a1 a2, show (iI b < 0) = (b < 0) from iI_ltI (b := 0) b1 b2 (by omega) (by omega), iI_leI f1 f2 b1 b2]
  refine ⟨fun c => hq0 (by omega), fun c => ⟨fun c => hq0 (by omega), fun c2 => ⟨fun c => hq0 (by omega), fun c3 => ⟨fun c => hq0 (by omega), fun c4 => ⟨fun c => hq0 (by omega), fun c5 => ⟨fun c => hq0 (by omega), fun c6 => ?_⟩⟩⟩⟩⟩⟩
  rw [iI_add, iI_ltI f1 f2 (by omega) (by omega)]
  exact ⟨fun c => hq0 (by omega), fun c7 => hq1 (by omega)⟩
theorem sp4 {d x l : Nat} {σ : Nat → Nat → Int32} {τ : Nat → Nat → Int64} {Q : zR → Prop} {u : zRu} {e kn pl s : Nat} {H : Nat → Nat → Nat} {f a b : Int} {v : Bool} (hI : CI u e kn pl s H σ τ) (hx : x < 600) (f1 : -2147483648 ≤ f) (f2 : f < 2147483648) (a1 : -2147483648 ≤ a) (a2 : a < 2147483648) (b1 : -2147483648 ≤ b) (b2 : b < 2147483648)
    (hq1 : isE f a b → ∀ σ' τ', FC σ σ' → FCt τ τ' → CI (setE u f.toNat (min a b).toNat (max a b).toNat v) 0 0 pl 0 H σ' τ' → Q (.inl (some (.int (bI (en u f.toNat (min a b).toNat (max a b).toNat)))), (49, x, l, σ', τ', zrho)))
    (hq0 : ¬ isE f a b → Q (.inr 0, (49, x + 1, l, σ, τ, zrho))) :
    zRn (d + 2) 4 (0, [.ref 0, .int (iI f), .int (iI a), .int (iI b), .int (bI v), zJ, zJ, zJ], [], (49, x, l, σ, τ, zrho)) Q := by
  obtain ⟨i1, i2, i3, i4, i5, i6, i7⟩ := hI
  refine zv4_0 (sp25 f1 f2 a1 a2 b1 b2 (fun c => zv4_6 ⟨fun _ => ?_, fun q => absurd (by decide) q⟩) (fun c => zv4_6 ⟨fun q => absurd rfl q, fun _ => ⟨hx, hq0 c⟩⟩))
  have c' := c
  obtain ⟨c1, c2, c3, c4, c5, c6, c7⟩ := c
  refine sp166 a1 a2 b1 b2 (zv4_24 (sp165 a1 a2 b1 b2 (zv4_31 ?_)))
  have hq1 := hq1 c'
  generalize hF : f.toNat = F at hq1
  generalize hA : (min a b).toNat = A at hq1
  generalize hB : (max a b).toNat = B at hq1
  rw [show iI f = nI F by rw [nI_iI, ← hF]; congr 1; omega, show iI (min a b) = nI A by rw [nI_iI, ← hA]; congr 1; omega, show iI (max a b) = nI B by rw [nI_iI, ← hB]; congr 1; omega]
  have hAB : A ≤ B ∧ B < F ∧ F ≤ 64 ∧ A + B ≤ F := by omega
  refine sp79 i1 (by omega) (by omega) (by omega) (zv4_45 ?_)
  have e33 : nI F * 33 + nI A = nI (F * 33 + A) := by rw [show (33 : Int32) = nI 33 from rfl, pk_mul, nI_add]
  have fin : ∀ w : Int64, (∀ i, i < 64 → zb w i = if i = B then v else zb (τ 4 (F * 33 + A)) i) →
      zRn (d + 2) 4 (61, [.ref 0, zJ, zJ, zJ, zJ, zJ, zJ, .int (bI (en u F A B))], [], (49, x, l, σ, zupL τ 4 (F * 33 + A) w, zrho)) Q := by
    intro w hw
    refine zv4_61 (sp24 (u := u) (u' := setE u F A B v) ⟨i1.1, i1.2.1, i1.2.2.1, fun f' a' b' h1 h2 h3 => ?_⟩ i2 i4 i5.1 i6 (fun σ' g hI' => zv4_65 ⟨bI_01 _, hq1 σ' _ g (fun b hb _ => ?_) hI'⟩))
    · show zb (vp_updL (τ 4) (F * 33 + A) w (f' * 33 + a')) b' = if f' = F ∧ a' = A ∧ b' = B then v else en u f' a' b'
      by_cases k : f' * 33 + a' = F * 33 + A
      · have k1 : f' = F := by omega
        have k2 : a' = A := by omega
        subst k1
        subst k2
        rw [pk_uLs, hw b' (by omega)]
        by_cases k3 : b' = B
        · rw [if_pos k3, if_pos ⟨rfl, rfl, k3⟩]
        · rw [if_neg k3, if_neg (fun q => k3 q.2.2)]
          exact i1.2.2.2 f' a' b' h1 h2 h3
      · rw [pk_uLn k, if_neg (fun q => k (by rw [q.1, q.2.1]))]
        exact i1.2.2.2 f' a' b' h1 h2 h3
    · rw [zupL_row]
      exact zrowL_ne _ _ (by omega)
  refine zv80_0 ?_
  rw [e33, nI_clamp (by omega), bI_0]
  refine ⟨fun q => ⟨vp_in_nI (by omega) (by decide), vp_in_nI (by omega) (by decide), fin _ (fun i hi => ?_)⟩, fun q => ⟨vp_in_nI (by omega) (by decide), vp_in_nI (by omega) (by decide), fin _ (fun i hi => ?_)⟩⟩
  · rw [zb_clr (by omega) _ hi, q]
    by_cases k : i = B
    · rw [if_pos k, decide_eq_true k]
      cases zb (τ 4 (F * 33 + A)) i <;> rfl
    · rw [if_neg k, decide_eq_false k]
      cases zb (τ 4 (F * 33 + A)) i <;> rfl
  · have q : v = true := by simpa using q
    rw [zb_set (by omega) _ hi, q]
    by_cases k : i = B
    · rw [if_pos k, decide_eq_true k]
      cases zb (τ 4 (F * 33 + A)) i <;> rfl
    · rw [if_neg k, decide_eq_false k]
      cases zb (τ 4 (F * 33 + A)) i <;> rfl
theorem sp116 {d x l : Nat} {σ : Nat → Nat → Int32} {τ : Nat → Nat → Int64} {Q : zR → Prop} {u : zRu} {e st pl s : Nat} {H : Nat → Nat → Nat} {f a b : Int} {v : Bool} (hI : RI u e st pl s H σ τ) (f1 : -2147483648 ≤ f) (f2 : f < 2147483648) (a1 : -2147483648 ≤ a) (a2 : a < 2147483648) (b1 : -2147483648 ≤ b) (b2 : b < 2147483648)
    (hq1 : isE f a b → ∀ σ', FR σ σ' → σ' 32 0 = nI 0 → RI (setE u f.toNat (min a b).toNat (max a b).toNat v) 0 st pl 0 H σ' τ → Q (.inl (some (.int (bI (en u f.toNat (min a b).toNat (max a b).toNat)))), (49, x, l, σ', τ, zrho)))
    (hq0 : ¬ isE f a b → Q (.inl (some (.int (0))), (49, x, l, zrow σ 32 (upd (σ 32) 0 (nI 1)), τ, zrho))) :
    zRn (d + 1) 116 (0, [.ref 32, .int (iI f), .int (iI a), .int (iI b), .int (bI v), zJ], [], (49, x, l, σ, τ, zrho)) Q := by
  have hI0 := RI_7 hI (zwf7_c (σ 32) 0)
  obtain ⟨i1, i2, i3, i4, i5⟩ := hI0
  have bad : ¬ isE f a b → zRn d 109 (0, [.ref 32, .int 1], [], (49, x, l, zrow σ 32 (upd (σ 32) 0 0), τ, zrho)) (zret (d + 1) 116 46 49 [zJ, zJ, zJ, zJ, zJ, zJ] [] Q) := by
    intro k
    refine zv109_0 (zv116_49 ⟨fun _ => ?_, fun c => absurd (by decide) c⟩)
    rw [zup_row, zrow_row, zrow_me, upd_upd]
    exact hq0 k
  have em : iI f - 1 = iI (f - 1) := by rw [show (1 : Int32) = iI 1 from rfl, iI_sub]
  refine zv116_0 ?_
  rw [zup_row]
  refine sp110 (a := f) (b := 1) (c := 64) f1 f2 (by omega) (by omega) (by omega) (by omega) (fun k1 k2 => zv116_12 ⟨fun q => absurd q (by decide), fun _ => ?_⟩) (fun k => zv116_12 ⟨fun _ => bad (by unfold isE; omega), fun q => absurd rfl q⟩)
  rw [em]
  refine sp110 (a := a) (b := 0) (c := f - 1) a1 a2 (by omega) (by omega) (by omega) (by omega) (fun k3 k4 => zv116_23 ⟨fun q => absurd q (by decide), fun _ => ?_⟩) (fun k => zv116_23 ⟨fun _ => bad (by unfold isE; omega), fun q => absurd rfl q⟩)
  rw [em]
  refine sp110 (a := b) (b := 0) (c := f - 1) b1 b2 (by omega) (by omega) (by omega) (by omega) (fun k5 k6 => zv116_34 ⟨fun q => absurd q (by decide), fun _ => ?_⟩) (fun k => zv116_34 ⟨fun _ => bad (by unfold isE; omega), fun q => absurd rfl q⟩)
  rw [iI_add, iI_leI (by omega) (by omega) f1 f2]
  refine ⟨fun k7 => ?_, fun k7 => bad (by unfold isE; omega)⟩
  have hq1 := hq1 (by unfold isE; omega)
  obtain ⟨F, hF⟩ : ∃ k : Nat, f = (k : Int) := ⟨f.toNat, by omega⟩
  obtain ⟨A, hA⟩ : ∃ k : Nat, a = (k : Int) := ⟨a.toNat, by omega⟩
  obtain ⟨B, hB⟩ : ∃ k : Nat, b = (k : Int) := ⟨b.toNat, by omega⟩
  subst hF
  subst hA
  subst hB
  rw [show ((F : Int)).toNat = F from rfl, show (min (A : Int) (B : Int)).toNat = min A B by omega, show (max (A : Int) (B : Int)).toNat = max A B by omega] at hq1
  rw [← nI_iI, ← nI_iI, ← nI_iI]
  have hb35 := i1.2.2.2 F (min A B) (max A B) (by omega) (by omega) (by omega)
  refine sp115 (by omega) (by omega) (by omega) (zv116_68 ⟨vp_in_nI (by omega) (by decide), ?_⟩)
  rw [nI_clamp (by omega)]
  have hb35' : (zrow σ 32 (upd (σ 32) 0 0)) 35 (4225 * F + 65 * min A B + max A B) = bI (en u F (min A B) (max A B)) := hb35
  rw [hb35']
  refine sp115 (by omega) (by omega) (by omega) (zv116_81 ⟨vp_in_nI (by omega) (by decide), bI_01 v, ?_⟩)
  rw [nI_clamp (by omega)]
  refine sp111 (u := u) (u' := setE u F (min A B) (max A B) v) (e := e) (st := st) (pl := pl) (H := H) ⟨i1.1, i1.2.1, i1.2.2.1, fun f' a' b' h1 h2 h3 => ?_⟩ i2 i3 i4 (fun σ' g f0 hI' => zv116_88 ⟨bI_01 _, hq1 σ' (((FR_row _ _ (by omega) (by omega)).trans (FR_up _ _ _ (by omega) (by omega))).trans g) ?_ hI'⟩)
  · show upd (σ 35) (4225 * F + 65 * min A B + max A B) (bI v) (4225 * f' + 65 * a' + b') = bI (if f' = F ∧ a' = min A B ∧ b' = max A B then v else en u f' a' b')
    have m1 : min A B ≤ 63 := by omega
    have m2 : max A B ≤ 63 := by omega
    generalize min A B = A2 at m1
    generalize max A B = B2 at m2
    by_cases k : 4225 * f' + 65 * a' + b' = 4225 * F + 65 * A2 + B2
    · have k1 : f' = F := by omega
      have k2 : a' = A2 := by omega
      have k3 : b' = B2 := by omega
      rw [upd_s k, if_pos ⟨k1, k2, k3⟩]
    · rw [pk_un k, if_neg (fun q => k (by rw [q.1, q.2.1, q.2.2]))]
      exact i1.2.2.2 f' a' b' h1 h2 h3
  · rw [f0]
    show upd (σ 32) 0 0 0 = nI 0
    rw [upd_s rfl]; rfl
