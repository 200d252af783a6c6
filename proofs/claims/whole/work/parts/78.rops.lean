/-! the reference's calls -/
theorem RI_n {u : zRu} {e e' st st' pl s : Nat} {H : Nat → Nat → Nat} {σ : Nat → Nat → Int32} {τ : Nat → Nat → Int64} {t a b : Nat → Int32} (h : RI u e st pl s H σ τ) (ht : zfrm zLn (σ 32) t) (hn : RN u e' st' t a b) : RI u e' st' pl s H (R3 σ t a b) τ := by
  have g : ∀ j, j ∉ zLn → t j = σ 32 j := ht
  obtain ⟨h1, h2, h3, h4, h5⟩ := h
  unfold RR at h1
  unfold RS at h3
  unfold RF RFk at h4
  unfold RQc RQ RQe at h5
  rw [← g 1 (by decide)] at h1
  rw [← g 13 (by decide)] at h3
  rw [← g 15 (by decide), ← g 16 (by decide)] at h4
  rw [← g 15 (by decide), ← g 22 (by decide), ← g 23 (by decide), ← g 25 (by decide)] at h5
  exact ⟨h1, hn, h3, h4, h5⟩
theorem RI_p {u : zRu} {e st pl pl' s : Nat} {H H' : Nat → Nat → Nat} {σ : Nat → Nat → Int32} {τ : Nat → Nat → Int64} {t b c : Nat → Int32} (h : RI u e st pl s H σ τ) (ht : zfrm zLp (σ 32) t) (hs : RS H' pl' t b c) : RI u e st pl' s H' (R4 σ t b c) τ := by
  have g : ∀ j, j ∉ zLp → t j = σ 32 j := ht
  obtain ⟨h1, h2, h3, h4, h5⟩ := h
  unfold RR at h1
  unfold RN at h2
  unfold RF RFk at h4
  unfold RQc RQ RQe at h5
  rw [← g 1 (by decide)] at h1
  rw [← g 5 (by decide), ← g 8 (by decide)] at h2
  rw [← g 15 (by decide), ← g 16 (by decide)] at h4
  rw [← g 15 (by decide), ← g 22 (by decide), ← g 23 (by decide), ← g 25 (by decide)] at h5
  exact ⟨h1, h2, hs, h4, h5⟩
theorem FR_R3 (σ : Nat → Nat → Int32) (t a b : Nat → Int32) : FR σ (R3 σ t a b) := ((FR_row _ _ (by omega) (by omega)).trans (FR_row _ _ (by omega) (by omega))).trans (FR_row _ _ (by omega) (by omega))
theorem FR_R4 (σ : Nat → Nat → Int32) (t a b : Nat → Int32) : FR σ (R4 σ t a b) := ((FR_row _ _ (by omega) (by omega)).trans (FR_row _ _ (by omega) (by omega))).trans (FR_row _ _ (by omega) (by omega))
theorem z7c {s : Nat → Int32} {t : Nat → Int32} (h : zwf6 (upd s 0 0) t) : zwf7 s t := fun j h0 h1 h2 h3 h4 h5 h6 => (h j h1 h2 h3 h4 h5 h6).trans (pk_un h0)
theorem sp128 {d x l : Nat} {σ : Nat → Nat → Int32} {τ : Nat → Nat → Int64} {Q : zR → Prop} {u : zRu} {i : Int} (hu : zRok u) (hr : RR u (σ 32) (σ 33) (σ 34) (σ 35)) (b1 : -2147483648 ≤ i) (b2 : i < 2147483648)
    (hq1 : ∀ n : Nat, i = (n : Int) → n ≤ far u → ∀ t, zwf7 (σ 32) t → t 0 = nI 0 → Q (.inl (some (.int (nI (opts u n).length))), (49, x, l, zrow σ 32 t, τ, zrho)))
    (hq0 : ¬ (0 ≤ i ∧ i ≤ far u) → ∀ t, zwf7 (σ 32) t → t 0 = nI 1 → Q (.inl (some (.int (0))), (49, x, l, zrow σ 32 t, τ, zrho))) :
    zRn (d + 4) 128 (0, [.ref 32, .int (iI i)], [], (49, x, l, σ, τ, zrho)) Q := by
  refine zv128_0 ?_
  rw [zup_row]
  refine sp125 (d := d + 2) hu (zwf7_RR zfrm_0 hr) b1 b2 (fun k1 k2 => zv128_10 ⟨fun q => absurd q (by decide), fun _ => ?_⟩) (fun k => zv128_10 ⟨fun _ => zv109_0 (zv128_26 ?_), fun q => absurd rfl q⟩)
  · obtain ⟨n, hn⟩ : ∃ y : Nat, i = (y : Int) := ⟨i.toNat, by omega⟩
    rw [hn, ← nI_iI]
    have h8 := far_8 (u := u) (h := n) (by omega)
    refine sp126 (d := d) hu (zwf7_RR zfrm_0 hr) h8.1 (fun t ht => zv128_18 (zv128_26 ?_))
    rw [zrow_row]
    rw [zrow_me] at ht
    refine hq1 n hn (by omega) t (z7c ht) ?_
    rw [ht 0 (by decide) (by decide) (by decide) (by decide) (by decide) (by decide), upd_s rfl]; rfl
  · rw [zup_row, zrow_row, zrow_me, upd_upd]
    exact hq0 k _ (zwf7_c _ _) (upd_s rfl)
theorem sp130 {d x l : Nat} {σ : Nat → Nat → Int32} {τ : Nat → Nat → Int64} {Q : zR → Prop} {u : zRu} {i j k : Int} (hu : zRok u) (hr : RR u (σ 32) (σ 33) (σ 34) (σ 35)) (b1 : -2147483648 ≤ i) (b2 : i < 2147483648) (c1 : -2147483648 ≤ j) (c2 : j < 2147483648) (d1 : -2147483648 ≤ k) (d2 : k < 2147483648)
    (hq1 : ∀ (n m w : Nat) o, i = (n : Int) → n ≤ far u → j = (m : Int) → k = (w : Int) → w ≤ 2 → (opts u n)[m]? = some o → ∀ t, zwf7 (σ 32) t → t 0 = nI 0 → Q (.inl (some (.int (nI (rt o w)))), (49, x, l, zrow σ 32 t, τ, zrho)))
    (hq0 : ¬ (0 ≤ i ∧ i ≤ far u) → ∀ t, zwf7 (σ 32) t → t 0 = nI 1 → Q (.inl (some (.int (0))), (49, x, l, zrow σ 32 t, τ, zrho)))
    (hq2 : ∀ n : Nat, i = (n : Int) → n ≤ far u → (¬ (0 ≤ k ∧ k ≤ 2) ∨ j < 0 ∨ ∃ m : Nat, j = (m : Int) ∧ (opts u n)[m]? = none) → ∀ t, zwf7 (σ 32) t → t 0 = nI 2 → Q (.inl (some (.int (0))), (49, x, l, zrow σ 32 t, τ, zrho))) :
    zRn (d + 4) 130 (0, [.ref 32, .int (iI i), .int (iI j), .int (iI k)], [], (49, x, l, σ, τ, zrho)) Q := by
  refine zv130_0 ?_
  rw [zup_row]
  refine sp125 (d := d + 2) hu (zwf7_RR zfrm_0 hr) b1 b2 (fun k1 k2 => zv130_10 ⟨fun _ => ?_, fun q => absurd (by decide) q⟩) (fun k => zv130_10 ⟨fun q => absurd rfl q, fun _ => zv109_0 (zv130_18 ?_)⟩)
  · obtain ⟨n, hn⟩ : ∃ y : Nat, i = (y : Int) := ⟨i.toNat, by omega⟩
    have hnf : n ≤ far u := by omega
    have h8 := far_8 (u := u) (h := n) hnf
    rw [show (iI j < 0) = (j < 0) from iI_ltI (b := 0) c1 c2 (by omega) (by omega)]
    refine ⟨fun q => zv109_0 (zv130_46 ?_), fun q => ?_⟩
    · rw [zup_row, zrow_row, zrow_me, upd_upd]
      exact hq2 n hn hnf (by omega) _ (zwf7_c _ _) (upd_s rfl)
    · refine sp110 (a := k) (b := 0) (c := 2) d1 d2 (by omega) (by omega) (by omega) (by omega) (fun k3 k4 => zv130_29 ⟨fun q => absurd q (by decide), fun _ => ?_⟩) (fun k3 => zv130_29 ⟨fun _ => zv109_0 (zv130_46 ?_), fun q => absurd rfl q⟩)
      · obtain ⟨m, hm⟩ : ∃ y : Nat, j = (y : Int) := ⟨j.toNat, by omega⟩
        obtain ⟨w, hw⟩ : ∃ y : Nat, k = (y : Int) := ⟨k.toNat, by omega⟩
        rw [hn, hm, hw, ← nI_iI, ← nI_iI, ← nI_iI]
        refine sp127 (d := d) hu (zwf7_RR zfrm_0 hr) h8.1 (by omega) (fun t o ht ho e9 e10 e11 => zv130_38 ⟨fun _ => ?_, fun q => absurd (by decide) q⟩) (fun t ht ho => zv130_38 ⟨fun q => absurd rfl q, fun _ => zv109_0 (zv130_46 ?_)⟩)
        · have hob := opt_bd hu (List.mem_of_getElem? ho)
          rw [zrow_me] at ht
          rw [zrow_row]
          refine sp129 (o := o) (w := w) (by omega) e9 e10 e11 (by omega) (by omega) (by omega) (zv130_52 ?_)
          refine hq1 n m w o hn hnf hm hw (by omega) ho t (z7c ht) ?_
          rw [ht 0 (by decide) (by decide) (by decide) (by decide) (by decide) (by decide), upd_s rfl]; rfl
        · rw [zrow_me] at ht
          rw [zup_row, zrow_row, zrow_row, zrow_me]
          exact hq2 n hn hnf (Or.inr (Or.inr ⟨m, hm, ho⟩)) _ (zwf7_0 (z7c ht)) (upd_s rfl)
      · rw [zup_row, zrow_row, zrow_me, upd_upd]
        exact hq2 n hn hnf (by omega) _ (zwf7_c _ _) (upd_s rfl)
  · rw [zup_row, zrow_row, zrow_me, upd_upd]
    exact hq0 k _ (zwf7_c _ _) (upd_s rfl)
theorem sp133 {d x l : Nat} {σ : Nat → Nat → Int32} {τ : Nat → Nat → Int64} {Q : zR → Prop} {u : zRu} {e st : Nat} {i : Int} (hn : RN u e st (σ 32) (σ 36) (σ 37)) (b1 : -2147483648 ≤ i) (b2 : i < 2147483648)
    (hq1 : ∀ n : Nat, i = (n : Int) → n ≤ e → ∀ t, zwf7 (σ 32) t → t 0 = nI 0 → Q (.inl (some (.int (nI (gn u n)))), (49, x, l, zrow σ 32 t, τ, zrho)))
    (hq0 : ¬ (0 ≤ i ∧ i ≤ e) → ∀ t, zwf7 (σ 32) t → t 0 = nI 1 → Q (.inl (some (.int (0))), (49, x, l, zrow σ 32 t, τ, zrho))) :
    zRn (d + 1) 133 (0, [.ref 32, .int (iI i)], [], (49, x, l, σ, τ, zrho)) Q := by
  obtain ⟨n1, n2, n3, n4, n5⟩ := hn
  refine zv133_0 ?_
  rw [zup_row, n1, nI_iI e]
  refine sp110 (a := i) (b := 0) (c := (e : Int)) b1 b2 (by omega) (by omega) (by omega) (by omega) (fun k1 k2 => zv133_14 ⟨fun q => absurd q (by decide), fun _ => ?_⟩) (fun k => zv133_14 ⟨fun _ => zv109_0 (zv133_31 ?_), fun q => absurd rfl q⟩)
  · obtain ⟨n, hn⟩ : ∃ y : Nat, i = (y : Int) := ⟨i.toNat, by omega⟩
    rw [hn, ← nI_iI, nI_clamp (by omega)]
    refine ⟨vp_in_nI (by omega) (by decide), zv133_31 ?_⟩
    show Q (.inl (some (.int (σ 36 n))), _)
    rw [n3 n (by omega)]
    exact hq1 n hn (by omega) _ (zwf7_c _ _) (upd_s rfl)
  · rw [zup_row, zrow_row, zrow_me, upd_upd]
    exact hq0 k _ (zwf7_c _ _) (upd_s rfl)
theorem sp134 {d x l : Nat} {σ : Nat → Nat → Int32} {τ : Nat → Nat → Int64} {Q : zR → Prop} {u : zRu} {e st : Nat} {a : Int32} (hn : RN u e st (σ 32) (σ 36) (σ 37)) (hq : ∀ t, zwf7 (σ 32) t → t 0 = nI 0 → Q (.inl (some (.int (nI (cntI (gn u) a (e + 1))))), (49, x, l, zrow σ 32 t, τ, zrho))) :
    zRn d 134 (0, [.ref 32, .int a, zJ, zJ], [], (49, x, l, σ, τ, zrho)) Q := by
  obtain ⟨n1, n2, n3, n4, n5⟩ := hn
  refine zv134_0 ?_
  rw [zup_row]
  have n1' : (zrow σ 32 (upd (σ 32) 0 0)) 32 5 = nI e := by rw [zrow_me, pk_un (by decide)]; exact n1
  have key : ∀ n k, k + n = e + 1 → zRn d 134 (9, [.ref 32, .int a, .int (nI (cntI (gn u) a k)), .int (nI k)], [], (49, x, l, zrow σ 32 (upd (σ 32) 0 0), τ, zrho)) Q := by
    intro n
    induction n with
    | zero =>
      intro k hk
      refine zv134_9 ⟨fun _ => ?_, fun c => ?_⟩
      · rw [show k = e + 1 by omega]; exact hq _ (zwf7_c _ _) (upd_s rfl)
      · rw [n1', nI_ltI (by omega) (by omega)] at c; omega
    | succ n ih =>
      intro k hk
      refine zv134_9 ⟨fun c => ?_, fun _ => ⟨vp_in_nI (by omega) (by decide), ?_⟩⟩
      · rw [n1', nI_ltI (by omega) (by omega)] at c; omega
      · rw [nI_clamp (by omega), show (zrow σ 32 (upd (σ 32) 0 0)) 36 k = nI (gn u k) from n3 k (by omega), nI_1]
        have := ih (k + 1) (by omega)
        refine ⟨fun c => ?_, fun c => ?_⟩
        · rw [show nI (cntI (gn u) a k) + 0 = nI (cntI (gn u) a (k + 1)) from by
            show _ = nI (cntI (gn u) a k + if nI (gn u k) = a then 1 else 0)
            rw [if_neg c]; exact nI_add _ 0]
          exact this
        · rw [show nI (cntI (gn u) a k) + 1 = nI (cntI (gn u) a (k + 1)) from by
            show _ = nI (cntI (gn u) a k + if nI (gn u k) = a then 1 else 0)
            rw [if_pos (Classical.not_not.1 c)]; exact nI_1 _]
          exact this
  exact key (e + 1) 0 (by omega)
theorem sp138 {d x l : Nat} {σ : Nat → Nat → Int32} {τ : Nat → Nat → Int64} {Q : zR → Prop} {H : Nat → Nat → Nat} {pl : Nat} {i j : Int} (hs : RS H pl (σ 32) (σ 38) (σ 39)) (b1 : -2147483648 ≤ i) (b2 : i < 2147483648) (c1 : -2147483648 ≤ j) (c2 : j < 2147483648)
    (hq1 : ∀ p v : Nat, i = (p : Int) → p < 16 → j = (v : Int) → v ≤ 2000 → ∀ t b, zfrm zLp (σ 32) t → t 0 = nI 0 → RS (Hp (H pl) p v) 0 t b (σ 39) → Q (.inl (some (.int (nI (H pl p)))), (49, x, l, R4 σ t b (σ 39), τ, zrho)))
    (hq0 : ¬ (0 ≤ i ∧ i ≤ 15) → ∀ t, zwf7 (σ 32) t → t 0 = nI 1 → Q (.inl (some (.int (0))), (49, x, l, zrow σ 32 t, τ, zrho)))
    (hq2 : (0 ≤ i ∧ i ≤ 15) → ¬ (0 ≤ j ∧ j ≤ 2000) → ∀ t, zwf7 (σ 32) t → t 0 = nI 2 → Q (.inl (some (.int (0))), (49, x, l, zrow σ 32 t, τ, zrho))) :
    zRn (d + 1) 138 (0, [.ref 32, .int (iI i), .int (iI j), zJ], [], (49, x, l, σ, τ, zrho)) Q := by
  refine zv138_0 ?_
  rw [zup_row]
  refine sp110 (a := i) (b := 0) (c := 15) b1 b2 (by omega) (by omega) (by omega) (by omega) (fun k1 k2 => zv138_12 ⟨fun _ => ?_, fun q => absurd (by decide) q⟩) (fun k => zv138_12 ⟨fun q => absurd rfl q, fun _ => zv109_0 (zv138_20 ?_)⟩)
  · refine sp110 (a := j) (b := 0) (c := 2000) c1 c2 (by omega) (by omega) (by omega) (by omega) (fun k3 k4 => zv138_29 ⟨fun _ => ?_, fun q => absurd (by decide) q⟩) (fun k => zv138_29 ⟨fun q => absurd rfl q, fun _ => zv109_0 (zv138_37 ?_)⟩)
    · obtain ⟨p, hp⟩ : ∃ y : Nat, i = (y : Int) := ⟨i.toNat, by omega⟩
      obtain ⟨v, hv⟩ : ∃ y : Nat, j = (y : Int) := ⟨j.toNat, by omega⟩
      rw [hp, hv, ← nI_iI, ← nI_iI, nI_clamp (by omega), show (zrow σ 32 (upd (σ 32) 0 0)) 38 p = nI (H pl p) from hs.2.1 p (by omega)]
      refine ⟨vp_in_nI (by omega) (by decide), vp_in_nI (by omega) (by decide), ?_⟩
      have e : zup (zup (zrow σ 32 (upd (σ 32) 0 0)) 38 p (nI v)) 32 13 0 = R4 σ (upd (upd (σ 32) 0 0) 13 0) (upd (σ 38) p (nI v)) (σ 39) := by
        rw [zup_row, zup_row]
        unfold R4
        rw [zrow_id, zrow_sw σ _ _ (show (32 : Nat) ≠ 38 by decide), zrow_row]
        rfl
      rw [e]
      refine hq1 p v hp (by omega) hv (by omega) _ _ (fun j hj => ?_) ?_ ⟨?_, fun k hk => ?_, fun i' k hi => absurd hi (by omega)⟩
      · rw [pk_un (fun q => hj (by rw [q]; decide)), pk_un (fun q => hj (by rw [q]; decide))]
      · rw [pk_un (by decide), upd_s rfl]; rfl
      · rw [upd_s rfl]; rfl
      · exact z_upd (σ 38) (H pl) 16 p v hs.2.1 k hk
    · rw [zup_row, zrow_row, zrow_me, upd_upd]
      exact hq2 ⟨k1, k2⟩ k _ (zwf7_c _ _) (upd_s rfl)
  · rw [zup_row, zrow_row, zrow_me, upd_upd]
    exact hq0 k _ (zwf7_c _ _) (upd_s rfl)
theorem sp139 {d x l : Nat} {σ : Nat → Nat → Int32} {τ : Nat → Nat → Int64} {Q : zR → Prop} {H : Nat → Nat → Nat} {pl : Nat} {i : Int} (hs : RS H pl (σ 32) (σ 38) (σ 39)) (b1 : -2147483648 ≤ i) (b2 : i < 2147483648)
    (hq1 : ∀ p : Nat, i = (p : Int) → p < 16 → ∀ t, zwf7 (σ 32) t → t 0 = nI 0 → Q (.inl (some (.int (nI (H pl p)))), (49, x, l, zrow σ 32 t, τ, zrho)))
    (hq0 : ¬ (0 ≤ i ∧ i ≤ 15) → ∀ t, zwf7 (σ 32) t → t 0 = nI 1 → Q (.inl (some (.int (0))), (49, x, l, zrow σ 32 t, τ, zrho))) :
    zRn (d + 1) 139 (0, [.ref 32, .int (iI i)], [], (49, x, l, σ, τ, zrho)) Q := by
  refine zv139_0 ?_
  rw [zup_row]
  refine sp110 (a := i) (b := 0) (c := 15) b1 b2 (by omega) (by omega) (by omega) (by omega) (fun k1 k2 => zv139_12 ⟨fun q => absurd q (by decide), fun _ => ?_⟩) (fun k => zv139_12 ⟨fun _ => zv109_0 (zv139_29 ?_), fun q => absurd rfl q⟩)
  · obtain ⟨p, hp⟩ : ∃ y : Nat, i = (y : Int) := ⟨i.toNat, by omega⟩
    rw [hp, ← nI_iI, nI_clamp (by omega), show (zrow σ 32 (upd (σ 32) 0 0)) 38 p = nI (H pl p) from hs.2.1 p (by omega)]
    exact ⟨vp_in_nI (by omega) (by decide), zv139_29 (hq1 p hp (by omega) _ (zwf7_c _ _) (upd_s rfl))⟩
  · rw [zup_row, zrow_row, zrow_me, upd_upd]
    exact hq0 k _ (zwf7_c _ _) (upd_s rfl)
theorem sp164 {d x l : Nat} {σ : Nat → Nat → Int32} {τ : Nat → Nat → Int64} {Q : zR → Prop} {u : zRu} {e st pl s : Nat} {H : Nat → Nat → Nat} {i : Int} (hu : zRok u) (hI : RI u e st pl s H σ τ) (hb : ∀ k, k < 16 → H pl k ≤ 2000) (b1 : -2147483648 ≤ i) (b2 : i < 2147483648)
    (hq : ∀ t, zwf7 (σ 32) t → t 0 = nI 0 → Q (.inl (some (.int (cnV u e pl s (H pl) (if s = 0 then -1 else σ 32 25) i))), (49, x, l, zrow σ 32 t, τ, zrho))) :
    zRn (d + 1) 164 (0, [.ref 32, .int (iI i), zJ, zJ], [], (49, x, l, σ, τ, zrho)) Q := by
  have hq := hq _ (zwf7_c _ 0) (upd_s rfl)
  have hI0 := RI_7 hI (zwf7_c (σ 32) 0)
  obtain ⟨i1, ⟨n1, n2, n3, n4, n5⟩, i3, i4, i5⟩ := hI0
  have e25 : (zrow σ 32 (upd (σ 32) 0 0)) 32 25 = σ 32 25 := by rw [zrow_me, pk_un (by decide)]
  unfold cnV at hq
  refine zv164_0 ?_
  rw [zup_row]
  refine sp110 (a := i) (b := 0) (c := 4) b1 b2 (by omega) (by omega) (by omega) (by omega) (fun k1 k2 => zv164_11 ⟨fun _ => ?_, fun q => absurd (by decide) q⟩) (fun k => zv164_11 ⟨fun q => absurd rfl q, fun _ => ?_⟩)
  · rw [show (2 ≤ iI i) = (2 ≤ i) from iI_leI (a := 2) (by omega) (by omega) b1 b2, show (iI i = 3) = (i = 3) from iI_eqI (b := 3) b1 b2 (by omega) (by omega), show (iI i = 4) = (i = 4) from iI_eqI (b := 4) b1 b2 (by omega) (by omega), show (iI i = 0) = (i = 0) from iI_eqI (b := 0) b1 b2 (by omega) (by omega), i5.2.1, show (nI s = 0) = (s = 0) from nI_q0 (by have := i5.1; omega)]
    refine ⟨fun c => ⟨fun c2 => ⟨fun c3 => ?_, fun c3 => ⟨fun c4 => ?_, fun c4 => ?_⟩⟩, fun c2 => ?_⟩, fun c => ⟨fun c2 => ?_, fun c2 => ?_⟩⟩
    · rw [if_neg (by omega), if_neg (by omega), if_pos (by omega)] at hq
      have key : ∀ n k, k + n = 16 → zRn (d + 1) 164 (72, [.ref 32, zJ, .int (nI (nz (H pl) k)), .int (nI k)], [], (49, x, l, zrow σ 32 (upd (σ 32) 0 0), τ, zrho)) Q := by
        intro n
        induction n with
        | zero =>
          intro k hk
          have hk : k = 16 := by omega
          subst hk
          exact zv164_72 ⟨fun _ => hq, fun c => absurd (by decide) c⟩
        | succ n ih =>
          intro k hk
          have hbk := hb k (by omega)
          refine zv164_72 ⟨fun c => ?_, fun _ => ⟨vp_in_nI (by omega) (by decide), ?_⟩⟩
          · simp (disch := omega) only [zlit, nI_leI, nI_ltI, nI_eq, nI_clamp, nI_add, pk_mul, pk_sub, pk_div] at c; omega
          · rw [nI_clamp (by omega), i3.2.1 k (by omega), show (nI (H pl k) ≤ 0) = (H pl k ≤ 0) from nI_leE (b := 0) (by omega) (by omega), nI_1]
            have := ih (k + 1) (by omega)
            refine ⟨fun c => ?_, fun c => ?_⟩
            · rw [show nI (nz (H pl) k) + 0 = nI (nz (H pl) (k + 1)) from by
                show _ = nI (nz (H pl) k + if H pl k = 0 then 0 else 1)
                rw [if_pos (by omega)]; exact nI_add _ 0]
              exact this
            · rw [show nI (nz (H pl) k) + 1 = nI (nz (H pl) (k + 1)) from by
                show _ = nI (nz (H pl) k + if H pl k = 0 then 0 else 1)
                rw [if_neg (by omega)]; exact nI_1 _]
              exact this
      exact key 16 0 (by omega)
    · rw [if_neg (by omega), if_neg (by omega), if_neg (by omega), if_neg (by omega), if_pos (by omega), if_neg c4] at hq
      rw [e25]; exact hq
    · rw [if_neg (by omega), if_neg (by omega), if_neg (by omega), if_neg (by omega), if_pos (by omega), if_pos (Classical.not_not.1 c4)] at hq
      exact hq
    · rw [if_neg (by omega), if_neg (by omega), if_neg (by omega), if_pos (by omega)] at hq
      rw [i3.1]; exact hq
    · rw [if_neg (by omega), if_pos (by omega)] at hq
      exact sp132 hu n1 n2 n3 (zv164_36 hq)
    · rw [if_pos (by omega)] at hq
      rw [n1]; exact zv164_36 hq
  · rw [if_neg (by omega), if_neg (by omega), if_neg (by omega), if_neg (by omega), if_neg (by omega)] at hq
    exact hq
