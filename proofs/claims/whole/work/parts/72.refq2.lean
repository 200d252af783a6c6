/-! the reference: quotient, classOf, ofClass -/
theorem upd_upd {f : Nat → Int32} {k : Nat} {v w : Int32} : upd (upd f k v) k w = upd f k w := by
  funext j
  by_cases c : j = k
  · rw [upd_s c, upd_s c]
  · rw [pk_un c, pk_un c, pk_un c]
theorem sp160 {d x l : Nat} {σ : Nat → Nat → Int32} {τ : Nat → Nat → Int64} {Q : zR → Prop} {u : zRu} {W : Nat → Nat → Bool} {i : Int} (hu : zRok u) (hW : ∀ q t, W q t = true ↔ Wn u (cq q t)) (hr : RR u (σ 32) (σ 33) (σ 34) (σ 35)) (hf : RF u (σ 32) (τ 40) (σ 41) (σ 42) (σ 43)) (b1 : -2147483648 ≤ i) (b2 : i < 2147483648)
    (hq1 : ∀ s : Nat, i = (s : Int) → 1 ≤ s → s ≤ 3 → ∀ σ' t, KQ σ σ' → σ' 32 0 = nI 0 → σ' 32 15 = 1 → RFk u (σ' 32) t (σ' 41) (σ' 42) → RQ W s (σ' 32) (σ' 45) (σ' 46) → Q (.inl (some (.int (nI (cn (eqF (fun k t => W (ixd s k) (ixd s t)) (tS s)) (nS s))))), (49, x, l, σ', zrowL τ 40 t, zrho)))
    (hq0 : ¬ (1 ≤ i ∧ i ≤ 3) → Q (.inl (some (.int (0))), (49, x, l, zrow σ 32 (upd (σ 32) 0 (nI 1)), τ, zrho))) :
    zRn (d + 5) 160 (0, [.ref 32, .int (iI i), zJ, zJ, zJ], [], (49, x, l, σ, τ, zrho)) Q := by
  have up : ∀ j, j ≠ 0 → (zrow σ 32 (upd (σ 32) 0 0)) 32 j = σ 32 j := fun j e => by rw [zrow_me, pk_un e]
  have hr' : RR u ((zrow σ 32 (upd (σ 32) 0 0)) 32) (σ 33) (σ 34) (σ 35) := ⟨(up 1 (by decide)).trans hr.1, hr.2⟩
  have hf' : RF u ((zrow σ 32 (upd (σ 32) 0 0)) 32) (τ 40) (σ 41) (σ 42) (σ 43) := by
    unfold RF RFk at hf ⊢
    rw [up 15 (by decide), up 16 (by decide)]
    exact hf
  refine zv160_0 ?_
  rw [zup_row]
  refine sp110 (a := i) (b := 1) (c := 3) b1 b2 (by omega) (by omega) (by omega) (by omega) (fun k1 k2 => zv160_11 ⟨fun _ => ?_, fun c => absurd (by decide) c⟩) (fun k => zv160_11 ⟨fun c => absurd rfl c, fun _ => zv109_0 (zv160_19 ?_)⟩)
  · obtain ⟨s, hs⟩ : ∃ s : Nat, i = (s : Int) := ⟨i.toNat, by omega⟩
    rw [hs, ← nI_iI]
    refine sp154 (d := d) hu hr' hf' (fun σ1 t f1 g15 gk => zv160_24 ?_)
    refine sp157 (d := d + 2) (s := s) (by omega) (by omega) (fun σ2 f2 f2' e23 e24 hmd => zv160_29 ?_)
    rw [zup_row, zup_row, zrow_row, zrow_me]
    have h32 : ∀ j, j ≠ 22 → j ≠ 25 → j ≠ 23 → j ≠ 24 → upd (upd (σ2 32) 22 (nI s)) 25 0 j = σ1 32 j := fun j j1 j2 j3 j4 => by rw [pk_un j2, pk_un j1, f2' j j3 j4]
    have h43 : R43 (σ2 43) := by rw [f2 43 (by decide) (by decide), f1.1 43 (by decide) (by decide) (by decide) (by decide)]; exact hf.1
    have hk2 : RFk u (upd (upd (σ2 32) 22 (nI s)) 25 0) t (σ2 41) (σ2 42) := by
      rw [f2 41 (by decide) (by decide), f2 42 (by decide) (by decide)]
      exact ⟨(h32 16 (by decide) (by decide) (by decide) (by decide)).trans gk.1, gk.2⟩
    refine quot_loop (d := d + 2) (u := u) (s := s) (W := W) hu hW (by omega) (by omega) h43 (by rw [zrow_me, zrowL_me]; exact hk2) (by rw [zrow_me, pk_un (by decide), upd_s rfl]) (by rw [zrow_me, pk_un (by decide), pk_un (by decide)]; exact e23) (by rw [zrow_me, pk_un (by decide), pk_un (by decide)]; exact e24) (by rw [zrow_me, upd_s rfl]; rfl) hmd (fun f g h hh hQ => ?_)
    have hh' : ∀ j, j ≠ 22 → j ≠ 25 → j ≠ 23 → j ≠ 24 → h j = σ1 32 j := fun j j1 j2 j3 j4 => by rw [hh j j2, zrow_me]; exact h32 j j1 j2 j3 j4
    refine hq1 s hs (by omega) (by omega) _ t ⟨fun b b1 b2 b3 b4 b5 b6 b7 => ?_, fun j j1 j2 j3 j4 j5 j6 j7 j8 j9 j10 j11 j12 j13 => ?_⟩ ?_ ?_ ?_ hQ
    · unfold Z3
      rw [zrow_ne _ _ b1, zrow_ne _ _ b6, zrow_ne _ _ b7, zrow_ne _ _ b1, f2 b b1 b5, f1.1 b b1 b2 b3 b4, zrow_ne _ _ b1]
    · show h j = _
      rw [hh' j j10 j13 j11 j12, f1.2 j j1 j2 j3 j4 j5 j6 j7 j8]
      exact up j j9
    · show h 0 = _
      rw [hh' 0 (by decide) (by decide) (by decide) (by decide), f1.2 0 (by decide) (by decide) (by decide) (by decide) (by decide) (by decide) (by decide) (by decide), zrow_me, upd_s rfl]
      rfl
    · show h 15 = _
      rw [hh' 15 (by decide) (by decide) (by decide) (by decide)]
      exact g15
    · refine ⟨?_, hk2.2⟩
      show h 16 = _
      rw [hh' 16 (by decide) (by decide) (by decide) (by decide)]
      exact gk.1
  · rw [zup_row, zrow_row, zrow_me, upd_upd]
    exact hq0 k
theorem sp162_0 {d x l : Nat} {σ : Nat → Nat → Int32} {τ : Nat → Nat → Int64} {Q : zR → Prop} (h22 : σ 32 22 = nI 0) (hq : Q (.inl (some (.int (0))), (49, x, l, zrow σ 32 (upd (σ 32) 0 (nI 1)), τ, zrho))) :
    zRn (d + 1) 162 (0, [.ref 32, zJ, zJ, zJ, zJ], [], (49, x, l, σ, τ, zrho)) Q := by
  refine zv162_0 ⟨fun c => absurd h22 c, fun _ => zv109_0 (zv162_17 ?_)⟩
  rw [zup_row, zup_row, zrow_row, zrow_me, upd_upd]
  exact hq
theorem sp162 {d x l : Nat} {σ : Nat → Nat → Int32} {τ : Nat → Nat → Int64} {Q : zR → Prop} {s : Nat} {hp : Nat → Nat} {W : Nat → Nat → Bool} (h1 : 1 ≤ s) (h3 : s ≤ 3) (hQ : RQ W s (σ 32) (σ 45) (σ 46)) (h43 : R43 (σ 43)) (hh : ∀ k, k < 16 → σ 38 k = nI (hp k)) (hb : ∀ k, k < 16 → hp k ≤ 2000)
    (hq1 : ∀ q, CO s hp q → Q (.inl (some (.int (nI (cl (eqF (fun k t => W (ixd s k) (ixd s t)) (tS s)) (rkS s q))))), (49, x, l, zrow σ 32 (upd (σ 32) 0 (nI 0)), τ, zrho)))
    (hq0 : (∀ q, ¬ CO s hp q) → Q (.inl (some (.int (0))), (49, x, l, zrow σ 32 (upd (σ 32) 0 (nI 2)), τ, zrho))) :
    zRn (d + 3) 162 (0, [.ref 32, zJ, zJ, zJ, zJ], [], (49, x, l, σ, τ, zrho)) Q := by
  obtain ⟨r1, r2, r3, r4, r5⟩ := hQ
  have e22 : (zrow σ 32 (upd (σ 32) 0 0)) 32 22 = nI s := by rw [zrow_me, pk_un (by decide)]; exact r1
  have e23 : (zrow σ 32 (upd (σ 32) 0 0)) 32 23 = nI (nS s) := by rw [zrow_me, pk_un (by decide)]; exact r2
  refine zv162_0 ⟨fun _ => ?_, fun c => ?_⟩
  · rw [zup_row]
    have key : ∀ n k, k + n = 16 → (∀ j, j < k → hp j ≤ s) → zRn (d + 3) 162 (25, [.ref 32, .long (lN (ksh hp k)), zJ, .int (nI (nz hp k)), .int (nI k)], [], (49, x, l, zrow σ 32 (upd (σ 32) 0 0), τ, zrho)) Q := by
      intro n
      induction n with
      | zero =>
        intro k hk hs
        have hk : k = 16 := by omega
        subst hk
        have hnz := nz_le hp 16
        refine zv162_25 ⟨fun _ => ⟨fun c => ?_, fun c => ?_⟩, fun c => absurd (by decide) c⟩
        · simp (disch := omega) only [zlit, nI_leI, nI_ltI, nI_eq, nI_clamp, nI_add, pk_mul, pk_sub, pk_div] at c
          obtain ⟨q, hc⟩ := co_ex h3 hs c
          have hr := ix_rk s (by omega) h1 q hc.1 (inS_iff.2 ⟨hc.2.2.2.2.1, hc.2.2.2.2.2.1⟩)
          have hn := (ix_n s (by omega) h1).1
          rw [co_key hc, ← hr.2]
          refine sp161 (s := s) (j0 := rkS s q) h1 h3 hr.1 e23 h43 r4 (zv162_112 ?_)
          rw [nI_clamp (by omega)]
          refine ⟨vp_in_nI (by omega) (by decide), ?_⟩
          show Q (.inl (some (.int (σ 46 (rkS s q)))), _)
          rw [r5 _ hr.1]
          exact hq1 q hc
        · simp (disch := omega) only [zlit, nI_leI, nI_ltI, nI_eq, nI_clamp, nI_add, pk_mul, pk_sub, pk_div] at c
          refine zv109_0 (zv162_100 ?_)
          rw [zup_row, zrow_row, zrow_me, upd_upd]
          exact hq0 (fun q hc => c (co_le hc h1).2)
      | succ n ih =>
        intro k hk hs
        have hbk := hb k (by omega)
        have e38 : (zrow σ 32 (upd (σ 32) 0 0)) 38 ((nI k).toNatClampNeg) = nI (hp k) := by
          rw [nI_clamp (by omega)]
          exact hh k (by omega)
        have hnz := nz_le hp k
        refine zv162_25 ⟨fun c => ?_, fun _ => ⟨vp_in_nI (by omega) (by decide), fun c => ⟨vp_in_nI (by omega) (by decide), ?_⟩, fun c => ?_⟩⟩
        · simp (disch := omega) only [zlit, nI_leI, nI_ltI, nI_eq, nI_clamp, nI_add, pk_mul, pk_sub, pk_div] at c; omega
        · rw [e38, e22] at c
          simp (disch := omega) only [zlit, nI_leI, nI_ltI, nI_eq, nI_clamp, nI_add, pk_mul, pk_sub, pk_div] at c
          rw [e38]
          refine sp150 (by omega) h43 (zv162_64 ⟨vp_in_nI (by omega) (by decide), ?_⟩)
          rw [e38, lN_add, nI_1]
          have go := ih (k + 1) (by omega) (fun j hj => by
            by_cases w : j = k
            · rw [w]; exact c
            · exact hs j (by omega))
          refine ⟨fun c2 => ?_, fun c2 => ?_⟩
          · simp (disch := omega) only [zlit, nI_leI, nI_ltI, nI_eq, nI_clamp, nI_add, pk_mul, pk_sub, pk_div] at c2
            rw [show nI (nz hp k) + 0 = nI (nz hp (k + 1)) from by
              show _ = nI (nz hp k + if hp k = 0 then 0 else 1)
              rw [if_pos (by omega)]; exact nI_add _ 0]
            exact go
          · simp (disch := omega) only [zlit, nI_leI, nI_ltI, nI_eq, nI_clamp, nI_add, pk_mul, pk_sub, pk_div] at c2
            rw [show nI (nz hp k) + 1 = nI (nz hp (k + 1)) from by
              show _ = nI (nz hp k + if hp k = 0 then 0 else 1)
              rw [if_neg (by omega)]; exact nI_1 _]
            exact go
        · rw [e38, e22] at c
          simp (disch := omega) only [zlit, nI_leI, nI_ltI, nI_eq, nI_clamp, nI_add, pk_mul, pk_sub, pk_div] at c
          refine zv109_0 (zv162_51 ?_)
          rw [zup_row, zrow_row, zrow_me, upd_upd]
          exact hq0 (fun q hc => c ((co_le hc h1).1 k (by omega)))
    exact key 16 0 (by omega) (fun j hj => absurd hj (by omega))
  · rw [r1, nI_q0 (by omega)] at c
    exact absurd (show ¬ s = 0 by omega) c
theorem sp163_0 {d x l : Nat} {σ : Nat → Nat → Int32} {τ : Nat → Nat → Int64} {Q : zR → Prop} {a1 a2 : Int32} (h22 : σ 32 22 = nI 0) (hq : Q (.inl (some (.int (0))), (49, x, l, zrow σ 32 (upd (σ 32) 0 (nI 1)), τ, zrho))) :
    zRn (d + 1) 163 (0, [.ref 32, .int a1, .int a2, zJ, zJ, zJ], [], (49, x, l, σ, τ, zrho)) Q := by
  refine zv163_0 ⟨fun c => absurd h22 c, fun _ => zv109_0 (zv163_17 ?_)⟩
  rw [zup_row, zup_row, zrow_row, zrow_me, upd_upd]
  exact hq
theorem sp163 {d x l : Nat} {σ : Nat → Nat → Int32} {τ : Nat → Nat → Int64} {Q : zR → Prop} {u : zRu} {s : Nat} {W : Nat → Nat → Bool} {e : Nat → Nat → Bool} {c w : Int} (h1 : 1 ≤ s) (h3 : s ≤ 3) (he : eqF (fun k t => W (ixd s k) (ixd s t)) (tS s) = e) (hW : ∀ q t, W q t = true ↔ Wn u (cq q t)) (hQ : RQ W s (σ 32) (σ 45) (σ 46)) (h43 : R43 (σ 43)) (hk : RFk u (σ 32) (τ 40) (σ 41) (σ 42))
    (b1 : -2147483648 ≤ c) (b2 : c < 2147483648) (d1 : -2147483648 ≤ w) (d2 : w < 2147483648)
    (hq0 : ∀ j, j < nS s → ll e j j = none → c = (cn e j : Int) → w = 0 → Q (.inl (some (.int (bI (W (ixd s j) 0)))), (49, x, l, zrow σ 32 (upd (σ 32) 0 (nI 0)), τ, zrho)))
    (hq1 : ∀ j, j < nS s → ll e j j = none → c = (cn e j : Int) → w = 1 → Q (.inl (some (.int (nI (nin e (cn e j) (nS s))))), (49, x, l, zrow σ 32 (upd (σ 32) 0 (nI 0)), τ, zrho)))
    (hq2 : ∀ (j z q' : Nat), j < nS s → ll e j j = none → c = (cn e j : Int) → w = (z : Int) + 1 → 1 ≤ z → z ≤ 3 → AZ s (ixd s j) z q' → Q (.inl (some (.int (nI (cl e (rkS s q'))))), (49, x, l, zrow σ 32 (upd (σ 32) 0 (nI 0)), τ, zrho)))
    (hq3 : ∀ (j z : Nat), j < nS s → ll e j j = none → c = (cn e j : Int) → w = (z : Int) + 1 → 1 ≤ z → z ≤ 3 → (∀ q', ¬ AZ s (ixd s j) z q') → Q (.inl (some (.int (-1))), (49, x, l, zrow σ 32 (upd (σ 32) 0 (nI 0)), τ, zrho)))
    (hqn : ¬ (0 ≤ c ∧ c < (cn e (nS s) : Int) ∧ 0 ≤ w ∧ w ≤ 4) → Q (.inl (some (.int (0))), (49, x, l, zrow σ 32 (upd (σ 32) 0 (nI 2)), τ, zrho))) :
    zRn (d + 3) 163 (0, [.ref 32, .int (iI c), .int (iI w), zJ, zJ, zJ], [], (49, x, l, σ, τ, zrho)) Q := by
  have hev : eqv e := by rw [← he]; exact eqF_eqv _ _
  unfold RQ at hQ
  rw [he] at hQ
  obtain ⟨r1, r2, r3, r4, r5⟩ := hQ
  have hn := ix_n s (by omega) h1
  have hcn := cn_le e (nS s)
  have up : ∀ j, j ≠ 0 → (zrow σ 32 (upd (σ 32) 0 0)) 32 j = σ 32 j := fun j e => by rw [zrow_me, pk_un e]
  have bad : ¬ (0 ≤ c ∧ c < (cn e (nS s) : Int) ∧ 0 ≤ w ∧ w ≤ 4) → zRn (d + 2) 109 (0, [.ref 32, .int 2], [], (49, x, l, zrow σ 32 (upd (σ 32) 0 0), τ, zrho)) (zret (d + 3) 163 43 46 [zJ, zJ, zJ, zJ, zJ, zJ] [] Q) := by
    intro k
    refine zv109_0 (zv163_46 ?_)
    rw [zup_row, zrow_row, zrow_me, upd_upd]
    exact hqn k
  refine zv163_0 ⟨fun _ => ?_, fun k => ?_⟩
  · rw [r3, zup_row, show nI (cn e (nS s)) - 1 = iI ((cn e (nS s) : Int) - 1) by rw [nI_iI, show (1 : Int32) = iI 1 from rfl, iI_sub]]
    refine sp110 (a := c) (b := 0) (c := (cn e (nS s) : Int) - 1) b1 b2 (by omega) (by omega) (by omega) (by omega) (fun k1 k2 => zv163_29 ⟨fun q => absurd q (by decide), fun _ => ?_⟩) (fun k => zv163_29 ⟨fun _ => bad (by omega), fun q => absurd rfl q⟩)
    refine sp110 (a := w) (b := 0) (c := 4) d1 d2 (by omega) (by omega) (by omega) (by omega) (fun k3 k4 => zv163_38 ⟨fun _ => ?_, fun q => absurd (by decide) q⟩) (fun k => zv163_38 ⟨fun q => absurd rfl q, fun _ => bad (by omega)⟩)
    obtain ⟨c', hc'⟩ : ∃ c' : Nat, c = (c' : Int) := ⟨c.toNat, by omega⟩
    obtain ⟨w', hw'⟩ : ∃ w' : Nat, w = (w' : Int) := ⟨w.toNat, by omega⟩
    obtain ⟨j0, j1, j2, j3⟩ := cn_surj e (nS s) c' (by omega)
    have hcj : c = (cn e j0 : Int) := by rw [hc', j3]
    have hx := ix_sp s (by omega) h1 j0 j1
    have eic : iI c = nI (cn e j0) := by rw [hcj, ← nI_iI]
    have eiw : iI w = nI w' := by rw [hw', ← nI_iI]
    have hk' : RFk u ((zrow σ 32 (upd (σ 32) 0 0)) 32) (τ 40) (σ 41) (σ 42) := ⟨(up 16 (by decide)).trans hk.1, hk.2⟩
    have e23 : (zrow σ 32 (upd (σ 32) 0 0)) 32 23 = nI (nS s) := (up 23 (by decide)).trans r2
    have e22 : (zrow σ 32 (upd (σ 32) 0 0)) 32 22 = nI s := (up 22 (by decide)).trans r1
    have hcj0 := cn_le e j0
    rw [eic, eiw, e23]
    have key : ∀ m n (a3 : Int32), m ≤ nS s → n + nin e (cn e j0) m = nin e (cn e j0) (nS s) → (m ≤ j0 → a3 = nI j0) →
        zRn (d + 3) 163 (60, [.ref 32, .int (nI (cn e j0)), .int (nI w'), .int a3, .int (nI n), .int (iI ((m : Int) - 1))], [], (49, x, l, zrow σ 32 (upd (σ 32) 0 0), τ, zrho)) Q := by
      intro m
      induction m with
      | zero =>
        intro n a3 _ hn2 ha3
        have ha3 := ha3 (by omega)
        have hn2 : n + 0 = nin e (cn e j0) (nS s) := hn2
        rw [ha3]
        have w4 : w' = 0 ∨ w' = 1 ∨ 2 ≤ w' := by omega
        refine zv163_60 ⟨fun _ => ?_, fun q => absurd (by decide) q⟩
        rw [nI_q1 (by omega), nI_q0 (by omega)]
        rcases w4 with w4 | w4 | w4
        · refine ⟨fun _ => ⟨fun q => absurd w4 q, fun _ => ?_⟩, fun q => absurd (show ¬ w' = 1 by omega) q⟩
          refine sp159 (s := s) h1 h3 j1 h43 r4 (zv163_106 ?_)
          rw [show kq (ixd s j0) = keyN (cq (ixd s j0) 0) from by rw [cq_key]; rfl]
          refine sp155 (d := d + 1) (u := u) hk' (cq_tot hx.1 (by omega)) (fun b hb => zv163_109 ⟨fun q => ?_, fun q => ?_⟩)
          · rw [bI_0] at q
            have := hq0 j0 j1 j2 hcj (by omega)
            rw [show W (ixd s j0) 0 = false from by
              cases h : W (ixd s j0) 0 with
              | true => rw [hb.2 ((hW _ _).1 h)] at q; cases q
              | false => rfl] at this
            exact this
          · rw [bI_0] at q
            have q : b = true := by simpa using q
            have := hq0 j0 j1 j2 hcj (by omega)
            rw [(hW _ _).2 (hb.1 q)] at this
            exact this
        · refine ⟨fun q => absurd w4 q, fun _ => ?_⟩
          have := hq1 j0 j1 j2 hcj (by omega)
          rw [show n = nin e (cn e j0) (nS s) by omega]
          exact this
        · have ez : nI w' - 1 = nI (w' - 1) := pk_sub (b := 1) (by omega)
          refine ⟨fun _ => ⟨fun _ => ?_, fun q => absurd (show ¬ w' = 0 by omega) q⟩, fun q => absurd (show ¬ w' = 1 by omega) q⟩
          rw [ez, e22, nI_ltI (by omega) (by omega)]
          refine ⟨fun q => ?_, fun q => ?_⟩
          · exact hq3 j0 (w' - 1) j1 j2 hcj (by omega) (by omega) (by omega) (fun q' hz => by have := (az_no (by omega) (by omega) h1 hz).1; omega)
          · have e4 : (4 : Int32) * nI j0 + 3 = nI (4 * j0 + 3) := by rw [show (4 : Int32) = nI 4 from rfl, pk_mul]; exact nI_add _ 3
            have e45 : (zrow σ 32 (upd (σ 32) 0 0)) 45 (4 * j0 + 3) = nI (hqd (ixd s j0) 3) := r4 j0 j1 3 (by omega)
            have hl3 := hqd_le (ixd s j0) hx.1 3 (by omega)
            have h33 := hqd_3 (ixd s j0) hx.1
            rw [e4, nI_clamp (by omega), e45, show (nI (hqd (ixd s j0) 3) ≤ 0) = (hqd (ixd s j0) 3 ≤ 0) from nI_leE (b := 0) (by omega) (by omega)]
            refine ⟨vp_in_nI (by omega) (by decide), fun q2 => ?_, fun q2 => ?_⟩
            · obtain ⟨q', hz⟩ := az_ex (s := s) (q := ixd s j0) (z := w' - 1) (by omega) (by omega) (by omega) (h33.1 (by omega)) (inS_iff.1 hx.2.1)
              have hno := az_no (by omega) (by omega) h1 hz
              have hr := ix_rk s (by omega) h1 q' hz.1 (inS_iff.2 hz.2.2.2.2)
              refine sp159 (s := s) h1 h3 j1 h43 r4 (zv163_153 ?_)
              rw [ez]
              refine sp150 (by omega) h43 (zv163_160 ?_)
              rw [lN_add, ← hno.2.2, ← hr.2]
              refine sp161 (s := s) (j0 := rkS s q') h1 h3 hr.1 e23 h43 r4 (zv163_164 ?_)
              rw [nI_clamp (by omega)]
              refine ⟨vp_in_nI (by omega) (by decide), ?_⟩
              show Q (.inl (some (.int (σ 46 (rkS s q')))), _)
              rw [r5 _ hr.1]
              exact hq2 j0 (w' - 1) q' j1 j2 hcj (by omega) (by omega) (by omega) hz
            · exact hq3 j0 (w' - 1) j1 j2 hcj (by omega) (by omega) (by omega) (fun q' hz => by
                have := (az_no (by omega) (by omega) h1 hz).2.1
                have := h33.2 this
                omega)
      | succ m ih =>
        intro n a3 hm hn2 ha3
        have hn2 : n + (nin e (cn e j0) m + if cl e m = cn e j0 then 1 else 0) = nin e (cn e j0) (nS s) := hn2
        have hnl := nin_le e (cn e j0) (nS s)
        have e1 : iI (((m + 1 : Nat) : Int) - 1) = nI m := by rw [nI_iI]; congr 1; omega
        have e2 : nI m + -1 = iI ((m : Int) - 1) := by rw [nI_iI, show (-1 : Int32) = iI (-1) from rfl, iI_add]; rfl
        have hclm := cl_lt hev m
        have hcm := cn_le e (m + 1)
        rw [e1]
        refine zv163_60 ⟨fun q => ?_, fun _ => ⟨vp_in_nI (by omega) (by decide), ?_⟩⟩
        · simp (disch := omega) only [zlit, nI_leI, nI_ltI, nI_eq, nI_clamp, nI_add, pk_mul, pk_sub, pk_div] at q; omega
        · have e46 : (zrow σ 32 (upd (σ 32) 0 0)) 46 ((nI m).toNatClampNeg) = nI (cl e m) := by
            rw [nI_clamp (by omega)]
            exact r5 m (by omega)
          rw [e46, nI_eq (by omega) (by omega), e2]
          refine ⟨fun q => ?_, fun q => ?_⟩
          · rw [if_neg q] at hn2
            refine ih n a3 (by omega) hn2 (fun hm2 => ?_)
            by_cases w5 : m = j0
            · exact absurd (by rw [w5]; exact cl_n j2) q
            · exact ha3 (by omega)
          · have q : cl e m = cn e j0 := Classical.not_not.1 q
            rw [if_pos q] at hn2
            rw [nI_1]
            refine ih (n + 1) (nI m) (by omega) (by omega) (fun hm2 => ?_)
            by_cases w5 : m = j0
            · rw [w5]
            · exact absurd q (cl_first hev (by omega))
    have := key (nS s) 0 (-1) (Nat.le_refl _) (by omega) (fun hm => absurd j1 (by omega))
    rwa [show iI ((nS s : Int) - 1) = nI (nS s) - 1 by rw [nI_iI, show (1 : Int32) = iI 1 from rfl, iI_sub]] at this
  · rw [r1, nI_q0 (by omega)] at k
    exact absurd (show ¬ s = 0 by omega) k
