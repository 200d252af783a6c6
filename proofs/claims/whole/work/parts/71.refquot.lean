/-! the reference: the quotient -/
theorem sp159 {d x l : Nat} {σ : Nat → Nat → Int32} {τ : Nat → Nat → Int64} {Q : zR → Prop} {s k : Nat} (h1 : 1 ≤ s) (h3 : s ≤ 3) (hk : k < nS s) (h43 : R43 (σ 43)) (hm : MD s (σ 45)) (hq : Q (.inl (some (.long (lN (kq (ixd s k))))), (49, x, l, σ, τ, zrho))) :
    zRn (d + 1) 159 (0, [.ref 32, .int (nI k)], [], (49, x, l, σ, τ, zrho)) Q := by
  have hx := (ix_sp s (by omega) h1 k hk).1
  have hn := (ix_n s (by omega) h1).1
  have hl := hqd_le (ixd s k) hx
  have l0 := hl 0 (by omega)
  have l1 := hl 1 (by omega)
  have l2 := hl 2 (by omega)
  have l3 := hl 3 (by omega)
  have e4 : (4 : Int32) * nI k = nI (4 * k) := by rw [show (4 : Int32) = nI 4 from rfl, pk_mul]
  have e41 : nI (4 * k) + 1 = nI (4 * k + 1) := nI_1 _
  have e42 : nI (4 * k) + 2 = nI (4 * k + 2) := nI_add _ 2
  have e43 : nI (4 * k) + 3 = nI (4 * k + 3) := nI_add _ 3
  have m0 : σ 45 (4 * k) = nI (hqd (ixd s k) 0) := hm k hk 0 (by omega)
  have m1 := hm k hk 1 (by omega)
  have m2 := hm k hk 2 (by omega)
  have m3 := hm k hk 3 (by omega)
  refine zv159_0 ?_
  rw [e4, nI_clamp (by omega), m0]
  refine ⟨vp_in_nI (by omega) (by decide), sp150 (by omega) h43 (zv159_12 ?_)⟩
  rw [e4, e41, nI_clamp (by omega), m1]
  refine ⟨vp_in_nI (by omega) (by decide), sp150 (by omega) h43 (zv159_26 ?_)⟩
  rw [e4, e42, nI_clamp (by omega), m2, lN_add]
  refine ⟨vp_in_nI (by omega) (by decide), sp150 (by omega) h43 (zv159_41 ?_)⟩
  rw [e4, e43, nI_clamp (by omega), m3, lN_add]
  refine ⟨vp_in_nI (by omega) (by decide), sp150 (by omega) h43 (zv159_56 ?_)⟩
  rw [lN_add, hqd_key _ hx]
  exact hq
theorem kq_lt : ∀ q, q < 35 → kq q < 4096 := by decide +kernel
theorem kq_inj : ∀ s, s < 4 → 1 ≤ s → ∀ j, j < nS s → ∀ j', j' < nS s → kq (ixd s j) = kq (ixd s j') → j = j' := by decide +kernel
theorem sp161 {d x l : Nat} {σ : Nat → Nat → Int32} {τ : Nat → Nat → Int64} {Q : zR → Prop} {s j0 : Nat} (h1 : 1 ≤ s) (h3 : s ≤ 3) (hj : j0 < nS s) (h23 : σ 32 23 = nI (nS s)) (h43 : R43 (σ 43)) (hm : MD s (σ 45)) (hq : Q (.inl (some (.int (nI j0))), (49, x, l, σ, τ, zrho))) :
    zRn (d + 2) 161 (0, [.ref 32, .long (lN (kq (ixd s j0))), zJ, zJ, zJ], [], (49, x, l, σ, τ, zrho)) Q := by
  have hn := (ix_n s (by omega) h1).1
  have key : ∀ n k, k + n = nS s → zRn (d + 2) 161 (5, [.ref 32, .long (lN (kq (ixd s j0))), zJ, .int (if j0 < k then nI j0 else -1), .int (nI k)], [], (49, x, l, σ, τ, zrho)) Q := by
    intro n
    induction n with
    | zero =>
      intro k hk
      have hk : k = nS s := by omega
      subst hk
      rw [if_pos hj]
      refine zv161_5 ⟨fun _ => hq, fun c => ?_⟩
      rw [h23] at c
      exact absurd (Int32.le_refl _) c
    | succ n ih =>
      intro k hk
      refine zv161_5 ⟨fun c => ?_, fun _ => ?_⟩
      · rw [h23] at c
        simp (disch := omega) only [zlit, nI_leI, nI_ltI, nI_eq, nI_clamp, nI_add, pk_mul, pk_sub, pk_div] at c; omega
      · refine sp159 (s := s) h1 h3 (by omega) h43 hm (zv161_20 ⟨fun c => ?_, fun c => ?_⟩)
        · rw [lg_cmp_eq] at c
          rw [nI_1]
          have := ih (k + 1) (by omega)
          have e : (if j0 < k + 1 then nI j0 else (-1 : Int32)) = if j0 < k then nI j0 else -1 := by
            by_cases w : j0 = k
            · rw [w] at c; exact absurd rfl c
            · by_cases w2 : j0 < k
              · rw [if_pos w2, if_pos (by omega)]
              · rw [if_neg w2, if_neg (by omega)]
          rw [e] at this
          exact this
        · rw [lg_cmp_eq] at c
          have c : lN (kq (ixd s k)) = lN (kq (ixd s j0)) := Classical.not_not.1 c
          have b1 := kq_lt _ (ix_sp s (by omega) h1 k (by omega)).1
          have b2 := kq_lt _ (ix_sp s (by omega) h1 j0 hj).1
          have := kq_inj s (by omega) h1 k (by omega) j0 hj (lN_inj (by omega) (by omega) c)
          subst this
          rw [nI_1]
          have := ih (k + 1) (by omega)
          rw [if_pos (by omega)] at this
          exact this
  have := key (nS s) 0 (by omega)
  rw [if_neg (by omega)] at this
  exact zv161_0 this
/-- the reference's quotient for heaps up to s -/
def RQe (e : Nat → Nat → Bool) (s : Nat) (s32 s45 s46 : Nat → Int32) : Prop :=
  s32 22 = nI s ∧ s32 23 = nI (nS s) ∧ s32 25 = nI (cn e (nS s)) ∧ MD s s45 ∧ ∀ j, j < nS s → s46 j = nI (cl e j)
def RQ (W : Nat → Nat → Bool) (s : Nat) (s32 s45 s46 : Nat → Int32) : Prop := RQe (eqF (fun k t => W (ixd s k) (ixd s t)) (tS s)) s s32 s45 s46
def zwf9 (s t : Nat → Int32) : Prop := ∀ j, j ≠ 9 → j ≠ 10 → j ≠ 11 → j ≠ 29 → j ≠ 30 → j ≠ 31 → j ≠ 15 → j ≠ 16 → j ≠ 0 → j ≠ 22 → j ≠ 23 → j ≠ 24 → j ≠ 25 → t j = s j
def KQ (σ σ' : Nat → Nat → Int32) : Prop := (∀ b, b ≠ 32 → b ≠ 41 → b ≠ 42 → b ≠ 44 → b ≠ 45 → b ≠ 46 → b ≠ 47 → σ' b = σ b) ∧ zwf9 (σ 32) (σ' 32)
def Z3 (σ : Nat → Nat → Int32) (f g h : Nat → Int32) : Nat → Nat → Int32 := zrow (zrow (zrow σ 47 f) 46 g) 32 h
theorem Z3_47 (σ : Nat → Nat → Int32) (f g h t : Nat → Int32) : zrow (Z3 σ f g h) 47 t = Z3 σ t g h := by
  unfold Z3
  rw [zrow_sw _ _ _ (show (32 : Nat) ≠ 47 by decide), zrow_sw (zrow σ 47 f) _ _ (show (46 : Nat) ≠ 47 by decide), zrow_row]
theorem Z3_46 (σ : Nat → Nat → Int32) (f g h t : Nat → Int32) : zrow (Z3 σ f g h) 46 t = Z3 σ f t h := by
  unfold Z3
  rw [zrow_sw _ _ _ (show (32 : Nat) ≠ 46 by decide), zrow_row]
theorem Z3_32 (σ : Nat → Nat → Int32) (f g h t : Nat → Int32) : zrow (Z3 σ f g h) 32 t = Z3 σ f g t := zrow_row _ _ _ _
theorem Z3_id (σ : Nat → Nat → Int32) : Z3 σ (σ 47) (σ 46) (σ 32) = σ := by
  unfold Z3
  rw [zrow_id, zrow_id, zrow_id]
theorem quot_loop {d x l : Nat} {σ : Nat → Nat → Int32} {τ : Nat → Nat → Int64} {Q : zR → Prop} {u : zRu} {s : Nat} {W : Nat → Nat → Bool} (hu : zRok u) (hW : ∀ q t, W q t = true ↔ Wn u (cq q t)) (h1 : 1 ≤ s) (h3 : s ≤ 3) (h43 : R43 (σ 43)) (hk : RFk u (σ 32) (τ 40) (σ 41) (σ 42)) (h22 : σ 32 22 = nI s) (h23 : σ 32 23 = nI (nS s)) (h24 : σ 32 24 = nI (tS s)) (h25 : σ 32 25 = nI 0) (hm : MD s (σ 45))
    (hq : ∀ f g h, (∀ j, j ≠ 25 → h j = σ 32 j) → RQ W s h (σ 45) g → Q (.inl (some (.int (nI (cn (eqF (fun k t => W (ixd s k) (ixd s t)) (tS s)) (nS s))))), (49, x, l, Z3 σ f g h, τ, zrho))) :
    zRn (d + 3) 160 (41, [.ref 32, zJ, .int (nI 0), zJ, zJ], [], (49, x, l, σ, τ, zrho)) Q := by
  have hn := ix_n s (by omega) h1
  unfold RQ at hq
  have hev := eqF_eqv (fun k t => W (ixd s k) (ixd s t)) (tS s)
  have frE : ∀ j k, frN (fun t => W (ixd s j) (ixd s t)) (tS s) = frN (fun t => W (ixd s k) (ixd s t)) (tS s) ↔ eqF (fun k t => W (ixd s k) (ixd s t)) (tS s) j k = true := fun j k => by rw [frN_eq, eqF_iff]
  generalize he : eqF (fun k t => W (ixd s k) (ixd s t)) (tS s) = e at hev hq frE
  have frL : ∀ j, frN (fun t => W (ixd s j) (ixd s t)) (tS s) < 1024 := fun j => Nat.lt_of_lt_of_le (frN_lt _ _) (Nat.pow_le_pow_right (n := 2) (by omega) hn.2.1)
  have key : ∀ n k f g h, k + n = nS s → (∀ j, j ≠ 25 → h j = σ 32 j) → h 25 = nI (cn e k) → (∀ j, j < k → f j = nI (frN (fun t => W (ixd s j) (ixd s t)) (tS s)) ∧ g j = nI (cl e j)) →
      zRn (d + 3) 160 (41, [.ref 32, zJ, .int (nI k), zJ, zJ], [], (49, x, l, Z3 σ f g h, τ, zrho)) Q := by
    intro n
    induction n with
    | zero =>
      intro k f g h hkn hh hh25 hfg
      have hkn : k = nS s := by omega
      refine zv160_41 ⟨fun _ => ?_, fun c => ?_⟩
      · show Q (.inl (some (.int (h 25))), _)
        rw [hh25, hkn]
        exact hq f g h hh ⟨(hh 22 (by decide)).trans h22, (hh 23 (by decide)).trans h23, by rw [hh25, hkn], hm, fun j hj => (hfg j (by omega)).2⟩
      · have : (Z3 σ f g h) 32 23 = nI (nS s) := (hh 23 (by decide)).trans h23
        rw [this, hkn] at c
        exact absurd (Int32.le_refl _) c
    | succ n ih =>
      intro k f g h hkn hh hh25 hfg
      have e23 : (Z3 σ f g h) 32 23 = nI (nS s) := (hh 23 (by decide)).trans h23
      have hxk := (ix_sp s (by omega) h1 k (by omega)).1
      have hcnk := cn_le e k
      refine zv160_41 ⟨fun c => ?_, fun _ => ⟨vp_in_nI (by omega) (by decide), ?_⟩⟩
      · rw [e23] at c
        simp (disch := omega) only [zlit, nI_leI, nI_ltI, nI_eq, nI_clamp, nI_add, pk_mul, pk_sub, pk_div] at c; omega
      · rw [nI_clamp (by omega), zup_row, Z3_47]
        -- the last: the class of k
        have fin : ∀ f', (∀ j, j < k → f' j = f j) → f' k = nI (frN (fun t => W (ixd s k) (ixd s t)) (tS s)) → ∀ (lk : Option Nat), ll e k k = lk → zRn (d + 3) 160 (117, [.ref 32, zJ, .int (nI k), .int (match lk with | none => -1 | some j => nI j), .int (-1)], [], (49, x, l, Z3 σ f' g h, τ, zrho)) Q := by
          intro f' hf' hfk lk hlk
          have hf2 : ∀ j, j < k + 1 → f' j = nI (frN (fun t => W (ixd s j) (ixd s t)) (tS s)) := by
            intro j hj
            by_cases w : j = k
            · rw [w]; exact hfk
            · rw [hf' j (by omega)]; exact (hfg j (by omega)).1
          cases lk with
          | none =>
            refine zv160_117 ⟨fun _ => ⟨fun c => absurd c (by decide), fun _ => ⟨vp_in_nI (by omega) (by decide), fun c => absurd c (by decide), fun _ => ?_⟩⟩, fun c => absurd (by decide) c⟩
            rw [nI_clamp (by omega), zup_row, zup_row, Z3_46, Z3_32, nI_1]
            have e25 : (Z3 σ f' g h) 32 25 = nI (cn e k) := hh25
            refine ih (k + 1) f' _ _ (by omega) (fun j hj => ?_) ?_ (fun j hj => ⟨hf2 j hj, ?_⟩)
            · rw [pk_un hj]; exact hh j hj
            · rw [upd_s rfl, cn_n hlk, ← nI_1]
              congr 1
            · by_cases w : j = k
              · rw [upd_s w, w, cl_n hlk]; exact e25
              · rw [pk_un w]; exact (hfg j (by omega)).2
          | some j0 =>
            have hj0 := (ll_sp e k k).1 j0 hlk
            have e46 : (Z3 σ f' g h) 46 j0 = nI (cl e j0) := (hfg j0 hj0.1).2
            have ge0 : (0 : Int32) ≤ nI j0 := by
              have : ((0 : Int32) ≤ nI j0) = (0 ≤ j0) := nI_leE (a := 0) (by omega) (by omega)
              rw [this]; omega
            refine zv160_117 ⟨fun _ => ⟨fun _ => ⟨vp_in_nI (by omega) (by decide), vp_in_nI (by omega) (by decide), fun _ => ?_, fun c => absurd ge0 c⟩, fun c => absurd ge0 c⟩, fun c => absurd (by decide) c⟩
            rw [nI_clamp (by omega), nI_clamp (by omega), e46, zup_row, zup_row, Z3_46, Z3_32, nI_1]
            refine ih (k + 1) f' _ _ (by omega) (fun j hj => ?_) ?_ (fun j hj => ⟨hf2 j hj, ?_⟩)
            · rw [pk_un hj]; exact hh j hj
            · rw [upd_s rfl, cn_s hlk]
              show h 25 + 0 = _
              rw [hh25]
              exact nI_add _ 0
            · by_cases w : j = k
              · rw [upd_s w, w, cl_s hlk, cl_n (ll_first hev hlk)]
              · rw [pk_un w]; exact (hfg j (by omega)).2
        -- the search for one like k
        have like : ∀ f', (∀ j, j < k → f' j = f j) → f' k = nI (frN (fun t => W (ixd s k) (ixd s t)) (tS s)) → ∀ m (acc : Option Nat), m ≤ k → (ll e k k = match ll e k m with | none => acc | some j => some j) →
            zRn (d + 3) 160 (117, [.ref 32, zJ, .int (nI k), .int (match acc with | none => -1 | some j => nI j), .int (iI ((m : Int) - 1))], [], (49, x, l, Z3 σ f' g h, τ, zrho)) Q := by
          intro f' hf' hfk m
          induction m with
          | zero =>
            intro acc _ hl
            exact fin f' hf' hfk acc hl
          | succ m ih2 =>
            intro acc hm2 hl
            have e1 : iI (((m + 1 : Nat) : Int) - 1) = nI m := by rw [nI_iI]; congr 1; omega
            have e2 : nI m + -1 = iI ((m : Int) - 1) := by rw [nI_iI, show (-1 : Int32) = iI (-1) from rfl, iI_add]; rfl
            have hS := ll_S e k m
            have hfm : f' m = nI (frN (fun t => W (ixd s m) (ixd s t)) (tS s)) := by rw [hf' m (by omega)]; exact (hfg m (by omega)).1
            rw [e1]
            refine zv160_117 ⟨fun c => ?_, fun _ => ⟨vp_in_nI (by omega) (by decide), vp_in_nI (by omega) (by decide), ?_⟩⟩
            · simp (disch := omega) only [zlit, nI_leI, nI_ltI, nI_eq, nI_clamp, nI_add, pk_mul, pk_sub, pk_div] at c; omega
            · rw [nI_clamp (by omega), nI_clamp (by omega)]
              have e47 : ((Z3 σ f' g h) 47 m = (Z3 σ f' g h) 47 k) = (e m k = true) := by
                show (f' m = f' k) = _
                rw [hfm, hfk, nI_eq (by have := frL m; omega) (by have := frL k; omega)]
                exact propext (frE m k)
              rw [e47, e2]
              refine ⟨fun c => ih2 acc (by omega) ?_, fun c => ih2 (some m) (by omega) ?_⟩
              · rw [hl]
                cases hlm : ll e k m with
                | some j => rw [hS.1 j hlm]
                | none =>
                  rw [hS.2 hlm]
                  cases hem : e m k with
                  | true => exact absurd hem c
                  | false => rfl
              · rw [hl]
                cases hlm : ll e k m with
                | some j => rw [hS.1 j hlm]
                | none =>
                  rw [hS.2 hlm, Classical.not_not.1 c]
                  rfl
        -- the fortunes
        have inner : ∀ n2 t f', t + n2 = tS s → (∀ j, j < k → f' j = f j) → f' k = nI (frN (fun t => W (ixd s k) (ixd s t)) t) →
            zRn (d + 3) 160 (58, [.ref 32, zJ, .int (nI k), .int (nI t), zJ], [], (49, x, l, Z3 σ f' g h, τ, zrho)) Q := by
          intro n2
          induction n2 with
          | zero =>
            intro t f' ht hf' hfk
            have ht : t = tS s := by omega
            subst ht
            have e24 : (Z3 σ f' g h) 32 24 = nI (tS s) := (hh 24 (by decide)).trans h24
            refine zv160_58 ⟨fun _ => ?_, fun c => ?_⟩
            · have := like f' hf' hfk k none (Nat.le_refl _) (by cases ll e k k <;> rfl)
              rwa [show iI ((k : Int) - 1) = nI k - 1 by rw [nI_iI, show (1 : Int32) = iI 1 from rfl, iI_sub]] at this
            · rw [e24] at c
              exact absurd (Int32.le_refl _) c
          | succ n2 ih2 =>
            intro t f' ht hf' hfk
            have e24 : (Z3 σ f' g h) 32 24 = nI (tS s) := (hh 24 (by decide)).trans h24
            have hfl := frN_lt (fun t => W (ixd s k) (ixd s t)) t
            have hp : 2 ^ t ≤ 2 ^ 10 := Nat.pow_le_pow_right (by omega) (by omega)
            have hxt := ix_sp s (by omega) h1 t (by omega)
            refine zv160_58 ⟨fun c => ?_, fun _ => ⟨vp_in_nI (by omega) (by decide), ?_⟩⟩
            · rw [e24] at c
              simp (disch := omega) only [zlit, nI_leI, nI_ltI, nI_eq, nI_clamp, nI_add, pk_mul, pk_sub, pk_div] at c; omega
            · rw [nI_clamp (by omega)]
              have e47 : (2 : Int32) * (Z3 σ f' g h) 47 k = nI (2 * frN (fun t => W (ixd s k) (ixd s t)) t) := by
                show (2 : Int32) * f' k = _
                rw [hfk, show (2 : Int32) = nI 2 from rfl, pk_mul]
              rw [e47]
              refine sp159 (s := s) h1 h3 (by omega) h43 hm (zv160_85 (sp159 (s := s) h1 h3 (by omega) h43 hm (zv160_90 ?_)))
              rw [lN_add, ← cq_key]
              have hk' : RFk u ((Z3 σ f' g h) 32) (τ 40) ((Z3 σ f' g h) 41) ((Z3 σ f' g h) 42) := ⟨(hh 16 (by decide)).trans hk.1, hk.2⟩
              refine sp155 (d := d + 1) (u := u) hk' (cq_tot hxk (hxt.2.2.2.1 (by omega))) (fun w hw => zv160_94 ⟨fun c => ?_, fun c => ?_⟩)
              · rw [bI_0] at c
                rw [nI_clamp (by omega), zup_row, Z3_47, nI_1]
                refine ⟨vp_in_nI (by omega) (by decide), ih2 (t + 1) _ (by omega) (fun j hj => ?_) ?_⟩
                · rw [pk_un (by omega)]; exact hf' j hj
                · rw [upd_s rfl]
                  show _ = nI (2 * frN (fun t => W (ixd s k) (ixd s t)) t + (W (ixd s k) (ixd s t)).toNat)
                  have : W (ixd s k) (ixd s t) = false := by
                    cases hb : W (ixd s k) (ixd s t) with
                    | true => rw [hw.2 ((hW _ _).1 hb)] at c; cases c
                    | false => rfl
                  rw [this]
                  exact nI_add _ 0
              · rw [bI_0] at c
                have c : w = true := by simpa using c
                rw [nI_clamp (by omega), zup_row, Z3_47, nI_1, nI_1]
                refine ⟨vp_in_nI (by omega) (by decide), ih2 (t + 1) _ (by omega) (fun j hj => ?_) ?_⟩
                · rw [pk_un (by omega)]; exact hf' j hj
                · rw [upd_s rfl]
                  show _ = nI (2 * frN (fun t => W (ixd s k) (ixd s t)) t + (W (ixd s k) (ixd s t)).toNat)
                  rw [(hW _ _).2 (hw.1 c)]
                  rfl
        exact inner (tS s) 0 _ (by omega) (fun j hj => pk_un (by omega)) (upd_s rfl)
  have := key (nS s) 0 (σ 47) (σ 46) (σ 32) (by omega) (fun _ _ => rfl) h25 (fun j hj => absurd hj (by omega))
  rwa [Z3_id] at this
