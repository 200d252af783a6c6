/-! periods -/
def lstP (f : Nat → Bool) : Nat → Nat
  | 0 => 0
  | n + 1 => bif f (n + 1) then n + 1 else lstP f n
theorem lstP_le (f : Nat → Bool) : ∀ n, lstP f n ≤ n := by
  intro n
  induction n with
  | zero => exact Nat.le_refl 0
  | succ n ih =>
    show (bif f (n + 1) then n + 1 else lstP f n) ≤ n + 1
    cases f (n + 1)
    · exact Nat.le_succ_of_le ih
    · exact Nat.le_refl _
def rch (u : zRu) : Nat := if kd u = 0 then lstP (fun k => Nat.blt 0 (dg u k)) 12 else lstP (nb u) 64
theorem rch_le (u : zRu) : rch u ≤ 64 := by
  unfold rch
  split
  · have := lstP_le (fun k => Nat.blt 0 (dg u k)) 12; omega
  · exact lstP_le _ _
theorem sp82 {d x l : Nat} {σ : Nat → Nat → Int32} {τ : Nat → Nat → Int64} {Q : zR → Prop} {u : zRu} (hu : zRok u) (hc : CR u (σ 1) (σ 2) (σ 3) (τ 4)) (h0 : kd u = 0) (hq : Q (.inl (some (.int (nI (rch u)))), (49, x, l, σ, τ, zrho))) :
    zRn d 82 (0, [.ref 1, zJ, zJ], [], (49, x, l, σ, τ, zrho)) Q := by
  unfold rch at hq
  rw [if_pos h0] at hq
  have key : ∀ m k, k + m = 12 → zRn d 82 (4, [.ref 1, .int (nI (lstP (fun k => Nat.blt 0 (dg u k)) k)), .int (nI (k + 1))], [], (49, x, l, σ, τ, zrho)) Q := by
    intro m
    induction m with
    | zero =>
      intro k hk
      refine zv82_4 ⟨fun _ => ?_, fun c => ?_⟩
      · rw [show k = 12 by omega]; exact hq
      · simp (disch := omega) only [zlit, nI_leI, nI_ltI, nI_eq, nI_clamp, nI_add, pk_mul, pk_sub, pk_div] at c; omega
    | succ m ih =>
      intro k hk
      have hd := hu.2.1 (k + 1)
      have := ih (k + 1) (by omega)
      have e : lstP (fun k => Nat.blt 0 (dg u k)) (k + 1) = bif Nat.blt 0 (dg u (k + 1)) then k + 1 else lstP (fun k => Nat.blt 0 (dg u k)) k := rfl
      rw [e] at this
      refine zv82_4 ⟨fun c => ?_, fun _ => ⟨vp_in_nI (by omega) (by decide), ?_⟩⟩
      · simp (disch := omega) only [zlit, nI_leI, nI_ltI, nI_eq, nI_clamp, nI_add, pk_mul, pk_sub, pk_div] at c; omega
      · rw [nI_clamp (by omega), hc.2.1 _ (by omega), nI_1]
        refine ⟨fun c => ?_, fun c => ?_⟩
        · simp (disch := omega) only [zlit, nI_leI, nI_ltI, nI_eq, nI_clamp, nI_add, pk_mul, pk_sub, pk_div] at c
          rw [z_blt_f (by omega)] at this; exact this
        · simp (disch := omega) only [zlit, nI_leI, nI_ltI, nI_eq, nI_clamp, nI_add, pk_mul, pk_sub, pk_div] at c
          rw [z_blt_t (by omega)] at this; exact this
  exact zv82_0 (key 12 0 rfl)
theorem sp83 {d x l : Nat} {σ : Nat → Nat → Int32} {τ : Nat → Nat → Int64} {Q : zR → Prop} {u : zRu} (hc : CR u (σ 1) (σ 2) (σ 3) (τ 4)) (h0 : kd u ≠ 0) (hq : Q (.inl (some (.int (nI (rch u)))), (49, x, l, σ, τ, zrho))) :
    zRn d 83 (0, [.ref 1, zJ, zJ], [], (49, x, l, σ, τ, zrho)) Q := by
  unfold rch at hq
  rw [if_neg h0] at hq
  have key : ∀ m k, k + m = 64 → zRn d 83 (4, [.ref 1, .int (nI (lstP (nb u) k)), .int (nI (k + 1))], [], (49, x, l, σ, τ, zrho)) Q := by
    intro m
    induction m with
    | zero =>
      intro k hk
      refine zv83_4 ⟨fun _ => ?_, fun c => ?_⟩
      · rw [show k = 64 by omega]; exact hq
      · simp (disch := omega) only [zlit, nI_leI, nI_ltI, nI_eq, nI_clamp, nI_add, pk_mul, pk_sub, pk_div] at c; omega
    | succ m ih =>
      intro k hk
      have := ih (k + 1) (by omega)
      have e : lstP (nb u) (k + 1) = bif nb u (k + 1) then k + 1 else lstP (nb u) k := rfl
      rw [e] at this
      refine zv83_4 ⟨fun c => ?_, fun _ => ⟨vp_in_nI (by omega) (by decide), ?_⟩⟩
      · simp (disch := omega) only [zlit, nI_leI, nI_ltI, nI_eq, nI_clamp, nI_add, pk_mul, pk_sub, pk_div] at c; omega
      · rw [nI_clamp (by omega), hc.2.2.1 _ (by omega), nI_1, bI_0]
        refine ⟨fun c => ?_, fun c => ?_⟩
        · rw [c] at this; exact this
        · rw [show nb u (k + 1) = true by simpa using c] at this; exact this
  exact zv83_0 (key 64 0 rfl)
theorem sp135 {d x l : Nat} {σ : Nat → Nat → Int32} {τ : Nat → Nat → Int64} {Q : zR → Prop} {u : zRu} (hu : zRok u) (hr : RR u (σ 32) (σ 33) (σ 34) (σ 35)) (h1 : kd u ≤ 1) (hq : Q (.inl (some (.int (nI (rch u)))), (49, x, l, σ, τ, zrho))) :
    zRn d 135 (0, [.ref 32, zJ, zJ], [], (49, x, l, σ, τ, zrho)) Q := by
  have h4 := hu.1
  unfold rch at hq
  by_cases h0 : kd u = 0
  · rw [if_pos h0] at hq
    have k2 : ∀ m k a, k + m = 64 → a = lstP (fun k => Nat.blt 0 (dg u k)) 12 → zRn d 135 (40, [.ref 32, .int (nI a), .int (nI (k + 1))], [], (49, x, l, σ, τ, zrho)) Q := by
      intro m
      induction m with
      | zero =>
        intro k a hk ha
        refine zv135_40 ⟨fun _ => by rw [ha]; exact hq, fun c => ?_⟩
        simp (disch := omega) only [zlit, nI_leI, nI_ltI, nI_eq, nI_clamp, nI_add, pk_mul, pk_sub, pk_div] at c; omega
      | succ m ih =>
        intro k a hk ha
        refine zv135_40 ⟨fun c => ?_, fun _ => ⟨fun _ => by rw [nI_1]; exact ih (k + 1) a (by omega) ha, fun c => ?_⟩⟩
        · simp (disch := omega) only [zlit, nI_leI, nI_ltI, nI_eq, nI_clamp, nI_add, pk_mul, pk_sub, pk_div] at c; omega
        · rw [hr.1, h0] at c; exact absurd (by decide) c
    have key : ∀ m k, k + m = 12 → zRn d 135 (4, [.ref 32, .int (nI (lstP (fun k => Nat.blt 0 (dg u k)) k)), .int (nI (k + 1))], [], (49, x, l, σ, τ, zrho)) Q := by
      intro m
      induction m with
      | zero =>
        intro k hk
        refine zv135_4 ⟨fun _ => ?_, fun c => ?_⟩
        · exact k2 64 0 _ rfl (by rw [show k = 12 by omega])
        · simp (disch := omega) only [zlit, nI_leI, nI_ltI, nI_eq, nI_clamp, nI_add, pk_mul, pk_sub, pk_div] at c; omega
      | succ m ih =>
        intro k hk
        have hd := hu.2.1 (k + 1)
        have := ih (k + 1) (by omega)
        have e : lstP (fun k => Nat.blt 0 (dg u k)) (k + 1) = bif Nat.blt 0 (dg u (k + 1)) then k + 1 else lstP (fun k => Nat.blt 0 (dg u k)) k := rfl
        rw [e] at this
        refine zv135_4 ⟨fun c => ?_, fun _ => ⟨fun c => ?_, fun _ => ⟨vp_in_nI (by omega) (by decide), ?_⟩⟩⟩
        · simp (disch := omega) only [zlit, nI_leI, nI_ltI, nI_eq, nI_clamp, nI_add, pk_mul, pk_sub, pk_div] at c; omega
        · rw [hr.1, h0] at c; exact absurd rfl c
        · rw [nI_clamp (by omega), hr.2.1 _ (by omega), nI_1]
          refine ⟨fun c => ?_, fun c => ?_⟩
          · simp (disch := omega) only [zlit, nI_leI, nI_ltI, nI_eq, nI_clamp, nI_add, pk_mul, pk_sub, pk_div] at c
            rw [z_blt_f (by omega)] at this; exact this
          · simp (disch := omega) only [zlit, nI_leI, nI_ltI, nI_eq, nI_clamp, nI_add, pk_mul, pk_sub, pk_div] at c
            rw [z_blt_t (by omega)] at this; exact this
    exact zv135_0 (key 12 0 rfl)
  · rw [if_neg h0] at hq
    have k2 : ∀ m k, k + m = 64 → zRn d 135 (40, [.ref 32, .int (nI (lstP (nb u) k)), .int (nI (k + 1))], [], (49, x, l, σ, τ, zrho)) Q := by
      intro m
      induction m with
      | zero =>
        intro k hk
        refine zv135_40 ⟨fun _ => by rw [show k = 64 by omega]; exact hq, fun c => ?_⟩
        simp (disch := omega) only [zlit, nI_leI, nI_ltI, nI_eq, nI_clamp, nI_add, pk_mul, pk_sub, pk_div] at c; omega
      | succ m ih =>
        intro k hk
        have := ih (k + 1) (by omega)
        have e : lstP (nb u) (k + 1) = bif nb u (k + 1) then k + 1 else lstP (nb u) k := rfl
        rw [e] at this
        refine zv135_40 ⟨fun c => ?_, fun _ => ⟨fun c => ?_, fun _ => ⟨vp_in_nI (by omega) (by decide), ?_⟩⟩⟩
        · simp (disch := omega) only [zlit, nI_leI, nI_ltI, nI_eq, nI_clamp, nI_add, pk_mul, pk_sub, pk_div] at c; omega
        · rw [hr.1, show kd u = 1 by omega] at c; exact absurd rfl c
        · rw [nI_clamp (by omega), hr.2.2.1 _ (by omega), nI_1, bI_0]
          refine ⟨fun c => ?_, fun c => ?_⟩
          · rw [c] at this; exact this
          · rw [show nb u (k + 1) = true by simpa using c] at this; exact this
    have key : ∀ m k, k + m = 12 → zRn d 135 (4, [.ref 32, .int (nI 0), .int (nI (k + 1))], [], (49, x, l, σ, τ, zrho)) Q := by
      intro m
      induction m with
      | zero =>
        intro k hk
        refine zv135_4 ⟨fun _ => k2 64 0 rfl, fun c => ?_⟩
        simp (disch := omega) only [zlit, nI_leI, nI_ltI, nI_eq, nI_clamp, nI_add, pk_mul, pk_sub, pk_div] at c; omega
      | succ m ih =>
        intro k hk
        refine zv135_4 ⟨fun c => ?_, fun _ => ⟨fun _ => by rw [nI_1]; exact ih (k + 1) (by omega), fun c => ?_⟩⟩
        · simp (disch := omega) only [zlit, nI_leI, nI_ltI, nI_eq, nI_clamp, nI_add, pk_mul, pk_sub, pk_div] at c; omega
        · rw [hr.1] at c
          simp (disch := omega) only [zlit, nI_leI, nI_ltI, nI_eq, nI_clamp, nI_add, pk_mul, pk_sub, pk_div] at c
          omega
    exact zv135_0 (key 12 0 rfl)
/-- up to where a preperiod n has to be like -/
def bnd (u : zRu) (p n : Nat) : Nat := if kd u = 0 then 2 * n + p + rch u else n + rch u
def ppF (u : zRu) (e p : Nat) : Nat → Nat → Nat → Option Nat
  | 0, _, _ => none
  | k + 1, n, m => if e + 1 < bnd u p n + p then none else if bnd u p n ≤ m then some n else if gn u m = gn u (m + p) then ppF u e p k n (m + 1) else ppF u e p k (m + 1) (m + 1)
def pp (u : zRu) (e p : Nat) : Option Nat := ppF u e p (e + 1) 0 0
def pI (r : Option Nat) : Int32 := match r with
  | none => iI (-1)
  | some n => nI n
theorem sp68 {d x l : Nat} {σ : Nat → Nat → Int32} {τ : Nat → Nat → Int64} {Q : zR → Prop} {u : zRu} {e kn p : Nat} (hu : zRok u) (hn : CN u e kn (σ 6) (σ 7) (τ 9) (τ 10)) (hp1 : 1 ≤ p) (hp : p ≤ e + 1) (hq : Q (.inl (some (.int (pI (pp u e p)))), (49, x, l, σ, τ, zrho))) :
    zRn d 68 (0, [.ref 6, .int (nI p), .int (bI (kd u == 0)), .int (nI (rch u)), zJ, zJ, zJ], [], (49, x, l, σ, τ, zrho)) Q := by
  obtain ⟨n1, n2, n3, n4, n5, n6, n7⟩ := hn
  have hr := rch_le u
  have key : ∀ k n m, m + k = e + 1 → n ≤ m → pI (ppF u e p k n m) = pI (pp u e p) → zRn d 68 (6, [.ref 6, .int (nI p), .int (bI (kd u == 0)), .int (nI (rch u)), .int (nI n), .int (nI m), zJ], [], (49, x, l, σ, τ, zrho)) Q := by
    intro k
    induction k with
    | zero =>
      intro n m hk hnm he
      refine zv68_6 ⟨fun _ => ?_, fun c => ?_⟩
      · rw [← he] at hq; exact hq
      · rw [n1] at c; simp (disch := omega) only [zlit, nI_leI, nI_ltI, nI_eq, nI_clamp, nI_add, pk_mul, pk_sub, pk_div] at c; omega
    | succ k ih =>
      intro n m hk hnm he
      have e0 : ppF u e p (k + 1) n m = if e + 1 < bnd u p n + p then none else if bnd u p n ≤ m then some n else if gn u m = gn u (m + p) then ppF u e p k n (m + 1) else ppF u e p k (m + 1) (m + 1) := rfl
      rw [e0] at he
      have g1 := gn_le hu (show m ≤ 2000 by omega)
      -- behind the bound's two forms
      have tl : ∀ B : Int32, B = nI (bnd u p n) → bnd u p n ≤ 10000 →
          ((B - 1 + nI p ≤ σ 6 1 → (nI m < B → (vp_in (nI m) 2001 ∧ (vp_in (nI m + nI p) 2001 ∧ (((σ 7 ((nI m).toNatClampNeg)) = (σ 7 ((nI m + nI p).toNatClampNeg)) → zRn d 68 (6, [.ref 6, .int (nI p), .int (bI (kd u == 0)), .int (nI (rch u)), .int (nI n), .int (nI m + 1), zJ], [], (49, x, l, σ, τ, zrho)) Q) ∧ (¬ ((σ 7 ((nI m).toNatClampNeg)) = (σ 7 ((nI m + nI p).toNatClampNeg))) → zRn d 68 (6, [.ref 6, .int (nI p), .int (bI (kd u == 0)), .int (nI (rch u)), .int (nI m + 1), .int (nI m + 1), zJ], [], (49, x, l, σ, τ, zrho)) Q))))) ∧ (¬ (nI m < B) → Q (.inl (some (.int (nI n))), (49, x, l, σ, τ, zrho)))) ∧ (¬ (B - 1 + nI p ≤ σ 6 1) → Q (.inl (some (.int (-1))), (49, x, l, σ, τ, zrho)))) := by
        intro B hB hb
        have eB : B - 1 + nI p = iI ((bnd u p n : Int) - 1 + p) := by
          rw [hB, nI_iI, nI_iI p, show (1 : Int32) = iI 1 from rfl, iI_sub, iI_add]
        rw [eB, hB, n1, nI_iI e, iI_leI (by omega) (by omega) (by omega) (by omega)]
        refine ⟨fun c => ⟨fun c2 => ?_, fun c2 => ?_⟩, fun c => ?_⟩
        · simp (disch := omega) only [nI_ltI] at c2
          rw [if_neg (by omega), if_neg (by omega)] at he
          have g2 := gn_le hu (show m + p ≤ 2000 by omega)
          rw [nI_add, nI_clamp (by omega), nI_clamp (by omega), n5 _ (by omega), n5 _ (by omega), nI_1]
          refine ⟨vp_in_nI (by omega) (by decide), vp_in_nI (by omega) (by decide), fun c3 => ?_, fun c3 => ?_⟩
          · simp (disch := omega) only [nI_eq] at c3
            rw [if_pos c3] at he
            exact ih n (m + 1) (by omega) (by omega) he
          · simp (disch := omega) only [nI_eq] at c3
            rw [if_neg c3] at he
            exact ih (m + 1) (m + 1) (by omega) (by omega) he
        · simp (disch := omega) only [nI_ltI] at c2
          rw [if_neg (by omega), if_pos (by omega)] at he
          rw [← he] at hq
          exact hq
        · rw [if_pos (by omega)] at he
          rw [← he] at hq
          exact hq
      refine zv68_6 ⟨fun c => ?_, fun _ => ⟨fun c => ?_, fun c => ?_⟩⟩
      · rw [n1] at c; simp (disch := omega) only [zlit, nI_leI, nI_ltI, nI_eq, nI_clamp, nI_add, pk_mul, pk_sub, pk_div] at c; omega
      · rw [bI_0] at c
        have hk0 : kd u ≠ 0 := by
          intro e; rw [e] at c; cases c
        have hb : bnd u p n = n + rch u := by unfold bnd; rw [if_neg hk0]
        exact tl _ (by rw [hb, nI_add]) (by omega)
      · rw [bI_0] at c
        have hk0 : kd u = 0 := by
          by_cases e : kd u = 0
          · exact e
          · exact absurd (z_bne e) c
        have hb : bnd u p n = 2 * n + p + rch u := by unfold bnd; rw [if_pos hk0]
        exact tl _ (by rw [hb, show (2 : Int32) = nI 2 from rfl, pk_mul, nI_add, nI_add]) (by omega)
  exact zv68_0 (key (e + 1) 0 0 (by omega) (by omega) rfl)
def pf (u : zRu) (e : Nat) : Nat → Nat → Option (Nat × Nat)
  | 0, _ => none
  | m + 1, p => match pp u e p with
    | some n => some (p, n)
    | none => pf u e m (p + 1)
def perR (u : zRu) (e : Nat) : Option (Nat × Nat) := if 1 < kd u ∨ has8 u = true then none else pf u e (e + 1) 1
def pV (r : Option (Nat × Nat)) (w : Nat) : Int32 := match r with
  | none => iI (-1)
  | some q => if w = 0 then nI q.1 else nI q.2
def CP (u : zRu) (e : Nat) (s6 : Nat → Int32) : Prop := s6 6 = 0 ∨ (s6 6 = 1 ∧ s6 3 = pV (perR u e) 0 ∧ s6 4 = pV (perR u e) 1)
theorem sp67 {d x l : Nat} {σ : Nat → Nat → Int32} {τ : Nat → Nat → Int64} {Q : zR → Prop} {u : zRu} {e kn : Nat} (hu : zRok u) (hc : CR u (σ 1) (σ 2) (σ 3) (τ 4)) (hn : CN u e kn (σ 6) (σ 7) (τ 9) (τ 10)) (hp : CP u e (σ 6))
    (hq : ∀ s, zfrm [3, 4, 6] (σ 6) s → s 6 = 1 → s 3 = pV (perR u e) 0 → s 4 = pV (perR u e) 1 → Q (.inl none, (49, x, l, zrow σ 6 s, τ, zrho))) :
    zRn (d + 2) 67 (0, [.ref 6, .ref 1, zJ, zJ, zJ], [], (49, x, l, σ, τ, zrho)) Q := by
  have h4 := hu.1
  have hN : ∀ s, zfrm [3, 4, 6] (σ 6) s → CN u e kn s (σ 7) (τ 9) (τ 10) := by
    intro s hs
    obtain ⟨n1, n2, n3, n4, n5, n6, n7⟩ := hn
    exact ⟨(hs 1 (by decide)).trans n1, (hs 5 (by decide)).trans n2, n3, n4, n5, (hs 2 (by decide)).trans n6, n7⟩
  have he : e ≤ 2000 := by have := hn.2.2.1; have := hn.2.2.2.1; omega
  refine zv67_0 ⟨fun c => ?_, fun c => ?_⟩
  · simp only [zup_row, zrow_row, zrow_me]
    have hf : zfrm [3, 4, 6] (σ 6) (upd (upd (upd (σ 6) 6 1) 3 (-1)) 4 (-1)) := zfrm_u (zfrm_u (zfrm_u (zfrm.refl _ _) (by decide)) (by decide)) (by decide)
    have hnone : perR u e = none → Q (.inl none, (49, x, l, zrow σ 6 (upd (upd (upd (σ 6) 6 1) 3 (-1)) 4 (-1)), τ, zrho)) := by
      intro hr
      exact hq _ hf rfl (by rw [hr]; rfl) (by rw [hr]; rfl)
    refine ⟨fun c2 => ?_, fun c2 => ?_⟩
    · rw [hc.1] at c2
      simp (disch := omega) only [zlit, nI_leI, nI_ltI, nI_eq, nI_clamp, nI_add, pk_mul, pk_sub, pk_div] at c2
      exact hnone (if_pos (Or.inl c2))
    · rw [hc.1] at c2
      simp (disch := omega) only [zlit, nI_leI, nI_ltI, nI_eq, nI_clamp, nI_add, pk_mul, pk_sub, pk_div] at c2
      refine sp84 hu hc (zv67_35 ⟨fun c3 => ?_, fun c3 => ?_⟩)
      · rw [bI_0] at c3
        have hR : perR u e = pf u e (e + 1) 1 := if_neg (fun q => q.elim c2 (fun q => by rw [c3] at q; cases q))
        have loop : ∀ m p s, p + m = e + 2 → 1 ≤ p → zfrm [3, 4, 6] (σ 6) s → s 6 = 1 → s 3 = iI (-1) → s 4 = iI (-1) → pf u e m p = perR u e →
            zRn (d + 2) 67 (71, [.ref 6, zJ, .int (bI (kd u == 0)), .int (nI (rch u)), .int (nI p)], [], (49, x, l, zrow σ 6 s, τ, zrho)) Q := by
          intro m
          induction m with
          | zero =>
            intro p s hm h1 hs h6 h3 h4 hpf
            have e1 : s 1 = nI e := (hN s hs).1
            refine zv67_71 ⟨fun _ => ?_, fun c => ?_⟩
            · refine hq s hs h6 ?_ ?_
              · rw [← hpf, h3]; rfl
              · rw [← hpf, h4]; rfl
            · have c : ¬ s 1 + 1 < nI p := c
              rw [e1, nI_1] at c
              simp (disch := omega) only [nI_ltI] at c
              omega
          | succ m ih =>
            intro p s hm h1 hs h6 h3 h4 hpf
            have e1 : s 1 = nI e := (hN s hs).1
            have e0 : pf u e (m + 1) p = match pp u e p with
              | some n => some (p, n)
              | none => pf u e m (p + 1) := rfl
            refine zv67_71 ⟨fun c => ?_, fun _ => ⟨fun c => ?_, fun _ => ?_⟩⟩
            · have c : s 1 + 1 < nI p := c
              rw [e1, nI_1] at c
              simp (disch := omega) only [nI_ltI] at c
              omega
            · exact absurd h3 c
            · refine sp68 hu (hN s hs) h1 (by omega) (zv67_99 ?_)
              simp only [zup_row, zrow_row, zrow_me, nI_1]
              cases hpp : pp u e p with
              | none =>
                rw [hpp] at e0
                refine ⟨fun c => absurd rfl c, fun _ => ?_⟩
                refine ih (p + 1) _ (by omega) (by omega) (zfrm_u (zfrm_u hs (by decide)) (by decide)) h6 rfl rfl ?_
                rw [← hpf, e0]
              | some n =>
                rw [hpp] at e0
                have hne : ¬ pI (some n) = -1 → True := fun _ => trivial
                have hd : ∀ p2 s2, zfrm [3, 4, 6] (σ 6) s2 → s2 6 = 1 → s2 3 = nI p → s2 4 = nI n → zRn (d + 2) 67 (71, [.ref 6, zJ, .int (bI (kd u == 0)), .int (nI (rch u)), .int (nI p2)], [], (49, x, l, zrow σ 6 s2, τ, zrho)) Q := by
                  intro p2 s2 f1 f2 f3 f4
                  have done : Q (.inl none, (49, x, l, zrow σ 6 s2, τ, zrho)) := by
                    refine hq s2 f1 f2 ?_ ?_
                    · rw [← hpf, e0, f3]; rfl
                    · rw [← hpf, e0, f4]; rfl
                  refine zv67_71 ⟨fun _ => done, fun _ => ⟨fun _ => done, fun c => ?_⟩⟩
                  exfalso
                  apply c
                  intro q
                  have q : s2 3 = -1 := q
                  rw [f3, nI_iI, iI_m1, iI_eqI (by omega) (by omega) (by omega) (by omega)] at q
                  omega
                refine ⟨fun _ => ?_, fun c => ?_⟩
                · exact hd (p + 1) _ (zfrm_u (zfrm_u hs (by decide)) (by decide)) h6 rfl rfl
                · exfalso
                  apply c
                  intro q
                  have hn : n ≤ e + 1 := by
                    have : ∀ k n m r, ppF u e p k n m = some r → n ≤ m → m + k ≤ e + 1 → r ≤ e + 1 := by
                      intro k
                      induction k with
                      | zero => intro n m r hr; cases hr
                      | succ k ih2 =>
                        intro n m r hr hnm hmk
                        have e9 : ppF u e p (k + 1) n m = if e + 1 < bnd u p n + p then none else if bnd u p n ≤ m then some n else if gn u m = gn u (m + p) then ppF u e p k n (m + 1) else ppF u e p k (m + 1) (m + 1) := rfl
                        rw [e9] at hr
                        split at hr
                        · cases hr
                        · split at hr
                          · cases hr; omega
                          · split at hr
                            · exact ih2 _ _ _ hr (by omega) (by omega)
                            · exact ih2 _ _ _ hr (by omega) (by omega)
                    exact this _ _ _ _ hpp (by omega) (by omega)
                  have q : nI n = -1 := q
                  rw [nI_iI, iI_m1, iI_eqI (by omega) (by omega) (by omega) (by omega)] at q
                  omega
        have start : ∀ b : Bool, b = (kd u == 0) → zRn (d + 2) 67 (67, [.ref 6, zJ, .int (bI b), zJ, zJ], [.int (nI (rch u))], (49, x, l, zrow σ 6 (upd (upd (upd (σ 6) 6 1) 3 (-1)) 4 (-1)), τ, zrho)) Q := by
          intro b hb
          subst hb
          exact zv67_67 (loop (e + 1) 1 _ (by omega) (by omega) hf rfl rfl rfl hR.symm)
        refine ⟨fun c4 => ⟨fun _ => ?_, fun c5 => absurd rfl c5⟩, fun c4 => ⟨fun c5 => absurd c5 (by decide), fun _ => ?_⟩⟩
        · have c4 : ¬ σ 1 0 = 0 := c4
          rw [hc.1] at c4
          simp (disch := omega) only [zlit, nI_leI, nI_ltI, nI_eq, nI_clamp, nI_add, pk_mul, pk_sub, pk_div] at c4
          exact sp83 hc c4 (start false (z_bne c4).symm)
        · have c4 : ¬ ¬ σ 1 0 = 0 := c4
          rw [hc.1] at c4
          simp (disch := omega) only [zlit, nI_leI, nI_ltI, nI_eq, nI_clamp, nI_add, pk_mul, pk_sub, pk_div] at c4
          have c5 : kd u = 0 := by omega
          exact sp82 hu hc c5 (zv67_60 (start true (by rw [c5]; rfl)))
      · rw [bI_0] at c3
        exact hnone (if_pos (Or.inr (by simpa using c3)))
  · rcases hp with hp | hp
    · exact absurd hp c
    · have := hq (σ 6) (zfrm.refl _ _) hp.1 hp.2.1 hp.2.2
      rw [zrow_id] at this
      exact this
