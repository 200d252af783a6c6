/-! the reference: nimbers -/
def zfrm (L : List Nat) (s t : Nat → Int32) : Prop := ∀ j, j ∉ L → t j = s j
theorem zfrm.trans {L : List Nat} {s t r : Nat → Int32} (h1 : zfrm L s t) (h2 : zfrm L t r) : zfrm L s r := fun j a => (h2 j a).trans (h1 j a)
theorem zfrm.refl (L : List Nat) (s : Nat → Int32) : zfrm L s s := fun _ _ => rfl
theorem zfrm_u {L : List Nat} {s t : Nat → Int32} {j : Nat} {v : Int32} (h : zfrm L s t) (hj : j ∈ L) : zfrm L s (upd t j v) := by
  intro i hi
  rw [pk_un (fun e => hi (by rw [e]; exact hj))]
  exact h i hi
theorem zfrm_6 {L : List Nat} {s t : Nat → Int32} (h : zwf6 s t) (h1 : 9 ∈ L) (h2 : 10 ∈ L) (h3 : 11 ∈ L) (h4 : 29 ∈ L) (h5 : 30 ∈ L) (h6 : 31 ∈ L) : zfrm L s t :=
  fun j hj => h j (fun e => hj (by rw [e]; exact h1)) (fun e => hj (by rw [e]; exact h2)) (fun e => hj (by rw [e]; exact h3)) (fun e => hj (by rw [e]; exact h4)) (fun e => hj (by rw [e]; exact h5)) (fun e => hj (by rw [e]; exact h6))
theorem zfrm_7 {L : List Nat} {s t : Nat → Int32} (h : zwf7 s t) (h0 : 0 ∈ L) (h1 : 9 ∈ L) (h2 : 10 ∈ L) (h3 : 11 ∈ L) (h4 : 29 ∈ L) (h5 : 30 ∈ L) (h6 : 31 ∈ L) : zfrm L s t :=
  fun j hj => h j (fun e => hj (by rw [e]; exact h0)) (fun e => hj (by rw [e]; exact h1)) (fun e => hj (by rw [e]; exact h2)) (fun e => hj (by rw [e]; exact h3)) (fun e => hj (by rw [e]; exact h4)) (fun e => hj (by rw [e]; exact h5)) (fun e => hj (by rw [e]; exact h6))
/-- what may change: thrown, analysed, stamp, the walk -/
abbrev zLn : List Nat := [0, 5, 8, 9, 10, 11, 29, 30, 31]
def R3 (σ : Nat → Nat → Int32) (s a b : Nat → Int32) : Nat → Nat → Int32 := zrow (zrow (zrow σ 36 a) 37 b) 32 s
theorem zrow_ne (σ : Nat → Nat → Int32) {a b : Nat} (s : Nat → Int32) (h : b ≠ a) : zrow σ a s b = σ b := by
  unfold zrow
  rw [show Nat.beq b a = false from by
    cases c : Nat.beq b a with
    | false => rfl
    | true => exact absurd (Nat.eq_of_beq_eq_true c) h]
  rfl
theorem zrow_sw (σ : Nat → Nat → Int32) {a b : Nat} (s t : Nat → Int32) (h : a ≠ b) : zrow (zrow σ a s) b t = zrow (zrow σ b t) a s := by
  funext c
  by_cases h1 : c = b
  · subst h1; rw [zrow_me, zrow_ne _ _ (by omega), zrow_me]
  · rw [zrow_ne _ _ h1]
    by_cases h2 : c = a
    · subst h2; rw [zrow_me, zrow_me]
    · rw [zrow_ne _ _ h2, zrow_ne _ _ h2, zrow_ne _ _ h1]
theorem R3_32 (σ : Nat → Nat → Int32) (s a b t : Nat → Int32) : zrow (R3 σ s a b) 32 t = R3 σ t a b := zrow_row _ _ _ _
theorem R3_37 (σ : Nat → Nat → Int32) (s a b t : Nat → Int32) : zrow (R3 σ s a b) 37 t = R3 σ s a t := by
  unfold R3
  rw [zrow_sw _ _ _ (by decide), zrow_row]
theorem R3_36 (σ : Nat → Nat → Int32) (s a b t : Nat → Int32) : zrow (R3 σ s a b) 36 t = R3 σ s t b := by
  unfold R3
  rw [zrow_sw _ _ _ (by decide), zrow_sw _ _ _ (show (37 : Nat) ≠ 36 by decide), zrow_row]
def RN (u : zRu) (e st : Nat) (s32 s36 s37 : Nat → Int32) : Prop := s32 5 = nI e ∧ e ≤ 2000 ∧ (∀ k, k ≤ e → s36 k = nI (gn u k)) ∧ s32 8 = nI st ∧ ∀ v, v < 65536 → ∃ w, s37 v = nI w ∧ w ≤ st
theorem sp132 {d x l : Nat} {σ : Nat → Nat → Int32} {τ : Nat → Nat → Int64} {Q : zR → Prop} {u : zRu} {e : Nat} (hu : zRok u) (h5 : σ 32 5 = nI e) (he : e ≤ 2000) (h36 : ∀ k, k ≤ e → σ 36 k = nI (gn u k)) (hq : Q (.inl (some (.int (nI (mx (gn u) (e + 1))))), (49, x, l, σ, τ, zrho))) :
    zRn d 132 (0, [.ref 32, zJ, zJ], [], (49, x, l, σ, τ, zrho)) Q := by
  have key : ∀ n k, k + n = e + 1 → zRn d 132 (4, [.ref 32, .int (nI (mx (gn u) k)), .int (nI k)], [], (49, x, l, σ, τ, zrho)) Q := by
    intro n
    induction n with
    | zero =>
      intro k hk
      refine zv132_4 ⟨fun _ => ?_, fun c => ?_⟩
      · rw [show k = e + 1 by omega]; exact hq
      · rw [h5] at c; simp (disch := omega) only [zlit, nI_leI, nI_ltI, nI_eq, nI_clamp, nI_add, pk_mul, pk_sub, pk_div] at c; omega
    | succ n ih =>
      intro k hk
      have hm : mx (gn u) k ≤ 2000 := mx_le (fun j hj => gn_le hu (by omega))
      have hg := gn_le hu (show k ≤ 2000 by omega)
      have := ih (k + 1) (by omega)
      have e2 : mx (gn u) (k + 1) = max (mx (gn u) k) (gn u k) := rfl
      rw [e2] at this
      refine zv132_4 ⟨fun c => ?_, fun c => ⟨vp_in_nI (by omega) (by decide), ?_⟩⟩
      · rw [h5] at c; simp (disch := omega) only [zlit, nI_leI, nI_ltI, nI_eq, nI_clamp, nI_add, pk_mul, pk_sub, pk_div] at c; omega
      · rw [nI_clamp (by omega), h36 k (by omega), nI_1]
        refine ⟨fun c2 => ?_, fun c2 => ⟨vp_in_nI (by omega) (by decide), ?_⟩⟩
        · simp (disch := omega) only [zlit, nI_leI, nI_ltI, nI_eq, nI_clamp, nI_add, pk_mul, pk_sub, pk_div] at c2
          rw [show max (mx (gn u) k) (gn u k) = mx (gn u) k by omega] at this
          exact this
        · simp (disch := omega) only [zlit, nI_leI, nI_ltI, nI_eq, nI_clamp, nI_add, pk_mul, pk_sub, pk_div] at c2
          rw [show max (mx (gn u) k) (gn u k) = gn u k by omega] at this
          exact this
  exact zv132_0 (key (e + 1) 0 (by omega))
theorem sp131 {d x l : Nat} {σ : Nat → Nat → Int32} {τ : Nat → Nat → Int64} {Q : zR → Prop} {u : zRu} {e st : Nat} {i : Int} (hu : zRok u) (hr : RR u (σ 32) (σ 33) (σ 34) (σ 35)) (hn : RN u e st (σ 32) (σ 36) (σ 37)) (hst : st ≤ 2000000) (h1 : -2147483648 ≤ i) (h2 : i < 2147483648)
    (hq1 : ∀ (n : Nat) s a b, i = (n : Int) → n ≤ far2 u → zfrm zLn (σ 32) s → s 0 = nI 0 → RN u n (st + n) s a b → Q (.inl (some (.int (nI (mx (gn u) (n + 1))))), (49, x, l, R3 σ s a b, τ, zrho)))
    (hq0 : ¬ (0 ≤ i ∧ i ≤ far2 u) → ∀ s, zwf7 (σ 32) s → s 0 = nI 1 → Q (.inl (some (.int (0))), (49, x, l, zrow σ 32 s, τ, zrho))) :
    zRn (d + 3) 131 (0, [.ref 32, .int (iI i), zJ, zJ], [], (49, x, l, σ, τ, zrho)) Q := by
  have hR : R3 σ (upd (σ 32) 0 0) (σ 36) (σ 37) = zrow σ 32 (upd (σ 32) 0 0) := by
    unfold R3
    rw [show zrow σ 36 (σ 36) = σ from zrow_id σ 36, show zrow σ 37 (σ 37) = σ from zrow_id σ 37]
  have good : ∀ n : Nat, i = (n : Int) → n ≤ far2 u → zRn (d + 3) 131 (37, [.ref 32, .int (iI i), .int 1, zJ], [], (49, x, l, zrow σ 32 (upd (σ 32) 0 0), τ, zrho)) Q := by
    intro n hi hfar
    have hn2 : n ≤ 2000 := by unfold far2 at hfar; split at hfar <;> omega
    rw [hi, ← nI_iI]
    have least : ∀ (h : Nat) (s a b : Nat → Int32), 1 ≤ h → h ≤ n → zfrm zLn (σ 32) s → s 8 = nI (st + h) → (∀ v, v < 65536 → (b v = nI (st + h) ↔ v ∈ (opts u h).map (xo (gn u)))) →
        zRn (d + 3) 131 (37, [.ref 32, .int (nI n), .int (nI (h + 1)), zJ], [], (49, x, l, R3 σ s (upd a h (nI (gn u h))) b, τ, zrho)) Q →
        ∀ m v, v + m = gn u h → zRn (d + 3) 131 (118, [.ref 32, .int (nI n), .int (nI h), .int (nI v)], [], (49, x, l, R3 σ s a b, τ, zrho)) Q := by
      intro h s a b h1 h2 hf h8 hb hk m
      have hms := mex_spec (L := (opts u h).map (xo (gn u))) (fun w hw => by
        obtain ⟨o, ho, hw⟩ := List.mem_map.mp hw
        have hbb := opt_bd hu ho
        have := xo_lt hu (o := o) (by omega) (by omega) (by omega)
        omega)
      rw [← gn_S hu] at hms
      have hg := gn_le hu (show h ≤ 2000 by omega)
      induction m with
      | zero =>
        intro v hv
        have hv : v = gn u h := by omega
        subst hv
        refine zv131_118 ⟨vp_in_nI (by omega) (by decide), ?_⟩
        rw [nI_clamp (by omega)]
        refine ⟨fun _ => ⟨vp_in_nI (by omega) (by decide), ?_⟩, fun c => ?_⟩
        · rw [nI_clamp (by omega), nI_1, zup_row, R3_36]
          exact hk
        · exfalso
          apply c
          intro e
          have e : b (gn u h) = s 8 := e
          rw [h8] at e
          exact hms.1 ((hb _ (by omega)).mp e)
      | succ m ih =>
        intro v hv
        refine zv131_118 ⟨vp_in_nI (by omega) (by decide), ?_⟩
        rw [nI_clamp (by omega)]
        refine ⟨fun c => ?_, fun _ => ?_⟩
        · exfalso
          apply c
          show b v = s 8
          rw [h8]
          exact (hb _ (by omega)).mpr (hms.2 v (by omega))
        · rw [nI_1]
          exact ih (v + 1) (by omega)
    have walk : ∀ (h : Nat) (s a b : Nat → Int32), 1 ≤ h → h ≤ n → (∀ k, k < h → a k = nI (gn u k)) → zfrm zLn (σ 32) s → s 8 = nI (st + h) → (∀ v, v < 65536 → ∃ w, b v = nI w ∧ w ≤ st + h) →
        (∀ (s' b' : Nat → Int32), zfrm zLn (σ 32) s' → s' 0 = s 0 → s' 8 = nI (st + h) → (∀ v, v < 65536 → ∃ w, b' v = nI w ∧ w ≤ st + h) → zRn (d + 3) 131 (37, [.ref 32, .int (nI n), .int (nI (h + 1)), zJ], [], (49, x, l, R3 σ s' (upd a h (nI (gn u h))) b', τ, zrho)) Q) →
        ∀ (N : Nat) (p : zP) (s' : Nat → Int32) (pre : List zO) (b : Nat → Int32), zwf6 s s' → zat s' h p → wfin u h N p → pre ++ wls u h N p = opts u h → (∀ v, v < 65536 → ∃ w, b v = nI w ∧ w ≤ st + h) → (∀ v, v < 65536 → (b v = nI (st + h) ↔ v ∈ pre.map (xo (gn u)))) →
        zRn (d + 3) 131 (57, [.ref 32, .int (nI n), .int (nI h), zJ], [], (49, x, l, R3 σ s' a b, τ, zrho)) Q := by
      intro h s a b h1 h2 ha hf h8 _ hk N
      have done : ∀ (s' : Nat → Int32) (pre : List zO) (b : Nat → Int32) (p : zP), zwf6 s s' → zat s' h p → wov h p = true → -2 ≤ p.1 → p.1 ≤ 2000 → pre = opts u h → (∀ v, v < 65536 → ∃ w, b v = nI w ∧ w ≤ st + h) → (∀ v, v < 65536 → (b v = nI (st + h) ↔ v ∈ pre.map (xo (gn u)))) →
          zRn (d + 3) 131 (57, [.ref 32, .int (nI n), .int (nI h), zJ], [], (49, x, l, R3 σ s' a b, τ, zrho)) Q := by
        intro s' pre b p w1 w2 w3 w4 w5 w6 w7 w8
        refine zv131_57 (sp122 w2 (by omega) w4 w5 ?_)
        rw [w3]
        refine zv131_61 ⟨fun _ => ?_, fun c => absurd (by decide) c⟩
        have hf' : zfrm zLn (σ 32) s' := hf.trans (zfrm_6 w1 (by decide) (by decide) (by decide) (by decide) (by decide) (by decide))
        have h8' : s' 8 = nI (st + h) := (w1 8 (by decide) (by decide) (by decide) (by decide) (by decide) (by decide)).trans h8
        have h0' : s' 0 = s 0 := (w1 0 (by decide) (by decide) (by decide) (by decide) (by decide) (by decide))
        subst w6
        exact least h s' a b h1 h2 hf' h8' w8 (hk s' b hf' h0' h8' w7) (gn u h) 0 (by omega)
      induction N with
      | zero =>
        intro p s' pre b w1 w2 w3 w4 w5 w6
        exact done s' pre b p w1 w2 w3.1 w3.2.1 w3.2.2 (by rw [← w4]; exact (List.append_nil _).symm) w5 w6
      | succ N ih =>
        intro p s' pre b w1 w2 w3 w4 w5 w6
        rcases w3 with w3 | w3
        · have e5 : wls u h (N + 1) p = [] := by show (if _ then _ else _) = _; rw [if_pos w3.1]
          rw [e5] at w4
          exact done s' pre b p w1 w2 w3.1 w3.2.1 w3.2.2 (by rw [← w4]; exact (List.append_nil _).symm) w5 w6
        · obtain ⟨e5, e6, e7⟩ := w3
          have e8 : wls u h (N + 1) p = (if whr u h p = true then [(p.2.2.1, p.2.2.2.1, p.2.2.2.2.toNat)] else []) ++ wls u h N (adv u h p) := by show (if _ then _ else _) = _; rw [if_neg (by rw [e5]; decide)]
          rw [e8] at w4
          have hh : h ≤ 2000 := by omega
          have hr' : RR u s' (σ 33) (σ 34) (σ 35) := zwf6_RR w1 ⟨(hf 1 (by decide)).trans hr.1, hr.2⟩
          refine zv131_57 (sp122 w2 hh (wok e6 hh).1 (wok e6 hh).2 ?_)
          rw [e5]
          refine zv131_61 ⟨fun c => absurd rfl c, fun _ => ?_⟩
          refine sp123 hu hr' w2 hh e6 ?_
          refine zv131_68 ⟨fun c => ?_, fun c => ?_⟩
          · rw [bI_0] at c
            rw [if_neg (by rw [c]; decide)] at w4
            refine sp124 hu hr' w2 hh e6 (fun s2 f1 f2 => zv131_113 ?_)
            rw [R3_32]
            exact ih _ s2 pre b (w1.trans f1) f2 e7 w4 w5 w6
          · rw [bI_0] at c
            have c : whr u h p = true := by simpa using c
            rw [if_pos c] at w4
            have h9 : (p.2.2.2.1 : Int) ≤ p.2.2.2.2 := by
              have c' := c
              unfold whr at c'
              rw [Bool.and_eq_true] at c'
              exact of_decide_eq_true c'.1
            have ho : (p.2.2.1, p.2.2.2.1, p.2.2.2.2.toNat) ∈ opts u h := by
              rw [← w4]
              exact List.mem_append_right _ (List.mem_append_left _ (List.mem_singleton.mpr rfl))
            have hb := opt_bd hu ho
            dsimp only at hb
            have hxl := xo_lt hu (o := (p.2.2.1, p.2.2.2.1, p.2.2.2.2.toNat)) (by dsimp only; omega) (by dsimp only; omega) (by dsimp only; omega)
            have f9 : s' 9 = nI p.2.2.1 := w2.2.2.2.1
            have f10 : s' 10 = nI p.2.2.2.1 := w2.2.2.2.2.1
            have f11 : s' 11 = nI p.2.2.2.2.toNat := by rw [w2.2.2.2.2.2]; exact iI_nat (by omega)
            have g9 : a ((s' 9).toNatClampNeg) = nI (gn u p.2.2.1) := by rw [f9, nI_clamp (by omega)]; exact ha _ (by omega)
            have g10 : a ((s' 10).toNatClampNeg) = nI (gn u p.2.2.2.1) := by rw [f10, nI_clamp (by omega)]; exact ha _ (by omega)
            have g11 : a ((s' 11).toNatClampNeg) = nI (gn u p.2.2.2.2.toNat) := by rw [f11, nI_clamp (by omega)]; exact ha _ (by omega)
            have gx : (a ((s' 9).toNatClampNeg) ^^^ a ((s' 10).toNatClampNeg)) ^^^ a ((s' 11).toNatClampNeg) = nI (xo (gn u) (p.2.2.1, p.2.2.2.1, p.2.2.2.2.toNat)) := by
              rw [g9, g10, g11, z_xor, z_xor]; rfl
            have h8' : s' 8 = nI (st + h) := (w1 8 (by decide) (by decide) (by decide) (by decide) (by decide) (by decide)).trans h8
            refine ⟨?_, ?_, ?_, ?_, ?_⟩
            · show vp_in (s' 9) 2001
              rw [f9]; exact vp_in_nI (by omega) (by decide)
            · show vp_in (s' 10) 2001
              rw [f10]; exact vp_in_nI (by omega) (by decide)
            · show vp_in (s' 11) 2001
              rw [f11]; exact vp_in_nI (by omega) (by decide)
            · show vp_in ((a ((s' 9).toNatClampNeg) ^^^ a ((s' 10).toNatClampNeg)) ^^^ a ((s' 11).toNatClampNeg)) 65536
              rw [gx]; exact vp_in_nI (by omega) (by decide)
            · show zRn (d + 2) 124 (0, [.ref 32, zJ], [], (49, x, l, zup (R3 σ s' a b) 37 (((a ((s' 9).toNatClampNeg) ^^^ a ((s' 10).toNatClampNeg)) ^^^ a ((s' 11).toNatClampNeg)).toNatClampNeg) (s' 8), τ, zrho)) _
              rw [gx, nI_clamp (by omega), h8', zup_row, R3_37]
              refine sp124 hu hr' w2 hh e6 (fun s2 f1 f2 => zv131_113 ?_)
              rw [R3_32]
              refine ih _ s2 (pre ++ [(p.2.2.1, p.2.2.2.1, p.2.2.2.2.toNat)]) _ (w1.trans f1) f2 e7 (by rw [List.append_assoc]; exact w4) ?_ ?_
              · intro v hv
                show ∃ w, upd b _ _ v = nI w ∧ w ≤ st + h
                by_cases e : v = xo (gn u) (p.2.2.1, p.2.2.2.1, p.2.2.2.2.toNat)
                · rw [e, pk_us]; exact ⟨_, rfl, Nat.le_refl _⟩
                · rw [pk_un e]; exact w5 v hv
              · intro v hv
                show upd b _ _ v = nI (st + h) ↔ _
                rw [List.map_append, List.mem_append]
                by_cases e : v = xo (gn u) (p.2.2.1, p.2.2.2.1, p.2.2.2.2.toNat)
                · rw [e, pk_us]
                  exact ⟨fun _ => Or.inr (List.mem_singleton.mpr rfl), fun _ => rfl⟩
                · rw [pk_un e]
                  constructor
                  · intro q; exact Or.inl ((w6 v hv).mp q)
                  · intro q
                    rcases q with q | q
                    · exact (w6 v hv).mpr q
                    · exact absurd (List.mem_singleton.mp q) e
    have outer : ∀ (m h : Nat) (s a b : Nat → Int32), h + m = n + 1 → 1 ≤ h → zfrm zLn (σ 32) s → s 0 = nI 0 → s 8 = nI (st + (h - 1)) → (∀ k, k < h → a k = nI (gn u k)) → (∀ v, v < 65536 → ∃ w, b v = nI w ∧ w ≤ st + (h - 1)) →
        zRn (d + 3) 131 (37, [.ref 32, .int (nI n), .int (nI h), zJ], [], (49, x, l, R3 σ s a b, τ, zrho)) Q := by
      intro m
      induction m with
      | zero =>
        intro h s a b hm h1 hf h0 h8 ha hb
        refine zv131_37 ⟨fun _ => ?_, fun c => ?_⟩
        · rw [zup_row, R3_32]
          refine sp132 (e := n) hu rfl hn2 (fun k hk => ha k (by omega)) (zv131_159 ?_)
          refine hq1 n _ a b hi hfar (zfrm_u hf (by decide)) h0 ⟨rfl, hn2, fun k hk => ha k (by omega), ?_, ?_⟩
          · show s 8 = nI (st + n)
            rw [h8, show h - 1 = n by omega]
          · intro v hv
            obtain ⟨w, g1, g2⟩ := hb v hv
            exact ⟨w, g1, by omega⟩
        · simp (disch := omega) only [zlit, nI_leI, nI_ltI, nI_eq, nI_clamp, nI_add, pk_mul, pk_sub, pk_div] at c; omega
      | succ m ih =>
        intro h s a b hm h1 hf h0 h8 ha hb
        refine zv131_37 ⟨fun c => ?_, fun _ => ?_⟩
        · simp (disch := omega) only [zlit, nI_leI, nI_ltI, nI_eq, nI_clamp, nI_add, pk_mul, pk_sub, pk_div] at c; omega
        · rw [zup_row, R3_32]
          have h8' : upd s 8 (s 8 + 1) 8 = nI (st + h) := by
            rw [pk_us, h8, nI_1, show st + (h - 1) + 1 = st + h by omega]
          obtain ⟨N, e, w⟩ := w_all u (show h ≤ 2000 by omega)
          refine sp120 (fun s' f1 f2 => ?_)
          rw [R3_32]
          refine walk h (upd s 8 (s 8 + 1)) a b h1 (by omega) ha (zfrm_u hf (by decide)) h8' (fun v hv => ?_) ?_ N _ s' [] b f1 f2 w (by rw [e]; rfl) (fun v hv => ?_) (fun v hv => ?_)
          · obtain ⟨w, g1, g2⟩ := hb v hv
            exact ⟨w, g1, by omega⟩
          · intro s2 b2 k1 k2 k3 k4
            refine ih (h + 1) s2 _ b2 (by omega) (by omega) k1 (k2.trans h0) k3 (fun k hk => ?_) k4
            by_cases e : k = h
            · rw [e, pk_us]
            · rw [pk_un e]; exact ha k (by omega)
          · obtain ⟨w, g1, g2⟩ := hb v hv
            exact ⟨w, g1, by omega⟩
          · obtain ⟨w, g1, g2⟩ := hb v hv
            constructor
            · intro q
              rw [g1] at q
              simp (disch := omega) only [nI_eq] at q
              omega
            · intro q; exact absurd q List.not_mem_nil
    have := outer n 1 (upd (σ 32) 0 0) (σ 36) (σ 37) (by omega) (by omega) (zfrm_u (zfrm.refl _ _) (by decide)) rfl hn.2.2.2.1 (fun k hk => by rw [show k = 0 by omega]; exact hn.2.2.1 0 (by omega)) (fun v hv => hn.2.2.2.2 v hv)
    rw [hR] at this
    exact this
  have bad : ¬ (0 ≤ i ∧ i ≤ far2 u) → zRn (d + 3) 131 (26, [.ref 32, .int (iI i), zJ, zJ], [.int 0], (49, x, l, zrow σ 32 (upd (σ 32) 0 0), τ, zrho)) Q := by
    intro hb
    refine zv131_26 ⟨fun c => absurd rfl c, fun _ => zv109_0 (zv131_34 ?_)⟩
    rw [zup_row, zrow_row]
    exact hq0 hb _ (zwf7_0 (zwf7_0 (zwf7.refl _))) rfl
  have good' : 0 ≤ i → i ≤ far2 u → zRn (d + 3) 131 (26, [.ref 32, .int (iI i), zJ, zJ], [.int 1], (49, x, l, zrow σ 32 (upd (σ 32) 0 0), τ, zrho)) Q := by
    intro a b
    exact zv131_26 ⟨fun _ => good i.toNat (by omega) (by omega), fun c => absurd (by decide) c⟩
  refine zv131_0 ?_
  rw [zup_row]
  refine sp117 hu (zwf7_RR (zwf7_0 (zwf7.refl _)) hr) (zv131_11 ⟨fun c => ?_, fun c => ?_⟩)
  · rw [bI_0] at c
    have hfar : far2 u = 2000 := by unfold far2; rw [if_neg (by rw [c]; decide)]
    rw [hfar] at bad good'
    exact sp110 (b := 0) (c := 2000) h1 h2 (by omega) (by omega) (by omega) (by omega) (fun a b => good' a b) (fun a => bad a)
  · rw [bI_0] at c
    have hfar : far2 u = 200 := by unfold far2; rw [if_pos (by simpa using c)]
    rw [hfar] at bad good'
    exact sp110 (b := 0) (c := 200) h1 h2 (by omega) (by omega) (by omega) (by omega) (fun a b => good' a b) (fun a => bad a)
