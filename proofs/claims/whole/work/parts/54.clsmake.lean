/-! the class: a move is made, and taken back -/
def p16 (k : Nat) : Int32 := if k = 16 then iI (-1) else nI k
def nh (hp : Nat → Nat) (P a b c k : Nat) : Nat := if k = P then a else if k = fe hp 16 0 then b else if k = fe hp (16 - (fe hp 16 0 + 1)) (fe hp 16 0 + 1) then c else hp k
def CS (H : Nat → Nat → Nat) (pl : Nat) (s11 s12 s13 s14 s15 s16 : Nat → Int32) : Prop := s11 1 = nI pl ∧ (∀ k, k < 16 → s12 k = nI (H pl k)) ∧ (∀ i k, i ≤ pl → k < 16 → H i k ≤ 2000) ∧
  ∀ i, i < pl → ∃ P S T, P < 16 ∧ S ≤ 16 ∧ T ≤ 16 ∧ s13 i = nI P ∧ s14 i = nI (H i P) ∧ s15 i = p16 S ∧ s16 i = p16 T ∧ ∀ k, k < 16 → k ≠ P → H i k = if k = T then 0 else if k = S then 0 else H (i + 1) k
theorem zup_nx (σ : Nat → Nat → Int32) {a b : Nat} (j : Nat) (v : Int32) (h : b ≠ a) : zup σ a j v b = σ b := by
  rw [zup_row, zrow_ne _ _ h]
theorem sp106 {d x l : Nat} {σ : Nat → Nat → Int32} {τ : Nat → Nat → Int64} {Q : zR → Prop} {S : Nat} {v : Int32} (hS : S ≤ 16) (hq : ∀ s, (∀ k, k < 16 → s k = if k = S then v else σ 12 k) → Q (.inl none, (49, x, l, zrow σ 12 s, τ, zrho))) :
    zRn d 106 (0, [.ref 11, .int (p16 S), .int v], [], (49, x, l, σ, τ, zrho)) Q := by
  unfold p16
  by_cases c : S = 16
  · rw [if_pos c]
    refine zv106_0 ⟨fun _ => ?_, fun c2 => absurd rfl c2⟩
    have := hq (σ 12) (fun k hk => by rw [if_neg (by omega)])
    rw [zrow_id] at this
    exact this
  · rw [if_neg c]
    refine zv106_0 ⟨fun c2 => ?_, fun _ => ⟨vp_in_nI (by omega) (by decide), ?_⟩⟩
    · rw [nI_iI, iI_m1, iI_eqI (by omega) (by omega) (by omega) (by omega)] at c2; omega
    · rw [nI_clamp (by omega), zup_row]
      refine hq _ (fun k _ => ?_)
      by_cases e : k = S
      · rw [if_pos e, e, pk_us]
      · rw [if_neg e, pk_un e]
theorem p16_m1 {k : Nat} (hk : k ≤ 16) : (p16 k = -1) = (k = 16) := by
  unfold p16
  by_cases c : k = 16
  · rw [if_pos c]; simp only [c, eq_self]; decide
  · rw [if_neg c, nI_iI, iI_m1, iI_eqI (by omega) (by omega) (by omega) (by omega)]
    simp only [c]
    apply propext
    constructor
    · intro h; omega
    · intro h; exact h.elim
theorem fe_z {hp : Nat → Nat} : ∀ n k, fe hp n k < k + n → hp (fe hp n k) = 0 := by
  intro n
  induction n with
  | zero => intro k h; have := (fe_le hp 0 k).1; omega
  | succ n ih =>
    intro k h
    have e0 : fe hp (n + 1) k = if hp k = 0 then k else fe hp n (k + 1) := rfl
    by_cases c : hp k = 0
    · rw [e0, if_pos c]; exact c
    · rw [e0, if_neg c] at h ⊢
      exact ih (k + 1) (by omega)
theorem sp103 {d x l : Nat} {σ : Nat → Nat → Int32} {τ : Nat → Nat → Int64} {Q : zR → Prop} {H : Nat → Nat → Nat} {pl P a b c : Nat} (hs : CS H pl (σ 11) (σ 12) (σ 13) (σ 14) (σ 15) (σ 16)) (hpl : pl < 512) (hP : P < 16) (hP0 : 0 < H pl P) (ha : a ≤ 2000) (hb : b ≤ 2000) (hc : c ≤ 2000) (hbc : 0 < c → 0 < b)
    (h0 : σ 5 0 = nI P) (h1 : σ 5 1 = nI a) (h2 : σ 5 2 = nI b) (h3 : σ 5 3 = nI c)
    (hq1 : (0 < b → fe (H pl) 16 0 < 16) → (0 < c → fe (H pl) (16 - (fe (H pl) 16 0 + 1)) (fe (H pl) 16 0 + 1) < 16) →
      ∀ σ', (∀ q, (q < 11 ∨ 16 < q) → σ' q = σ q) → CS (fun i => if i = pl + 1 then nh (H pl) P a b c else H i) (pl + 1) (σ' 11) (σ' 12) (σ' 13) (σ' 14) (σ' 15) (σ' 16) → Q (.inl (some (.int (1))), (49, x, l, σ', τ, zrho)))
    (hq0 : ¬ ((0 < b → fe (H pl) 16 0 < 16) ∧ (0 < c → fe (H pl) (16 - (fe (H pl) 16 0 + 1)) (fe (H pl) 16 0 + 1) < 16)) → Q (.inl (some (.int (0))), (49, x, l, σ, τ, zrho))) :
    zRn (d + 1) 103 (0, [.ref 11, .ref 5, zJ, zJ, zJ], [], (49, x, l, σ, τ, zrho)) Q := by
  obtain ⟨s1, s2, s3, s4⟩ := hs
  have hbd : ∀ k, k < 16 → H pl k ≤ 2000 := fun k hk => s3 pl k (Nat.le_refl _) hk
  have f1 := fe_le (H pl) 16 0
  have f2 := fe_le (H pl) (16 - (fe (H pl) 16 0 + 1)) (fe (H pl) 16 0 + 1)
  have z1 := fe_z (hp := H pl) 16 0
  have z2 := fe_z (hp := H pl) (16 - (fe (H pl) 16 0 + 1)) (fe (H pl) 16 0 + 1)
  -- behind the checks
  have k84 : ∀ S T, S ≤ 16 → T ≤ 16 → (0 < b → S = fe (H pl) 16 0 ∧ S < 16) → (b = 0 → S = 16) → (0 < c → T = fe (H pl) (16 - (fe (H pl) 16 0 + 1)) (fe (H pl) 16 0 + 1) ∧ T < 16) → (c = 0 → T = 16) →
      zRn (d + 1) 103 (84, [.ref 11, .ref 5, .int (p16 S), .int (p16 T), zJ], [], (49, x, l, σ, τ, zrho)) Q := by
    intro S T hS hT g1 g2 g3 g4
    refine zw103_84 ?_
    rw [s1, h0, h1, h2, nI_clamp (by omega), nI_clamp (by omega), s2 P hP]
    refine ⟨vp_in_nI hpl (by decide), vp_in_nI hP (by decide), vp_in_nI hpl (by decide), vp_in_nI hpl (by decide), vp_in_nI hpl (by decide), vp_in_nI hP (by decide), ?_⟩
    refine sp106 hS (fun t1 e1 => zw103_167 ?_)
    have e3 : ∀ X : Nat → Nat → Int32, X 5 3 = σ 5 3 → X 5 3 = nI c := fun X e => e.trans h3
    refine sp106 (v := σ 5 3) hT (fun t2 e2 => zw103_176 ?_)
    rw [zrow_row]
    refine hq1 (fun q => by have := g1 q; omega) (fun q => by have := g3 q; omega) _ (fun q hq => ?_) ⟨?_, ?_, ?_, ?_⟩
    · rw [zrow_ne _ _ (by omega), zup_nx _ _ _ (by omega), zup_nx _ _ _ (by omega), zup_nx _ _ _ (by omega), zup_nx _ _ _ (by omega), zup_nx _ _ _ (by omega), zup_nx _ _ _ (by omega)]
    · exact nI_1 pl
    · intro k hk
      show t2 k = nI ((if pl + 1 = pl + 1 then nh (H pl) P a b c else H (pl + 1)) k)
      rw [if_pos rfl]
      have q1 : t1 k = if k = S then nI b else upd (σ 12) P (nI a) k := e1 k hk
      have q2 : t2 k = if k = T then σ 5 3 else t1 k := e2 k hk
      rw [q2, q1, h3]
      have q3 : upd (σ 12) P (nI a) k = nI (if k = P then a else H pl k) := by
        by_cases e : k = P
        · rw [e, pk_us, if_pos rfl]
        · rw [pk_un e, if_neg e]; exact s2 k hk
      rw [q3]
      unfold nh
      by_cases w1 : k = P
      · -- the place itself is no empty one
        subst w1
        have n1 : k ≠ S := by
          intro e
          by_cases hb0 : b = 0
          · have := g2 hb0; omega
          · have := g1 (by omega)
            rw [e, this.1, z1 (by omega)] at hP0; omega
        have n2 : k ≠ T := by
          intro e
          by_cases hc0 : c = 0
          · have := g4 hc0; omega
          · have g := g3 (by omega)
            have g' := g1 (hbc (by omega))
            rw [e, g.1, z2 (by omega)] at hP0; omega
        rw [if_neg n2, if_neg n1, if_pos rfl, if_pos rfl]
      · rw [if_neg w1, if_neg w1]
        by_cases w2 : k = fe (H pl) 16 0
        · rw [if_pos w2]
          by_cases hb0 : b = 0
          · have q4 := g2 hb0
            have hc0 : c = 0 := by
              by_cases hc0 : c = 0
              · exact hc0
              · have := hbc (by omega); omega
            have q5 := g4 hc0
            rw [if_neg (by omega), if_neg (by omega), w2, z1 (by omega), hb0]
          · have q4 := g1 (by omega)
            have n2 : k ≠ T := by
              intro e
              by_cases hc0 : c = 0
              · have := g4 hc0; omega
              · have := g3 (by omega); omega
            rw [if_neg n2, if_pos (by omega)]
        · rw [if_neg w2]
          by_cases w3 : k = fe (H pl) (16 - (fe (H pl) 16 0 + 1)) (fe (H pl) 16 0 + 1)
          · rw [if_pos w3]
            by_cases hc0 : c = 0
            · have q5 := g4 hc0
              have n1 : k ≠ S := by
                intro e
                by_cases hb0 : b = 0
                · have := g2 hb0; omega
                · have := g1 (by omega); omega
              have hz : H pl k = 0 := by
                by_cases w4 : fe (H pl) 16 0 < 16
                · rw [w3]; exact z2 (by omega)
                · omega
              rw [if_neg (by omega), if_neg n1, hz, hc0]
            · have q5 := g3 (by omega)
              rw [if_pos (by omega)]
          · rw [if_neg w3]
            have n1 : k ≠ S := by
              intro e
              by_cases hb0 : b = 0
              · have := g2 hb0; omega
              · have := g1 (by omega); omega
            have n2 : k ≠ T := by
              intro e
              by_cases hc0 : c = 0
              · have := g4 hc0; omega
              · have := g3 (by omega); omega
            rw [if_neg n2, if_neg n1]
    · intro i k hi hk
      show (if i = pl + 1 then nh (H pl) P a b c else H i) k ≤ 2000
      by_cases e : i = pl + 1
      · rw [if_pos e]
        unfold nh
        have := hbd k hk
        split
        · omega
        · split
          · omega
          · split <;> omega
      · rw [if_neg e]; exact s3 i k (by omega) hk
    · intro i hi
      by_cases e : i = pl
      · subst e
        refine ⟨P, S, T, hP, hS, hT, ?_, ?_, ?_, ?_, ?_⟩
        · exact pk_us
        · show upd (σ 14) i (nI (H i P)) i = nI ((if i = i + 1 then nh (H i) P a b c else H i) P)
          rw [pk_us, if_neg (by omega)]
        · exact pk_us
        · exact pk_us
        · intro k hk hkP
          show (if i = i + 1 then nh (H i) P a b c else H i) k = if k = T then 0 else if k = S then 0 else (if i + 1 = i + 1 then nh (H i) P a b c else H (i + 1)) k
          rw [if_neg (by omega), if_pos rfl]
          by_cases w1 : k = T
          · rw [if_pos w1]
            by_cases hc0 : c = 0
            · have := g4 hc0; omega
            · have g := g3 (by omega)
              have g' := g1 (hbc (by omega))
              rw [w1, g.1]; exact z2 (by omega)
          · rw [if_neg w1]
            by_cases w2 : k = S
            · rw [if_pos w2]
              by_cases hb0 : b = 0
              · have := g2 hb0; omega
              · have g := g1 (by omega)
                rw [w2, g.1]; exact z1 (by omega)
            · rw [if_neg w2]
              unfold nh
              rw [if_neg hkP]
              by_cases w3 : k = fe (H i) 16 0
              · rw [if_pos w3]
                by_cases hb0 : b = 0
                · rw [w3, z1 (by omega), hb0]
                · have := g1 (by omega); omega
              · rw [if_neg w3]
                by_cases w4 : k = fe (H i) (16 - (fe (H i) 16 0 + 1)) (fe (H i) 16 0 + 1)
                · rw [if_pos w4]
                  by_cases hc0 : c = 0
                  · have hz : H i k = 0 := by
                      by_cases w5 : fe (H i) 16 0 < 16
                      · rw [w4]; exact z2 (by omega)
                      · omega
                    rw [hz, hc0]
                  · have := g3 (by omega); omega
                · rw [if_neg w4]
      · obtain ⟨P', S', T', r1, r2, r3, r4, r5, r6, r7, r8⟩ := s4 i (by omega)
        refine ⟨P', S', T', r1, r2, r3, ?_, ?_, ?_, ?_, ?_⟩
        · exact (pk_un e).trans r4
        · show upd (σ 14) pl (nI (H pl P)) i = nI ((if i = pl + 1 then nh (H pl) P a b c else H i) P')
          rw [pk_un e, if_neg (by omega)]; exact r5
        · exact (pk_un e).trans r6
        · exact (pk_un e).trans r7
        · intro k hk hkP
          show (if i = pl + 1 then nh (H pl) P a b c else H i) k = if k = T' then 0 else if k = S' then 0 else (if i + 1 = pl + 1 then nh (H pl) P a b c else H (i + 1)) k
          rw [if_neg (show ¬ i = pl + 1 by omega), if_neg (show ¬ i + 1 = pl + 1 by omega)]
          exact r8 k hk hkP
  have k65 : ∀ S T (w : Bool), S ≤ 16 → T ≤ 16 → (w = false → (0 < b → S = fe (H pl) 16 0 ∧ S < 16) ∧ (b = 0 → S = 16) ∧ (0 < c → T = fe (H pl) (16 - (fe (H pl) 16 0 + 1)) (fe (H pl) 16 0 + 1) ∧ T < 16) ∧ (c = 0 → T = 16)) →
      (w = true → ¬ ((0 < b → fe (H pl) 16 0 < 16) ∧ (0 < c → fe (H pl) (16 - (fe (H pl) 16 0 + 1)) (fe (H pl) 16 0 + 1) < 16))) →
      zRn (d + 1) 103 (65, [.ref 11, .ref 5, .int (p16 S), .int (p16 T), zJ], [.int (bI w)], (49, x, l, σ, τ, zrho)) Q := by
    intro S T w hS hT g1 g2
    refine zw103_65 ⟨fun c1 => ?_, fun c1 => ⟨fun _ => ?_, fun c2 => ?_⟩⟩
    · rw [bI_0] at c1
      exact hq0 (g2 (by simpa using c1))
    · rw [bI_0] at c1
      obtain ⟨q1, q2, q3, q4⟩ := g1 (by simpa using c1)
      exact k84 S T hS hT q1 q2 q3 q4
    · rw [s1] at c2
      simp (disch := omega) only [zlit, nI_leI, nI_ltI, nI_eq, nI_clamp, nI_add, pk_mul, pk_sub, pk_div] at c2; omega
  have k35 : ∀ S T, S ≤ 16 → T ≤ 16 → (0 < b → S = fe (H pl) 16 0) → (b = 0 → S = 16) → (0 < c → (S < 16 → T = fe (H pl) (16 - (fe (H pl) 16 0 + 1)) (fe (H pl) 16 0 + 1))) → (c = 0 → T = 16) →
      zRn (d + 1) 103 (35, [.ref 11, .ref 5, .int (p16 S), zJ, zJ], [.int (p16 T)], (49, x, l, σ, τ, zrho)) Q := by
    intro S T hS hT g1 g2 g3 g4
    refine zw103_35 ?_
    rw [h2, h3, p16_m1 hS, p16_m1 hT]
    refine ⟨fun c1 => ⟨fun c2 => ?_, fun c2 => ?_⟩, fun c1 => ⟨fun c2 => ?_, fun c2 => ⟨fun c3 => ?_, fun c3 => ⟨fun c4 => ?_, fun c4 => ?_⟩⟩⟩⟩
    · simp (disch := omega) only [zlit, nI_leI, nI_ltI, nI_eq, nI_clamp, nI_add, pk_mul, pk_sub, pk_div] at c1 c2
      exact k65 S T false hS hT (fun _ => ⟨by omega, by omega, by omega, by omega⟩) (fun q => by cases q)
    · simp (disch := omega) only [zlit, nI_leI, nI_ltI, nI_eq, nI_clamp, nI_add, pk_mul, pk_sub, pk_div] at c1 c2
      omega
    · simp (disch := omega) only [zlit, nI_leI, nI_ltI, nI_eq, nI_clamp, nI_add, pk_mul, pk_sub, pk_div] at c1
      refine k65 S T true hS hT (fun q => by cases q) (fun _ q => ?_)
      have := q.1 (by omega); have := g1 (by omega); omega
    · simp (disch := omega) only [zlit, nI_leI, nI_ltI, nI_eq, nI_clamp, nI_add, pk_mul, pk_sub, pk_div] at c1 c3
      exact k65 S T false hS hT (fun _ => ⟨fun q => ⟨g1 q, by omega⟩, by omega, by omega, by omega⟩) (fun q => by cases q)
    · simp (disch := omega) only [zlit, nI_leI, nI_ltI, nI_eq, nI_clamp, nI_add, pk_mul, pk_sub, pk_div] at c1 c3
      exact k65 S T false hS hT (fun _ => ⟨fun q => ⟨g1 q, by omega⟩, by omega, fun q => ⟨g3 q (by omega), by omega⟩, by omega⟩) (fun q => by cases q)
    · simp (disch := omega) only [zlit, nI_leI, nI_ltI, nI_eq, nI_clamp, nI_add, pk_mul, pk_sub, pk_div] at c1 c3
      refine k65 S T true hS hT (fun q => by cases q) (fun _ q => ?_)
      have := q.2 (by omega); have := g3 (by omega) (by omega); omega
  have k16 : ∀ S, S ≤ 16 → (0 < b → S = fe (H pl) 16 0) → (b = 0 → S = 16) → zRn (d + 1) 103 (16, [.ref 11, .ref 5, zJ, zJ, zJ], [.int (p16 S)], (49, x, l, σ, τ, zrho)) Q := by
    intro S hS g1 g2
    refine zw103_16 ?_
    rw [h3]
    refine ⟨fun c1 => ?_, fun c1 => ?_⟩
    · simp (disch := omega) only [zlit, nI_leI, nI_ltI, nI_eq, nI_clamp, nI_add, pk_mul, pk_sub, pk_div] at c1
      exact k35 S 16 hS (by omega) g1 g2 (by omega) (fun _ => rfl)
    · simp (disch := omega) only [zlit, nI_leI, nI_ltI, nI_eq, nI_clamp, nI_add, pk_mul, pk_sub, pk_div] at c1
      have hb0 : 0 < b := hbc (by omega)
      have e1 := g1 hb0
      by_cases c2 : S = 16
      · -- no first empty place: whatever comes, there is no room
        have e2 : p16 S + 1 = nI 0 := by unfold p16; rw [if_pos c2]; decide
        rw [e2]
        refine sp105 (f := 0) s2 hbd (by omega) (fun q1 q2 => zw103_31 ?_) (fun q1 => zw103_31 ?_)
        · have : fe (H pl) (16 - 0) 0 = fe (H pl) 16 0 := rfl
          omega
        · exact k35 S 16 hS (by omega) g1 g2 (fun _ q => by omega) (by omega)
      · have e2 : p16 S + 1 = nI (S + 1) := by unfold p16; rw [if_neg c2]; exact nI_1 S
        rw [e2]
        refine sp105 (f := S + 1) s2 hbd (by omega) (fun q1 q2 => zw103_31 ?_) (fun q1 => zw103_31 ?_)
        · have := k35 S (fe (H pl) (16 - (S + 1)) (S + 1)) hS (by omega) g1 g2 (fun _ _ => by rw [e1]) (by omega)
          unfold p16 at this
          rw [if_neg (show ¬ fe (H pl) (16 - (S + 1)) (S + 1) = 16 by omega)] at this
          unfold p16
          exact this
        · exact k35 S 16 hS (by omega) g1 g2 (fun _ _ => by rw [← e1]; exact q1.symm) (by omega)
  refine zw103_0 ?_
  rw [h2]
  refine ⟨fun c1 => ?_, fun c1 => ?_⟩
  · simp (disch := omega) only [zlit, nI_leI, nI_ltI, nI_eq, nI_clamp, nI_add, pk_mul, pk_sub, pk_div] at c1
    exact k16 16 (by omega) (by omega) (fun _ => rfl)
  · simp (disch := omega) only [zlit, nI_leI, nI_ltI, nI_eq, nI_clamp, nI_add, pk_mul, pk_sub, pk_div] at c1
    refine sp105 (f := 0) s2 hbd (by omega) (fun q1 q2 => zw103_12 ?_) (fun q1 => zw103_12 ?_)
    · have := k16 (fe (H pl) 16 0) (by omega) (fun _ => rfl) (by omega)
      unfold p16 at this
      rw [if_neg (show ¬ fe (H pl) 16 0 = 16 from fun e => by have : fe (H pl) (16 - 0) 0 = fe (H pl) 16 0 := rfl; omega)] at this
      exact this
    · exact k16 16 (by omega) (fun _ => q1.symm) (by omega)
theorem sp104 {d x l : Nat} {σ : Nat → Nat → Int32} {τ : Nat → Nat → Int64} {Q : zR → Prop} {H : Nat → Nat → Nat} {pl : Nat} (hs : CS H (pl + 1) (σ 11) (σ 12) (σ 13) (σ 14) (σ 15) (σ 16)) (hpl : pl < 512)
    (hq1 : ∀ σ', (∀ q, (q < 11 ∨ 16 < q) → σ' q = σ q) → CS H pl (σ' 11) (σ' 12) (σ' 13) (σ' 14) (σ' 15) (σ' 16) → Q (.inl none, (49, x, l, σ', τ, zrho))) :
    zRn (d + 1) 104 (0, [.ref 11], [], (49, x, l, σ, τ, zrho)) Q := by
  obtain ⟨s1, s2, s3, s4⟩ := hs
  obtain ⟨P, S, T, r1, r2, r3, r4, r5, r6, r7, r8⟩ := s4 pl (by omega)
  have e1 : nI (pl + 1) - 1 = nI pl := nI_pred pl
  refine zv104_0 ?_
  rw [s1, e1, nI_clamp (by omega), r6]
  refine ⟨fun c => ?_, fun _ => ⟨vp_in_nI hpl (by decide), ?_⟩⟩
  · simp (disch := omega) only [zlit, nI_leI, nI_ltI, nI_eq, nI_clamp, nI_add, pk_mul, pk_sub, pk_div] at c; omega
  · refine sp106 r2 (fun t1 f1 => zv104_31 ?_)
    refine ⟨vp_in_nI hpl (by decide), ?_⟩
    show zRn d 106 (0, [.ref 11, .int (σ 16 ((nI pl).toNatClampNeg)), .int 0], [], _) _
    rw [nI_clamp (by omega), r7]
    refine sp106 r3 (fun t2 f2 => zv104_45 ?_)
    refine ⟨vp_in_nI hpl (by decide), vp_in_nI hpl (by decide), ?_⟩
    show zRn d 106 (0, [.ref 11, .int (σ 13 ((nI pl).toNatClampNeg)), .int (σ 14 ((nI pl).toNatClampNeg))], [], _) _
    rw [nI_clamp (by omega), r4, r5, show nI P = p16 P by unfold p16; rw [if_neg (by omega)]]
    refine sp106 (by omega) (fun t3 f3 => zv104_67 ?_)
    rw [zrow_row, zrow_row]
    refine hq1 _ (fun q hq => ?_) ⟨rfl, ?_, fun i k hi hk => s3 i k (by omega) hk, fun i hi => s4 i (by omega)⟩
    · rw [zrow_ne _ _ (by omega), zup_nx _ _ _ (by omega)]
    · intro k hk
      show t3 k = nI (H pl k)
      have q3 : t3 k = if k = P then nI (H pl P) else t2 k := f3 k hk
      have q2 : t2 k = if k = T then 0 else t1 k := f2 k hk
      have q1 : t1 k = if k = S then 0 else σ 12 k := f1 k hk
      rw [q3]
      by_cases w1 : k = P
      · rw [if_pos w1, w1]
      · rw [if_neg w1, q2, q1, r8 k hk w1]
        by_cases w2 : k = T
        · rw [if_pos w2, if_pos w2]; rfl
        · rw [if_neg w2, if_neg w2]
          by_cases w3 : k = S
          · rw [if_pos w3, if_pos w3]; rfl
          · rw [if_neg w3, if_neg w3]; exact s2 k hk
