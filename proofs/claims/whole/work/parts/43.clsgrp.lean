/-! the class: groups -/
theorem row2_mem {t k : Nat} {o : zO} (h : o ∈ row2 t k) : ∃ i, i < k ∧ o = (0, i + 1, t - (i + 1)) := by
  obtain ⟨i, hi⟩ := List.getElem?_of_mem h
  have hl : i < k := by
    have := (List.getElem?_eq_some_iff.mp hi).1
    rw [row2_len] at this; exact this
  rw [row2_get t k i hl] at hi
  exact ⟨i, hl, (Option.some.inj hi).symm⟩
theorem row3_mem {t a k : Nat} {o : zO} (h : o ∈ row3 t a k) : ∃ i, i < k ∧ o = (a, a + i, t - a - (a + i)) := by
  obtain ⟨i, hi⟩ := List.getElem?_of_mem h
  have hl : i < k := by
    have := (List.getElem?_eq_some_iff.mp hi).1
    rw [row3_len] at this; exact this
  rw [row3_get t a k i hl] at hi
  exact ⟨i, hl, (Option.some.inj hi).symm⟩
theorem rows3_mem {t : Nat} {o : zO} : ∀ {k : Nat}, o ∈ rows3 t k → ∃ a i, 1 ≤ a ∧ a ≤ k ∧ i < (t - a) / 2 - a + 1 ∧ o = (a, a + i, t - a - (a + i)) := by
  intro k
  induction k with
  | zero => intro h; exact absurd h List.not_mem_nil
  | succ k ih =>
    intro h
    have h : o ∈ rows3 t k ++ row3 t (k + 1) ((t - (k + 1)) / 2 - (k + 1) + 1) := h
    rcases List.mem_append.mp h with h | h
    · obtain ⟨a, i, h1, h2, h3, h4⟩ := ih h
      exact ⟨a, i, h1, by omega, h3, h4⟩
    · obtain ⟨i, h1, h2⟩ := row3_mem h
      exact ⟨k + 1, i, by omega, by omega, h1, h2⟩
/-- what a way of a group is -/
theorem grp_mem {t n : Nat} {o : zO} (hn : n ≤ 3) (c1 : n ≤ t) (c2 : n = 0 ↔ t = 0) (h : o ∈ grp t n) : o.1 ≤ o.2.1 ∧ o.2.1 ≤ o.2.2 ∧ o.1 + o.2.1 + o.2.2 = t ∧ (n ≤ 2 → o.1 = 0) ∧ (n ≤ 1 → o.2.1 = 0) ∧ (2 ≤ n → 1 ≤ o.2.1) ∧ (n = 3 → 1 ≤ o.1) := by
  have h5 : n = 0 ∨ n = 1 ∨ n = 2 ∨ n = 3 := by omega
  rcases h5 with h5 | h5 | h5 | h5 <;> subst h5
  · have : o = (0, 0, 0) := List.mem_singleton.mp h
    have h0 : t = 0 := c2.mp rfl
    subst this; subst h0
    simp
  · have : o = (0, 0, t) := List.mem_singleton.mp h
    subst this
    simp
  · obtain ⟨i, h1, h2⟩ := row2_mem (k := t / 2) h
    subst h2
    dsimp only
    omega
  · obtain ⟨a, i, h1, h2, h3, h4⟩ := rows3_mem (k := t / 3) h
    subst h4
    dsimp only
    omega
theorem G_may {u : zRu} {h t n : Nat} {o : zO} (ho : o ∈ G u h t n) : may u h t n = true ∧ o ∈ grp t n ∧ isO u h o = true := by
  unfold G at ho
  cases hm : may u h t n with
  | false => rw [hm] at ho; exact absurd ho List.not_mem_nil
  | true =>
    rw [hm, cond_true] at ho
    obtain ⟨h1, h2⟩ := List.mem_filter.mp ho
    exact ⟨rfl, h1, h2⟩
theorem sp94 {d x l : Nat} {σ : Nat → Nat → Int32} {τ : Nat → Nat → Int64} {Q : zR → Prop} {u : zRu} {h t n : Nat} (hu : zRok u) (hc : CR u (σ 1) (σ 2) (σ 3) (τ 4)) (h4 : kd u = 4) (ht : t ≤ h) (hh : h ≤ 2000) (hn : n ≤ 3) (hq : Q (.inl (some (.int (nI (G u h t n).length))), (49, x, l, σ, τ, zrho))) :
    zRn (d + 2) 94 (0, [.ref 1, .int (nI h), .int (nI t), .int (nI n), zJ, zJ], [], (49, x, l, σ, τ, zrho)) Q := by
  have q0 : G u h t n = [] → Q (.inl (some (.int (0))), (49, x, l, σ, τ, zrho)) := fun e => by rw [e] at hq; exact hq
  refine zv94_0 ⟨fun c => ?_, fun c => ⟨fun c2 => ⟨fun c3 => ⟨fun c4 => ?_, fun c4 => ?_⟩, fun c3 => ?_⟩, fun c2 => ?_⟩⟩
  · simp (disch := omega) only [zlit, nI_leI, nI_ltI, nI_eq, nI_clamp, nI_add, pk_mul, pk_sub, pk_div] at c
    exact q0 (G_4n h4 (by omega))
  · simp (disch := omega) only [zlit, nI_leI, nI_ltI, nI_eq, nI_clamp, nI_add, pk_mul, pk_sub, pk_div] at c3 c4
    exact q0 (G_4n h4 (by omega))
  · simp (disch := omega) only [zlit, nI_leI, nI_ltI, nI_eq, nI_clamp, nI_add, pk_mul, pk_sub, pk_div] at c c2 c3 c4
    have hn2 : n = 2 := by omega
    subst hn2
    have hG : (G u h t 2) = (row2 t (t / 2)).filter (isO u h) := by
      by_cases c5 : 2 ≤ t
      · exact G_4 h4 (by omega) c2 (by omega) c5 (by omega)
      · unfold G
        rw [may_out (by omega), show t / 2 = 0 by omega]; rfl
    have key : ∀ m k, k + m = t / 2 → zRn (d + 2) 94 (59, [.ref 1, .int (nI h), .int (nI t), zJ, .int (nI ((row2 t k).filter (isO u h)).length), .int (nI (k + 1))], [], (49, x, l, σ, τ, zrho)) Q := by
      intro m
      induction m with
      | zero =>
        intro k hk
        refine zv94_59 ⟨fun _ => ?_, fun c5 => ?_⟩
        · rw [show k = t / 2 by omega, ← hG]; exact hq
        · simp (disch := omega) only [zlit, nI_leI, nI_ltI, nI_eq, nI_clamp, nI_add, pk_mul, pk_sub, pk_div] at c5; omega
      | succ m ih =>
        intro k hk
        refine zv94_59 ⟨fun c5 => ?_, fun c5 => ?_⟩
        · simp (disch := omega) only [zlit, nI_leI, nI_ltI, nI_eq, nI_clamp, nI_add, pk_mul, pk_sub, pk_div] at c5; omega
        · rw [pk_sub (show k + 1 ≤ t by omega)]
          refine sp79 hc c2 (by omega) (by omega) ?_
          have e : (row2 t (k + 1)).filter (isO u h) = (row2 t k).filter (isO u h) ++ (if en u h (k + 1) (t - (k + 1)) = true then [(0, k + 1, t - (k + 1))] else []) := by
            show (row2 t k ++ [_]).filter _ = _
            rw [List.filter_append, zfil1, isO_4 h4]
          have := ih (k + 1) (by omega)
          rw [e, List.length_append] at this
          refine zv94_80 ⟨fun c6 => ?_, fun c6 => ?_⟩
          · rw [bI_0] at c6
            rw [c6] at this
            rw [show (0 : Int32) = nI 0 from rfl, nI_add, nI_1]
            exact this
          · rw [bI_0] at c6
            rw [if_pos (by simpa using c6)] at this
            rw [nI_1, nI_1]
            exact this
    exact key (t / 2) 0 (by omega)
  · simp (disch := omega) only [zlit, nI_leI, nI_ltI, nI_eq, nI_clamp, nI_add, pk_mul, pk_sub, pk_div] at c c2 c3
    refine sp95 hn (by omega) ?_
    have hw : wy t n ≤ 1 := by
      have h5 : n = 0 ∨ n = 1 := by omega
      rcases h5 with h5 | h5 <;> subst h5
      · show (if t = 0 then 1 else 0) ≤ 1; split <;> omega
      · show (if 1 ≤ t then 1 else 0) ≤ 1; split <;> omega
    have hw2 : (n ≤ t ∧ (n = 0 ↔ t = 0)) → wy t n = 1 := by
      intro e
      have h5 : n = 0 ∨ n = 1 := by omega
      rcases h5 with h5 | h5 <;> subst h5
      · exact if_pos (by omega)
      · exact if_pos (by omega)
    refine zv94_23 ⟨fun c4 => ?_, fun c4 => ⟨fun c5 => ?_, fun c5 => ?_⟩⟩
    · simp (disch := omega) only [zlit, nI_leI, nI_ltI, nI_eq, nI_clamp, nI_add, pk_mul, pk_sub, pk_div] at c4
      refine q0 ?_
      unfold G
      rw [may_out (fun e => c4 (hw2 e))]; rfl
    · simp (disch := omega) only [zlit, nI_leI, nI_ltI, nI_eq, nI_clamp, nI_add, pk_mul, pk_sub, pk_div] at c4 c5
      have hth : t = h := by omega
      by_cases e : n ≤ t ∧ (n = 0 ↔ t = 0)
      · refine q0 ?_
        rw [G_4 h4 (by omega) c2 (by omega) e.1 e.2]
        apply List.filter_eq_nil_iff.mpr
        intro o ho
        have hm := grp_mem hn e.1 e.2 ho
        rw [isO_4 h4]
        intro hen
        have := hu.2.2 _ _ _ hen
        have := hm.2.2.2.1 (by omega)
        have := hm.2.2.2.2.1 (by omega)
        omega
      · exact q0 (by unfold G; rw [may_out e]; rfl)
    · simp (disch := omega) only [zlit, nI_leI, nI_ltI, nI_eq, nI_clamp, nI_add, pk_mul, pk_sub, pk_div] at c4 c5
      have e : n ≤ t ∧ (n = 0 ↔ t = 0) := by
        by_cases e : n ≤ t ∧ (n = 0 ↔ t = 0)
        · exact e
        · have := wy_0 hn e; omega
      have hg : (G u h t n) = if en u h 0 t = true then [(0, 0, t)] else [] := by
        rw [G_4 h4 (by omega) c2 (by omega) e.1 e.2]
        have : grp t n = [(0, 0, t)] := by
          have h5 : n = 0 ∨ n = 1 := by omega
          rcases h5 with h5 | h5 <;> subst h5
          · rw [show t = 0 by omega]; rfl
          · rfl
        rw [this, zfil1, isO_4 h4]
      refine sp79 (a := 0) hc c2 (by omega) (by omega) (zv94_39 ⟨fun c6 => ?_, fun c6 => ?_⟩)
      · rw [bI_0] at c6
        exact q0 (by rw [hg, c6]; rfl)
      · rw [bI_0] at c6
        rw [hg, if_pos (by simpa using c6)] at hq
        exact hq
  · simp (disch := omega) only [zlit, nI_leI, nI_ltI, nI_eq, nI_clamp, nI_add, pk_mul, pk_sub, pk_div] at c2
    exact q0 (G_4n h4 (by omega))
theorem sp91 {d x l : Nat} {σ : Nat → Nat → Int32} {τ : Nat → Nat → Int64} {Q : zR → Prop} {u : zRu} {h t n : Nat} (hu : zRok u) (hc : CR u (σ 1) (σ 2) (σ 3) (τ 4)) (ht : t ≤ h) (hl : lst u h ≤ t) (hh : h ≤ 2000) (h8 : has8 u = true → h ≤ 60) (hn : n ≤ 3) (hq : Q (.inl (some (.int (nI (G u h t n).length))), (49, x, l, σ, τ, zrho))) :
    zRn (d + 3) 91 (0, [.ref 1, .int (nI h), .int (nI t), .int (nI n)], [], (49, x, l, σ, τ, zrho)) Q := by
  have h4 := hu.1
  have hk : (σ 1 0).toInt = (kd u : Int) := by rw [hc.1]; exact nI_T (by omega)
  have e1 : nI h - nI t = nI (h - t) := pk_sub ht
  refine zv91_0 ?_
  rw [hk, e1]
  unfold lst at hl
  refine ⟨fun c => ?_, fun c => ?_, fun c => ?_, fun c => ?_, fun c => ?_⟩
  · exact sp94 hu hc (by omega) ht hh hn (zv91_121 hq)
  · have k0 : kd u = 0 := by omega
    rw [G_len0 k0 hn (fun _ e => by have := h8 (may3 hu e); omega)] at hq
    refine sp92 hu hc (by omega) hn (zv91_44 ⟨fun c2 => ?_, fun c2 => ?_⟩)
    · rw [bI_0] at c2
      rw [c2] at hq; exact hq
    · rw [bI_0] at c2
      rw [show (Nat.ble 1 (h - t) && (Nat.ble (h - t) 12 && (dg u (h - t)).testBit n)) = true by simpa only [Bool.not_eq_false] using c2] at hq
      exact sp95 hn (by omega) (zv91_52 hq)
  · have k0 : kd u = 1 := by omega
    rw [G_len1 k0 hn] at hq
    refine sp93 hc (by omega) (zv91_64 ⟨fun c2 => ?_, fun c2 => ⟨fun c3 => ?_, fun c3 => ?_⟩⟩)
    · rw [bI_0] at c2
      rw [c2] at hq; exact hq
    · rw [bI_0] at c2
      simp (disch := omega) only [zlit, nI_leI, nI_ltI, nI_eq, nI_clamp, nI_add, pk_mul, pk_sub, pk_div] at c3
      rw [if_neg (by omega), Bool.cond_self] at hq; exact hq
    · rw [bI_0] at c2
      simp (disch := omega) only [zlit, nI_leI, nI_ltI, nI_eq, nI_clamp, nI_add, pk_mul, pk_sub, pk_div] at c3
      rw [show (Nat.ble 1 (h - t) && (Nat.ble (h - t) 64 && nb u (h - t))) = true by simpa only [Bool.not_eq_false] using c2, if_pos (by omega)] at hq
      exact sp95 hn (by omega) (zv91_77 hq)
  · have k0 : kd u = 2 := by omega
    rw [k0] at hl
    have hth : t = h := Nat.le_antisymm ht hl
    subst hth
    rw [G_len2 k0] at hq
    refine ⟨fun c2 => ?_, fun c2 => ?_⟩
    · simp (disch := omega) only [zlit, nI_leI, nI_ltI, nI_eq, nI_clamp, nI_add, pk_mul, pk_sub, pk_div] at c2
      rw [if_neg c2] at hq; exact hq
    · simp (disch := omega) only [zlit, nI_leI, nI_ltI, nI_eq, nI_clamp, nI_add, pk_mul, pk_sub, pk_div] at c2
      rw [if_pos (by omega)] at hq
      exact sp95 (n := 2) (by omega) (by omega) (zv91_92 hq)
  · have k0 : kd u = 3 := by omega
    rw [k0] at hl
    have hth : t = h := Nat.le_antisymm ht hl
    subst hth
    rw [G_len3 k0] at hq
    refine ⟨fun c2 => ?_, fun c2 => ?_⟩
    · simp (disch := omega) only [zlit, nI_leI, nI_ltI, nI_eq, nI_clamp, nI_add, pk_mul, pk_sub, pk_div] at c2
      rw [if_neg c2] at hq; exact hq
    · simp (disch := omega) only [zlit, nI_leI, nI_ltI, nI_eq, nI_clamp, nI_add, pk_mul, pk_sub, pk_div] at c2
      rw [if_pos (by omega)] at hq
      by_cases c3 : t = 0
      · subst c3
        exact sp95m (zv91_109 hq)
      · rw [show (1 : Int32) = nI 1 from rfl, pk_sub (by omega)]
        exact sp95 (n := 2) (by omega) (by omega) (zv91_109 hq)
