/-! the class: choosing in a group -/
theorem get_pre {α : Type} {L M : List α} {k : Nat} {o : α} (h : L[k]? = some o) : (L ++ M)[k]? = some o := by
  rw [List.getElem?_append_left (List.getElem?_eq_some_iff.mp h).1]; exact h
theorem row2f_pre (u : zRu) (h t : Nat) : ∀ m j, ∃ r, (row2 t (j + m)).filter (isO u h) = (row2 t j).filter (isO u h) ++ r := by
  intro m
  induction m with
  | zero => intro j; exact ⟨[], by rw [List.append_nil]; rfl⟩
  | succ m ih =>
    intro j
    obtain ⟨r, hr⟩ := ih j
    refine ⟨r ++ [(0, j + m + 1, t - (j + m + 1))].filter (isO u h), ?_⟩
    show (row2 t (j + m) ++ [_]).filter _ = _
    rw [List.filter_append, hr, List.append_assoc]
    rfl
theorem rows3_pre (t : Nat) : ∀ m j, ∃ r, rows3 t (j + m) = rows3 t j ++ r := by
  intro m
  induction m with
  | zero => intro j; exact ⟨[], by rw [List.append_nil]; rfl⟩
  | succ m ih =>
    intro j
    obtain ⟨r, hr⟩ := ih j
    refine ⟨r ++ row3 t (j + m + 1) ((t - (j + m + 1)) / 2 - (j + m + 1) + 1), ?_⟩
    show rows3 t (j + m) ++ _ = _
    rw [hr, List.append_assoc]
    rfl
theorem sp97 {d x l : Nat} {σ : Nat → Nat → Int32} {τ : Nat → Nat → Int64} {Q : zR → Prop} {u : zRu} {h t k : Nat} {o : zO} (hc : CR u (σ 1) (σ 2) (σ 3) (τ 4)) (h4 : kd u = 4) (ht : t ≤ h) (hh : h ≤ 64) (hk : k ≤ 2000)
    (ho : ((row2 t (t / 2)).filter (isO u h))[k]? = some o) (hq : Q (.inl (some (.int (nI o.2.1))), (49, x, l, σ, τ, zrho))) :
    zRn (d + 1) 97 (0, [.ref 1, .int (nI h), .int (nI t), .int (nI k), zJ, zJ], [], (49, x, l, σ, τ, zrho)) Q := by
  have key : ∀ m j l', j + m = t / 2 → l' + ((row2 t j).filter (isO u h)).length = k → zRn (d + 1) 97 (6, [.ref 1, .int (nI h), .int (nI t), zJ, .int (nI l'), .int (nI (j + 1))], [], (49, x, l, σ, τ, zrho)) Q := by
    intro m
    induction m with
    | zero =>
      intro j l' hj hl
      exfalso
      rw [← show j = t / 2 by omega] at ho
      have := (List.getElem?_eq_some_iff.mp ho).1
      omega
    | succ m ih =>
      intro j l' hj hl
      refine zv97_6 ⟨fun c => ?_, fun c => ?_⟩
      · simp (disch := omega) only [zlit, nI_leI, nI_ltI, nI_eq, nI_clamp, nI_add, pk_mul, pk_sub, pk_div] at c; omega
      · rw [pk_sub (show j + 1 ≤ t by omega)]
        refine sp79 hc hh (by omega) (by omega) ?_
        have e : (row2 t (j + 1)).filter (isO u h) = (row2 t j).filter (isO u h) ++ (if en u h (j + 1) (t - (j + 1)) = true then [(0, j + 1, t - (j + 1))] else []) := by
          show (row2 t j ++ [_]).filter _ = _
          rw [List.filter_append, zfil1, isO_4 h4]
        refine zv97_25 ⟨fun c2 => ?_, fun c2 => ⟨fun c3 => ?_, fun c3 => ?_⟩⟩
        · rw [bI_0] at c2
          rw [nI_1]
          refine ih (j + 1) l' (by omega) ?_
          rw [e, c2]
          exact (by rw [if_neg (by decide), List.append_nil]; exact hl)
        · rw [bI_0] at c2
          simp (disch := omega) only [zlit, nI_leI, nI_ltI, nI_eq, nI_clamp, nI_add, pk_mul, pk_sub, pk_div] at c3
          obtain ⟨l2, e2⟩ : ∃ l2, l' = l2 + 1 := ⟨l' - 1, by omega⟩
          subst e2
          rw [nI_1, pk_m1]
          refine ih (j + 1) l2 (by omega) ?_
          rw [e, if_pos (by simpa using c2), List.length_append, List.length_singleton]
          omega
        · rw [bI_0] at c2
          simp (disch := omega) only [zlit, nI_leI, nI_ltI, nI_eq, nI_clamp, nI_add, pk_mul, pk_sub, pk_div] at c3
          have e3 : ((row2 t (j + 1)).filter (isO u h))[k]? = some (0, j + 1, t - (j + 1)) := by
            rw [e, if_pos (by simpa using c2), List.getElem?_append_right (by omega), show k - ((row2 t j).filter (isO u h)).length = 0 by omega]; rfl
          obtain ⟨r, hr⟩ := row2f_pre u h t m (j + 1)
          rw [show t / 2 = j + 1 + m by omega, hr, get_pre e3] at ho
          have ho := Option.some.inj ho
          rw [← ho] at hq
          exact hq
  exact zv97_0 (key (t / 2) 0 k (by omega) (by simp [row2]))
/-- a choice -/
def zCh (s s' : Nat → Int32) (a b c : Nat) : Prop := s' 0 = s 0 ∧ s' 1 = nI a ∧ s' 2 = nI b ∧ s' 3 = nI c
theorem sp34_5 {d x l : Nat} {σ : Nat → Nat → Int32} {τ : Nat → Nat → Int64} {Q : zR → Prop} {a b c : Nat} (hq : ∀ s, zCh (σ 5) s a b c → Q (.inl none, (49, x, l, zrow σ 5 s, τ, zrho))) :
    zRn d 34 (0, [.ref 5, .int (nI a), .int (nI b), .int (nI c)], [], (49, x, l, σ, τ, zrho)) Q := by
  refine zv34_r5_0 ?_
  simp only [zup_row, zrow_row, zrow_me]
  exact hq _ ⟨rfl, rfl, rfl, rfl⟩
theorem sp98_5 {d x l : Nat} {σ : Nat → Nat → Int32} {τ : Nat → Nat → Int64} {Q : zR → Prop} {t k : Nat} {o : zO} (ht : t ≤ 2000) (hk : k < 2147483648) (ho : (rows3 t (t / 3))[k]? = some o)
    (hq : ∀ s, zCh (σ 5) s o.1 o.2.1 o.2.2 → Q (.inl none, (49, x, l, zrow σ 5 s, τ, zrho))) :
    zRn (d + 1) 98 (0, [.int (nI t), .int (nI k), .ref 5, zJ, zJ, zJ, zJ], [], (49, x, l, σ, τ, zrho)) Q := by
  have key : ∀ m j l', j + m = t / 3 → l' + (rows3 t j).length = k → zRn (d + 1) 98 (5, [.int (nI t), zJ, .ref 5, .int (nI l'), .int (nI (j + 1)), zJ, zJ], [], (49, x, l, σ, τ, zrho)) Q := by
    intro m
    induction m with
    | zero =>
      intro j l' hj hl
      exfalso
      rw [← show j = t / 3 by omega] at ho
      have := (List.getElem?_eq_some_iff.mp ho).1
      omega
    | succ m ih =>
      intro j l' hj hl
      refine zv98_r5_5 ⟨fun c => ?_, fun c => ?_⟩
      · simp (disch := omega) only [zlit, nI_leI, nI_ltI, nI_eq, nI_clamp, nI_add, pk_mul, pk_sub, pk_div] at c; omega
      · have e1 : (nI t - nI (j + 1)) / 2 - nI (j + 1) + 1 = nI ((t - (j + 1)) / 2 - (j + 1) + 1) := by
          rw [pk_sub (by omega), show (2 : Int32) = nI 2 from rfl, pk_div (by omega) (by omega) (by omega), pk_sub (by omega), nI_1]
        have e : rows3 t (j + 1) = rows3 t j ++ row3 t (j + 1) ((t - (j + 1)) / 2 - (j + 1) + 1) := rfl
        rw [e1]
        refine ⟨fun c2 => ?_, fun c2 => ?_⟩
        · simp (disch := omega) only [nI_leI] at c2
          rw [pk_sub c2, nI_1]
          refine ih (j + 1) _ (by omega) ?_
          rw [e, List.length_append, row3_len]
          omega
        · simp (disch := omega) only [nI_leI] at c2
          have e3 : (rows3 t (j + 1))[k]? = some (j + 1, j + 1 + l', t - (j + 1) - (j + 1 + l')) := by
            rw [e, List.getElem?_append_right (by omega), show k - (rows3 t j).length = l' by omega, row3_get _ _ _ _ (by omega)]
          obtain ⟨r, hr⟩ := rows3_pre t m (j + 1)
          rw [show t / 3 = j + 1 + m by omega, hr, get_pre e3] at ho
          have ho := Option.some.inj ho
          rw [← ho] at hq
          rw [nI_add, pk_sub (by omega), pk_sub (by omega)]
          exact sp34_5 (fun s hs => zv98_r5_53 (hq s hs))
  exact zv98_r5_0 (key (t / 3) 0 k (by omega) (by simp [rows3]))
theorem sp34_23 {d x l : Nat} {σ : Nat → Nat → Int32} {τ : Nat → Nat → Int64} {Q : zR → Prop} {a b c : Nat} (hq : ∀ s, zCh (σ 23) s a b c → Q (.inl none, (49, x, l, zrow σ 23 s, τ, zrho))) :
    zRn d 34 (0, [.ref 23, .int (nI a), .int (nI b), .int (nI c)], [], (49, x, l, σ, τ, zrho)) Q := by
  refine zv34_r23_0 ?_
  simp only [zup_row, zrow_row, zrow_me]
  exact hq _ ⟨rfl, rfl, rfl, rfl⟩
theorem sp98_23 {d x l : Nat} {σ : Nat → Nat → Int32} {τ : Nat → Nat → Int64} {Q : zR → Prop} {t k : Nat} {o : zO} (ht : t ≤ 2000) (hk : k < 2147483648) (ho : (rows3 t (t / 3))[k]? = some o)
    (hq : ∀ s, zCh (σ 23) s o.1 o.2.1 o.2.2 → Q (.inl none, (49, x, l, zrow σ 23 s, τ, zrho))) :
    zRn (d + 1) 98 (0, [.int (nI t), .int (nI k), .ref 23, zJ, zJ, zJ, zJ], [], (49, x, l, σ, τ, zrho)) Q := by
  have key : ∀ m j l', j + m = t / 3 → l' + (rows3 t j).length = k → zRn (d + 1) 98 (5, [.int (nI t), zJ, .ref 23, .int (nI l'), .int (nI (j + 1)), zJ, zJ], [], (49, x, l, σ, τ, zrho)) Q := by
    intro m
    induction m with
    | zero =>
      intro j l' hj hl
      exfalso
      rw [← show j = t / 3 by omega] at ho
      have := (List.getElem?_eq_some_iff.mp ho).1
      omega
    | succ m ih =>
      intro j l' hj hl
      refine zv98_r23_5 ⟨fun c => ?_, fun c => ?_⟩
      · simp (disch := omega) only [zlit, nI_leI, nI_ltI, nI_eq, nI_clamp, nI_add, pk_mul, pk_sub, pk_div] at c; omega
      · have e1 : (nI t - nI (j + 1)) / 2 - nI (j + 1) + 1 = nI ((t - (j + 1)) / 2 - (j + 1) + 1) := by
          rw [pk_sub (by omega), show (2 : Int32) = nI 2 from rfl, pk_div (by omega) (by omega) (by omega), pk_sub (by omega), nI_1]
        have e : rows3 t (j + 1) = rows3 t j ++ row3 t (j + 1) ((t - (j + 1)) / 2 - (j + 1) + 1) := rfl
        rw [e1]
        refine ⟨fun c2 => ?_, fun c2 => ?_⟩
        · simp (disch := omega) only [nI_leI] at c2
          rw [pk_sub c2, nI_1]
          refine ih (j + 1) _ (by omega) ?_
          rw [e, List.length_append, row3_len]
          omega
        · simp (disch := omega) only [nI_leI] at c2
          have e3 : (rows3 t (j + 1))[k]? = some (j + 1, j + 1 + l', t - (j + 1) - (j + 1 + l')) := by
            rw [e, List.getElem?_append_right (by omega), show k - (rows3 t j).length = l' by omega, row3_get _ _ _ _ (by omega)]
          obtain ⟨r, hr⟩ := rows3_pre t m (j + 1)
          rw [show t / 3 = j + 1 + m by omega, hr, get_pre e3] at ho
          have ho := Option.some.inj ho
          rw [← ho] at hq
          rw [nI_add, pk_sub (by omega), pk_sub (by omega)]
          exact sp34_23 (fun s hs => zv98_r23_53 (hq s hs))
  exact zv98_r23_0 (key (t / 3) 0 k (by omega) (by simp [rows3]))
theorem rt1 {c : Nat} : rt (0, 0, c) 0 = c ∧ rt (0, 0, c) 1 = 0 ∧ rt (0, 0, c) 2 = 0 := by
  unfold rt
  by_cases h : 0 < c
  · simp [h]
  · have : c = 0 := by omega
    subst this; simp
theorem rt2 {b c : Nat} (hb : 0 < b) (hc : 0 < c) : rt (0, b, c) 0 = b ∧ rt (0, b, c) 1 = c ∧ rt (0, b, c) 2 = 0 := by
  unfold rt
  simp [hb, hc]
theorem rt3 {a b c : Nat} (ha : 0 < a) (hb : 0 < b) (hc : 0 < c) : rt (a, b, c) 0 = a ∧ rt (a, b, c) 1 = b ∧ rt (a, b, c) 2 = c := by
  unfold rt
  simp [ha, hb, hc]
theorem G_2 {u : zRu} (hu : zRok u) (hk : kd u ≠ 4) {h t k : Nat} {o : zO} (ho : (G u h t 2)[k]? = some o) : o = (0, k + 1, t - (k + 1)) ∧ 2 * (k + 1) ≤ t := by
  have h4 := hu.1
  have hm := (G_may (List.mem_of_getElem? ho)).1
  by_cases h3 : kd u = 3
  · unfold G at ho
    rw [hm, cond_true, grp2_unl h3] at ho
    have hl := (List.getElem?_eq_some_iff.mp ho).1
    rw [row2_len] at hl
    rw [row2_get _ _ _ hl] at ho
    exact ⟨(Option.some.inj ho).symm, by omega⟩
  · rw [G_012 (by omega), hm, cond_true] at ho
    have ho : (row2 t (t / 2))[k]? = some o := ho
    have hl := (List.getElem?_eq_some_iff.mp ho).1
    rw [row2_len] at hl
    rw [row2_get _ _ _ hl] at ho
    exact ⟨(Option.some.inj ho).symm, by omega⟩
theorem sp96_5 {d x l : Nat} {σ : Nat → Nat → Int32} {τ : Nat → Nat → Int64} {Q : zR → Prop} {u : zRu} {h t n k : Nat} {o : zO} (hu : zRok u) (hc : CR u (σ 1) (σ 2) (σ 3) (τ 4)) (ht : t ≤ h) (hh : h ≤ 2000) (hn : n ≤ 3) (hk : k < 1000000)
    (ho : (G u h t n)[k]? = some o)
    (hq : ∀ s, zCh (σ 5) s (rt o 0) (rt o 1) (rt o 2) → Q (.inl none, (49, x, l, zrow σ 5 s, τ, zrho))) :
    zRn (d + 2) 96 (0, [.ref 1, .int (nI h), .int (nI t), .int (nI n), .int (nI k), .ref 5, zJ], [], (49, x, l, σ, τ, zrho)) Q := by
  have h4 := hu.1
  have hmem := G_may (List.mem_of_getElem? ho)
  have c1 := may_le hmem.1
  have c2 := may_0 hmem.1
  have hg := grp_mem hn c1 c2 hmem.2.1
  refine zv96_r1_r5_0 ⟨fun c => ⟨fun c3 => ?_, fun c3 => ⟨fun c4 => ?_, fun c4 => ?_⟩⟩, fun c => ?_⟩
  · simp (disch := omega) only [zlit, nI_leI, nI_ltI, nI_eq, nI_clamp, nI_add, pk_mul, pk_sub, pk_div] at c c3
    have hn3 : n = 3 := by omega
    subst hn3
    have h8 := may3 hu hmem.1
    have k0 : kd u = 0 := by
      unfold has8 at h8
      rw [Bool.and_eq_true, beq_iff_eq] at h8
      exact h8.1
    rw [G_012 (by omega), hmem.1, cond_true] at ho
    obtain ⟨a, b, c⟩ := o
    dsimp only at hg
    have hr := rt3 (a := a) (b := b) (c := c) (by omega) (by omega) (by omega)
    rw [hr.1, hr.2.1, hr.2.2] at hq
    exact sp98_5 (by omega) (by omega) ho (fun s hs => zv96_r1_r5_69 (hq s hs))
  · simp (disch := omega) only [zlit, nI_leI, nI_ltI, nI_eq, nI_clamp, nI_add, pk_mul, pk_sub, pk_div] at c c3
    rw [hc.1] at c4
    simp (disch := omega) only [zlit, nI_leI, nI_ltI, nI_eq, nI_clamp, nI_add, pk_mul, pk_sub, pk_div] at c4
    have hn2 : n = 2 := by omega
    subst hn2
    obtain ⟨e1, e2⟩ := G_2 hu c4 ho
    subst e1
    have hr := rt2 (b := k + 1) (c := t - (k + 1)) (by omega) (by omega)
    rw [hr.1, hr.2.1, hr.2.2] at hq
    rw [nI_1, pk_sub (by omega)]
    exact sp34_5 (fun s hs => zv96_r1_r5_58 (zv96_r1_r5_69 (hq s hs)))
  · simp (disch := omega) only [zlit, nI_leI, nI_ltI, nI_eq, nI_clamp, nI_add, pk_mul, pk_sub, pk_div] at c c3
    rw [hc.1] at c4
    simp (disch := omega) only [zlit, nI_leI, nI_ltI, nI_eq, nI_clamp, nI_add, pk_mul, pk_sub, pk_div] at c4
    have k4 : kd u = 4 := by omega
    have hn2 : n = 2 := by omega
    subst hn2
    unfold G at ho
    rw [hmem.1, cond_true] at ho
    obtain ⟨a, b, c⟩ := o
    dsimp only at hg
    have ha : a = 0 := by omega
    subst ha
    have hr := rt2 (b := b) (c := c) (by omega) (by omega)
    rw [hr.1, hr.2.1, hr.2.2] at hq
    have hkl := (List.getElem?_eq_some_iff.mp ho).1
    refine sp97 hc k4 ht (may4 k4 hmem.1) ?_ ho ?_
    · have := List.length_filter_le (isO u h) (grp t 2)
      have e : (grp t 2).length = t / 2 := row2_len t (t / 2)
      omega
    · refine zv96_r1_r5_37 ?_
      rw [pk_sub (show b ≤ t by omega), show t - b = c by omega]
      exact sp34_5 (fun s hs => zv96_r1_r5_58 (zv96_r1_r5_69 (hq s hs)))
  · simp (disch := omega) only [zlit, nI_leI, nI_ltI, nI_eq, nI_clamp, nI_add, pk_mul, pk_sub, pk_div] at c
    obtain ⟨a, b, c⟩ := o
    dsimp only at hg
    have ha : a = 0 := by omega
    have hb : b = 0 := by omega
    have hcc : c = t := by omega
    subst ha; subst hb; subst hcc
    rw [rt1.1, rt1.2.1, rt1.2.2] at hq
    exact sp34_5 (fun s hs => zv96_r1_r5_13 (zv96_r1_r5_69 (hq s hs)))
theorem sp96_23 {d x l : Nat} {σ : Nat → Nat → Int32} {τ : Nat → Nat → Int64} {Q : zR → Prop} {u : zRu} {h t n k : Nat} {o : zO} (hu : zRok u) (hc : CR u (σ 1) (σ 2) (σ 3) (τ 4)) (ht : t ≤ h) (hh : h ≤ 2000) (hn : n ≤ 3) (hk : k < 1000000)
    (ho : (G u h t n)[k]? = some o)
    (hq : ∀ s, zCh (σ 23) s (rt o 0) (rt o 1) (rt o 2) → Q (.inl none, (49, x, l, zrow σ 23 s, τ, zrho))) :
    zRn (d + 2) 96 (0, [.ref 1, .int (nI h), .int (nI t), .int (nI n), .int (nI k), .ref 23, zJ], [], (49, x, l, σ, τ, zrho)) Q := by
  have h4 := hu.1
  have hmem := G_may (List.mem_of_getElem? ho)
  have c1 := may_le hmem.1
  have c2 := may_0 hmem.1
  have hg := grp_mem hn c1 c2 hmem.2.1
  refine zv96_r1_r23_0 ⟨fun c => ⟨fun c3 => ?_, fun c3 => ⟨fun c4 => ?_, fun c4 => ?_⟩⟩, fun c => ?_⟩
  · simp (disch := omega) only [zlit, nI_leI, nI_ltI, nI_eq, nI_clamp, nI_add, pk_mul, pk_sub, pk_div] at c c3
    have hn3 : n = 3 := by omega
    subst hn3
    have h8 := may3 hu hmem.1
    have k0 : kd u = 0 := by
      unfold has8 at h8
      rw [Bool.and_eq_true, beq_iff_eq] at h8
      exact h8.1
    rw [G_012 (by omega), hmem.1, cond_true] at ho
    obtain ⟨a, b, c⟩ := o
    dsimp only at hg
    have hr := rt3 (a := a) (b := b) (c := c) (by omega) (by omega) (by omega)
    rw [hr.1, hr.2.1, hr.2.2] at hq
    exact sp98_23 (by omega) (by omega) ho (fun s hs => zv96_r1_r23_69 (hq s hs))
  · simp (disch := omega) only [zlit, nI_leI, nI_ltI, nI_eq, nI_clamp, nI_add, pk_mul, pk_sub, pk_div] at c c3
    rw [hc.1] at c4
    simp (disch := omega) only [zlit, nI_leI, nI_ltI, nI_eq, nI_clamp, nI_add, pk_mul, pk_sub, pk_div] at c4
    have hn2 : n = 2 := by omega
    subst hn2
    obtain ⟨e1, e2⟩ := G_2 hu c4 ho
    subst e1
    have hr := rt2 (b := k + 1) (c := t - (k + 1)) (by omega) (by omega)
    rw [hr.1, hr.2.1, hr.2.2] at hq
    rw [nI_1, pk_sub (by omega)]
    exact sp34_23 (fun s hs => zv96_r1_r23_58 (zv96_r1_r23_69 (hq s hs)))
  · simp (disch := omega) only [zlit, nI_leI, nI_ltI, nI_eq, nI_clamp, nI_add, pk_mul, pk_sub, pk_div] at c c3
    rw [hc.1] at c4
    simp (disch := omega) only [zlit, nI_leI, nI_ltI, nI_eq, nI_clamp, nI_add, pk_mul, pk_sub, pk_div] at c4
    have k4 : kd u = 4 := by omega
    have hn2 : n = 2 := by omega
    subst hn2
    unfold G at ho
    rw [hmem.1, cond_true] at ho
    obtain ⟨a, b, c⟩ := o
    dsimp only at hg
    have ha : a = 0 := by omega
    subst ha
    have hr := rt2 (b := b) (c := c) (by omega) (by omega)
    rw [hr.1, hr.2.1, hr.2.2] at hq
    have hkl := (List.getElem?_eq_some_iff.mp ho).1
    refine sp97 hc k4 ht (may4 k4 hmem.1) ?_ ho ?_
    · have := List.length_filter_le (isO u h) (grp t 2)
      have e : (grp t 2).length = t / 2 := row2_len t (t / 2)
      omega
    · refine zv96_r1_r23_37 ?_
      rw [pk_sub (show b ≤ t by omega), show t - b = c by omega]
      exact sp34_23 (fun s hs => zv96_r1_r23_58 (zv96_r1_r23_69 (hq s hs)))
  · simp (disch := omega) only [zlit, nI_leI, nI_ltI, nI_eq, nI_clamp, nI_add, pk_mul, pk_sub, pk_div] at c
    obtain ⟨a, b, c⟩ := o
    dsimp only at hg
    have ha : a = 0 := by omega
    have hb : b = 0 := by omega
    have hcc : c = t := by omega
    subst ha; subst hb; subst hcc
    rw [rt1.1, rt1.2.1, rt1.2.2] at hq
    exact sp34_23 (fun s hs => zv96_r1_r23_13 (zv96_r1_r23_69 (hq s hs)))
