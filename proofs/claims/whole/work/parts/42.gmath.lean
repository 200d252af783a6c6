/-! groups of options -/
theorem row2_len (t : Nat) : ∀ k, (row2 t k).length = k := by
  intro k
  induction k with
  | zero => rfl
  | succ k ih => show (row2 t k ++ [_]).length = _; rw [List.length_append, ih]; rfl
theorem row2_get (t : Nat) : ∀ k i, i < k → (row2 t k)[i]? = some (0, i + 1, t - (i + 1)) := by
  intro k
  induction k with
  | zero => intro i h; omega
  | succ k ih =>
    intro i h
    show (row2 t k ++ [_])[i]? = _
    by_cases c : i = k
    · subst c; rw [List.getElem?_append_right (by rw [row2_len]; omega), row2_len, Nat.sub_self]; rfl
    · rw [List.getElem?_append_left (by rw [row2_len]; omega)]; exact ih i (by omega)
theorem row3_len (t a : Nat) : ∀ k, (row3 t a k).length = k := by
  intro k
  induction k with
  | zero => rfl
  | succ k ih => show (row3 t a k ++ [_]).length = _; rw [List.length_append, ih]; rfl
theorem row3_get (t a : Nat) : ∀ k i, i < k → (row3 t a k)[i]? = some (a, a + i, t - a - (a + i)) := by
  intro k
  induction k with
  | zero => intro i h; omega
  | succ k ih =>
    intro i h
    show (row3 t a k ++ [_])[i]? = _
    by_cases c : i = k
    · subst c; rw [List.getElem?_append_right (by rw [row3_len]; omega), row3_len, Nat.sub_self]; rfl
    · rw [List.getElem?_append_left (by rw [row3_len]; omega)]; exact ih i (by omega)
theorem rows3_len : ∀ t, t < 61 → (rows3 t (t / 3)).length = (t * t + 6) / 12 := by decide +kernel
theorem may_in {u : zRu} {h t n : Nat} (c1 : n ≤ t) (c2 : n = 0 ↔ t = 0) : may u h t n = (match kd u with
      | 0 => Nat.ble 1 (h - t) && (Nat.ble (h - t) 12 && (dg u (h - t)).testBit n)
      | 1 => Nat.ble 1 (h - t) && (Nat.ble (h - t) 64 && (nb u (h - t) && Nat.blt n 2))
      | 2 => h == t && n == 2
      | 3 => h == t && n == 2
      | _ => Nat.ble 1 h && (Nat.ble h 64 && Nat.blt n 3)) := by
  unfold may
  have e1 : ((n == 0) == (t == 0)) = true := by
    by_cases c : n = 0
    · have : t = 0 := c2.mp c
      subst c; subst this; rfl
    · have : t ≠ 0 := fun e => c (c2.mpr e)
      rw [z_bne c, z_bne this]; rfl
  rw [e1, Nat.ble_eq_true_of_le c1, Bool.true_and, Bool.true_and]
  rfl
theorem may_k0 {u : zRu} (hk : kd u = 0) {h t n : Nat} (c1 : n ≤ t) (c2 : n = 0 ↔ t = 0) : may u h t n = (Nat.ble 1 (h - t) && (Nat.ble (h - t) 12 && (dg u (h - t)).testBit n)) := by
  have := may_in (u := u) (h := h) c1 c2
  rw [hk] at this
  exact this
theorem may_k1 {u : zRu} (hk : kd u = 1) {h t n : Nat} (c1 : n ≤ t) (c2 : n = 0 ↔ t = 0) : may u h t n = (Nat.ble 1 (h - t) && (Nat.ble (h - t) 64 && (nb u (h - t) && Nat.blt n 2))) := by
  have := may_in (u := u) (h := h) c1 c2
  rw [hk] at this
  exact this
theorem may_k2 {u : zRu} (hk : kd u = 2) {h t n : Nat} (c1 : n ≤ t) (c2 : n = 0 ↔ t = 0) : may u h t n = (h == t && n == 2) := by
  have := may_in (u := u) (h := h) c1 c2
  rw [hk] at this
  exact this
theorem may_k3 {u : zRu} (hk : kd u = 3) {h t n : Nat} (c1 : n ≤ t) (c2 : n = 0 ↔ t = 0) : may u h t n = (h == t && n == 2) := by
  have := may_in (u := u) (h := h) c1 c2
  rw [hk] at this
  exact this
theorem may_k4 {u : zRu} (hk : kd u = 4) {h t n : Nat} (c1 : n ≤ t) (c2 : n = 0 ↔ t = 0) : may u h t n = (Nat.ble 1 h && (Nat.ble h 64 && Nat.blt n 3)) := by
  have := may_in (u := u) (h := h) c1 c2
  rw [hk] at this
  exact this
theorem may_out {u : zRu} {h t n : Nat} (c : ¬ (n ≤ t ∧ (n = 0 ↔ t = 0))) : may u h t n = false := by
  cases hm : may u h t n with
  | false => rfl
  | true => exact absurd ⟨may_le hm, may_0 hm⟩ c
theorem wy_0 {t n : Nat} (hn : n ≤ 3) (h : ¬ (n ≤ t ∧ (n = 0 ↔ t = 0))) : wy t n = 0 := by
  have h5 : n = 0 ∨ n = 1 ∨ n = 2 ∨ n = 3 := by omega
  rcases h5 with h5 | h5 | h5 | h5 <;> subst h5
  · exact if_neg (by omega)
  · exact if_neg (by omega)
  · show t / 2 = 0
    omega
  · show (t * t + 6) / 12 = 0
    have : t = 0 ∨ t = 1 ∨ t = 2 := by omega
    rcases this with h | h | h <;> subst h <;> rfl
theorem grp_len {t n : Nat} (hn : n ≤ 3) (h3 : n = 3 → t ≤ 60) (h1 : n ≤ t) (h2 : n = 0 ↔ t = 0) : (grp t n).length = wy t n := by
  have h5 : n = 0 ∨ n = 1 ∨ n = 2 ∨ n = 3 := by omega
  rcases h5 with h5 | h5 | h5 | h5 <;> subst h5
  · exact (if_pos (h2.mp rfl)).symm
  · exact (if_pos h1).symm
  · exact row2_len t (t / 2)
  · exact rows3_len t (by have := h3 rfl; omega)
theorem isO_t {u : zRu} (hk : kd u ≤ 2) (h : Nat) (L : List zO) : L.filter (isO u h) = L := by
  have h5 : kd u = 0 ∨ kd u = 1 ∨ kd u = 2 := by omega
  apply List.filter_eq_self.mpr
  intro o _
  unfold isO
  rcases h5 with h5 | h5 | h5 <;> (rw [h5]; rfl)
theorem G_012 {u : zRu} (hk : kd u ≤ 2) (h t n : Nat) : G u h t n = bif may u h t n then grp t n else [] := by
  unfold G
  rw [isO_t hk]
theorem G_len0 {u : zRu} (hk : kd u = 0) {h t n : Nat} (hn : n ≤ 3) (h3 : n = 3 → may u h t 3 = true → t ≤ 60) : (G u h t n).length = bif (Nat.ble 1 (h - t) && (Nat.ble (h - t) 12 && (dg u (h - t)).testBit n)) then wy t n else 0 := by
  rw [G_012 (by omega)]
  by_cases c : n ≤ t ∧ (n = 0 ↔ t = 0)
  · have := may_k0 hk (h := h) c.1 c.2
    cases hm : may u h t n with
    | false => rw [← this, hm]; rfl
    | true =>
      rw [← this, hm, cond_true, cond_true]
      exact grp_len hn (fun e => h3 e (by rw [← e]; exact hm)) c.1 c.2
  · rw [may_out c, wy_0 hn c, Bool.cond_self]; rfl
theorem G_len1 {u : zRu} (hk : kd u = 1) {h t n : Nat} (hn : n ≤ 3) : (G u h t n).length = bif (Nat.ble 1 (h - t) && (Nat.ble (h - t) 64 && nb u (h - t))) then (if n ≤ 1 then wy t n else 0) else 0 := by
  rw [G_012 (by omega)]
  by_cases c : n ≤ t ∧ (n = 0 ↔ t = 0)
  · have := may_k1 hk (h := h) c.1 c.2
    rw [this]
    by_cases c2 : n ≤ 1
    · rw [z_blt_t (show n < 2 by omega), Bool.and_true, if_pos c2, ← grp_len hn (by omega) c.1 c.2]
      cases (Nat.ble 1 (h - t) && ((h - t).ble 64 && nb u (h - t))) <;> rfl
    · rw [z_blt_f (show 2 ≤ n by omega), Bool.and_false, Bool.and_false, Bool.and_false, if_neg c2, Bool.cond_self]; rfl
  · rw [may_out c, wy_0 hn c]
    cases (Nat.ble 1 (h - t) && ((h - t).ble 64 && nb u (h - t))) <;> simp
theorem G_len2 {u : zRu} (hk : kd u = 2) {h n : Nat} : (G u h h n).length = if n = 2 then h / 2 else 0 := by
  rw [G_012 (by omega)]
  by_cases c : n ≤ h ∧ (n = 0 ↔ h = 0)
  · have := may_k2 hk (h := h) c.1 c.2
    rw [this]
    by_cases c2 : n = 2
    · subst c2; simp only [BEq.rfl, Bool.and_self, cond_true, if_true]; exact row2_len h (h / 2)
    · rw [z_bne c2, Bool.and_false, if_neg c2]; rfl
  · rw [may_out c]
    by_cases c2 : n = 2
    · rw [if_pos c2]; show 0 = h / 2; omega
    · rw [if_neg c2]; rfl
theorem row2_unl {u : zRu} (hk : kd u = 3) (h t : Nat) : ∀ k, 2 * k < t → (row2 t k).filter (isO u h) = row2 t k := by
  intro k
  induction k with
  | zero => intro _; rfl
  | succ k ih =>
    intro hlt
    show (row2 t k ++ [_]).filter _ = row2 t k ++ [_]
    rw [List.filter_append, ih (by omega), zfil1, if_pos]
    unfold isO
    rw [hk]
    show (!(k + 1 == t - (k + 1))) = true
    rw [z_bne (by omega)]; rfl
theorem grp2_unl {u : zRu} (hk : kd u = 3) (h t : Nat) : (grp t 2).filter (isO u h) = row2 t ((t - 1) / 2) := by
  show (row2 t (t / 2)).filter (isO u h) = _
  rcases Nat.mod_two_eq_zero_or_one t with h2 | h2
  · by_cases c : t = 0
    · subst c; rfl
    · obtain ⟨m, hm⟩ : ∃ m, t = 2 * (m + 1) := ⟨t / 2 - 1, by omega⟩
      rw [show t / 2 = m + 1 by omega, show (t - 1) / 2 = m by omega]
      show (row2 t m ++ [_]).filter _ = _
      rw [List.filter_append, row2_unl hk h t m (by omega), zfil1, if_neg, List.append_nil]
      unfold isO
      rw [hk]
      show ¬ (!(m + 1 == t - (m + 1))) = true
      rw [show t - (m + 1) = m + 1 by omega]; simp
  · rw [show (t - 1) / 2 = t / 2 by omega, row2_unl hk h t (t / 2) (by omega)]
theorem G_len3 {u : zRu} (hk : kd u = 3) {h n : Nat} : (G u h h n).length = if n = 2 then (h - 1) / 2 else 0 := by
  unfold G
  by_cases c : n ≤ h ∧ (n = 0 ↔ h = 0)
  · have := may_k3 hk (h := h) c.1 c.2
    rw [this]
    by_cases c2 : n = 2
    · subst c2; simp only [BEq.rfl, Bool.and_self, cond_true, if_true]; rw [grp2_unl hk, row2_len]
    · rw [z_bne c2, Bool.and_false, if_neg c2]; rfl
  · rw [may_out c]
    by_cases c2 : n = 2
    · rw [if_pos c2]; show 0 = (h - 1) / 2; omega
    · rw [if_neg c2]; rfl
theorem isO_4 {u : zRu} (hk : kd u = 4) (h : Nat) (o : zO) : isO u h o = en u h o.2.1 o.2.2 := by
  unfold isO
  rw [hk]
  rfl
theorem G_4 {u : zRu} (hk : kd u = 4) {h t n : Nat} (h1 : 1 ≤ h) (h2 : h ≤ 64) (hn : n ≤ 2) (c1 : n ≤ t) (c2 : n = 0 ↔ t = 0) : G u h t n = (grp t n).filter (isO u h) := by
  unfold G
  have := may_k4 hk (h := h) c1 c2
  rw [this, z_ble_t h1, z_ble_t h2, z_blt_t (show n < 3 by omega)]
  rfl
theorem G_4n {u : zRu} (hk : kd u = 4) {h t n : Nat} (c : ¬ (1 ≤ h ∧ h ≤ 64 ∧ n ≤ 2)) : G u h t n = [] := by
  unfold G
  cases hm : may u h t n with
  | false => rfl
  | true =>
    exfalso
    have h1 := may_k4 hk (h := h) (may_le hm) (may_0 hm)
    rw [hm] at h1
    have h1 := h1.symm
    simp only [Bool.and_eq_true] at h1
    have a := Nat.le_of_ble_eq_true h1.1
    have b := Nat.le_of_ble_eq_true h1.2.1
    have e := Nat.le_of_ble_eq_true h1.2.2
    omega
