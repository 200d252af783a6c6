/-! the small machine against the JVM: what the heap holds -/
/-- a reference of the small machine, as an address -/
def zrv (b0 b : Nat) : Value → Value
  | .ref k => .ref (bif Nat.beq k 99 then b else b0 + k)
  | v => v
def zA (b0 : Nat) : Nat → Prop := fun q => b0 ≤ q
def zfk (c f : Nat) : Nat := (zfks.getD c []).getD f 0
def zNf (c : Nat) : Nat := (zfks.getD c []).length
def zfv (b0 b : Nat) (S : zS) (k c f : Nat) : Value := match zfk c f with
  | 0 => .int (S.2.2.2.1 k f)
  | 1 => .int (S.2.2.2.1 k f)
  | _ => zrv b0 b (S.2.2.2.2.2 k f)
abbrev zCs : Type := ClassId × ClassId × ClassId × Nat
def zcell (b0 b : Nat) (cs : zCs) (S : zS) (k : Nat) : va_E := match (zknd k).1 with
  | 0 => .inr ((zknd k).2, (List.range (zNf (zknd k).2)).map (zfv b0 b S k (zknd k).2))
  | 1 => .inl (cs.1, (zknd k).2, .inl (S.2.2.2.1 k))
  | 2 => .inl (cs.2.1, (zknd k).2, .inl (S.2.2.2.1 k))
  | _ => .inl (cs.2.2.1, (zknd k).2, .inr (.inl (S.2.2.2.2.1 k)))
def zws (b0 b : Nat) (cs : zCs) (S : zS) : va_W := (List.range S.1).map fun k => (b0 + k, zcell b0 b cs S k)
def ztys (cs : zCs) : List (ClassId × FieldType) := [(cs.1, .int), (cs.2.1, .boolean), (cs.2.2.1, .long)]
theorem zws_get {b0 b : Nat} {cs : zCs} {S : zS} {k : Nat} (h : k < S.1) : (zws b0 b cs S)[k]? = some (b0 + k, zcell b0 b cs S k) := by
  simp [zws, h]
theorem zws_set {b0 b : Nat} {cs : zCs} {S S' : zS} {k : Nat} (hn : S'.1 = S.1) (hc : ∀ j, j < S.1 → j ≠ k → zcell b0 b cs S' j = zcell b0 b cs S j) : (zws b0 b cs S).set k (b0 + k, zcell b0 b cs S' k) = zws b0 b cs S' := by
  apply List.ext_getElem?
  intro j
  by_cases hj : j < S.1
  · rw [zws_get (S := S') (by rw [hn]; exact hj)]
    by_cases hk : k = j
    · subst hk
      rw [List.getElem?_set_self (by simpa [zws] using hj)]
    · rw [List.getElem?_set_ne hk, zws_get hj, hc j hj (Ne.symm hk)]
  · rw [List.getElem?_eq_none (by simpa [zws] using hj), List.getElem?_eq_none (by simp [zws, hn]; omega)]
theorem zws_push {b0 b : Nat} {cs : zCs} {S S' : zS} (hn : S'.1 = S.1 + 1) (hc : ∀ j, j < S.1 → zcell b0 b cs S' j = zcell b0 b cs S j) : zws b0 b cs S ++ [(b0 + S.1, zcell b0 b cs S' S.1)] = zws b0 b cs S' := by
  unfold zws
  rw [hn, List.range_succ, List.map_append]
  congr 1
  apply List.map_congr_left
  intro j hj
  rw [hc j (List.mem_range.mp hj)]
theorem zws_D {b0 b : Nat} {cs : zCs} {S : zS} : va_D (zA b0) (zws b0 b cs S) := by
  have key : ∀ (k : Nat) (q : Nat × va_E), (zws b0 b cs S)[k]? = some q → q.1 = b0 + k := by
    intro k q h
    have hk : k < S.1 := by simpa [zws] using (List.getElem?_eq_some_iff.mp h).1
    rw [zws_get hk] at h
    cases h
    rfl
  refine ⟨fun i j x y hi hj hxy => ?_, fun k q h => ?_⟩
  · have h1 := key i x hi
    have h2 := key j y hj
    omega
  · have h1 := key k q h
    show b0 ≤ q.1
    omega
theorem zobj_spec {a n c : Nat} (h : zobj a n c = true) : a < n ∧ zknd a = (0, c) := by
  unfold zobj at h
  rw [Bool.and_eq_true, Bool.and_eq_true] at h
  have h1 := Nat.eq_of_beq_eq_true h.2.1
  have h2 := Nat.eq_of_beq_eq_true h.2.2
  refine ⟨by simpa [Nat.blt_eq] using h.1, ?_⟩
  rw [← h1, ← h2]
theorem zarr_spec {a n k : Nat} (h : zarr a n k = true) : a < n ∧ (zknd a).1 = k := by
  unfold zarr at h
  rw [Bool.and_eq_true] at h
  exact ⟨by simpa [Nat.blt_eq] using h.1, Nat.eq_of_beq_eq_true h.2⟩
theorem zcell_obj {b0 b : Nat} {cs : zCs} {S : zS} {k c : Nat} (h : zknd k = (0, c)) : zcell b0 b cs S k = .inr (c, (List.range (zNf c)).map (zfv b0 b S k c)) := by
  unfold zcell
  rw [h]
  rfl
theorem zcell_int {b0 b : Nat} {cs : zCs} {S : zS} {k : Nat} (h : (zknd k).1 = 1) : zcell b0 b cs S k = .inl (cs.1, (zknd k).2, .inl (S.2.2.2.1 k)) := by
  unfold zcell
  rw [h]
  rfl
theorem zcell_bool {b0 b : Nat} {cs : zCs} {S : zS} {k : Nat} (h : (zknd k).1 = 2) : zcell b0 b cs S k = .inl (cs.2.1, (zknd k).2, .inl (S.2.2.2.1 k)) := by
  unfold zcell
  rw [h]
  rfl
theorem zcell_long {b0 b : Nat} {cs : zCs} {S : zS} {k : Nat} (h : (zknd k).1 = 3) : zcell b0 b cs S k = .inl (cs.2.2.1, (zknd k).2, .inr (.inl (S.2.2.2.2.1 k))) := by
  unfold zcell
  rw [h]
  rfl
/-- only what is read of a cell counts -/
theorem zcell_same {b0 b : Nat} {cs : zCs} {S S' : zS} {k : Nat} (h1 : S'.2.2.2.1 k = S.2.2.2.1 k) (h2 : S'.2.2.2.2.1 k = S.2.2.2.2.1 k) (h3 : S'.2.2.2.2.2 k = S.2.2.2.2.2 k) : zcell b0 b cs S' k = zcell b0 b cs S k := by
  have h : ∀ c, zfv b0 b S' k c = zfv b0 b S k c := by
    intro c
    funext f
    unfold zfv
    rw [h1, h3]
  unfold zcell
  rw [h1, h2, h]
/-- the heap holds the state; what was there before is as it was -/
def zRel (D : va_G) (cs : zCs) (h0 : Heap) (b L : Nat) (xs : Nat → Int32) (S : zS) (H : Heap) : Prop :=
  va_P D zcl (zws h0.size b cs S) H ∧ (∀ q, q < h0.size → H[q]? = h0[q]?) ∧ h0.size ≤ H.size ∧ S.2.2.1 = L ∧ S.2.2.2.1 99 = xs ∧ S.1 ≤ 49 ∧ S.2.1 ≤ 600
/-- the locals hold the list -/
def zok : Value → Bool
  | .int _ => true
  | .long _ => true
  | .ref _ => true
  | _ => false
def zlv (b0 b : Nat) (ls : Array Slot) (nL : Nat) (L : List Value) : Prop := ls.size = nL ∧ lv_wf ls ∧ L.length = nL ∧ ∀ (k : Nat) (v : Value), L[k]? = some v → zok v = true → ls[k]? = some (Slot.val (zrv b0 b v))
theorem zrv_cat (b0 b : Nat) (v : Value) : (zrv b0 b v).category = v.category := by cases v <;> rfl
/-- the list of what is known of the locals, as the kit's rows have it -/
def zlst (b0 b : Nat) (L : List Value) : List (Nat × Value) := (List.range L.length).filterMap fun k => match L[k]? with
  | some v => bif zok v then some (k, zrv b0 b v) else none
  | none => none
theorem zlv_has {b0 b : Nat} {ls : Array Slot} {nL : Nat} {L : List Value} (h : zlv b0 b ls nL L) : lv_has ls nL (zlst b0 b L) := by
  refine ⟨h.1, h.2.1, fun q hq => ?_⟩
  obtain ⟨k, -, hk⟩ := List.mem_filterMap.mp hq
  cases hv : L[k]? with
  | none => rw [hv] at hk; cases hk
  | some v =>
    rw [hv] at hk
    cases ho : zok v with
    | false => simp [ho] at hk
    | true =>
      simp [ho] at hk
      subst hk
      exact h.2.2.2 k v hv ho
theorem zlst_mem {b0 b : Nat} {L : List Value} {k : Nat} {v : Value} (h : L[k]? = some v) (ho : zok v = true) : (k, zrv b0 b v) ∈ zlst b0 b L := by
  refine List.mem_filterMap.mpr ⟨k, List.mem_range.mpr (List.getElem?_eq_some_iff.mp h).1, ?_⟩
  simp [h, ho]
theorem zgone_len (L : List Value) (i : Nat) : (zgone L i).length = L.length := by
  unfold zgone
  split
  · rfl
  · split <;> simp
theorem zgone_get {L : List Value} {i k : Nat} {v : Value} (h : (zgone L i)[k]? = some v) (ho : zok v = true) : L[k]? = some v ∧ ¬ (k + 1 = i ∧ v.category = 2) := by
  unfold zgone at h
  split at h
  · exact ⟨h, by omega⟩
  · rename_i j
    split at h
    · rename_i x hx
      by_cases hk : j = k
      · subst hk
        rw [List.getElem?_set_self (List.getElem?_eq_some_iff.mp hx).1] at h
        cases h
        cases ho
      · rw [List.getElem?_set_ne hk] at h
        exact ⟨h, by omega⟩
    · rename_i hx
      refine ⟨h, fun hh => ?_⟩
      have hkj : k = j := by omega
      subst hkj
      cases v <;> simp [Value.category, zok] at hh ho
      exact hx _ h
theorem zlv_of1 {b0 b : Nat} {ls ls' : Array Slot} {nL i : Nat} {L : List Value} {v w : Value} (h : zlv b0 b ls nL L) (hvw : zok v = true → w = zrv b0 b v)
    (hh : lv_has ls' nL ((i, w) :: (zlst b0 b L).filter (fun q => !(q.1 == i) && !(q.1 + 1 == i && q.2.category == 2)))) : zlv b0 b ls' nL (zset1 L i v) := by
  refine ⟨hh.1, hh.2.1, by simp [zset1, zgone_len, h.2.2.1], fun k x hk ho => ?_⟩
  unfold zset1 at hk
  by_cases hki : i = k
  · subst hki
    have hl : i < (zgone L i).length := by
      have := (List.getElem?_eq_some_iff.mp hk).1
      simpa using this
    rw [List.getElem?_set_self hl] at hk
    cases hk
    have := hh.2.2 (i, w) List.mem_cons_self
    rw [← hvw ho]
    exact this
  · rw [List.getElem?_set_ne hki] at hk
    obtain ⟨h1, h2⟩ := zgone_get hk ho
    refine hh.2.2 (k, zrv b0 b x) (List.mem_cons_of_mem _ (List.mem_filter.mpr ⟨zlst_mem h1 ho, ?_⟩))
    simp only [zrv_cat, Bool.and_eq_true, Bool.not_eq_true', beq_eq_false_iff_ne, Bool.and_eq_false_imp, beq_iff_eq]
    exact ⟨fun e => hki e.symm, fun e e2 => h2 ⟨e, e2⟩⟩
theorem zlv_of2 {b0 b : Nat} {ls ls' : Array Slot} {nL i : Nat} {L : List Value} {v w : Value} (h : zlv b0 b ls nL L) (hvw : zok v = true → w = zrv b0 b v)
    (hh : lv_has ls' nL ((i, w) :: (zlst b0 b L).filter (fun q => !(q.1 == i) && (!(q.1 == i + 1) && !(q.1 + 1 == i && q.2.category == 2))))) : zlv b0 b ls' nL (zset2 L i v) := by
  refine ⟨hh.1, hh.2.1, by simp [zset2, zgone_len, h.2.2.1], fun k x hk ho => ?_⟩
  unfold zset2 at hk
  by_cases hk2 : i + 1 = k
  · subst hk2
    have hl : i + 1 < ((zgone L i).set i v).length := by
      have := (List.getElem?_eq_some_iff.mp hk).1
      simpa using this
    rw [List.getElem?_set_self hl] at hk
    cases hk
    cases ho
  · rw [List.getElem?_set_ne hk2] at hk
    by_cases hki : i = k
    · subst hki
      have hl : i < (zgone L i).length := by
        have := (List.getElem?_eq_some_iff.mp hk).1
        simpa using this
      rw [List.getElem?_set_self hl] at hk
      cases hk
      have := hh.2.2 (i, w) List.mem_cons_self
      rw [← hvw ho]
      exact this
    · rw [List.getElem?_set_ne hki] at hk
      obtain ⟨h1, h2⟩ := zgone_get hk ho
      refine hh.2.2 (k, zrv b0 b x) (List.mem_cons_of_mem _ (List.mem_filter.mpr ⟨zlst_mem h1 ho, ?_⟩))
      simp only [zrv_cat, Bool.and_eq_true, Bool.not_eq_true', beq_eq_false_iff_ne, Bool.and_eq_false_imp, beq_iff_eq]
      exact ⟨fun e => hki e.symm, fun e => hk2 e.symm, fun e e2 => h2 ⟨e, e2⟩⟩
