/-! calls -/
set_option maxRecDepth 100000 in
theorem zpl_ok : (List.range 190).all (fun j => plainFor (zY j)) = true := by decide +kernel
set_option maxRecDepth 100000 in
theorem zmx_ok : (List.range 190).all (fun j => Nat.ble (zmx j) 40) = true := by decide +kernel
set_option maxRecDepth 100000 in
theorem znmh_ok : (List.range 190).all (fun j => !decide ((zY j).cls = "java/lang/invoke/MethodHandle") && !decide ((zY j).cls = "java/lang/invoke/VarHandle")) = true := by decide +kernel
theorem zlay_len (b0 b : Nat) : ∀ as : List Value, (lg_sl (as.map (zrv b0 b))).length = (zlay as).length := by
  intro as
  induction as with
  | nil => rfl
  | cons v r ih =>
    have hc := zrv_cat b0 b v
    have e1 : lg_sl ((v :: r).map (zrv b0 b)) = (if (zrv b0 b v).category = 2 then [Slot.val (zrv b0 b v), .second] else [.val (zrv b0 b v)]) ++ lg_sl (r.map (zrv b0 b)) := by simp [lg_sl]
    rw [e1, List.length_append, ih]
    show _ = (bif Nat.beq v.category 2 then v :: zJ :: zlay r else v :: zlay r).length
    rcases lv_cat v with h | h
    · rw [if_neg (by rw [hc, h]; decide), h]
      show 1 + _ = (zlay r).length + 1
      omega
    · rw [if_pos (by rw [hc, h]), h]
      show 2 + _ = (zlay r).length + 1 + 1
      omega
theorem zlay_get (b0 b : Nat) : ∀ (as : List Value) (k : Nat) (v : Value), (zlay as)[k]? = some v → zok v = true → (lg_sl (as.map (zrv b0 b)))[k]? = some (Slot.val (zrv b0 b v)) := by
  intro as
  induction as with
  | nil => intro k v h; simp [zlay] at h
  | cons w r ih =>
    intro k v h ho
    have hc := zrv_cat b0 b w
    have e1 : lg_sl ((w :: r).map (zrv b0 b)) = (if (zrv b0 b w).category = 2 then [Slot.val (zrv b0 b w), .second] else [.val (zrv b0 b w)]) ++ lg_sl (r.map (zrv b0 b)) := by simp [lg_sl]
    rw [e1]
    unfold zlay at h
    rcases lv_cat w with hw | hw
    · rw [hw] at h
      have h : (w :: zlay r)[k]? = some v := h
      rw [if_neg (by rw [hc, hw]; decide)]
      cases k with
      | zero => cases h; rfl
      | succ k => exact ih k v h ho
    · rw [hw] at h
      have h : (w :: zJ :: zlay r)[k]? = some v := h
      rw [if_pos (by rw [hc, hw])]
      cases k with
      | zero => cases h; rfl
      | succ k =>
        cases k with
        | zero => cases h; cases ho
        | succ k => exact ih k v h ho
theorem zent_lv {b0 b j : Nat} {as : List Value} (h : (zlay as).length ≤ zmx j) : zlv b0 b ((lg_sl (as.map (zrv b0 b)) ++ List.replicate (zmx j - (lg_sl (as.map (zrv b0 b))).length) Slot.unset).toArray) (zmx j) (zent j as) := by
  have hlen := zlay_len b0 b as
  have hh := lv_entry (as.map (zrv b0 b)) (n := zmx j) (by rw [hlen]; exact h)
  refine ⟨hh.1, hh.2.1, by simp [zent]; omega, fun k v hk ho => ?_⟩
  unfold zent at hk
  by_cases hl : k < (zlay as).length
  · rw [List.getElem?_append_left hl] at hk
    have := zlay_get b0 b as k v hk ho
    simp only [List.getElem?_toArray]
    rw [List.getElem?_append_left (by rw [hlen]; exact hl)]
    exact this
  · rw [List.getElem?_append_right (by omega)] at hk
    have := List.eq_of_mem_replicate (List.mem_of_getElem? hk)
    subst this
    cases ho
theorem znat2 {Z a c x : Nat} (h : c + Z ≤ a + x) (hc : c ≤ a) : Z ≤ a - c + x := by omega
theorem znat3 {Z a c k y : Nat} (hc : c ≤ a) (h : k + Z ≤ a - c + y) : c + k + Z ≤ a + y := by omega
theorem zsu_le {Z : Nat} (hZ : zsu 49 ≤ Z) : ∀ {n : Nat}, n ≤ 49 → zsu n ≤ Z := by
  have h : ∀ k n, zsu n ≤ zsu (n + k) := by
    intro k
    induction k with
    | zero => intro n; exact Nat.le_refl _
    | succ k ih => intro n; exact Nat.le_trans (ih n) (Nat.le_add_right _ _)
  intro n hn
  have := h (49 - n) n
  rw [show n + (49 - n) = 49 by omega] at this
  exact Nat.le_trans this hZ
section ZCL
variable {p : Program} {l : Launch} {e : Env} {R : Room} {s : State} {m : MethodId} {args : Array Value} {below : List Frame} {meth : Method} {c : Code} {T : State} {locs : List Loc} {cells slots : Nat}
theorem zmeth {j : Nat} (hj : j < 190) (hts : ∀ w ∈ lw_tbl, goodWord w = true → w.before args s = true) : ∃ (mk : MethodId) (methk : Method) (ck : Code), s.methodNamed? (zY j) = some mk ∧ s.vm.method? mk = some methk ∧ methk.code = some ck ∧ ck.code = zbt j ∧ ck.maxLocals = zmx j ∧
    ck.exceptionTable.toList.map (fun h => (h.startPc, h.endPc, h.handlerPc, h.catchType)) = zhr j ∧ methk.sig.returnType = zrT (zrt j) ∧ methk.locks = false ∧ parseMethodDescriptor (zY j).desc = some methk.sig := by
  have hm := zkc_190 j hj
  have hg : goodWord (zcw j) = true := by unfold zcw; cases (zhd j).isEmpty <;> rfl
  have hw := hts _ (List.mem_append_right _ hm) hg
  cases he : (zhd j).isEmpty with
  | true =>
    unfold zcw at hw
    rw [he] at hw
    have hw : (Cond.code (zY j) (zbt j) (zmx j) (zrT (zrt j))).before args s = true := hw
    obtain ⟨mk, hn⟩ := Cond.code_named hw
    obtain ⟨methk, ck, h1, h2, h3, h4, h5, h6, h7, h8⟩ := Cond.code_spec hn hw
    refine ⟨mk, methk, ck, hn, h1, h2, h3, h4, ?_, h5, h6, h8⟩
    have hz : zhd j = [] := List.isEmpty_iff.mp he
    have hz2 : ck.exceptionTable = #[] := Array.isEmpty_iff.mp h7
    rw [hz2]
    unfold zhr
    rw [hz]
    rfl
  | false =>
    unfold zcw at hw
    rw [he] at hw
    have hw : (Cond.codeWith (zY j) (zbt j) (zmx j) (zrT (zrt j)) (zhr j)).before args s = true := hw
    obtain ⟨mk, methk, ck, hn, h1, h2, h3, h4, h5, h6, h7, h8⟩ := Cond.codeWith_spec hw
    exact ⟨mk, methk, ck, hn, h1, h2, h3, h4, h5, h6, h7, h8⟩
theorem zmw_spec {j : Nat} (hj : j < 190) : ∃ a st b c d, zmw[j]? = some (a, st, b, c, d) ∧ tables_1[b]? = some (bif Nat.beq st 1 then Cond.static (zY j) else Cond.instanceMethod (zY j)) ∧ (c = 9999 ∨ lw_tbl[c]? = some (Cond.selects (zcn (zow j)) (zY j) (zY j))) ∧ tables_1[d]? = some (Cond.initialized (zcn (zow j))) ∧ (zY j).cls = zcn (zow j) ∧ (parseMethodDescriptor (zY j).desc).map (fun d => d.parameters.length) = some (zpn j) := by
  have h := zmw_ok hj
  unfold zmwC at h
  cases hz : zmw[j]? with
  | none => rw [hz] at h; cases h
  | some q =>
    obtain ⟨a, st, b, c, d⟩ := q
    rw [hz] at h
    simp only [Bool.and_eq_true, decide_eq_true_eq, Bool.or_eq_true] at h
    refine ⟨a, st, b, c, d, rfl, h.1, ?_, h.2.2.1, h.2.2.2.1, h.2.2.2.2⟩
    rcases h.2.1 with h1 | h1
    · exact Or.inl (Nat.eq_of_beq_eq_true h1)
    · exact Or.inr h1
variable {D : va_G} {cs : zCs} {s0 : State} {b L : Nat} {xs : Nat → Int32} {S S0 : zS} {d j : Nat}
theorem zsize (X : Stand p l e R s m args below meth c T locs cells slots) (hT : zRel D cs s0.heap b L xs S T.heap) (hold : zOld S0 S) (hsz0 : S0.2.1 = 0 → s.heap.size = s0.heap.size + S0.1) (hex : S.2.1 = 0 → cells + S0.1 = S.1) (h0 : S.2.1 = 0) : T.heap.size = s0.heap.size + S.1 := by
  have h1 := X.heapSize
  have h2 := hsz0 (by have := hold.2.2; omega)
  have h3 := hex h0
  have h4 : s0.heap.size + S.1 ≤ T.heap.size := by
    cases hn : S.1 with
    | zero => have := hT.2.2.1; omega
    | succ n =>
      have := (hT.1 n _ (zws_get (by omega))).lt
      show s0.heap.size + (n + 1) ≤ T.heap.size
      have h5 : s0.heap.size + n < T.heap.size := this
      omega
  omega
theorem zvs_trans {A : Nat → Prop} {H0 H1 H2 : Heap} {l1 l2 : List Loc} (h : va_S A H0 H1 l1) (k : va_S A H1 H2 l2) : va_S A H0 H2 (l1 ++ l2) :=
  ⟨Nat.le_trans h.1 k.1, fun q hq hA => (k.2.1 q (Nat.lt_of_lt_of_le hq h.1) hA).trans (h.2.1 q hq hA), fun q hq => by
    rcases List.mem_append.mp hq with h1 | h1
    · exact h.2.2 q h1
    · exact k.2.2 q h1⟩
/-- a callee walked: it comes back, or its exception does -/
theorem zcallee (X : Stand p l e R s m args below meth c T locs cells slots) (G : zG p e D cs s0 b L xs) (hW0 : s0.WarmedH s.vm) (hT : zRel D cs s0.heap b L xs S T.heap) (hold : zOld S0 S) (hvs : va_S (zA2 s0.heap.size) s.heap T.heap locs) (hroom : zRoom cs (d + 1) R cells slots S)
    (hsz0 : S0.2.1 = 0 → s.heap.size = s0.heap.size + S0.1) (hex : S.2.1 = 0 → cells + S0.1 = S.1) {g : JFrame} (hg : g.method = m) (hsize : g.locals.size = c.maxLocals) (hst : 2 * g.monitorRoom + (g.stack.map fun v => v.category).sum ≤ 20) {ig : Instr} (hdg : decode c.code g.pc = .ok (ig, 3)) (hj : j < 190)
    {mk : MethodId} (hnamed : s.methodNamed? (zY j) = some mk) {as : List Value} (hlay : (zlay as).length ≤ zmx j) {Q' : zR → Prop} (hC : zSnd p l e D cs s0 b L xs d j (0, zent j as, [], S) Q') :
    ∃ (r : zR) (T' : State) (Lc : List Loc) (k n : Nat), Q' r ∧ Stand p l e R s m args below meth c T' (locs ++ Lc) (cells + k) (slots + n) ∧ zRel D cs s0.heap b L xs r.2 T'.heap ∧ zOld S0 r.2 ∧ va_S (zA2 s0.heap.size) s.heap T'.heap (locs ++ Lc) ∧ zRoom cs (d + 1) R (cells + k) (slots + n) r.2 ∧ (r.2.2.1 = 0 → cells + k + S0.1 = r.2.1) ∧
      match r.1 with
      | .inl v => ∀ acts, Steps p.tables e below (doInvoke e (T.setTop g) acts mk (as.map (zrv s0.heap.size b)).toArray).1 (T'.setTop { g with pc := g.pc + 3, stack := (v.map (zrv s0.heap.size b)).toList ++ g.stack })
      | .inr x => ∃ (a : Addr) (ce : Cell), T'.heap[a]? = some ce ∧ ce.vm = .none ∧ s.vm.findClass (zex x) = some ce.cls ∧ x < 4 ∧ ∀ acts, Steps p.tables e below (doInvoke e (T.setTop g) acts mk (as.map (zrv s0.heap.size b)).toArray).1 ((T'.setTop g).pushFrame (.throwing a)) := by
  have hts := zhts (args := args) hW0 G.2.2.1
  obtain ⟨mk', methk, ck, q1, q2, q3, q4, q5, q6, q7, q8, q9⟩ := zmeth hj hts
  cases hnamed.symm.trans q1
  have hal := X.warmed.alike
  have hmk : T.vm.method? mk = some methk := by rw [hal.method?]; exact q2
  have hpk : T.plainMethod mk := State.plainMethod.of_named (List.all_eq_true.mp zpl_ok j (List.mem_range.mpr hj)) (X.named hnamed) hmk
  have hmx : zmx j ≤ 40 := Nat.le_of_ble_eq_true (List.all_eq_true.mp zmx_ok j (List.mem_range.mpr hj))
  obtain ⟨a0, st0, b1, c1, d1, -, -, -, -, hcls, -⟩ := zmw_spec hj
  obtain ⟨hr1, hr2, hr3, hr4⟩ := hroom
  have hS49 := hT.2.2.2.2.2.1
  have hx600 := hT.2.2.2.2.2.2
  have hzu := zsu_le G.2.2.2.2.2.2.2.2.2.1 hS49
  have hcap : cells ≤ R.cells ∧ slots ≤ R.slots := ⟨by omega, by omega⟩
  obtain ⟨Y, hin⟩ := X.into hg hsize hdg (as.map (zrv s0.heap.size b)).toArray (R' := { frames := R.frames - 1, cells := R.cells - cells, slots := R.slots - slots, locals := R.locals - 120 }) hmk q3 q8 hpk (by show R.frames - 1 + 1 ≤ R.frames; omega) (by show _ + (ck.maxLocals + 11) + (R.locals - 120) ≤ R.locals; rw [q5]; omega) (by show cells + (R.cells - cells) ≤ R.cells; omega) (by show slots + (R.slots - slots) ≤ R.slots; omega)
  have hfrm : zFr s0 j (T.calling g mk (as.map (zrv s0.heap.size b)).toArray) mk methk ck := by
    refine ⟨State.WarmedH.trans hW0 X.warmed, q4, q5, q7, (name_of_methodNamed q1 q2).1, q8, q6, ?_⟩
    show T.vm.findClass (zcn (zow j)) = some mk.cls
    rw [hal.findClass, ← hcls]
    exact findClass_of_methodNamed q1
  have hrm2 : zRoom cs d { frames := R.frames - 1, cells := R.cells - cells, slots := R.slots - slots, locals := R.locals - 120 } 0 0 S := by
    have h1 : d + 8 ≤ R.frames - 1 := by omega
    have h2 : 200 + 120 * d ≤ R.locals - 120 := by omega
    have h3 : 649 ≤ R.cells - cells + (S.1 + S.2.1) := znat2 hr3 hcap.1
    have h4 : cs.2.2.2 + 3600 ≤ R.slots - slots + (zsu S.1 + 6 * S.2.1) := znat2 hr4 hcap.2
    exact ⟨h1, h2, by rw [Nat.zero_add]; exact h3, by rw [Nat.zero_add]; exact h4⟩
  have hszc : S.2.1 = 0 → T.heap.size = s0.heap.size + S.1 := fun h0 => zsize X hT hold hsz0 hex h0
  have hexc : S.2.1 = 0 → 0 + S.1 = S.1 := fun _ => Nat.zero_add _
  obtain ⟨t, hsteps, r, o, hQ, hrun, hend, hout, hWt, hrel, holdr, Lc, k, n, hsame, hvs', hk1, hk2, hk3⟩ := hC { frames := R.frames - 1, cells := R.cells - cells, slots := R.slots - slots, locals := R.locals - 120 } (T.calling g mk (as.map (zrv s0.heap.size b)).toArray) mk (as.map (zrv s0.heap.size b)).toArray (.java g :: below) methk ck T.heap [] 0 0 _ S
    hfrm hT (zOld.rf S) hT va_S.rf (zent_lv hlay) hrm2 hszc hexc ((T.setTop g).pushFrame (.java (entryFrame mk (as.map (zrv s0.heap.size b)).toArray ck.maxLocals))) rfl Y
  have hE := lg_entry_eq mk (as.map (zrv s0.heap.size b)) (zmx j)
  have hk1 : k + 649 ≤ R.cells - cells + (r.2.1 + r.2.2.1) := hk1
  have hk2 : n + (cs.2.2.2 + 3600) ≤ R.slots - slots + (zsu r.2.1 + 6 * r.2.2.1) := hk2
  have hrm : zRoom cs (d + 1) R (cells + k) (slots + n) r.2 := ⟨hr1, hr2, znat3 hcap.1 hk1, znat3 hcap.2 hk2⟩
  have hexr : r.2.2.1 = 0 → cells + k + S0.1 = r.2.1 := by
    intro h0
    have h1 := hk3 h0
    have h2 := hex (by have := holdr.2.2; omega)
    omega
  obtain ⟨rr, Sr⟩ := r
  cases rr with
  | inl v =>
    have hout : o = .returned (v.map (zrv s0.heap.size b)) := hout
    subst hout
    obtain ⟨T', X', hW', -, ht⟩ := X.outOf hg hdg hend hWt hsame
    have hh : T'.heap = t.heap := by rw [ht]; rfl
    refine ⟨(.inl v, Sr), T', Lc, k, n, hQ, X', by rw [hh]; exact hrel, hold.trans holdr, by rw [hh]; exact zvs_trans hvs hvs', hrm, hexr, fun acts => ?_⟩
    rw [hin acts, ← ht]
    refine Steps.weaken (mid := [.java g]) ?_
    rw [q5] at hsteps ⊢
    rw [hE] at hsteps ⊢
    exact hsteps
  | inr x =>
    obtain ⟨a, ce, ho, h1, h2, h3, h4⟩ := hout
    subst ho
    obtain ⟨T', X', hW', -, ht⟩ := X.outOfThrown hg hend hWt hsame
    have hh : T'.heap = t.heap := by rw [ht]; rfl
    refine ⟨(.inr x, Sr), T', Lc, k, n, hQ, X', by rw [hh]; exact hrel, hold.trans holdr, by rw [hh]; exact zvs_trans hvs hvs', hrm, hexr, a, ce, by rw [hh]; exact h1, h2, ?_, h4, fun acts => ?_⟩
    · have h3 : T.vm.findClass (zex x) = some ce.cls := h3
      rw [hal.findClass] at h3
      exact h3
    · rw [hin acts, ← ht]
      refine Steps.weaken (mid := [.java g]) ?_
      rw [q5] at hsteps ⊢
      rw [hE] at hsteps ⊢
      exact hsteps
end ZCL
