/-! frames: what holds in every method's walk -/
def zA2 (b0 : Nat) : Nat → Prop := fun q => b0 ≤ q ∧ q < b0 + 49
theorem zws_D2 {b0 b : Nat} {cs : zCs} {S : zS} (hS : S.1 ≤ 49) : va_D (zA2 b0) (zws b0 b cs S) := by
  refine ⟨(zws_D (b0 := b0)).1, fun k q h => ?_⟩
  have hk : k < S.1 := by simpa [zws] using (List.getElem?_eq_some_iff.mp h).1
  rw [zws_get hk] at h
  cases h
  exact ⟨Nat.le_add_right _ _, Nat.add_lt_add_left (Nat.lt_of_lt_of_le hk hS) _⟩
def zWs : List Cond := lw_tbl.filter goodWord
def zsz (k : Nat) : Nat := match (zknd k).1 with
  | 0 => zNf (zknd k).2
  | _ => (zknd k).2
def zsu : Nat → Nat
  | 0 => 0
  | n + 1 => zsu n + zsz n
/-- the start's facts: words, fields, arrays, the script, what exceptions need -/
def zG (p : Program) (e : Env) (D : va_G) (cs : zCs) (s0 : State) (b L : Nat) (xs : Nat → Int32) : Prop :=
  p.tables.exec = Jvm.exec ∧ e.platform.stackTraces = false ∧ (∀ w ∈ lw_tbl, w.before #[Value.ref b] s0 = true) ∧ va_K D zcl (ztys cs) s0 ∧ va_X b L xs s0 s0.heap ∧ b < s0.heap.size ∧
  (Cond.isRef (.static Bundle.tN "UNASSIGNED_STACK" Bundle.steD)).before #[Value.ref b] s0 = true ∧ (Cond.isRef (.static Bundle.tN "SUPPRESSED_SENTINEL" Bundle.listD)).before #[Value.ref b] s0 = true ∧
  (∀ q ∈ zsl, ∃ a, vk_R (zcn q.1) q.2.1 q.2.2.1 a s0) ∧ zsu 49 ≤ cs.2.2.2 ∧ ∀ x y, x < 4 → y < 4 → x ≠ y → va_Nc (zex x) (zex y) s0
def zFr (s0 : State) (i : Nat) (s : State) (m : MethodId) (meth : Method) (c : Code) : Prop :=
  s0.WarmedH s.vm ∧ c.code = zbt i ∧ c.maxLocals = zmx i ∧ meth.sig.returnType = zrT (zrt i) ∧ meth.name = (zY i).name ∧ meth.locks = false ∧
  c.exceptionTable.toList.map (fun h => (h.startPc, h.endPc, h.handlerPc, h.catchType)) = zhr i ∧ s.vm.findClass (zcn (zow i)) = some m.cls
def zOld (S0 S : zS) : Prop := S0.1 ≤ S.1 ∧ (S0.1 = S.1 ∨ S0.2.1 = 0) ∧ S0.2.1 ≤ S.2.1
theorem zOld.rf (S : zS) : zOld S S := ⟨Nat.le_refl _, Or.inl rfl, Nat.le_refl _⟩
theorem zOld.trans {A B C : zS} (h : zOld A B) (k : zOld B C) : zOld A C := by
  obtain ⟨h1, h2, h3⟩ := h
  obtain ⟨k1, k2, k3⟩ := k
  refine ⟨Nat.le_trans h1 k1, ?_, Nat.le_trans h3 k3⟩
  omega
def zRoom (cs : zCs) (d : Nat) (R : Room) (cells slots : Nat) (S : zS) : Prop :=
  d + 8 ≤ R.frames ∧ 200 + 120 * d ≤ R.locals ∧ cells + 649 ≤ R.cells + (S.1 + S.2.1) ∧ slots + (cs.2.2.2 + 3600) ≤ R.slots + (zsu S.1 + 6 * S.2.1)
def zOut (b0 b : Nat) (r : Option Value ⊕ Nat) (o : Outcome) (t s : State) : Prop := match r with
  | .inl v => o = .returned (v.map (zrv b0 b))
  | .inr x => ∃ (a : Addr) (ce : Cell), o = .threw a ∧ t.heap[a]? = some ce ∧ ce.vm = .none ∧ s.vm.findClass (zex x) = some ce.cls ∧ x < 4
def zEnd (D : va_G) (cs : zCs) (s0 : State) (b L : Nat) (xs : Nat → Int32) (s : State) (below : List Frame) (R : Room) (S0 : zS) (Q : zR → Prop) : State → Prop := fun t =>
  ∃ (r : zR) (o : Outcome), Q r ∧ t.status = .running ∧ Ended t below o ∧ zOut s0.heap.size b r.1 o t s ∧ s.WarmedH t.vm ∧ zRel D cs s0.heap b L xs r.2 t.heap ∧ zOld S0 r.2 ∧
    ∃ (Lc : List Loc) (k n : Nat), s.sameButNew ({ t with vm := s.vm } : State) Lc k n ∧ va_S (zA2 s0.heap.size) s.heap t.heap Lc ∧ k + 649 ≤ R.cells + (r.2.1 + r.2.2.1) ∧ n + (cs.2.2.2 + 3600) ≤ R.slots + (zsu r.2.1 + 6 * r.2.2.1) ∧ (r.2.2.1 = 0 → k + S0.1 = r.2.1)
def zSnd (p : Program) (l : Launch) (e : Env) (D : va_G) (cs : zCs) (s0 : State) (b L : Nat) (xs : Nat → Int32) (d i : Nat) (f : zF) (Q : zR → Prop) : Prop :=
  ∀ (R : Room) (s : State) (m : MethodId) (args : Array Value) (below : List Frame) (meth : Method) (c : Code) (H : Heap) (locs : List Loc) (cells slots : Nat) (ls : Array Slot) (S0 : zS),
    zFr s0 i s m meth c → zRel D cs s0.heap b L xs S0 s.heap → zOld S0 f.2.2.2 → zRel D cs s0.heap b L xs f.2.2.2 H → va_S (zA2 s0.heap.size) s.heap H locs → zlv s0.heap.size b ls (zmx i) f.2.1 → zRoom cs d R cells slots f.2.2.2 → (S0.2.1 = 0 → s.heap.size = s0.heap.size + S0.1) → (f.2.2.2.2.1 = 0 → cells + S0.1 = f.2.2.2.1) →
    W p l e R s m args below meth c H locs cells slots (zEnd D cs s0 b L xs s below R S0 Q) (F0 m f.1 ls (f.2.2.1.map (zrv s0.heap.size b)))
theorem zhts {s0 s : State} {b : Nat} {args : Array Value} (hW : s0.WarmedH s.vm) (h : ∀ w ∈ lw_tbl, w.before #[Value.ref b] s0 = true) : ∀ w ∈ lw_tbl, goodWord w = true → w.before args s = true :=
  fun w hw hg => word_at hW (good_of_word hg) (h w hw)
theorem zhtsW {s : State} {args : Array Value} (h : ∀ w ∈ lw_tbl, goodWord w = true → w.before args s = true) : ∀ w ∈ zWs, w.before args s = true :=
  fun w hw => h w (List.mem_filter.mp hw).1 (List.mem_filter.mp hw).2
/-- our classes: their names, fields and how they are laid -/
def zclsC (c : Nat) : Bool := match zcl[c]? with
  | none => false
  | some (C, T, N) => decide (C = zcn c) && (decide (N = zNf c) && (List.range N).all (fun k => decide (T k = zfq c k) && (decide ((T k).1 = zcn c) && (match parseFieldDescriptor (T k).2.2.1 with
      | some .int => Nat.beq (zfk c k) 0
      | some .boolean => Nat.beq (zfk c k) 1
      | some (.object _) => Nat.beq (zfk c k) 2
      | some (.array _) => Nat.beq (zfk c k) 2
      | _ => false) && (List.range N).all (fun j => Nat.beq k j || !decide ((T k).2.1 = (T j).2.1)))))
set_option maxRecDepth 100000 in
theorem zcls_ok0 : (List.range 8).all zclsC = true := by decide +kernel
