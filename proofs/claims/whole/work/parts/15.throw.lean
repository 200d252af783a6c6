/-! exceptions: made and thrown; caught -/
section ZTH
variable {p : Program} {l : Launch} {e : Env} {R : Room} {s : State} {m : MethodId} {args : Array Value} {below : List Frame} {meth : Method} {c : Code} {T : State} {locs : List Loc} {cells slots : Nat}
/-- the walk seen as if its method had begun here -/
theorem zrebase (X : Stand p l e R s m args below meth c T locs cells slots) (hc : cells ≤ R.cells) (hs : slots ≤ R.slots) :
    Stand p l e { frames := R.frames, cells := R.cells - cells, slots := R.slots - slots, locals := R.locals } (T.setFrames (.invoking m args :: below)) m args below meth c T [] 0 0 := by
  obtain ⟨g₀, hfr⟩ := X.frames_eq
  have hcur : T.cur < T.threads.size := State.cur_lt_of_frames hfr
  have hf2 : (T.setFrames (.invoking m args :: below)).frames = .invoking m args :: below := State.frames_setFrames _ hcur
  obtain ⟨t, ht, -⟩ := State.frames_cons hf2
  have hcur2 : (T.setFrames (.invoking m args :: below)).cur < (T.setFrames (.invoking m args :: below)).threads.size := State.cur_lt_of_frames hf2
  obtain ⟨th, hth, -⟩ := State.frames_cons hfr
  have hback : (T.setFrames (.invoking m args :: below)).setFrames T.frames = T := by rw [State.setFrames_setFrames, State.setFrames_self hth]
  have hal := X.warmed.alike
  refine ⟨X.admits, X.cas, X.clock, hf2, ?_, ?_, X.method', X.code, X.here, X.tail, State.WarmedH.refl _, by rw [State.stackLimits_setFrames], by rw [State.stackBytes_setFrames], ?_⟩
  · have hr := X.room
    have hu := State.localsInUse_invoking X.frames X.method X.code
    have hu2 := State.localsInUse_invoking hf2 (show (T.setFrames (.invoking m args :: below)).vm.method? m = some meth from X.method') X.code
    have h1 := X.heapSize
    have h2 := X.used
    have h3 := X.book
    simp only [State.hasRoom, Bool.and_eq_true, decide_eq_true_eq] at hr ⊢
    rw [hu2, hf2, State.stackLimits_setFrames, State.stackBytes_setFrames, X.limits, X.bytes]
    rw [hu, X.frames] at hr
    refine ⟨⟨⟨⟨hr.1.1.1.1, hr.1.1.1.2⟩, ?_⟩, ?_⟩, h3⟩
    · show T.heap.size + (R.cells - cells) ≤ _
      have := hr.1.1.2
      omega
    · show T.slotsUsed + (R.slots - slots) ≤ _
      have := hr.1.2
      omega
  · have hh := X.hears
    cases below with
    | nil => simp only [State.hears] at hh ⊢; rw [show (T.setFrames [.invoking m args]).vm.method? m = s.vm.method? m from hal.method? m]; exact hh
    | cons f r =>
      cases f <;> simp only [State.hears] at hh ⊢
      case java g => rw [State.code?_eq] at hh ⊢; rw [show (T.setFrames _).vm.method? g.method = s.vm.method? g.method from hal.method? g.method]; exact hh
      all_goals rw [show (T.setFrames _).vm.method? m = s.vm.method? m from hal.method? m]; exact hh
  · have h := (State.sameButNew.refl (T.setFrames (.invoking m args :: below)) ht).setFrames T.frames hcur2
    rw [hback] at h
    exact h
theorem zunbase (X : Stand p l e R s m args below meth c T locs cells slots) {t : State} {k n : Nat} (h : (T.setFrames (.invoking m args :: below)).sameButNew ({ t with vm := (T.setFrames (.invoking m args :: below)).vm } : State) [] k n) :
    s.sameButNew ({ t with vm := s.vm } : State) locs (cells + k) (slots + n) ∧ (∀ q, q < T.heap.size → t.heap[q]? = T.heap[q]?) ∧ T.heap.size ≤ t.heap.size := by
  have h1 : T.sameButNew (t.setVm T.vm) [] k n := by
    obtain ⟨a1, a2⟩ := h
    refine ⟨?_, a2⟩
    rw [State.setFrames_setFrames] at a1
    exact a1
  have h2 := X.same.trans (h1.setVm s.vm)
  rw [List.append_nil] at h2
  refine ⟨h2, fun q hq => ?_, h1.2.1⟩
  obtain ⟨c', g1, g2, g3, g4⟩ := h1.2.2.2.2.2 q T.heap[q] (Array.getElem?_eq_getElem hq)
  have g1 : t.heap[q]? = some c' := g1
  rw [g1, Array.getElem?_eq_getElem hq, g2]
  have : c'.slots = T.heap[q].slots := by
    apply Array.ext_getElem?
    intro i
    exact g4 i (by simp)
  rw [this]
end ZTH
/-- words on statics hold on where the old cells are as they were -/
theorem zstat_move {s0 U : State} {A A' : Array Value} {o n d : String} (hW : s0.WarmedH U.vm) (hh : ∀ q, q < s0.heap.size → U.heap[q]? = s0.heap[q]?) (h : (Cond.laysStatic o n d).before A s0 = true) : (Cond.laysStatic o n d).before A' U = true := by
  obtain ⟨c, k, i, f, a, cell, hc, hi, hst, ha, hcell, hs, hcls, hlt, hty⟩ := Cond.laysStatic_spec h
  have hal := hW.alike
  obtain ⟨k', hi', he⟩ := State.fieldFound?_setVm hal hi
  have hi2 : U.fieldFound? o n d = some (c, k', i, f) := hi'
  have hc2 : U.vm.findClass o = some c := by rw [hal.findClass]; exact hc
  have ha2 : k'.statics = some a := by rw [he]; exact ha
  have hty2 : k'.staticTypes[f.slot]? = some f.type := by rw [he]; exact hty
  have hcell2 : U.heap[a]? = some cell := by rw [hh a (Array.getElem?_eq_some_iff.mp hcell).1]; exact hcell
  simp [Cond.before, Cond.holds, Cond.value, hc2, hi2, ha2, hcell2, hst, hs, hcls, hlt, hty2]
theorem zref_move {s0 U : State} {A A' : Array Value} {o n d : String} (hW : s0.WarmedH U.vm) (hh : ∀ q, q < s0.heap.size → U.heap[q]? = s0.heap[q]?) (hl : (Cond.laysStatic o n d).before A s0 = true) (h : (Cond.isRef (.static o n d)).before A s0 = true) : (Cond.isRef (.static o n d)).before A' U = true := by
  obtain ⟨c, k, i, f, a, cell, hc, hi, hst, ha, hcell, hs, hcls, hlt, hty⟩ := Cond.laysStatic_spec hl
  have hal := hW.alike
  obtain ⟨k', hi', he⟩ := State.fieldFound?_setVm hal hi
  have hi2 : U.fieldFound? o n d = some (c, k', i, f) := hi'
  have ha2 : k'.statics = some a := by rw [he]; exact ha
  have hcell2 : U.heap[a]? = some cell := by rw [hh a (Array.getElem?_eq_some_iff.mp hcell).1]; exact hcell
  have e1 : (Term.static o n d).eval A s0 none [] s0 = cell.slots[f.slot]? := by simp [Term.eval, State.fieldNamed?, hi, hst, ha, hcell, hs]
  have e2 : (Term.static o n d).eval A' U none [] U = cell.slots[f.slot]? := by simp [Term.eval, State.fieldNamed?, hi2, hst, ha2, hcell2, hs]
  simp only [Cond.before, Cond.holds, Cond.value, e1] at h
  simp only [Cond.before, Cond.holds, Cond.value, e2]
  exact h
def zup2 : List String := ["java/lang/RuntimeException", "java/lang/Exception"]
/-- what making an exception asks, that isn't a word of the tables -/
def zodd (x : Nat) (a : Cond) : Bool := decide (a = .castable (zex x) (zex x)) || (decide (a = .laysStatic Bundle.tN "UNASSIGNED_STACK" Bundle.steD) || (decide (a = .laysStatic Bundle.tN "SUPPRESSED_SENTINEL" Bundle.listD) || (decide (a = .isRef (.static Bundle.tN "UNASSIGNED_STACK" Bundle.steD)) || decide (a = .isRef (.static Bundle.tN "SUPPRESSED_SENTINEL" Bundle.listD)))))
def zdec : Cond → Bool
  | .declares _ => true
  | _ => false
def zoaC (q : Nat × Nat × Nat × Nat) : Bool := (Bundle.ownAtoms (zcn q.1) q.2.1 (zex q.2.2.1) zup2).all (fun a => zodd q.2.2.1 a || ((goodWord a || zdec a) && decide (a ∈ tables_1)))
set_option maxRecDepth 100000 in
theorem zoa_ok : zel.all (fun q => zoaC q || false) = true := by decide +kernel
set_option maxRecDepth 100000 in
theorem zxini_ok : (List.range 4).all (fun x => decide (Cond.initialized (zex x) ∈ tables_1) && (Bundle.fit (zex x) && decide (Cond.castable (zex x) (zex x) ∈ tables_1))) = true := by decide +kernel
set_option maxRecDepth 100000 in
theorem zxls_ok : decide (Cond.laysStatic Bundle.tN "UNASSIGNED_STACK" Bundle.steD ∈ tables_1) && decide (Cond.laysStatic Bundle.tN "SUPPRESSED_SENTINEL" Bundle.listD ∈ tables_1) = true := by decide +kernel
theorem zup2_fit : ∀ n ∈ zup2, Bundle.fit n = true := by
  have : zup2.all Bundle.fit = true := by decide +kernel
  exact List.all_eq_true.mp this
theorem zel4 : zel.all (fun q => Nat.blt q.2.2.1 4) = true := by decide +kernel
section ZTW
variable {p : Program} {l : Launch} {e : Env} {R : Room} {s : State} {m : MethodId} {args : Array Value} {below : List Frame} {meth : Method} {c : Code} {T : State} {locs : List Loc} {cells slots : Nat}
variable {D : va_G} {cs : zCs} {s0 : State} {b L : Nat} {xs : Nat → Int32} {S : zS} {i pc k npc r1 r2 : Nat} {v : Value} {ls : Array Slot}
theorem zown_atoms (G : zG p e D cs s0 b L xs) (hW : s0.WarmedH s.vm) (hh : ∀ q, q < s0.heap.size → s.heap[q]? = s0.heap[q]?) {o ic x t : Nat} (hq : (o, ic, x, t) ∈ zel) : ∀ a ∈ Bundle.ownAtoms (zcn o) ic (zex x) zup2, a.before args s = true := by
  intro a ha
  have h1 := List.all_eq_true.mp zoa_ok _ hq
  simp only [Bool.or_false] at h1
  have h2 := List.all_eq_true.mp h1 a ha
  have hx4 : x < 4 := by
    have := List.all_eq_true.mp zel4 _ hq
    simpa [Nat.blt_eq] using this
  have hxi := List.all_eq_true.mp zxini_ok x (List.mem_range.mpr hx4)
  have hls := zxls_ok
  simp only [Bool.and_eq_true, decide_eq_true_eq] at hxi hls
  rw [Bool.or_eq_true] at h2
  rcases h2 with h2 | h2
  · simp only [zodd, Bool.or_eq_true, decide_eq_true_eq] at h2
    have w1 := G.2.2.1 _ (List.mem_append_right _ hls.1)
    have w2 := G.2.2.1 _ (List.mem_append_right _ hls.2)
    rcases h2 with rfl | rfl | rfl | rfl | rfl
    · exact va_Nw.use rfl (va_Nw.warmC hW (va_Nw.of rfl (G.2.2.1 _ (List.mem_append_right _ hxi.2.2))))
    · exact zstat_move hW hh w1
    · exact zstat_move hW hh w2
    · exact zref_move hW hh w1 G.2.2.2.2.2.2.1
    · exact zref_move hW hh w2 G.2.2.2.2.2.2.2.1
  · simp only [Bool.and_eq_true, Bool.or_eq_true, decide_eq_true_eq] at h2
    have w := G.2.2.1 _ (List.mem_append_right _ h2.2)
    rcases h2.1 with h3 | h3
    · exact word_at hW (good_of_word h3) w
    · cases a <;> first | (cases h3; done) | skip
      exact va_Nw.use rfl (va_Nw.warmD hW (va_Nw.of rfl w))
theorem zthrow (X : Stand p l e R s m args below meth c T locs cells slots) (G : zG p e D cs s0 b L xs) (hfr : zFr s0 i s m meth c) (hT : zRel D cs s0.heap b L xs S T.heap) {d : Nat} (hroom : zRoom cs d R cells slots S) (hls : ls.size = zmx i)
    (hk : zchk i pc (.new k, npc, r1, r2, v) = true) (hr1 : Nat.beq r1 0 = false) (hx : S.2.1 < 600) :
    ∃ (t : State) (a : Addr) (ce : Cell), Steps p.tables e below (T.setTop (F0 m pc ls [])) t ∧ t.status = .running ∧ Ended t below (.threw a) ∧ s.WarmedH t.vm ∧ s.sameButNew ({ t with vm := s.vm } : State) locs (cells + 1) (slots + 6) ∧ (∀ q, q < T.heap.size → t.heap[q]? = T.heap[q]?) ∧ T.heap.size ≤ t.heap.size ∧
      t.heap[a]? = some ce ∧ ce.vm = .none ∧ s.vm.findClass (zex r2) = some ce.cls ∧ r2 < 4 := by
  obtain ⟨hd, hnpc⟩ := zchk_d rfl hk
  simp only [zchk, Bool.and_eq_true, Bool.or_eq_true] at hk
  obtain ⟨-, -, hcl, hth⟩ := hk
  rcases hth with hth | hth
  · rw [hr1] at hth; cases hth
  obtain ⟨hr01, hr02, hr03, hr04⟩ := hroom
  have hS49 := hT.2.2.2.2.2.1
  have hx600 := hT.2.2.2.2.2.2
  have hzu := zsu_le G.2.2.2.2.2.2.2.2.2.1 hS49
  have hcap : cells + 1 ≤ R.cells ∧ slots + 6 ≤ R.slots := ⟨by omega, by omega⟩
  have X2 := zrebase X (by omega) (by omega)
  obtain ⟨hW0, hb, hml, hrt, hnm, hlk, hexc, hown⟩ := hfr
  have hal := X.warmed.alike
  have hW2 : s0.WarmedH (T.setFrames (.invoking m args :: below)).vm := State.WarmedH.trans hW0 X.warmed
  have hts2 := zhts (args := args) hW2 G.2.2.1
  have hown2 : (T.setFrames (.invoking m args :: below)).vm.findClass (zcn (zow i)) = some m.cls := by
    show T.vm.findClass _ = _
    rw [hal.findClass]; exact hown
  cases hz : zthr i pc with
  | none => rw [hz] at hth; cases hth
  | some q =>
    obtain ⟨mm, ln, ic⟩ := q
    rw [hz] at hth
    simp only [Bool.and_eq_true] at hth
    obtain ⟨hstr, hel, hemp⟩ := hth
    obtain ⟨⟨so, sk, stx, sat⟩, hsm, hsq⟩ := List.any_eq_true.mp hstr
    simp only [Bool.and_eq_true] at hsq
    have hso := Nat.eq_of_beq_eq_true hsq.1
    have hsk := Nat.eq_of_beq_eq_true hsq.2
    subst hso; subst hsk
    obtain ⟨et, hem⟩ := zhas3_mem hel
    have hx4 : r2 < 4 := by
      have := List.all_eq_true.mp zel4 _ hem
      simpa [Nat.blt_eq] using this
    have hxi := List.all_eq_true.mp zxini_ok r2 (List.mem_range.mpr hx4)
    simp only [Bool.and_eq_true, decide_eq_true_eq] at hxi
    have hatoms := zown_atoms (args := args) (s := T.setFrames (.invoking m args :: below)) G hW2 hT.2.1 hem
    have hwcl := zkl2_word hts2 hcl
    rw [hr1] at hwcl
    have hwcl : (Cond.classLink (zcn (zow i)) k (zex r2)).before args (T.setFrames (.invoking m args :: below)) = true := hwcl
    have hwini : (Cond.initialized (zex r2)).before args (T.setFrames (.invoking m args :: below)) = true := hts2 _ (List.mem_append_right _ hxi.1) rfl
    have hwins : (Cond.instantiable (zex r2) 6).before args (T.setFrames (.invoking m args :: below)) = true := hatoms _ (by simp [Bundle.ownAtoms])
    obtain ⟨sa, hvk⟩ := G.2.2.2.2.2.2.2.2.1 _ hsm
    have hvk2 := vk_R.warm hW2 hvk
    have hempt : c.exceptionTable.toList = [] := by
      have hz2 : zhd i = [] := List.isEmpty_iff.mp hemp
      unfold zhr at hexc
      rw [hz2] at hexc
      simpa using hexc
    have hth : ∃ pc6, decode (zbt i) (pc + 3) = .ok (.dup, 1) ∧ ((decode (zbt i) (pc + 4) = .ok (.ldc sk, 2) ∧ pc6 = pc + 6) ∨ (decode (zbt i) (pc + 4) = .ok (.ldc_w sk, 3) ∧ pc6 = pc + 7)) ∧ decode (zbt i) pc6 = .ok (.invokespecial ic, 3) ∧ decode (zbt i) (pc6 + 3) = .ok (.athrow, 1) := by
      unfold zthr at hz
      split at hz
      · rename_i k' h3 h4
        split at hz
        · rename_i ic' h6 h9
          cases hz
          exact ⟨pc + 6, h3, Or.inl ⟨h4, rfl⟩, h6, h9⟩
        · cases hz
      · rename_i k' h3 h4
        split at hz
        · rename_i ic' h6 h9
          cases hz
          exact ⟨pc + 7, h3, Or.inr ⟨h4, rfl⟩, h6, h9⟩
        · cases hz
      · cases hz
    obtain ⟨pc6, g3, g4, g6, g9⟩ := hth
    have key : ∀ (cC : ClassId) (kC : Class), (T.setFrames (.invoking m args :: below)).vm.findClass (zex r2) = some cC → (T.setFrames (.invoking m args :: below)).vm.classes[cC]? = some kC →
        W p l e { frames := R.frames, cells := R.cells - cells, slots := R.slots - slots, locals := R.locals } (T.setFrames (.invoking m args :: below)) m args below meth c (T.heap.push { cls := cC, slots := kC.instanceTypes.map defaultValue, vm := .none }) [] (0 + 1) (0 + 6)
          (fun U => ∃ ce, U.status = .running ∧ Ended U below (.threw T.heap.size) ∧ (T.setFrames (.invoking m args :: below)).WarmedH U.vm ∧ (T.setFrames (.invoking m args :: below)).sameButNew ({ U with vm := (T.setFrames (.invoking m args :: below)).vm } : State) [] 1 6 ∧ U.heap[T.heap.size]? = some ce ∧ Bundle.OwnCell args (T.setFrames (.invoking m args :: below)) (zex r2) T.heap.size (.ref sa) ce)
          (F0 m pc6 ls [.ref sa, .ref T.heap.size, .ref T.heap.size]) := by
      intro cC kC h1 h2 T3 hT3 X3
      obtain ⟨U, st, u1, u2, u3, u4, ce, u5, u6⟩ := X3.ctorThrowS G.1 G.2.1 hown2 hxi.2.1 zup2_fit hatoms (fun x hx => by cases hx) h1 h2 (by rw [hT3]; simp [freshCell]) (Nat.le_refl _) (msg := .ref sa) rfl (g := F0 m pc6 ls [.ref sa, .ref T.heap.size, .ref T.heap.size]) rfl (by rw [hml]; exact hls) rfl rfl (rest := []) rfl (by rw [hb]; exact g6) (by rw [hb]; exact g9) (by rw [hempt]; intro x hx; cases hx) (by show 2 + 3 < R.frames; omega) (by show 2 * 0 + 1 + (13 * 3 + 42) ≤ R.locals; omega) hlk
      exact ⟨U, st, ce, u1, u2, u3, u4, u5, u6⟩
    have hW := (W.newc (Q := fun U => ∃ ce, U.status = .running ∧ Ended U below (.threw T.heap.size) ∧ (T.setFrames (.invoking m args :: below)).WarmedH U.vm ∧ (T.setFrames (.invoking m args :: below)).sameButNew ({ U with vm := (T.setFrames (.invoking m args :: below)).vm } : State) [] 1 6 ∧ U.heap[T.heap.size]? = some ce ∧ Bundle.OwnCell args (T.setFrames (.invoking m args :: below)) (zex r2) T.heap.size (.ref sa) ce) (l := l) (e := e) (below := below) (meth := meth) (H := T.heap) (locs := []) (cells := 0) (slots := 0) (R := { frames := R.frames, cells := R.cells - cells, slots := R.slots - slots, locals := R.locals }) G.1 hb hown2 hwcl hwins hwini (g := F0 m pc ls []) rfl hd (by show 0 + 1 ≤ R.cells - cells; omega) (by show 0 + 6 ≤ R.slots - slots; omega)
      (fun cC kC h1 h2 h3 h4 => by
        refine lv_dup G.1 hb g3 rfl ?_
        rcases g4 with ⟨g4, rfl⟩ | ⟨g4, rfl⟩
        · exact va_ldcS G.1 hb hown2 hvk2 g4 (key cC kC h1 h2)
        · intro T3 hT3 X3
          obtain ⟨t, a1, b1⟩ := key cC kC h1 h2 T3 hT3 X3
          exact ⟨t, X3.ldcStringW G.1 hown2 (text := stx) (a := sa) hvk2.1 hvk2.2 (g := F0 m (pc + 4) ls [.ref T.heap.size, .ref T.heap.size]) rfl (by rw [hb]; exact g4) t a1, b1⟩))
    obtain ⟨t, hst, ce, w1, w2, w3, w4, w5, w6⟩ := hW T rfl X2
    obtain ⟨z1, z2, z3⟩ := zunbase X w4
    refine ⟨t, T.heap.size, ce, hst, w1, w2, State.WarmedH.trans X.warmed w3, z1, z2, z3, w5, w6.vm, ?_, hx4⟩
    have := w6.cls
    have : T.vm.findClass (zex r2) = some ce.cls := this
    rw [hal.findClass] at this
    exact this
end ZTW
