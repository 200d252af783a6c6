/-! exceptions caught: the handler's class may be resolved there for the first time -/
theorem zgo_class {E : CtlPost} {e : Env} {d : Bool} {acts : List Action} {s : State} {f : JFrame} {a : Addr} {Q : Handler → Pre} {x : ExceptionTableEntry} {t : List ExceptionTableEntry} {c : ClassId} {cell : Cell} {vm' : Vm} (hx : covers x f.pc = true) (h0 : x.catchType ≠ 0)
    (hg : (Jvm.resolveClass f.method.cls x.catchType).Gives e.toSetting s.vm (.ok c) vm') (hsz : vm'.classes.size ≤ s.vm.classes.size) (hcell : s.heap[a]? = some cell) (hobj : ∀ k, cell.vm ≠ .statics k)
    (hk : ∃ k, vm'.classes[cell.cls]? = some k) (hc : ∃ k, vm'.classes[c]? = some k) :
    wp (findHandler.go f a (x :: t)) Q E e d acts s ↔ if vm'.assignable cell.cls c = true then Q (.found x.handlerPc) d acts (s.setVm vm') else wp (findHandler.go f a t) Q E e d acts (s.setVm vm') := by
  simp only [covers] at hx
  obtain ⟨ha, ht⟩ := hg.op (op := VmOp.resolveClass f.method.cls x.catchType) rfl
  have hsz' : ((VmOp.resolveClass f.method.cls x.catchType).tables e s.vm).classes.size ≤ s.vm.classes.size := by rw [ht]; exact hsz
  have hcell' : (s.setVm vm').heap[a]? = some cell := hcell
  cases hfit : vm'.assignable cell.cls c <;>
    simp [findHandler.go, hx, h0, W.vmOp_same _ hsz', ha, ht, hcell, hobj, hk, hc, hfit, VmOp.dirties, VmOp.acts]
theorem zstep_catch {e : Env} {s s' : State} {a : Addr} {f : JFrame} {r : List Frame} {pc : Nat} (hfind : ∀ (Q : Handler → Pre) (E : CtlPost) (d : Bool) (acts : List Action), wp (findHandler f a) Q E e d acts s ↔ Q (.found pc) d acts s') :
    (stepThrowing e s a (.java f :: r)).Is (s'.setFrames (.java { f with pc := pc, stack := [.ref a] } :: r)) [] := by
  simp only [stepThrowing, searchFrame, vmDo]
  generalize hr : Sem.go _ e false [] s = res
  obtain ⟨as, rfl, ha⟩ := Sem.eq_ok_of hr (a := Handler.found pc) (s' := s') (acts' := []) (by simp [hfind _ _ _ _])
  exact ⟨rfl, ha⟩
theorem zcaught {tb : Tables} {e : Env} {s target : State} {g : JFrame} {c : Code} {below : List Frame} {a : Addr} {vm' : Vm} (h : At s g.method c below) {pc : Nat}
    (hfind : ∀ (Q : Handler → Pre) (E : CtlPost) (d : Bool) (acts : List Action), wp (findHandler g a) Q E e d acts ((s.setTop g).pushFrame (.throwing a)) ↔ Q (.found pc) d acts (((s.setTop g).pushFrame (.throwing a)).setVm vm'))
    (hrest : Steps tb e below ((s.setVm vm').setTop { g with pc := pc, stack := [.ref a] }) target) : Steps tb e below ((s.setTop g).pushFrame (.throwing a)) target := by
  obtain ⟨hgo, hw⟩ := h.throwing a
  refine Steps.head hgo hw ?_
  rw [stepThread_throwing (frames_entered h.top _), (zstep_catch (s := (s.setTop g).pushFrame (.throwing a)) hfind).1]
  obtain ⟨g₀, hg⟩ := Option.isSome_iff_exists.mp h.top
  obtain ⟨r, hr⟩ := State.topJava?_eq_some.mp hg
  have hr' : (s.setVm vm').frames = .java g₀ :: r := hr
  rw [State.setTop_of_frames _ hr'] at hrest
  have e1 : (((s.setTop g).pushFrame (.throwing a)).setVm vm').setFrames (.java { g with pc := pc, stack := [.ref a] } :: s.frames.tail) = (s.setVm vm').setFrames (.java { g with pc := pc, stack := [.ref a] } :: r) := by
    rw [hr]
    show (((s.setTop g).setFrames (.throwing a :: (s.setTop g).frames)).setFrames (.java { g with pc := pc, stack := [.ref a] } :: r)).setVm vm' = (s.setFrames (.java { g with pc := pc, stack := [.ref a] } :: r)).setVm vm'
    rw [State.setFrames_setFrames, State.setTop_of_frames _ hr, State.setFrames_setFrames]
  rw [e1]
  exact hrest
theorem zhd_ok : (List.range 191).all (fun i => (zhd i).isEmpty || (Nat.beq (zow i) 8 && (zhd i).all (fun q => Nat.blt q.2.2.2 4))) = true := by decide +kernel
theorem zxl_ok : (List.range 4).all (fun x => zhas4 8 (zxi x) 1 x zkl2) = true := by decide +kernel
section ZCT
variable {e : Env} {s : State} {m : MethodId} {args : Array Value} {a : Addr} {ce : Cell} {g : JFrame} {x : Nat}
theorem zgo_list (hts : ∀ w ∈ lw_tbl, goodWord w = true → w.before args s = true) (hpl : e.platform.magicAccessors = ({} : Platform).magicAccessors) (hown : s.vm.findClass (zcn 8) = some g.method.cls) (hself : va_Nw (.castable (zex x) (zex x)) s) (hnc : ∀ y, y < 4 → x ≠ y → va_Nc (zex x) (zex y) s) (hvm : ce.vm = .none) (hcls : s.vm.findClass (zex x) = some ce.cls) {hpc : Nat} :
    ∀ (hs : List (Nat × Nat × Nat × Nat)) (es : List ExceptionTableEntry), es.map (fun h => (h.startPc, h.endPc, h.handlerPc, h.catchType)) = hs.map (fun q => (q.1, q.2.1, q.2.2.1, zxi q.2.2.2)) → (∀ q ∈ hs, q.2.2.2 < 4) → zhand g.pc x hs = some hpc →
      ∀ U : State, s.WarmedH U.vm → U.heap[a]? = some ce → ∃ vm', s.WarmedH vm' ∧ ∀ (Q : Handler → Pre) (E : CtlPost) (d : Bool) (acts : List Action), wp (findHandler.go g a es) Q E e d acts U ↔ Q (.found hpc) d acts (U.setVm vm') := by
  intro hs
  induction hs with
  | nil => intro es _ _ h; cases h
  | cons q hs ih =>
    obtain ⟨f, t, h, y⟩ := q
    intro es hes h4 hz U hW hcell
    cases es with
    | nil => cases hes
    | cons en es =>
      simp only [List.map_cons, List.cons.injEq, Prod.mk.injEq] at hes
      obtain ⟨⟨k1, k2, k3, k4⟩, hes⟩ := hes
      unfold zhand at hz
      have hcov : covers en g.pc = (Nat.ble f g.pc && Nat.blt g.pc t) := by
        rw [← k1, ← k2]
        show (decide (en.startPc ≤ g.pc) && decide (g.pc < en.endPc)) = _
        congr 1
        · exact (Bool.eq_iff_iff.mpr (by simp))
        · exact (Bool.eq_iff_iff.mpr (by simp [Nat.blt_eq]))
      cases hc : (Nat.ble f g.pc && Nat.blt g.pc t) with
      | false =>
        rw [hc] at hz hcov
        obtain ⟨vm', w1, w2⟩ := ih es hes (fun q hq => h4 q (List.mem_cons_of_mem _ hq)) hz U hW hcell
        exact ⟨vm', w1, fun Q E d acts => (W.findHandler_go_skip hcov).trans (w2 Q E d acts)⟩
      | true =>
        rw [hc] at hz hcov
        have hy4 : y < 4 := h4 _ List.mem_cons_self
        have hw := zkl2_word hts (List.all_eq_true.mp zxl_ok y (List.mem_range.mpr hy4))
        have hw : (Cond.classLink (zcn 8) (zxi y) (zex y)).before args s = true := hw
        obtain ⟨cy, hfy, hcl⟩ := Cond.classLink_spec hown hw e.platform hpl
        obtain ⟨hg, hwarm, hready⟩ := State.classEntry (e := e) hW hcl
        have h0 : en.catchType ≠ 0 := by rw [k4]; unfold zxi; split <;> decide
        rw [← k4] at hg hwarm
        have hsz : (U.vm.noted g.method.cls en.catchType (.cls cy)).classes.size ≤ U.vm.classes.size := by simp
        have hk1 : ∃ k, (U.vm.noted g.method.cls en.catchType (.cls cy)).classes[ce.cls]? = some k := Vm.classAt_of_findClass (name := zex x) (by rw [hwarm.alike.findClass]; exact hcls)
        have hk2 : ∃ k, (U.vm.noted g.method.cls en.catchType (.cls cy)).classes[cy]? = some k := Vm.classAt_of_findClass (name := zex y) (by rw [hwarm.alike.findClass]; exact hfy)
        have hobj : ∀ k, ce.vm ≠ .statics k := fun k hk => by rw [hvm] at hk; cases hk
        by_cases hxy : x = y
        · subst hxy
          have hb : Nat.beq x x = true := by simp
          rw [hb] at hz
          have hz : h = hpc := Option.some.inj hz
          subst hz
          refine ⟨_, hwarm, fun Q E d acts => ?_⟩
          rw [zgo_class hcov h0 hg hsz hcell hobj hk1 hk2, if_pos ?_, k3]
          obtain ⟨c1, c2, e1, e2, e3⟩ := Cond.castable_spec (show (Cond.castable (zex x) (zex x)).before #[] s = true from hself)
          cases hcls.symm.trans e1
          cases hfy.symm.trans e2
          rw [hwarm.alike.assignable]
          exact e3
        · have hb : Nat.beq y x = false := by
            cases hb : Nat.beq y x with
            | false => rfl
            | true => exact absurd (Nat.eq_of_beq_eq_true hb).symm hxy
          rw [hb] at hz
          obtain ⟨vm', w1, w2⟩ := ih es hes (fun q hq => h4 q (List.mem_cons_of_mem _ hq)) hz (U.setVm (U.vm.noted g.method.cls en.catchType (.cls cy))) hwarm hcell
          refine ⟨vm', w1, fun Q E d acts => ?_⟩
          rw [zgo_class hcov h0 hg hsz hcell hobj hk1 hk2, if_neg ?_]
          · exact w2 Q E d acts
          · obtain ⟨c1, c2, e1, e2, e3⟩ := hnc y hy4 hxy
            cases hcls.symm.trans e1
            cases hfy.symm.trans e2
            rw [hwarm.alike.assignable, e3]
            decide
end ZCT
