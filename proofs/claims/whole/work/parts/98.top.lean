/-! the claim out of the small machine's run of the law -/
def R_law : String := "HeapDeskLaw"
def lw_P (b : Addr) (xs : List Int32) (args : Array Value) (s : State) : Prop := args = #[.ref b] ∧ s.IntsAt b xs ∧ xs.length ≤ 2560 ∧ (Jvm.Cond.and given_1 narrow_1).before args s = true
def lw_Q (_ : Array Value) (s : State) (o : Outcome) (t : State) : Prop := o = .returned (some (.int 1)) ∧ Framed s o t [] 601024 7293034
set_option maxRecDepth 100000 in
theorem znar_ok : decide (Cond.isRef (.static Bundle.tN "UNASSIGNED_STACK" Bundle.steD) ∈ flatC narrow_1) && (decide (Cond.isRef (.static Bundle.tN "SUPPRESSED_SENTINEL" Bundle.listD) ∈ flatC narrow_1) && (List.range 4).all (fun x => (List.range 4).all (fun y => Nat.beq x y || decide (Cond.not (.castable (zex x) (zex y)) ∈ flatC narrow_1)))) = true := by decide +kernel
set_option maxRecDepth 100000 in
theorem zsu_Z : zsu 49 ≤ 400000 := by decide +kernel
theorem zKnow {s0 : State} {args : Array Value} (hts : ∀ w ∈ lw_tbl, goodWord w = true → w.before args s0 = true) : ∃ (D : va_G) (cs : zCs), cs.2.2.2 = 400000 ∧ va_K D zcl (ztys cs) s0 := by
  have hcls : ∀ c : Nat, ∃ (q : ClassId × (Nat → Nat)), ∀ r : vw_C, zcl[c]? = some r → u_Kn s0 r.1 r.2.1 r.2.2 q.1 q.2 := by
    intro c
    by_cases hc : c < 8
    · obtain ⟨C, T, N, ty, e1, e2, e3, e4, e5, e6, e7, e8, e9, e10⟩ := zcls hc
      obtain ⟨cC, iS, h⟩ := u_known (zhtsW hts) e4 (hts _ e10 rfl)
      refine ⟨(cC, iS), fun r hr => ?_⟩
      rw [e1] at hr
      cases hr
      exact h
    · refine ⟨(0, fun _ => 0), fun r hr => ?_⟩
      rw [List.getElem?_eq_none (by show zcl.length ≤ c; exact Nat.le_trans (by decide) (Nat.not_lt.mp hc))] at hr
      cases hr
  have harr : ∀ ty : FieldType, (∀ n, ty ≠ .object n) → Cond.arrayClass ty ∈ tables_1 → ∃ cA, ArrOfT s0 cA ty ∧ va_RA s0 cA ty := by
    intro ty hno hm
    obtain ⟨cA, kA, comp, h1, h2, h3⟩ := Cond.arrayClass_spec (show (Cond.arrayClass ty).before args s0 = true from hts _ (List.mem_append_right _ hm) rfl)
    refine ⟨cA, fun n z => ⟨fun k h => (by cases h), kA, h2, comp, h3⟩, ?_⟩
    cases ty <;> first | exact h1 | exact absurd rfl (hno _)
  have harc := zarc_ok
  simp only [Bool.and_eq_true, decide_eq_true_eq] at harc
  obtain ⟨cI, hI⟩ := harr .int (fun _ h => by cases h) harc.1
  obtain ⟨cZ, hZ⟩ := harr .boolean (fun _ h => by cases h) harc.2.1
  obtain ⟨cJ, hJ⟩ := harr .long (fun _ h => by cases h) harc.2.2
  refine ⟨(fun c => (Classical.choose (hcls c)).1, fun c => (Classical.choose (hcls c)).2), (cI, cZ, cJ, 400000), rfl, fun c q hq => Classical.choose_spec (hcls c) q hq, fun k q hk => ?_⟩
  match k, hk with
  | 0, hk => cases hk; exact hI
  | 1, hk => cases hk; exact hZ
  | 2, hk => cases hk; exact hJ
  | n + 3, hk => simp [ztys] at hk
set_option maxHeartbeats 4000000 in
theorem lw_walk (l : Launch) (hl : l.flags = flags0) (b : Addr) (xs : List Int32) : MetFree l x (headSpec (Jvm.Cond.code x code maxLocals ret :: tables_1) room_1) (lw_P b xs) (fun _ _ _ _ _ => True) lw_Q := by
  refine MetFree.of_bodyS (code := code) (maxLocals := maxLocals) (ret := ret) (by decide) ?_ ?_
  · intro args s m h hn
    obtain ⟨meth, c, h1, h2, h3, h4, h5, h6, -, -⟩ := Cond.code_spec hn (atoms_spec (ws := Jvm.Cond.code x code maxLocals ret :: tables_1) h _ List.mem_cons_self)
    exact ⟨meth, c, h1, h2, h3, h4, h5, h6⟩
  · intro p e s m args below meth c s₁ B hml0 hP _
    obtain ⟨rfl, hx, hbd, hgv⟩ := hP
    obtain ⟨scr, harrAt, hlist, hof, hsmall⟩ := hx
    obtain ⟨hcb, hkn, -, -⟩ := State.arrayAt?_spec harrAt
    have hown : s.vm.findClass R_law = some m.cls := findClass_of_methodNamed B.named
    have hts0 : ∀ c ∈ (Jvm.Cond.code x code maxLocals ret :: tables_1), c.before #[Value.ref b] s = true := atoms_spec (ws := Jvm.Cond.code x code maxLocals ret :: tables_1) B.pre
    have hts : ∀ w ∈ lw_tbl, w.before #[Value.ref b] s = true := k2_hts_sels lw_privs (fun w hw => hts0 w (List.mem_cons_of_mem _ hw)) lw_privs_ok
    have hml : c.maxLocals = 7 := B.maxLocals_eq (hts0 _ List.mem_cons_self)
    have X₀ : Stand p l e room_1 s m #[Value.ref b] below meth c s₁ [] 0 0 := Stand.of_body B
    have hh0 : s₁.heap = s.heap := by rw [B.state]; rfl
    have hsz : scr.slots.size = xs.length := by rw [← Array.length_toList, hlist, List.length_map]
    have hval : ∀ j : Nat, j < xs.length → scr.slots[j]? = some (.int (xs.getD j 0)) := fun j hj => by
      rw [← Array.getElem?_toList, hlist]
      simp [hj]
    have hbl : b < s.heap.size := (Array.getElem?_eq_some_iff.mp hcb).1
    have hX : va_X b xs.length (fun j => xs.getD j 0) s s.heap := ⟨scr, hcb, hof, hkn, hsz, hval⟩
    have htr : e.platform.stackTraces = false := Launch.traces_off hl X₀.admits
    have htsg : ∀ w ∈ lw_tbl, goodWord w = true → w.before #[Value.ref b] s = true := fun w hw _ => hts w hw
    obtain ⟨D, cs, hcs, hK⟩ := zKnow htsg
    have hflat := flat_of_before _ hgv
    have hnar : ∀ w ∈ flatC narrow_1, w.before #[Value.ref b] s = true := fun w hw => hflat w (List.mem_append_right _ hw)
    have hz := znar_ok
    simp only [Bool.and_eq_true, decide_eq_true_eq, List.all_eq_true, List.mem_range, Bool.or_eq_true] at hz
    have G : zG p e D cs s b xs.length (fun j => xs.getD j 0) := by
      refine ⟨B.exec, htr, hts, hK, hX, hbl, hnar _ hz.1, hnar _ hz.2.1, fun q hq => ?_, by rw [hcs]; exact zsu_Z, fun x y hx hy hxy => ?_⟩
      · have h1 := List.all_eq_true.mp zsl_ok q hq
        simp only [decide_eq_true_eq] at h1
        have h2 := hts _ (List.mem_append_right _ (List.mem_of_getElem? h1))
        have hcur : ∃ cur, s.vm.findClass (zcn q.1) = some cur := by
          have h1 := h2
          simp only [Cond.before, Cond.holds, Cond.value] at h1
          cases hc : s.vm.findClass (zcn q.1) with
          | none => simp [hc] at h1
          | some cur => exact ⟨cur, rfl⟩
        obtain ⟨cur, hcur⟩ := hcur
        obtain ⟨k, cf, i, a', hk, hcf, hcp, -, hr, hev⟩ := Cond.stringRef_spec hcur h2
        exact ⟨a', vk_R.of h2 hev⟩
      · rcases hz.2.2 x hx y hy with h | h
        · exact absurd (Nat.eq_of_beq_eq_true h) hxy
        · exact va_Nc.of (hnar _ h)
    have hcd := hts0 _ List.mem_cons_self
    obtain ⟨meth', c', g1, g2, g3, g4, g5, g6, g7, g8⟩ := Cond.code_spec B.named hcd
    cases B.method.symm.trans g1
    cases X₀.code.symm.trans g2
    have hfr : zFr s 190 s m meth c := by
      refine ⟨State.WarmedH.refl s, B.bytes, hml, B.returns, (name_of_methodNamed B.named g1).1, B.notSynchronized, ?_, hown⟩
      have hz2 : c.exceptionTable = #[] := Array.isEmpty_iff.mp g7
      rw [hz2]
      rfl
    have hS := zsound (l := l) G (zlaw (L := xs.length) (xs := fun j => xs.getD j 0) hbd)
    have hrel : zRel D cs s.heap b xs.length (fun j => xs.getD j 0) (zS0 xs.length (fun j => xs.getD j 0)) s.heap :=
      ⟨fun k q hk => by simp [zws, zS0] at hk, fun _ _ => rfl, Nat.le_refl _, rfl, rfl, Nat.zero_le _, Nat.zero_le _⟩
    have hrm : zRoom cs 100 room_1 0 0 (zS0 xs.length (fun j => xs.getD j 0)) := by
      refine ⟨by decide, by decide, ?_, ?_⟩
      · show 0 + 649 ≤ 601024 + (0 + 0)
        decide
      · rw [hcs]
        show 0 + (400000 + 3600) ≤ 7293034 + (0 + 6 * 0)
        decide
    obtain ⟨t, hst, r, o, ⟨SS, hr⟩, w1, w2, w3, w4, w5, w6, Lc, k, n, w7, w8, w9, w10, w11⟩ := hS room_1 s m #[Value.ref b] below meth c s.heap [] 0 0 _ (zS0 xs.length (fun j => xs.getD j 0)) hfr hrel (zOld.rf _) hrel va_S.rf (zent_lv (by decide)) hrm (fun _ => rfl) (fun _ => rfl) s₁ hh0 X₀
    have hE := lg_entry_eq m ([.ref 99].map (zrv s.heap.size b)) (zmx 190)
    subst hr
    have w3 : o = .returned (some (.int 1)) := w3
    subst w3
    refine ⟨t, .returned (some (.int 1)), ?_, w1, w2, rfl, ⟨_, rfl⟩, w4, ?_⟩
    · have hst : Steps p.tables e below (s₁.setTop (F0 m 0 ((lg_sl ([.ref 99].map (zrv s.heap.size b)) ++ List.replicate (zmx 190 - (lg_sl ([.ref 99].map (zrv s.heap.size b))).length) Slot.unset).toArray) [])) t := hst
      rw [← hE] at hst
      exact hst
    · have h49 := w5.2.2.2.2.2.1
      have h600 := w5.2.2.2.2.2.2
      have hzu := zsu_le (Z := cs.2.2.2) (by rw [hcs]; exact zsu_Z) h49
      refine w7.weaken (fun y hy hlt => ?_) ?_ ?_
      · exact absurd hlt (Nat.not_lt.mpr (w8.2.2 y hy).1)
      · have w9 : k + 649 ≤ 601024 + (SS.1 + SS.2.1) := w9
        have h49 : SS.1 ≤ 49 := h49
        have h600 : SS.2.1 ≤ 600 := h600
        omega
      · have w10 : n + (cs.2.2.2 + 3600) ≤ 7293034 + (zsu SS.1 + 6 * SS.2.1) := w10
        have h600 : SS.2.1 ≤ 600 := h600
        have hzu : zsu SS.1 ≤ cs.2.2.2 := hzu
        generalize cs.2.2.2 = Z at w10 hzu
        generalize zsu SS.1 = u at w10 hzu
        omega
theorem lw_pre_spec {args : Array Value} {s : State} (h : (Jvm.Cond.and given_1 narrow_1).before args s = true) (hr : rest_1_c.before args s = true) : ∃ (b : Addr) (xs : List Int32), lw_P b xs args s := by
  have hs := flat_of_before _ h
  have hq := flat_of_before _ hr
  have hc : (Cond.count 1).before args s = true := hs _ (by decide +kernel)
  have harr : (Cond.arrayOf (.arg 0) .int).before args s = true := hs _ (by decide +kernel)
  have hle : (Cond.le (.length (.arg 0)) (.int 2560)).before args s = true := hs _ (by decide +kernel)
  have hlen : (Cond.isInt (.length (.arg 0))).before args s = true := hq _ (by decide +kernel)
  have hall : (Cond.all (.arg 0) (.isInt (.elem (.arg 0) (.index 0)))).before args s = true := hq _ (by decide +kernel)
  obtain ⟨b, xs, hb, hx⟩ := State.ints_of_pre rfl harr hlen hall
  have hsm : xs.length < 2 ^ 31 := hx.choose_spec.2.2.2
  have hev : (Term.length (.arg 0)).eval args s none [] s = some (.int xs.length.toInt32) := hx.length_eval hb
  have hv := Cond.le_ints hev (show (Term.int 2560).eval args s none [] s = some (.int 2560) from rfl)
  have hd : xs.length.toInt32 ≤ 2560 := by
    simpa [Cond.before, Cond.holds, hv] using hle
  have hN : xs.length ≤ 2560 := (Int32.ofNat_le_ofNat hsm (by decide)).mp (show Int32.ofNat xs.length ≤ Int32.ofNat 2560 from hd)
  exact ⟨b, xs, Cond.one_arg hc (show args[0]? = some (.ref b) from hb), hx, hN, h⟩
