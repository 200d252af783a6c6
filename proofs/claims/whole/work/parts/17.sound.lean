/-! the small machine is sound -/
section ZSD
variable {p : Program} {l : Launch} {e : Env} {R : Room} {s : State} {m : MethodId} {args : Array Value} {below : List Frame} {meth : Method} {c : Code} {H : Heap} {locs : List Loc} {cells slots : Nat} {Q : zR → Prop}
variable {D : va_G} {cs : zCs} {s0 : State} {b L : Nat} {xs : Nat → Int32} {S S0 : zS} {d i pc npc r1 r2 : Nat} {v : Value} {ls : Array Slot} {st Lv : List Value}
theorem W.imp {P P' : State → Prop} {g : JFrame} (h : ∀ t, P t → P' t) (k : W p l e R s m args below meth c H locs cells slots P g) : W p l e R s m args below meth c H locs cells slots P' g := by
  intro T hT X
  obtain ⟨t, a, b⟩ := k T hT X
  exact ⟨t, a, h t b⟩
theorem zrel_upd {S' : zS} {H1 : Heap} {locs1 : List Loc} (hrel0 : zRel D cs s0.heap b L xs S0 s.heap) (hvs : va_S (zA2 s0.heap.size) s.heap H1 locs1) (hP : va_P D zcl (zws s0.heap.size b cs S') H1) (h1 : S'.2.2.1 = L) (h2 : S'.2.2.2.1 99 = xs) (h3 : S'.1 ≤ 49) (h4 : S'.2.1 ≤ 600) : zRel D cs s0.heap b L xs S' H1 :=
  ⟨hP, fun q hq => (hvs.2.1 q (Nat.lt_of_lt_of_le hq hrel0.2.2.1) (fun h => by have := h.1; omega)).trans (hrel0.2.1 q hq), Nat.le_trans hrel0.2.2.1 hvs.1, h1, h2, h3, h4⟩
/-- the end of a method that returns -/
theorem zend_ret {w : Option Value} {free : Addr → Prop} (hrel : zRel D cs s0.heap b L xs S H) (hold : zOld S0 S) (hvs : va_S (zA2 s0.heap.size) s.heap H locs) (hroom : zRoom cs d R cells slots S) (hex : S.2.1 = 0 → cells + S0.1 = S.1) (hQ : Q (.inl w, S)) {t : State}
    (h : MQ below (fun _ _ o t => o = .returned (w.map (zrv s0.heap.size b)) ∧ t.heap = H) args s cells slots (zA2 s0.heap.size) t) : zEnd D cs s0 b L xs s below R S0 Q t := by
  obtain ⟨o, h1, h2, ⟨h3, h4⟩, Lc, ⟨-, h5, h6⟩, h7⟩ := h
  refine ⟨(.inl w, S), o, hQ, h1, h2, h3, h5, by rw [h4]; exact hrel, hold, Lc, cells, slots, h6, ?_, hroom.2.2.1, hroom.2.2.2, hex⟩
  rw [h4]
  exact ⟨hvs.1, hvs.2.1, h7⟩
end ZSD
theorem zct {b : Bool} {X : Prop} (h : cond b X False) : b = true ∧ X := by
  cases b
  · exact h.elim
  · exact ⟨rfl, h⟩
set_option maxRecDepth 100000 in
theorem zobi_ok : decide (Cond.instanceMethod Lib.objectInit ∈ tables_1) && decide (Cond.code Lib.objectInit ⟨#[0xb1]⟩ 1 none ∈ tables_1) = true := by decide +kernel
section ZIV
variable {p : Program} {l : Launch} {e : Env} {R : Room} {s : State} {m : MethodId} {args : Array Value} {below : List Frame} {meth : Method} {c : Code} {locs : List Loc} {cells slots : Nat} {Q : zR → Prop} {T : State}
variable {D : va_G} {cs : zCs} {s0 : State} {b L : Nat} {xs : Nat → Int32} {S S0 : zS} {d i pc npc r1 r2 j : Nat} {v : Value} {ls : Array Slot} {st Lv rest as : List Value}
/-- a call, behind its instruction's own step -/
theorem zinv {vm1 : Vm} (X : Stand p l e R s m args below meth c (T.setVm vm1) locs cells slots) (G : zG p e D cs s0 b L xs) (hfr : zFr s0 i s m meth c) (hrel0 : zRel D cs s0.heap b L xs S0 s.heap) (hold : zOld S0 S) (hrel : zRel D cs s0.heap b L xs S T.heap) (hvs : va_S (zA2 s0.heap.size) s.heap T.heap locs) (hlv : zlv s0.heap.size b ls (zmx i) Lv) (hroom : zRoom cs (d + 1) R cells slots S)
    (hsz0 : S0.2.1 = 0 → s.heap.size = s0.heap.size + S0.1) (hex : S.2.1 = 0 → cells + S0.1 = S.1) (hrest : rest.length ≤ 8) {ig : Instr} (hdg : decode c.code pc = .ok (ig, 3)) (hnpc : npc = pc + 3) (hj : j < 190) (hi : i < 191) {mk : MethodId} (hnamed : s.methodNamed? (zY j) = some mk) (hlay : (zlay as).length ≤ zmx j)
    {g : JFrame} (hstep : ∀ target, (∀ acts, Steps p.tables e below (doInvoke e ((T.setVm vm1).setTop (F0 m pc ls (rest.map (zrv s0.heap.size b)))) acts mk (as.map (zrv s0.heap.size b)).toArray).1 target) → Steps p.tables e below (T.setTop g) target)
    {E : Nat → zS → Prop} (hC : zSnd p l e D cs s0 b L xs d j (0, zent j as, [], S) (fun q => match q with
      | (.inl w, S') => zSnd p l e D cs s0 b L xs (d + 1) i (npc, Lv, w.toList ++ rest, S') Q
      | (.inr x, S') => E x S'))
    (hE : ∀ x S', E x S' → ((zhd i).isEmpty = true ∧ Q (.inr x, S')) ∨ ∃ (hp k hn : Nat) (ins : Instr) (y2 : Nat) (v2 : Value), zhand pc x (zhd i) = some hp ∧ zcode i hp = some (ins, hn, k, y2, v2) ∧ ((∃ q, ins = .astore q) ∨ ∃ q, ins = .astore_n q) ∧ zSnd p l e D cs s0 b L xs (d + 1) i (hn, zset1 Lv k zJ, [], S') Q) :
    ∃ t, Steps p.tables e below (T.setTop g) t ∧ zEnd D cs s0 b L xs s below R S0 Q t := by
  obtain ⟨hW0, hb, hml, hrt, hnm, hlk, hexc, hown⟩ := id hfr
  have hst : 2 * (F0 m pc ls (rest.map (zrv s0.heap.size b))).monitorRoom + ((F0 m pc ls (rest.map (zrv s0.heap.size b))).stack.map fun v => v.category).sum ≤ 20 := by
    show 2 * 0 + ((rest.map (zrv s0.heap.size b)).map fun v => v.category).sum ≤ 20
    have hcat : ∀ r : List Value, ((r.map (zrv s0.heap.size b)).map fun v => v.category).sum ≤ 2 * r.length := by
      intro r
      induction r with
      | nil => exact Nat.le_refl _
      | cons w r ih =>
        simp only [List.map_cons, List.sum_cons, List.length_cons]
        have : (zrv s0.heap.size b w).category ≤ 2 := by rcases lv_cat (zrv s0.heap.size b w) with h | h <;> omega
        omega
    have := hcat rest
    omega
  obtain ⟨r, T', Lc, k, n, hQ, X', hrel', hold', hvs', hroom', hex', hout⟩ := zcallee X G hW0 (S0 := S0) hrel hold hvs hroom hsz0 hex (g := F0 m pc ls (rest.map (zrv s0.heap.size b))) rfl (by rw [hml]; exact hlv.1) hst hdg hj hnamed hlay hC
  obtain ⟨rr, S'⟩ := r
  cases rr with
  | inl w =>
    have hQ : zSnd p l e D cs s0 b L xs (d + 1) i (npc, Lv, w.toList ++ rest, S') Q := hQ
    obtain ⟨t, st1, en⟩ := hQ R s m args below meth c T'.heap (locs ++ Lc) (cells + k) (slots + n) ls S0 hfr hrel0 hold' hrel' hvs' hlv hroom' hsz0 hex' T' rfl X'
    refine ⟨t, hstep t (fun acts => (hout acts).trans ?_), en⟩
    have e1 : (w.toList ++ rest).map (zrv s0.heap.size b) = (w.map (zrv s0.heap.size b)).toList ++ rest.map (zrv s0.heap.size b) := by
      cases w <;> rfl
    have st1 : Steps p.tables e below (T'.setTop (F0 m npc ls ((w.toList ++ rest).map (zrv s0.heap.size b)))) t := st1
    rw [e1, hnpc] at st1
    exact st1
  | inr x =>
    obtain ⟨a, ce, g1, g2, g3, g4, hout⟩ := hout
    rcases hE x S' hQ with ⟨hemp, hq⟩ | ⟨hp, kk, hn, ins, y2, v2, q1, q2, q3, q4⟩
    · have hempt : c.exceptionTable.toList = [] := by
        have hz2 : zhd i = [] := List.isEmpty_iff.mp hemp
        unfold zhr at hexc
        rw [hz2] at hexc
        simpa using hexc
      obtain ⟨w1, w2, w3, w4, w5⟩ := X'.leaveThrown a (g := F0 m pc ls (rest.map (zrv s0.heap.size b))) rfl rfl rfl (by rw [hempt]; intro y hy; cases hy) hlk
      refine ⟨_, hstep _ (fun acts => (hout acts).trans w1), (.inr x, S'), .threw a, hq, w2, w3, ⟨a, ce, rfl, g1, g2, g3, g4⟩, w4, hrel', hold', locs ++ Lc, cells + k, slots + n, w5, hvs', hroom'.2.2.1, hroom'.2.2.2, hex'⟩
    · have hne : (zhd i).isEmpty = false := by
        cases hz : zhd i with
        | nil => rw [hz] at q1; cases q1
        | cons y ys => rfl
      have hz8 := List.all_eq_true.mp zhd_ok i (List.mem_range.mpr hi)
      rw [hne, Bool.false_or, Bool.and_eq_true] at hz8
      have h8 := Nat.eq_of_beq_eq_true hz8.1
      have hall : ∀ q ∈ zhd i, q.2.2.2 < 4 := fun q hq => by
        have := List.all_eq_true.mp hz8.2 q hq
        simpa [Nat.blt_eq] using this
      have hts := zhts (args := args) hW0 G.2.2.1
      have hxi := List.all_eq_true.mp zxini_ok x (List.mem_range.mpr g4)
      simp only [Bool.and_eq_true, decide_eq_true_eq] at hxi
      have hself : va_Nw (.castable (zex x) (zex x)) s := va_Nw.warmC hW0 (va_Nw.of rfl (G.2.2.1 _ (List.mem_append_right _ hxi.2.2)))
      have hpl : e.platform.magicAccessors = ({} : Platform).magicAccessors := by rw [X.admits.platform]
      obtain ⟨vm', wv, hgo⟩ := zgo_list (e := e) (a := a) (ce := ce) (g := F0 m pc ls (rest.map (zrv s0.heap.size b))) (x := x) hts hpl (by rw [← h8]; exact hown) hself (fun y hy hxy => (G.2.2.2.2.2.2.2.2.2.2 x y g4 hy hxy).moved hW0.alike) g2 g3 (zhd i) c.exceptionTable.toList hexc hall q1
        ((T'.setTop (F0 m pc ls (rest.map (zrv s0.heap.size b)))).pushFrame (.throwing a)) X'.warmed g1
      have hfind : ∀ (Q : Handler → Pre) (E : CtlPost) (d : Bool) (acts : List Action), wp (findHandler (F0 m pc ls (rest.map (zrv s0.heap.size b))) a) Q E e d acts ((T'.setTop (F0 m pc ls (rest.map (zrv s0.heap.size b)))).pushFrame (.throwing a)) ↔ Q (.found hp) d acts (((T'.setTop (F0 m pc ls (rest.map (zrv s0.heap.size b)))).pushFrame (.throwing a)).setVm vm') := by
        intro Q E d acts
        rw [W.findHandler_eq (meth := meth) (code := c) X'.method' X'.code]
        exact hgo Q E d acts
      have X2 := X'.noted wv
      obtain ⟨-, -, hk2⟩ := zwf q2
      have hW2 : W p l e R s m args below meth c T'.heap (locs ++ Lc) (cells + k) (slots + n) (zEnd D cs s0 b L xs s below R S0 Q) (F0 m hp ls [.ref a]) := by
        rcases q3 with ⟨q, rfl⟩ | ⟨q, rfl⟩
        · obtain ⟨hd2, rfl⟩ := zchk_d rfl hk2
          simp only [zchk, Bool.and_eq_true, decide_eq_true_eq, Nat.blt_eq] at hk2
          have e1 := Nat.eq_of_beq_eq_true hk2.2.2.1
          subst e1
          exact lv_astore G.1 hb hd2 (zlv_has hlv) hk2.2.2.2 rfl (fun ls' h' => q4 R s m args below meth c T'.heap (locs ++ Lc) (cells + k) (slots + n) ls' S0 hfr hrel0 hold' hrel' hvs' (zlv_of1 hlv (fun h => by cases h) h') hroom' hsz0 hex')
        · obtain ⟨hd2, rfl⟩ := zchk_d rfl hk2
          simp only [zchk, Bool.and_eq_true, decide_eq_true_eq, Nat.blt_eq] at hk2
          have e1 := Nat.eq_of_beq_eq_true hk2.2.2.1
          subst e1
          exact lv_astore_n G.1 hb hd2 rfl (zlv_has hlv) hk2.2.2.2 rfl (fun ls' h' => q4 R s m args below meth c T'.heap (locs ++ Lc) (cells + k) (slots + n) ls' S0 hfr hrel0 hold' hrel' hvs' (zlv_of1 hlv (fun h => by cases h) h') hroom' hsz0 hex')
      obtain ⟨t, st1, en⟩ := hW2 (T'.setVm vm') rfl X2
      refine ⟨t, hstep t (fun acts => (hout acts).trans ?_), en⟩
      exact zcaught (g := F0 m pc ls (rest.map (zrv s0.heap.size b))) X'.here hfind st1
end ZIV
