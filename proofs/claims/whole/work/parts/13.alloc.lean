/-! new objects and arrays -/
set_option maxRecDepth 100000 in
theorem zini_ok : (List.range 8).all (fun c => decide (Cond.initialized (zcn c) ∈ tables_1)) = true := by decide +kernel
set_option maxRecDepth 100000 in
theorem zarc_ok : decide (Cond.arrayClass .int ∈ tables_1) && (decide (Cond.arrayClass .boolean ∈ tables_1) && decide (Cond.arrayClass .long ∈ tables_1)) = true := by decide +kernel
theorem zlen_ok : (List.range 49).all (fun k => Nat.blt (zknd k).2 1048576 && Nat.blt (zknd k).1 4) = true := by decide +kernel
theorem zkl8_ok : (List.range 49).all (fun k => !Nat.beq (zknd k).1 0 || Nat.blt (zknd k).2 8) = true := by decide +kernel
theorem zclr_ne {α : Type} (f : Nat → Nat → α) {a k : Nat} (d : α) (h : k ≠ a) : zclr f a d k = f k := by
  have : Nat.beq k a = false := by
    cases hb : Nat.beq k a with
    | false => rfl
    | true => exact absurd (Nat.eq_of_beq_eq_true hb) h
  funext j
  simp [zclr, this]
theorem zclr_self {α : Type} (f : Nat → Nat → α) (a : Nat) (d : α) : zclr f a d a = fun _ => d := by
  funext j
  simp [zclr]
/-- the state behind the making of the next cell -/
def zmk (S : zS) : zS := (S.1 + 1, S.2.1, S.2.2.1, zclr S.2.2.2.1 S.1 0, zclr S.2.2.2.2.1 S.1 0, zclr S.2.2.2.2.2 S.1 .null)
section ZAL
variable {p : Program} {l : Launch} {e : Env} {R : Room} {s : State} {m : MethodId} {args : Array Value} {below : List Frame} {meth : Method} {c : Code} {H : Heap} {locs : List Loc} {cells slots : Nat} {Q : State → Prop}
variable {ls : Array Slot} {b0 b i pc npc r1 r2 a k : Nat} {v : Value} {D : va_G} {cs : zCs} {S : zS} {rest : List Value} {H0 : Heap}
theorem zkl2_word (hts : ∀ w ∈ lw_tbl, goodWord w = true → w.before args s = true) {o x y : Nat} (h : zhas4 o k x y zkl2 = true) : (Cond.classLink (zcn o) k (bif Nat.beq x 0 then zcn y else zex y)).before args s = true := by
  obtain ⟨q, hq⟩ := zhas4_mem h
  have := List.all_eq_true.mp zkl2_ok _ hq
  simp only [decide_eq_true_eq] at this
  exact zword hts this rfl
theorem zpush (hP : va_P D zcl (zws b0 b cs S) H) {H1 : Heap} (ho : ∀ q, q < H.size → H1[q]? = H[q]?) (hn : va_at D zcl (b0 + S.1, zcell b0 b cs (zmk S) S.1) H1) : va_P D zcl (zws b0 b cs (zmk S)) H1 := by
  rw [← zws_push (S := S) (S' := zmk S) rfl (fun j hj => zcell_same (zclr_ne _ _ (by omega)) (zclr_ne _ _ (by omega)) (zclr_ne _ _ (by omega)))]
  refine (hP.kept (fun k q hk => ho q.1 (hP k q hk).lt)).app (fun k q hk => ?_)
  have hz : k < 1 := (List.getElem?_eq_some_iff.mp hk).1
  rw [show k = 0 by omega] at hk
  cases hk
  exact hn
theorem zpushS (hS : va_S (zA2 b0) H0 H locs) {H1 : Heap} (hz : H1.size = H.size + 1) (ho : ∀ q, q < H.size → H1[q]? = H[q]?) : va_S (zA2 b0) H0 H1 locs :=
  ⟨Nat.le_trans hS.1 (by omega), fun q h1 h2 => (ho q (Nat.lt_of_lt_of_le h1 hS.1)).trans (hS.2.1 q h1 h2), hS.2.2⟩
theorem znew_W (hexec : p.tables.exec = Jvm.exec) (hb : c.code = zbt i) (hown : s.vm.findClass (zcn (zow i)) = some m.cls) (hts : ∀ w ∈ lw_tbl, goodWord w = true → w.before args s = true) (hK : va_K D zcl (ztys cs) s) (hP : va_P D zcl (zws b0 b cs S) H) (hS49 : S.1 < 49) (hS : va_S (zA2 b0) H0 H locs)
    (hk : zchk i pc (.new k, npc, 0, r2, v) = true) (hkn : zknd S.1 = (0, r2)) (hsz : H.size = b0 + S.1) (hcells : cells + 1 ≤ R.cells) (hslots : slots + zsz S.1 ≤ R.slots)
    (kk : ∀ H1 : Heap, va_P D zcl (zws b0 b cs (zmk S)) H1 → va_S (zA2 b0) H0 H1 locs → W p l e R s m args below meth c H1 locs (cells + 1) (slots + zsz S.1) Q (F0 m npc ls (.ref (b0 + S.1) :: rest))) :
    W p l e R s m args below meth c H locs cells slots Q (F0 m pc ls rest) := by
  obtain ⟨hd, rfl⟩ := zchk_d rfl hk
  simp only [zchk, Bool.and_eq_true, decide_eq_true_eq] at hk
  have hr8 : r2 < 8 := by
    have h1 := List.all_eq_true.mp zkl8_ok S.1 (List.mem_range.mpr hS49)
    rw [hkn] at h1
    simpa [Nat.blt_eq] using h1
  obtain ⟨C, T, N, ty, e1, e2, e3, e4, e5, e6, e7, e8, e9, e10⟩ := zcls hr8
  have hw := zkl2_word hts hk.2.2.1
  have hszN : zsz S.1 = N := by
    rw [e3]
    unfold zsz
    rw [hkn]
    rfl
  rw [hszN] at hslots kk
  have hKn := hK.1 r2 _ e1
  have hin1 : (Cond.instantiable C N).before args s = true := hts _ e10 rfl
  have hin2 : (Cond.initialized C).before args s = true := by
    have := List.all_eq_true.mp zini_ok r2 (List.mem_range.mpr hr8)
    simp only [decide_eq_true_eq] at this
    rw [e2]
    exact hts _ (List.mem_append_right _ this) rfl
  have hw' : (Cond.classLink (zcn (zow i)) k C).before args s = true := by rw [e2]; exact hw
  refine W.newcK hexec hb hown hw' hin1 hin2 (g := F0 m pc ls rest) rfl hd hcells hslots hKn.2.1 hsz (fun H1 kC hkC g1 z1 o1 => ?_)
  have o1' : ∀ q, q < H.size → H1[q]? = H[q]? := by rw [hsz]; exact o1
  refine kk H1 (zpush hP o1' ?_) (zpushS hS (by rw [z1, hsz]) o1')
  rw [zcell_obj hkn]
  refine ⟨_, e1, (u_born ty (zhtsW hts) e4 hKn hkC g1 e7).to (fun j hj => ?_)⟩
  have hj' : j < zNf r2 := by rw [← e3]; exact hj
  have hv : vp_V ((List.range (zNf r2)).map (zfv b0 b (zmk S) S.1 r2)) j = zfv b0 b (zmk S) S.1 r2 j := by
    unfold vp_V
    rw [List.getD_eq_getElem?_getD, List.getElem?_map, List.getElem?_range hj']
    rfl
  rw [hv]
  have z1 : (zmk S).2.2.2.1 S.1 j = 0 := by show zclr _ S.1 0 S.1 j = 0; rw [zclr_self]
  have z2 : (zmk S).2.2.2.2.2 S.1 j = .null := by show zclr _ S.1 _ S.1 j = _; rw [zclr_self]
  unfold zfv
  rcases e8 j hj with ⟨h, t⟩ | ⟨h, t⟩ | ⟨h, t⟩
  · rw [h, t, z1]; rfl
  · rw [h, t, z1]; rfl
  · rw [h, z2]
    rcases t with ⟨n, t⟩ | ⟨n, t⟩ <;> rw [t] <;> rfl
theorem znewa_W (hexec : p.tables.exec = Jvm.exec) (hb : c.code = zbt i) (hts : ∀ w ∈ lw_tbl, goodWord w = true → w.before args s = true) (hK : va_K D zcl (ztys cs) s) (hP : va_P D zcl (zws b0 b cs S) H) (hS49 : S.1 < 49) (hS : va_S (zA2 b0) H0 H locs) {t : ArrayType} {x : Int32}
    (hk : zchk i pc (.newarray t, npc, r1, r2, v) = true) (hkn : (zknd S.1).1 = r1) (hx : x = Int32.ofNat (zknd S.1).2) (hsz : H.size = b0 + S.1) (hcells : cells + 1 ≤ R.cells) (hslots : slots + zsz S.1 ≤ R.slots) (hr0 : r1 ≠ 0)
    (kk : ∀ H1 : Heap, va_P D zcl (zws b0 b cs (zmk S)) H1 → va_S (zA2 b0) H0 H1 locs → W p l e R s m args below meth c H1 locs (cells + 1) (slots + zsz S.1) Q (F0 m npc ls (.ref (b0 + S.1) :: rest))) :
    W p l e R s m args below meth c H locs cells slots Q (F0 m pc ls (.int x :: rest)) := by
  obtain ⟨hd, rfl⟩ := zchk_d rfl hk
  simp only [zchk, Bool.and_eq_true, decide_eq_true_eq] at hk
  have hr1 := Nat.eq_of_beq_eq_true hk.2.2
  have hlen : (zknd S.1).2 < 1048576 := by
    have h1 := List.all_eq_true.mp zlen_ok S.1 (List.mem_range.mpr hS49)
    rw [Bool.and_eq_true] at h1
    simpa [Nat.blt_eq] using h1.1
  have hszN : zsz S.1 = (zknd S.1).2 := by
    unfold zsz
    cases hq : (zknd S.1).1 with
    | zero => rw [hkn] at hq; exact absurd hq hr0
    | succ n => rfl
  rw [hszN] at hslots kk
  subst hx
  have hn : ¬ Int32.ofNat (zknd S.1).2 < 0 := nI_pos (n := (zknd S.1).2) (by omega)
  have hN : (Int32.ofNat (zknd S.1).2).toNatClampNeg = (zknd S.1).2 := nI_clamp (n := (zknd S.1).2) (by omega)
  have harc := zarc_ok
  simp only [Bool.and_eq_true, decide_eq_true_eq] at harc
  have σ0 : (zmk S).2.2.2.1 S.1 = fun _ => 0 := zclr_self _ _ _
  have τ0 : (zmk S).2.2.2.2.1 S.1 = fun _ => 0 := zclr_self _ _ _
  cases t
  case int =>
    refine va_newaK (atype := .int) hexec hb (hts _ (List.mem_append_right _ harc.1) rfl) (g := F0 m pc ls _) rfl hd rfl hn hN (by show _ * 4 ≤ _; omega) hcells hslots hsz (fun H1 cA g1 z1 o1 hAr hNm => ?_)
    have o1' : ∀ q, q < H.size → H1[q]? = H[q]? := by rw [hsz]; exact o1
    refine kk H1 (zpush hP o1' ?_) (zpushS hS (by rw [z1, hsz]) o1')
    have hc : cA = cs.1 := Option.some.inj (hNm.symm.trans (hK.2 0 _ rfl).2)
    rw [zcell_int (by rw [hkn]; exact hr1), σ0, ← hc]
    exact g1
  case boolean =>
    refine va_newaK (atype := .boolean) hexec hb (hts _ (List.mem_append_right _ harc.2.1) rfl) (g := F0 m pc ls _) rfl hd rfl hn hN (by show _ * 1 ≤ _; omega) hcells hslots hsz (fun H1 cA g1 z1 o1 hAr hNm => ?_)
    have o1' : ∀ q, q < H.size → H1[q]? = H[q]? := by rw [hsz]; exact o1
    refine kk H1 (zpush hP o1' ?_) (zpushS hS (by rw [z1, hsz]) o1')
    have hc : cA = cs.2.1 := Option.some.inj (hNm.symm.trans (hK.2 1 _ rfl).2)
    rw [zcell_bool (by rw [hkn]; exact hr1), σ0, ← hc]
    exact g1
  case long =>
    refine va_newaK (atype := .long) hexec hb (hts _ (List.mem_append_right _ harc.2.2) rfl) (g := F0 m pc ls _) rfl hd rfl hn hN (by show _ * 8 ≤ _; omega) hcells hslots hsz (fun H1 cA g1 z1 o1 hAr hNm => ?_)
    have o1' : ∀ q, q < H.size → H1[q]? = H[q]? := by rw [hsz]; exact o1
    refine kk H1 (zpush hP o1' ?_) (zpushS hS (by rw [z1, hsz]) o1')
    have hc : cA = cs.2.2.1 := Option.some.inj (hNm.symm.trans (hK.2 2 _ rfl).2)
    rw [zcell_long (by rw [hkn]; exact hr1), τ0, ← hc]
    exact g1
  all_goals exact absurd hr1 hr0
end ZAL
