/-! every step of the small machine is the JVM's -/
section ZPT
variable {p : Program} {l : Launch} {e : Env} {R : Room} {s : State} {m : MethodId} {args : Array Value} {below : List Frame} {meth : Method} {c : Code} {H : Heap} {locs : List Loc} {cells slots : Nat} {Q : State → Prop}
variable {ls : Array Slot} {b0 b i pc npc r1 r2 a k : Nat} {v : Value} {D : va_G} {cs : zCs} {S : zS} {rest : List Value} {H0 : Heap}
theorem zput_kind (hk : zchk i pc (.putfield k, npc, r1, r2, v) = true) : (v = .int 0 ∧ zfk r1 r2 = 0) ∨ (v = .long 0 ∧ zfk r1 r2 = 1) ∨ (v = .null ∧ zfk r1 r2 = 2) := by
  simp only [zchk, Bool.and_eq_true, decide_eq_true_eq, Nat.blt_eq, Bool.or_eq_true] at hk
  obtain ⟨-, -, hf, hlt, hv, -⟩ := hk
  have hlt' : r2 < zNf r1 := hlt
  obtain ⟨C, T, N, ty, e1, e2, e3, e4, e5, e6, e7, e8, -⟩ := zcls (zfks8 hlt')
  have hv' : v = (match zfk r1 r2 with | 0 => .int 0 | 1 => .long 0 | _ => .null) := hv
  rcases e8 r2 (by rw [e3]; exact hlt') with ⟨h, -⟩ | ⟨h, -⟩ | ⟨h, -⟩ <;> rw [h] at hv'
  · exact Or.inl ⟨hv', h⟩
  · exact Or.inr (Or.inl ⟨hv', h⟩)
  · exact Or.inr (Or.inr ⟨hv', h⟩)
theorem zputi_W (hexec : p.tables.exec = Jvm.exec) (hb : c.code = zbt i) (hown : s.vm.findClass (zcn (zow i)) = some m.cls) (hnm : meth.name = (zY i).name) (hts : ∀ w ∈ lw_tbl, goodWord w = true → w.before args s = true) (hK : va_K D zcl (ztys cs) s) (hP : va_P D zcl (zws b0 b cs S) H) (hS49 : S.1 ≤ 49) (hS : va_S (zA2 b0) H0 H locs)
    (hk : zchk i pc (.putfield k, npc, r1, r2, v) = true) (ho : zobj a S.1 r1 = true) {x : Int32} (hx : zfk r1 r2 = 0 ∨ (zfk r1 r2 = 1 ∧ (x = 0 ∨ x = 1)))
    (kk : ∀ (H1 : Heap) (locs1 : List Loc), va_P D zcl (zws b0 b cs (S.1, S.2.1, S.2.2.1, zup S.2.2.2.1 a r2 x, S.2.2.2.2.1, S.2.2.2.2.2)) H1 → va_S (zA2 b0) H0 H1 locs1 → W p l e R s m args below meth c H1 locs1 cells slots Q (F0 m npc ls rest)) :
    W p l e R s m args below meth c H locs cells slots Q (F0 m pc ls (.int x :: zrv b0 b (.ref a) :: rest)) := by
  obtain ⟨ha, hkn⟩ := zobj_spec ho
  rw [zrv_ref (by omega)]
  refine zput_W hexec hb hown hnm hts hK hP hS49 hS hk ho (S' := (S.1, S.2.1, S.2.2.1, zup S.2.2.2.1 a r2 x, S.2.2.2.2.1, S.2.2.2.2.2)) ?_ rfl (fun j _ hj => zcell_same (zup_ne _ _ _ hj) rfl rfl) (fun f => ?_) kk
  · rcases hx with h | ⟨h, h1⟩
    · exact Or.inl ⟨h, x, rfl⟩
    · refine Or.inr (Or.inl ⟨h, ?_⟩)
      rcases h1 with rfl | rfl
      · exact Or.inl rfl
      · exact Or.inr rfl
  · unfold zfv
    dsimp only
    rw [zup_self]
    by_cases hf : f = r2
    · subst hf
      rw [if_pos rfl]
      rcases hx with h | ⟨h, -⟩ <;> rw [h] <;> simp [upd]
    · rw [if_neg hf]
      simp [upd, hf]
theorem zputr_W (hexec : p.tables.exec = Jvm.exec) (hb : c.code = zbt i) (hown : s.vm.findClass (zcn (zow i)) = some m.cls) (hnm : meth.name = (zY i).name) (hts : ∀ w ∈ lw_tbl, goodWord w = true → w.before args s = true) (hK : va_K D zcl (ztys cs) s) (hP : va_P D zcl (zws b0 b cs S) H) (hS49 : S.1 ≤ 49) (hS : va_S (zA2 b0) H0 H locs)
    (hk : zchk i pc (.putfield k, npc, r1, r2, v) = true) (ho : zobj a S.1 r1 = true) {y : Nat} (hx : zfk r1 r2 = 2)
    (kk : ∀ (H1 : Heap) (locs1 : List Loc), va_P D zcl (zws b0 b cs (S.1, S.2.1, S.2.2.1, S.2.2.2.1, S.2.2.2.2.1, zupR S.2.2.2.2.2 a r2 (.ref y))) H1 → va_S (zA2 b0) H0 H1 locs1 → W p l e R s m args below meth c H1 locs1 cells slots Q (F0 m npc ls rest)) :
    W p l e R s m args below meth c H locs cells slots Q (F0 m pc ls (zrv b0 b (.ref y) :: zrv b0 b (.ref a) :: rest)) := by
  obtain ⟨ha, hkn⟩ := zobj_spec ho
  rw [zrv_ref (a := a) (by omega)]
  refine zput_W hexec hb hown hnm hts hK hP hS49 hS hk ho (S' := (S.1, S.2.1, S.2.2.1, S.2.2.2.1, S.2.2.2.2.1, zupR S.2.2.2.2.2 a r2 (.ref y))) (Or.inr (Or.inr ⟨hx, _, rfl⟩)) rfl (fun j _ hj => zcell_same rfl rfl ?_) (fun f => ?_) kk
  · have : Nat.beq j a = false := by
      cases hb : Nat.beq j a with
      | false => rfl
      | true => exact absurd (Nat.eq_of_beq_eq_true hb) hj
    funext q
    simp [zupR, this]
  · unfold zfv
    dsimp only
    by_cases hf : f = r2
    · subst hf
      rw [if_pos rfl, hx]
      simp [zupR]
    · have : Nat.beq f r2 = false := by
        cases hb : Nat.beq f r2 with
        | false => rfl
        | true => exact absurd (Nat.eq_of_beq_eq_true hb) hf
      rw [if_neg hf]
      simp [zupR, this]
end ZPT
section ZPR
variable {p : Program} {l : Launch} {e : Env} {D : va_G} {cs : zCs} {s0 : State} {b L : Nat} {xs : Nat → Int32}
theorem zSnd.mono {d i : Nat} {f : zF} {Q Q' : zR → Prop} (h : ∀ r, Q r → Q' r) (k : zSnd p l e D cs s0 b L xs d i f Q) : zSnd p l e D cs s0 b L xs d i f Q' := by
  intro R s m args below meth c H locs cells slots ls S0 a1 a2 a3 a4 a5 a6 a7 a8 a9
  refine W.imp (fun t ht => ?_) (k R s m args below meth c H locs cells slots ls S0 a1 a2 a3 a4 a5 a6 a7 a8 a9)
  obtain ⟨r, o, q, rest⟩ := ht
  exact ⟨r, o, h r q, rest⟩
theorem znat4 {a Z C u x w : Nat} (h : a + (Z + 3600) ≤ C + (u + 6 * x)) (hx : x = 0) (hw : u + w ≤ Z) : a + w ≤ C := by omega
theorem znat5 {a K C u x w : Nat} (h : a + K ≤ C + (u + 6 * x)) : a + w + K ≤ C + (u + w + 6 * x) := by omega
theorem znat6 {a C n x : Nat} (h : a + 649 ≤ C + (n + x)) : a + 1 + 649 ≤ C + (n + 1 + x) := by omega
theorem znat7 {a K C u x : Nat} (h : a + K ≤ C + (u + 6 * x)) : a + 6 + K ≤ C + (u + 6 * (x + 1)) := by omega
theorem zml_word {args : Array Value} {s : State} (hts : ∀ w ∈ lw_tbl, goodWord w = true → w.before args s = true) {o k j : Nat} (h : zhas3 o k j zml = true) : (Cond.methodLink (zcn o) k (zY j)).before args s = true := by
  obtain ⟨q, hq⟩ := zhas3_mem h
  have := List.all_eq_true.mp zml_ok _ hq
  simp only [decide_eq_true_eq] at this
  exact zword hts this rfl
theorem zol_word {args : Array Value} {s : State} (hts : ∀ w ∈ lw_tbl, goodWord w = true → w.before args s = true) {o k : Nat} (h : zhas2 o k 0 zol = true) : (Cond.methodLink (zcn o) k Lib.objectInit).before args s = true := by
  obtain ⟨q, hq⟩ := zhas2_mem h
  have := List.all_eq_true.mp zol_ok _ hq
  simp only [decide_eq_true_eq] at this
  exact zword hts this rfl
theorem znmh {j : Nat} (hj : j < 190) : (zY j).cls ≠ "java/lang/invoke/MethodHandle" ∧ (zY j).cls ≠ "java/lang/invoke/VarHandle" := by
  have := List.all_eq_true.mp znmh_ok j (List.mem_range.mpr hj)
  simp only [Bool.and_eq_true, Bool.not_eq_true', decide_eq_false_iff_not] at this
  exact this
theorem ztake {st as : List Value} {n : Nat} (h : (st.take n).reverse = as) : st = as.reverse ++ st.drop n := by
  have h1 : st.take n = as.reverse := by rw [← h, List.reverse_reverse]
  rw [← h1, List.take_append_drop]
end ZPR
def znaC (_ : Nat) (e : zE) : Bool := match e with
  | (.newarray _, _, r1, _, _) => !Nat.beq r1 0
  | _ => true
set_option maxRecDepth 100000 in
theorem zna_all : zall znaC 10 zprog = true := by decide +kernel
theorem zna {i pc npc r1 r2 : Nat} {v : Value} {t : ArrayType} (h : zcode i pc = some (.newarray t, npc, r1, r2, v)) : r1 ≠ 0 := by
  unfold zcode at h
  cases hb : (Nat.blt i 191 && Nat.blt pc 2048) with
  | false => rw [hb] at h; cases h
  | true =>
    rw [hb] at h
    have h3 := zall_get zna_all h
    intro hr
    subst hr
    cases h3
theorem zini0_ok : (List.range 190).all (fun j => !decide ((zY j).name = "<init>") || (match zmw[j]? with | some q => Nat.beq q.2.1 0 | none => true)) = true := by decide +kernel
theorem zst0 {j a st b c d : Nat} (hz : zmw[j]? = some (a, st, b, c, d)) (hn : (zY j).name = "<init>") : st = 0 := by
  have hl : j < 191 := (List.getElem?_eq_some_iff.mp hz).1
  by_cases hj : j < 190
  · have := List.all_eq_true.mp zini0_ok j (List.mem_range.mpr hj)
    rw [hz] at this
    simp [hn] at this
    exact this
  · have : j = 190 := by omega
    subst this
    exact absurd hn (by decide +kernel)
section ZCD
variable {p : Program} {l : Launch} {e : Env} {D : va_G} {cs : zCs} {s0 : State} {b L : Nat} {xs : Nat → Int32}
set_option maxHeartbeats 4000000 in
theorem zsnd_closed (G : zG p e D cs s0 b L xs) : zClosed (zSnd p l e D cs s0 b L xs) := by
  intro d i f Q h
  obtain ⟨pc, Lv, st, S⟩ := f
  intro R s m args below meth c H locs cells slots ls S0 hfr hrel0 hold hrel hvs hlv hroom hsz0 hex
  dsimp only at hold hrel hlv hroom hex ⊢
  have hexec := G.1
  obtain ⟨hW0, hb, hml, hrt, hnm, hlk, hexc, hown⟩ := id hfr
  have hts := zhts (args := args) hW0 G.2.2.1
  have hK := G.2.2.2.1.moved hW0.alike
  have hX : va_X b S.2.2.1 (S.2.2.2.1 99) s H := by
    rw [hrel.2.2.2.1, hrel.2.2.2.2.1]
    exact (G.2.2.2.2.1.moved hW0.alike).kept (hrel.2.1 b G.2.2.2.2.2.1)
  have hS49 := hrel.2.2.2.2.2.1
  have hx600 := hrel.2.2.2.2.2.2
  have go : ∀ (npc : Nat) (L' st' : List Value) (ls' : Array Slot), zSnd p l e D cs s0 b L xs d i (npc, L', st', S) Q → zlv s0.heap.size b ls' (zmx i) L' →
      W p l e R s m args below meth c H locs cells slots (zEnd D cs s0 b L xs s below R S0 Q) (F0 m npc ls' (st'.map (zrv s0.heap.size b))) :=
    fun npc L' st' ls' h' hl' => h' R s m args below meth c H locs cells slots ls' S0 hfr hrel0 hold hrel hvs hl' hroom hsz0 hex
  have gos : ∀ (npc : Nat) (st' : List Value) (S' : zS) (H1 : Heap) (locs1 : List Loc), zSnd p l e D cs s0 b L xs d i (npc, Lv, st', S') Q → S'.1 = S.1 → S'.2.1 = S.2.1 → S'.2.2.1 = S.2.2.1 → S'.2.2.2.1 99 = S.2.2.2.1 99 →
      va_P D zcl (zws s0.heap.size b cs S') H1 → va_S (zA2 s0.heap.size) s.heap H1 locs1 → W p l e R s m args below meth c H1 locs1 cells slots (zEnd D cs s0 b L xs s below R S0 Q) (F0 m npc ls (st'.map (zrv s0.heap.size b))) := by
    intro npc st' S' H1 locs1 h' e1 e2 e3 e4 g1 g3
    refine h' R s m args below meth c H1 locs1 cells slots ls S0 hfr hrel0 ?_ (zrel_upd hrel0 g3 g1 (e3.trans hrel.2.2.2.1) (e4.trans hrel.2.2.2.2.1) (by rw [e1]; exact hS49) (by rw [e2]; exact hx600)) g3 hlv ?_ hsz0 ?_
    · show zOld S0 S'
      unfold zOld
      rw [e1, e2]
      exact hold
    · show zRoom cs d R cells slots S'
      unfold zRoom
      rw [e1, e2]
      exact hroom
    · show S'.2.1 = 0 → cells + S0.1 = S'.1
      rw [e1, e2]
      exact hex
  cases hc : zcode i pc with
  | none => simp only [zst, hc] at h
  | some en =>
    obtain ⟨ins, npc, r1, r2, v⟩ := en
    obtain ⟨hi, hpc, hk⟩ := zwf hc
    cases ho : zop ins v st with
    | some st' =>
      simp only [zst, hc, ho] at h
      exact zop_W hexec hb hown hts hk ho (go _ _ _ _ h hlv)
    | none =>
      cases hl : zloc ins r1 v Lv st with
      | some q =>
        obtain ⟨L', st'⟩ := q
        simp only [zst, hc, ho, hl] at h
        exact zloc_W hexec hb hlv hk hl (fun ls' hl' => go _ _ _ _ h hl')
      | none =>
        cases ins
        all_goals simp only [zst, hc, ho, hl] at h
        case idiv =>
          obtain ⟨hd, rfl⟩ := zchk_d rfl hk
          split at h
          · exact lv_idiv hexec hb hd h.1 (go _ _ _ _ h.2 hlv)
          · exact h.elim
        case irem =>
          obtain ⟨hd, rfl⟩ := zchk_d rfl hk
          split at h
          · exact lv_irem hexec hb hd h.1 (go _ _ _ _ h.2 hlv)
          · exact h.elim
        case ifCond cnd off =>
          obtain ⟨hd, rfl⟩ := zchk_d rfl hk
          simp only [zchk, Bool.and_eq_true, decide_eq_true_eq] at hk
          have ht := hk.2.2
          split at h
          · cases cnd
            · exact lv_if_eq hexec hb hd ht (fun hc => go _ _ _ _ (h.1 hc) hlv) (fun hc => go _ _ _ _ (h.2 hc) hlv)
            · exact lv_if_ne hexec hb hd ht (fun hc => go _ _ _ _ (h.1 hc) hlv) (fun hc => go _ _ _ _ (h.2 (fun hn => hn hc)) hlv)
            · exact lv_if_lt hexec hb hd ht (fun hc => go _ _ _ _ (h.1 hc) hlv) (fun hc => go _ _ _ _ (h.2 hc) hlv)
            · exact lv_if_ge hexec hb hd ht (fun hc => go _ _ _ _ (h.1 hc) hlv) (fun hc => go _ _ _ _ (h.2 hc) hlv)
            · exact lv_if_gt hexec hb hd ht (fun hc => go _ _ _ _ (h.1 hc) hlv) (fun hc => go _ _ _ _ (h.2 hc) hlv)
            · exact lv_if_le hexec hb hd ht (fun hc => go _ _ _ _ (h.1 hc) hlv) (fun hc => go _ _ _ _ (h.2 hc) hlv)
          · exact h.elim
        case if_icmp cnd off =>
          obtain ⟨hd, rfl⟩ := zchk_d rfl hk
          simp only [zchk, Bool.and_eq_true, decide_eq_true_eq] at hk
          have ht := hk.2.2
          split at h
          · cases cnd
            · exact lv_icmp_eq hexec hb hd ht (fun hc => go _ _ _ _ (h.1 hc) hlv) (fun hc => go _ _ _ _ (h.2 hc) hlv)
            · exact lv_icmp_ne hexec hb hd ht (fun hc => go _ _ _ _ (h.1 hc) hlv) (fun hc => go _ _ _ _ (h.2 (fun hn => hn hc)) hlv)
            · exact lv_icmp_lt hexec hb hd ht (fun hc => go _ _ _ _ (h.1 hc) hlv) (fun hc => go _ _ _ _ (h.2 hc) hlv)
            · exact lv_icmp_ge hexec hb hd ht (fun hc => go _ _ _ _ (h.1 hc) hlv) (fun hc => go _ _ _ _ (h.2 hc) hlv)
            · exact lv_icmp_gt hexec hb hd ht (fun hc => go _ _ _ _ (h.1 hc) hlv) (fun hc => go _ _ _ _ (h.2 hc) hlv)
            · exact lv_icmp_le hexec hb hd ht (fun hc => go _ _ _ _ (h.1 hc) hlv) (fun hc => go _ _ _ _ (h.2 hc) hlv)
          · exact h.elim
        case goto off =>
          obtain ⟨hd, rfl⟩ := zchk_d rfl hk
          simp only [zchk, Bool.and_eq_true, decide_eq_true_eq] at hk
          exact lv_goto hexec hb hd hk.2.2 (go _ _ _ _ h hlv)
        case tableswitch dd lo hi' offs =>
          simp only [zchk, Bool.and_eq_true, decide_eq_true_eq, List.all_eq_true] at hk
          obtain ⟨hd, hd0, hof, hsz⟩ := hk
          split at h
          · rename_i x r
            by_cases hr : x.toInt < lo ∨ hi' < x.toInt
            · exact lv_tableOut hexec hb hd hr (by rw [Int.toNat_of_nonneg hd0]) (go _ _ _ _ (h.1 hr) hlv)
            · have h1 : ¬ x.toInt < lo := fun q => hr (Or.inl q)
              have h2 : ¬ hi' < x.toInt := fun q => hr (Or.inr q)
              have hlt : (x.toInt - lo).toNat < offs.size := by omega
              have hget : offs[(x.toInt - lo).toNat]? = some offs[(x.toInt - lo).toNat] := Array.getElem?_eq_getElem hlt
              have h0 : 0 ≤ (pc : Int) + offs[(x.toInt - lo).toNat] := hof _ (by simp)
              exact lv_tableIn hexec hb hd h1 h2 hget (by rw [Int.toNat_of_nonneg h0]) (go _ _ _ _ (h.2 _ _ hget (by omega)) hlv)
          · exact h.elim
        case arraylength =>
          split at h
          · obtain ⟨h1, h2⟩ := zct h
            rw [Bool.and_eq_true] at h1
            exact zalen_W hexec hb hK hrel.1 hS49 hX hk h1.1 h1.2 (go _ _ _ _ h2 hlv)
          · exact h.elim
        case iaload =>
          split at h
          · obtain ⟨h1, h2⟩ := zct h
            exact ziald_W hexec hb hK hrel.1 hS49 hX hk h1 h2.1 (go _ _ _ _ h2.2 hlv)
          · exact h.elim
        case baload =>
          split at h
          · obtain ⟨h1, h2⟩ := zct h
            exact zbald_W hexec hb hK hrel.1 hS49 hk h1 h2.1 (go _ _ _ _ h2.2 hlv)
          · exact h.elim
        case laload =>
          split at h
          · obtain ⟨h1, h2⟩ := zct h
            exact zlald_W hexec hb hK hrel.1 hS49 hk h1 h2.1 (go _ _ _ _ h2.2 hlv)
          · exact h.elim
        case iastore =>
          split at h
          · obtain ⟨h1, h2⟩ := zct h
            have ha := (zarr_spec h1).1
            exact ziast_W hexec hb hK hrel.1 hS49 hvs hk h1 h2.1 (fun H1 locs1 g1 g3 => gos _ _ _ H1 locs1 h2.2 rfl rfl rfl (zup_ne _ _ _ (by omega)) g1 g3)
          · exact h.elim
        case bastore =>
          split at h
          · obtain ⟨h1, h2⟩ := zct h
            have ha := (zarr_spec h1).1
            exact zbast_W hexec hb hK hrel.1 hS49 hvs hk h1 h2.1 h2.2.1 (fun H1 locs1 g1 g3 => gos _ _ _ H1 locs1 h2.2.2 rfl rfl rfl (zup_ne _ _ _ (by omega)) g1 g3)
          · exact h.elim
        case lastore =>
          split at h
          · obtain ⟨h1, h2⟩ := zct h
            exact zlast_W hexec hb hK hrel.1 hS49 hvs hk h1 h2.1 (fun H1 locs1 g1 g3 => gos _ _ _ H1 locs1 h2.2 rfl rfl rfl rfl g1 g3)
          · exact h.elim
        case getfield k =>
          split at h
          · obtain ⟨h1, h2⟩ := zct h
            have ha := (zobj_spec h1).1
            simp only [List.map_cons]
            rw [zrv_ref (by omega)]
            exact zgetf_W hexec hb hown hts hK hrel.1 hk h1 (go _ _ _ _ h2 hlv)
          · exact h.elim
        case putfield k =>
          split at h
          · obtain ⟨h1, h2⟩ := zct h
            have ha := (zobj_spec h1).1
            exact zputi_W hexec hb hown hnm hts hK hrel.1 hS49 hvs hk h1 (by rcases zput_kind hk with ⟨h, h'⟩ | ⟨h, h'⟩ | ⟨h, h'⟩ <;> first | exact Or.inl h' | cases h) (fun H1 locs1 g1 g3 => gos _ _ _ H1 locs1 h2 rfl rfl rfl (zup_ne _ _ _ (by omega)) g1 g3)
          · obtain ⟨h1, h2⟩ := zct h
            have ha := (zobj_spec h1).1
            exact zputi_W hexec hb hown hnm hts hK hrel.1 hS49 hvs hk h1 (by rcases zput_kind hk with ⟨h, h'⟩ | ⟨h, h'⟩ | ⟨h, h'⟩ <;> first | exact Or.inr ⟨h', h2.1⟩ | cases h) (fun H1 locs1 g1 g3 => gos _ _ _ H1 locs1 h2.2 rfl rfl rfl (zup_ne _ _ _ (by omega)) g1 g3)
          · obtain ⟨h1, h2⟩ := zct h
            exact zputr_W hexec hb hown hnm hts hK hrel.1 hS49 hvs hk h1 (by rcases zput_kind hk with ⟨h, h'⟩ | ⟨h, h'⟩ | ⟨h, h'⟩ <;> first | exact h' | cases h) (fun H1 locs1 g1 g3 => gos _ _ _ H1 locs1 h2 rfl rfl rfl rfl g1 g3)
          · exact h.elim
        case ireturn =>
          obtain ⟨hd, rfl⟩ := zchk_d rfl hk
          simp only [zchk, Bool.and_eq_true, Bool.or_eq_true, decide_eq_true_eq] at hk
          split at h
          · rename_i x
            cases hz : Nat.beq (zrt i) 2 with
            | true =>
              rw [hz] at h
              have h : (x = 0 ∨ x = 1) ∧ Q (.inl (some (.int x)), S) := h
              have hrt2 : meth.sig.returnType = some .boolean := by rw [hrt, Nat.eq_of_beq_eq_true hz]; rfl
              exact W.imp (fun t ht => zend_ret (w := some (.int x)) (free := zA2 s0.heap.size) hrel hold hvs hroom hex h.2 ht) (W.zret hexec hb hrt2 (by rcases h.1 with rfl | rfl <;> rfl) (fun t ht _ => ⟨rfl, ht⟩) hvs.2.2 hd hlk)
            | false =>
              rw [hz] at h
              have h : Q (.inl (some (.int x)), S) := h
              have hz1 : zrt i = 1 := by
                rcases hk.2.2 with h1 | h1
                · exact Nat.eq_of_beq_eq_true h1
                · rw [hz] at h1; cases h1
              have hrt2 : meth.sig.returnType = some .int := by rw [hrt, hz1]; rfl
              exact W.imp (fun t ht => zend_ret (w := some (.int x)) (free := zA2 s0.heap.size) hrel hold hvs hroom hex h ht) (W.iret hexec hb hrt2 (fun t ht _ => ⟨rfl, ht⟩) hvs.2.2 hd hlk)
          · exact h.elim
        case lreturn =>
          obtain ⟨hd, rfl⟩ := zchk_d rfl hk
          simp only [zchk, Bool.and_eq_true, Bool.or_eq_true, decide_eq_true_eq] at hk
          split at h
          · rename_i x
            have hrt2 : meth.sig.returnType = some .long := by rw [hrt, Nat.eq_of_beq_eq_true hk.2.2]; rfl
            exact W.imp (fun t ht => zend_ret (w := some (.long x)) (free := zA2 s0.heap.size) hrel hold hvs hroom hex h ht) (W.lret hexec hb hrt2 (fun t ht _ => ⟨rfl, ht⟩) hvs.2.2 hd hlk)
          · exact h.elim
        case return_ =>
          obtain ⟨hd, rfl⟩ := zchk_d rfl hk
          simp only [zchk, Bool.and_eq_true, Bool.or_eq_true, decide_eq_true_eq] at hk
          split at h
          · have hrt2 : meth.sig.returnType = none := by rw [hrt, Nat.eq_of_beq_eq_true hk.2.2]; rfl
            exact W.imp (fun t ht => zend_ret (w := none) (free := zA2 s0.heap.size) hrel hold hvs hroom hex h ht) (W.vret hexec hb hrt2 (fun t ht _ => ⟨rfl, ht⟩) hvs.2.2 hd hlk)
          · exact h.elim
        case new k =>
          cases hr : Nat.beq r1 0 with
          | true =>
            rw [hr] at h
            have hr0 := Nat.eq_of_beq_eq_true hr
            subst hr0
            obtain ⟨h1, h2⟩ := zct (show cond _ _ False from h)
            simp only [Bool.and_eq_true] at h1
            obtain ⟨hx0, hn49, hk0, hk2⟩ := h1
            have hx0 := Nat.eq_of_beq_eq_true hx0
            have hn49 : S.1 < 49 := by simpa [Nat.blt_eq] using hn49
            have hkn : zknd S.1 = (0, r2) := by rw [← Nat.eq_of_beq_eq_true hk0, ← Nat.eq_of_beq_eq_true hk2]
            have hzs : zsu (S.1 + 1) ≤ cs.2.2.2 := zsu_le G.2.2.2.2.2.2.2.2.2.1 (by omega)
            have h2 : zSnd p l e D cs s0 b L xs d i (npc, Lv, .ref S.1 :: st, zmk S) Q := h2
            intro T hT X
            have hsz : H.size = s0.heap.size + S.1 := by rw [← hT]; exact zsize X (by rw [hT]; exact hrel) hold hsz0 hex hx0
            refine znew_W hexec hb hown hts hK hrel.1 hn49 hvs hk hkn hsz (by have := hroom.2.2.1; omega) (znat4 hroom.2.2.2 hx0 hzs) (fun H1 g1 g3 => ?_) T hT X
            have hq := h2 R s m args below meth c H1 locs (cells + 1) (slots + zsz S.1) ls S0 hfr hrel0 ⟨Nat.le_trans hold.1 (Nat.le_succ _), Or.inr (by have := hold.2.2; omega), hold.2.2⟩
              (zrel_upd hrel0 g3 g1 hrel.2.2.2.1 ((zclr_ne _ _ (by omega)).trans hrel.2.2.2.2.1) hn49 hx600) g3 hlv ⟨hroom.1, hroom.2.1, znat6 hroom.2.2.1, znat5 hroom.2.2.2⟩ hsz0 (fun hx => by have := hex hx; show cells + 1 + S0.1 = S.1 + 1; omega)
            have hq : W p l e R s m args below meth c H1 locs (cells + 1) (slots + zsz S.1) (zEnd D cs s0 b L xs s below R S0 Q) (F0 m npc ls (zrv s0.heap.size b (.ref S.1) :: st.map (zrv s0.heap.size b))) := hq
            rw [zrv_ref hn49] at hq
            exact hq
          | false =>
            rw [hr] at h
            obtain ⟨h1, h2⟩ := zct (show cond _ _ False from h)
            rw [Bool.and_eq_true] at h1
            have hst : st = [] := List.isEmpty_iff.mp h1.2
            subst hst
            intro T hT X
            obtain ⟨t, a, ce, w1, w2, w3, w4, w5, w6, w7, w8, w9, w10, w11⟩ := zthrow X G hfr (by rw [hT]; exact hrel) hroom hlv.1 hk hr h2.1
            rw [hT] at w6 w7
            refine ⟨t, w1, (.inr r2, S.1, S.2.1 + 1, S.2.2), .threw a, h2.2, w2, w3, ⟨a, ce, rfl, w8, w9, w10, w11⟩, w4, ⟨?_, ?_, ?_, hrel.2.2.2.1, hrel.2.2.2.2.1, hS49, h2.1⟩, ⟨hold.1, hold.2.1, Nat.le_succ_of_le hold.2.2⟩, locs, cells + 1, slots + 6, w5, ?_, ?_, znat7 hroom.2.2.2, fun h0 => absurd h0 (Nat.succ_ne_zero _)⟩
            · exact va_P.kept (ws := zws s0.heap.size b cs S) hrel.1 (fun k q hq => w6 q.1 (hrel.1 k q hq).lt)
            · exact fun q hq => (w6 q (Nat.lt_of_lt_of_le hq hrel.2.2.1)).trans (hrel.2.1 q hq)
            · exact Nat.le_trans hrel.2.2.1 w7
            · exact ⟨Nat.le_trans hvs.1 w7, fun q h1 h2 => (w6 q (Nat.lt_of_lt_of_le h1 hvs.1)).trans (hvs.2.1 q h1 h2), hvs.2.2⟩
            · have := hroom.2.2.1
              show cells + 1 + 649 ≤ R.cells + (S.1 + (S.2.1 + 1))
              omega
        case newarray t =>
          split at h
          · rename_i x r
            obtain ⟨h1, h2⟩ := zct h
            simp only [Bool.and_eq_true] at h1
            obtain ⟨hx0, hn49, hk0⟩ := h1
            have hx0 := Nat.eq_of_beq_eq_true hx0
            have hn49 : S.1 < 49 := by simpa [Nat.blt_eq] using hn49
            have hkn := Nat.eq_of_beq_eq_true hk0
            have hzs : zsu (S.1 + 1) ≤ cs.2.2.2 := zsu_le G.2.2.2.2.2.2.2.2.2.1 (by omega)
            have hr0 : r1 ≠ 0 := zna hc
            have h3 : zSnd p l e D cs s0 b L xs d i (npc, Lv, .ref S.1 :: r, zmk S) Q := h2.2
            intro T hT X
            have hsz : H.size = s0.heap.size + S.1 := by rw [← hT]; exact zsize X (by rw [hT]; exact hrel) hold hsz0 hex hx0
            refine znewa_W hexec hb hts hK hrel.1 hn49 hvs hk hkn h2.1 hsz (by have := hroom.2.2.1; omega) (znat4 hroom.2.2.2 hx0 hzs) hr0 (fun H1 g1 g3 => ?_) T hT X
            have hq := h3 R s m args below meth c H1 locs (cells + 1) (slots + zsz S.1) ls S0 hfr hrel0 ⟨Nat.le_trans hold.1 (Nat.le_succ _), Or.inr (by have := hold.2.2; omega), hold.2.2⟩
              (zrel_upd hrel0 g3 g1 hrel.2.2.2.1 ((zclr_ne _ _ (by omega)).trans hrel.2.2.2.2.1) hn49 hx600) g3 hlv ⟨hroom.1, hroom.2.1, znat6 hroom.2.2.1, znat5 hroom.2.2.2⟩ hsz0 (fun hx => by have := hex hx; show cells + 1 + S0.1 = S.1 + 1; omega)
            have hq : W p l e R s m args below meth c H1 locs (cells + 1) (slots + zsz S.1) (zEnd D cs s0 b L xs s below R S0 Q) (F0 m npc ls (zrv s0.heap.size b (.ref S.1) :: r.map (zrv s0.heap.size b))) := hq
            rw [zrv_ref hn49] at hq
            exact hq
          · exact h.elim
        case invokevirtual k =>
          obtain ⟨hd, hnpc⟩ := zchk_d rfl hk
          simp only [zchk, Bool.and_eq_true] at hk
          obtain ⟨-, -, hml1, hmz, hr2, hj⟩ := hk
          have hr2 := Nat.eq_of_beq_eq_true hr2
          have hj : r1 < 190 := by simpa [Nat.blt_eq] using hj
          obtain ⟨h1, h2⟩ := zct h
          rw [Bool.and_eq_true] at h1
          have hlen1 := Nat.le_of_ble_eq_true h1.1
          have hlen2 := Nat.le_of_ble_eq_true h1.2
          split at h2
          · rename_i a as heq
            obtain ⟨h3, h4⟩ := zct h2
            rw [Bool.and_eq_true] at h3
            have hlay := Nat.le_of_ble_eq_true h3.2
            obtain ⟨ha, hkn⟩ := zobj_spec h3.1
            have ha49 : a < 49 := Nat.lt_of_lt_of_le ha hS49
            cases d with
            | zero => exact h4.elim
            | succ d =>
              have hstk := ztake heq
              have hasl : as.length = zpn r1 := by
                have h5 : (st.take r2).length = r2 := List.length_take_of_le hlen1
                have h6 := congrArg List.length heq
                rw [List.length_reverse, h5] at h6
                simp only [List.length_cons] at h6
                omega
              obtain ⟨a0, st0, b1, c1, d1, hz, w1, w2, w3, w4, w5⟩ := zmw_spec hj
              rw [hz] at hmz
              simp only [Bool.and_eq_true, Nat.blt_eq] at hmz
              have hst0 := Nat.eq_of_beq_eq_true hmz.1
              have hc1 : c1 < 9999 := by have := hmz.2; simpa [Nat.blt_eq] using this
              subst hst0
              have hinst : (Cond.instanceMethod (zY r1)).before args s = true := zword hts w1 rfl
              have hsel : (Cond.selects (zcn (zow r1)) (zY r1) (zY r1)).before args s = true := by
                rcases w2 with h | h
                · omega
                · exact hts _ (List.mem_of_getElem? h) rfl
              have hlink := zml_word hts hml1
              have hr8 : zow r1 < 8 := by
                have h1 := List.all_eq_true.mp zkl8_ok a (List.mem_range.mpr ha49)
                rw [hkn] at h1
                simpa [Nat.blt_eq] using h1
              obtain ⟨C, TT, N, ty, e1, e2, -⟩ := zcls hr8
              have hget := zws_get (b0 := s0.heap.size) (b := b) (cs := cs) ha
              rw [zcell_obj hkn] at hget
              obtain ⟨cell, hcell, hobj, hclr⟩ := va_recv hK hrel.1 e1 hget
              have hclr : s.vm.findClass (zcn (zow r1)) = some cell.cls := by rw [← e2]; exact hclr
              obtain ⟨mk, methM, hnamed, hmethM, hstM, habM⟩ := Cond.instanceMethod_spec hinst
              obtain ⟨mk', methk, ck, q1, q2, q3, -, -, -, -, -, q9⟩ := zmeth hj hts
              cases hnamed.symm.trans q1
              cases hmethM.symm.trans q2
              have hplen : methM.sig.parameters.length = zpn r1 := by
                rw [q9] at w5
                exact Option.some.inj w5
              obtain ⟨c2, r2', m2, g1, g2, g3, g4, kP, hkP, hkPi⟩ := Cond.selects_spec hsel
              cases hclr.symm.trans g1
              cases (State.methodFound?_of_named hnamed (znmh hj)).symm.trans g2
              cases hnamed.symm.trans g3
              intro T hT X
              have hselP : selectMethod e.platform s.vm cell.cls mk = .method mk := by rw [Launch.admits_selectMethod X.admits]; exact g4
              have hstk2 : (F0 m pc ls (st.map (zrv s0.heap.size b))).stack = (as.map (zrv s0.heap.size b)).reverse ++ .ref (s0.heap.size + a) :: (st.drop r2).map (zrv s0.heap.size b) := by
                show st.map (zrv s0.heap.size b) = _
                conv => lhs; rw [hstk]
                simp only [List.reverse_cons, List.append_assoc, List.map_append, List.map_reverse, List.map_cons, List.map_nil, List.cons_append, List.nil_append, zrv_ref ha49]
              obtain ⟨vm₁, X₁, hstep₁⟩ := X.invokevirtual hexec hown hlink hnamed hmethM hstM hkP hkPi (znmh hj) (a := s0.heap.size + a) (cell := cell) (by rw [hT]; exact hcell)
                (fun z h => by rw [h] at hobj; cases hobj) hselP hmethM habM hkP hkPi (g := F0 m pc ls (st.map (zrv s0.heap.size b))) rfl (argsL := as.map (zrv s0.heap.size b)) (rest := (st.drop r2).map (zrv s0.heap.size b)) (by rw [List.length_map, hasl, hplen]) hstk2 (by rw [hb]; exact hd)
              refine zinv X₁ G hfr hrel0 hold (by rw [hT]; exact hrel) (by rw [hT]; exact hvs) hlv hroom hsz0 hex (rest := st.drop r2) hlen2 (by rw [hb]; exact hd) hnpc hj hi hnamed (as := .ref a :: as) hlay (g := F0 m pc ls (st.map (zrv s0.heap.size b)))
                (fun target hh => hstep₁ target (fun acts => by rw [List.map_cons, zrv_ref ha49] at hh; exact hh acts))
                (E := fun x S' => bif (zhd i).isEmpty then Q (.inr x, S') else (match zhand pc x (zhd i) with
                      | none => False
                      | some h => match zcode i h with
                        | some (.astore _, hpc, k, _, _) => zSnd p l e D cs s0 b L xs (d + 1) i (hpc, zset1 Lv k zJ, [], S') Q
                        | some (.astore_n _, hpc, k, _, _) => zSnd p l e D cs s0 b L xs (d + 1) i (hpc, zset1 Lv k zJ, [], S') Q
                        | _ => False))
                (zSnd.mono (fun r hr => by obtain ⟨rr, S'⟩ := r; cases rr <;> exact hr) (show zSnd p l e D cs s0 b L xs d r1 _ _ from h4)) (fun x S' hx => ?_)
              cases hem : (zhd i).isEmpty with
              | true => rw [hem] at hx; exact Or.inl ⟨rfl, hx⟩
              | false =>
                rw [hem] at hx
                right
                cases hzh : zhand pc x (zhd i) with
                | none => rw [hzh] at hx; exact hx.elim
                | some hp =>
                  rw [hzh] at hx
                  simp only [cond_false] at hx
                  split at hx
                  · rename_i q hn k2 y2 v2 hzc
                    exact ⟨hp, k2, hn, _, y2, v2, rfl, hzc, Or.inl ⟨q, rfl⟩, hx⟩
                  · rename_i q hn k2 y2 v2 hzc
                    exact ⟨hp, k2, hn, _, y2, v2, rfl, hzc, Or.inr ⟨q, rfl⟩, hx⟩
                  · exact hx.elim
          · exact h2.elim
        case invokestatic k =>
          obtain ⟨hd, hnpc⟩ := zchk_d rfl hk
          simp only [zchk, Bool.and_eq_true] at hk
          obtain ⟨-, -, hml1, hmz, hr2, hj⟩ := hk
          have hr2 := Nat.eq_of_beq_eq_true hr2
          have hj : r1 < 190 := by simpa [Nat.blt_eq] using hj
          obtain ⟨h1, h4⟩ := zct h
          rw [Bool.and_eq_true, Bool.and_eq_true] at h1
          have hlen1 := Nat.le_of_ble_eq_true h1.1.1
          have hlen2 := Nat.le_of_ble_eq_true h1.1.2
          have hlay := Nat.le_of_ble_eq_true h1.2
          cases d with
          | zero => exact h4.elim
          | succ d =>
            have hstk := ztake (rfl : (st.take r2).reverse = (st.take r2).reverse)
            have hasl : (st.take r2).reverse.length = zpn r1 := by
              rw [List.length_reverse, List.length_take_of_le hlen1, hr2]
            obtain ⟨a0, st0, b1, c1, d1, hz, w1, w2, w3, w4, w5⟩ := zmw_spec hj
            rw [hz] at hmz
            have hst0 := Nat.eq_of_beq_eq_true hmz
            subst hst0
            have hstat : (Cond.static (zY r1)).before args s = true := zword hts w1 rfl
            have hini : (Cond.initialized (zcn (zow r1))).before args s = true := zword hts w3 rfl
            have hlink := zml_word hts hml1
            obtain ⟨mk, methk, ck, q1, q2, q3, -, -, -, -, -, q9⟩ := zmeth hj hts
            have hplen : methk.sig.parameters.length = zpn r1 := by
              rw [q9] at w5
              exact Option.some.inj w5
            have hstatic : methk.isStatic = true := Cond.static_spec q1 q2 hstat
            obtain ⟨kP, hkP, -⟩ := className_of_methodNamed q1
            have hinitP : kP.init = .initialized := Cond.initialized_spec (findClass_of_methodNamed q1) hkP (by rw [w4]; exact hini)
            intro T hT X
            have hstk2 : (F0 m pc ls (st.map (zrv s0.heap.size b))).stack = ((st.take r2).reverse.map (zrv s0.heap.size b)).reverse ++ (st.drop r2).map (zrv s0.heap.size b) := by
              show st.map (zrv s0.heap.size b) = _
              rw [List.map_reverse, List.reverse_reverse, ← List.map_append, List.take_append_drop]
            obtain ⟨vm₁, X₁, hstep₁⟩ := X.invokestatic hexec hown hlink q1 q2 hstatic hkP hinitP (znmh hj) (g := F0 m pc ls (st.map (zrv s0.heap.size b))) rfl (argsL := (st.take r2).reverse.map (zrv s0.heap.size b)) (rest := (st.drop r2).map (zrv s0.heap.size b)) (by rw [List.length_map, hasl, hplen]) hstk2 (by rw [hb]; exact hd)
            refine zinv X₁ G hfr hrel0 hold (by rw [hT]; exact hrel) (by rw [hT]; exact hvs) hlv hroom hsz0 hex (rest := st.drop r2) hlen2 (by rw [hb]; exact hd) hnpc hj hi q1 (as := (st.take r2).reverse) hlay (g := F0 m pc ls (st.map (zrv s0.heap.size b)))
              (fun target hh => hstep₁ target (fun acts => hh acts))
              (E := fun x S' => bif (zhd i).isEmpty then Q (.inr x, S') else False)
              (zSnd.mono (fun r hr => by obtain ⟨rr, S'⟩ := r; cases rr <;> exact hr) (show zSnd p l e D cs s0 b L xs d r1 _ _ from h4)) (fun x S' hx => ?_)
            obtain ⟨hem, hx⟩ := zct hx
            exact Or.inl ⟨hem, hx⟩
        case invokespecial k =>
          obtain ⟨hd, hnpc⟩ := zchk_d rfl hk
          cases hr9 : Nat.beq r1 9999 with
          | true =>
            rw [hr9] at h
            simp only [zchk, Bool.and_eq_true, hr9, cond_true] at hk
            have hlink := zol_word hts hk.2.2
            have hob := zobi_ok
            simp only [Bool.and_eq_true, decide_eq_true_eq] at hob
            simp only [cond_true] at h
            split at h
            · rename_i a r
              obtain ⟨h1, h2⟩ := zct h
              have hlen := Nat.le_of_ble_eq_true h1
              have hcat : ∀ r : List Value, ((r.map (zrv s0.heap.size b)).map fun v => v.category).sum ≤ 2 * r.length := by
                intro r
                induction r with
                | nil => exact Nat.le_refl _
                | cons w r ih =>
                  simp only [List.map_cons, List.sum_cons, List.length_cons]
                  have : (zrv s0.heap.size b w).category ≤ 2 := by rcases lv_cat (zrv s0.heap.size b w) with h | h <;> omega
                  omega
              have hc2 := hcat r
              have hr1' := hroom.1
              have hr2' := hroom.2.1
              have hq := go _ _ _ _ h2 hlv
              rw [hnpc] at hq
              exact W.objInit hexec hb hown hlink (hts _ (List.mem_append_right _ hob.1) rfl) (hts _ (List.mem_append_right _ hob.2) rfl) (g := F0 m pc ls (zrv s0.heap.size b (.ref a) :: r.map (zrv s0.heap.size b))) rfl (by rw [hml]; exact hlv.1) (a := bif Nat.beq a 99 then b else s0.heap.size + a) rfl hd (by omega) (by show 2 * 0 + ((r.map (zrv s0.heap.size b)).map fun v => v.category).sum + 12 ≤ R.locals; omega) hq
            · exact h.elim
          | false =>
            rw [hr9] at h
            simp only [zchk, Bool.and_eq_true, hr9, cond_false, decide_eq_true_eq] at hk
            obtain ⟨-, -, hml1, hnm1, hr2, hj, hz0⟩ := hk
            have hr2 := Nat.eq_of_beq_eq_true hr2
            have hz0 := Nat.eq_of_beq_eq_true hz0
            have hj : r1 < 190 := by simpa [Nat.blt_eq] using hj
            simp only [cond_false] at h
            obtain ⟨h1, h2⟩ := zct h
            rw [Bool.and_eq_true] at h1
            have hlen1 := Nat.le_of_ble_eq_true h1.1
            have hlen2 := Nat.le_of_ble_eq_true h1.2
            split at h2
            · rename_i a as heq
              obtain ⟨h3, h4⟩ := zct h2
              rw [Bool.and_eq_true] at h3
              have hlay := Nat.le_of_ble_eq_true h3.2
              obtain ⟨ha, hkn⟩ := zobj_spec h3.1
              have ha49 : a < 49 := Nat.lt_of_lt_of_le ha hS49
              cases d with
              | zero => exact h4.elim
              | succ d =>
                have hstk := ztake heq
                have hasl : as.length = zpn r1 := by
                  have h5 : (st.take r2).length = r2 := List.length_take_of_le hlen1
                  have h6 := congrArg List.length heq
                  rw [List.length_reverse, h5] at h6
                  simp only [List.length_cons] at h6
                  omega
                obtain ⟨a0, st0, b1, c1, d1, hz, w1, w2, w3, w4, w5⟩ := zmw_spec hj
                have hr8 : zow r1 < 8 := by
                  have h1 := List.all_eq_true.mp zkl8_ok a (List.mem_range.mpr ha49)
                  rw [hkn] at h1
                  simpa [Nat.blt_eq] using h1
                have hemp : (zhd r1).isEmpty = true := by
                  have h8 := List.all_eq_true.mp zhd_ok r1 (List.mem_range.mpr (by omega))
                  rw [Bool.or_eq_true] at h8
                  rcases h8 with h8 | h8
                  · exact h8
                  · rw [Bool.and_eq_true] at h8
                    have := Nat.eq_of_beq_eq_true h8.1
                    omega
                have hcodeW : (Cond.code (zY r1) (zbt r1) (zmx r1) none).before args s = true := by
                  have hm := zkc_190 r1 hj
                  unfold zcw at hm
                  rw [hemp, hz0] at hm
                  exact hts _ (List.mem_append_right _ hm) rfl
                have hinst : (Cond.instanceMethod (zY r1)).before args s = true := by
                  have : st0 = 0 := zst0 hz hnm1
                  subst this
                  exact zword hts w1 rfl
                have hlink := zml_word hts hml1
                obtain ⟨mk', methk, ck, q1, q2, q3, -, -, -, -, -, q9⟩ := zmeth hj hts
                intro T hT X
                have hpl : e.platform.magicAccessors = ({} : Platform).magicAccessors := by rw [X.admits.platform]
                have hstk2 : (F0 m pc ls (st.map (zrv s0.heap.size b))).stack = (as.map (zrv s0.heap.size b)).reverse ++ .ref (s0.heap.size + a) :: (st.drop r2).map (zrv s0.heap.size b) := by
                  show st.map (zrv s0.heap.size b) = _
                  conv => lhs; rw [hstk]
                  simp only [List.reverse_cons, List.append_assoc, List.map_append, List.map_reverse, List.map_cons, List.map_nil, List.cons_append, List.nil_append, zrv_ref ha49]
                obtain ⟨mk, methM, cM, kP, vm₁, hnamed, hmethM, hcodeM, -, hlocalsM, -, hkP, -, hW₁, hstep₁⟩ := Steps.initColdArgs (e := e) X.here hexec X.warmed hpl hown hnm1 (znmh hj) hlink hinst hcodeW (f := F0 m pc ls (st.map (zrv s0.heap.size b))) rfl (argsL := as.map (zrv s0.heap.size b)) (fun sig hs => by rw [hs] at w5; rw [List.length_map, hasl]; exact (Option.some.inj w5).symm) hstk2 (by rw [hb]; exact hd)
                have X₁ := X.noted hW₁
                refine zinv X₁ G hfr hrel0 hold (by rw [hT]; exact hrel) (by rw [hT]; exact hvs) hlv hroom hsz0 hex (rest := st.drop r2) hlen2 (by rw [hb]; exact hd) hnpc hj hi hnamed (as := .ref a :: as) hlay (g := F0 m pc ls (st.map (zrv s0.heap.size b)))
                  (fun target hh => hstep₁ target (fun acts => by rw [List.map_cons, zrv_ref ha49] at hh; exact hh acts))
                  (E := fun _ _ => False)
                  (zSnd.mono (fun r hr => by obtain ⟨rr, S'⟩ := r; cases rr <;> exact hr) (show zSnd p l e D cs s0 b L xs d r1 _ _ from h4)) (fun x S' hx => hx.elim)
            · exact h2.elim
        all_goals exact h.elim
/-- what the small machine says, the JVM does -/
theorem zsound (G : zG p e D cs s0 b L xs) {d i : Nat} {f : zF} {Q : zR → Prop} (h : zRn d i f Q) : zSnd p l e D cs s0 b L xs d i f Q := h _ (zsnd_closed G)
end ZCD
