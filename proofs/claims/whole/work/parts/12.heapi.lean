/-! fields and arrays -/
theorem zrv_ref {b0 b a : Nat} (h : a < 49) : zrv b0 b (.ref a) = .ref (b0 + a) := by
  have : Nat.beq a 99 = false := by
    cases hb : Nat.beq a 99 with
    | false => rfl
    | true => have := Nat.eq_of_beq_eq_true hb; omega
  simp only [zrv, this, cond_false]
theorem zcls {c : Nat} (hc : c < 8) : ∃ (C : String) (T : u_T) (N : Nat) (ty : Nat → FieldType), zcl[c]? = some (C, T, N) ∧ C = zcn c ∧ N = zNf c ∧ (∀ w ∈ u_ws C T N, w ∈ zWs) ∧ (∀ k, k < N → T k = zfq c k) ∧ (∀ k, k < N → (T k).1 = zcn c) ∧
    (∀ k, k < N → parseFieldDescriptor (T k).2.2.1 = some (ty k)) ∧ (∀ k, k < N → (zfk c k = 0 ∧ ty k = .int) ∨ (zfk c k = 1 ∧ ty k = .boolean) ∨ (zfk c k = 2 ∧ ((∃ n, ty k = .object n) ∨ ∃ t, ty k = .array t))) ∧
    (∀ x, x < N → ∀ y, y < N → x ≠ y → (T x).2.1 ≠ (T y).2.1) ∧ Cond.instantiable C N ∈ lw_tbl := by
  have h1 := List.all_eq_true.mp zlay_ok c (List.mem_range.mpr hc)
  have h2 := List.all_eq_true.mp zcls_ok0 c (List.mem_range.mpr hc)
  unfold zlayC at h1
  unfold zclsC at h2
  cases hz : zcl[c]? with
  | none => rw [hz] at h1; cases h1
  | some q =>
    obtain ⟨C, T, N⟩ := q
    rw [hz] at h1 h2
    simp only [Bool.and_eq_true, decide_eq_true_eq, List.all_eq_true, List.mem_range] at h1 h2
    obtain ⟨a1, a2, a3, a4⟩ := h1
    obtain ⟨d1, d2, d3⟩ := h2
    refine ⟨C, T, N, fun k => (parseFieldDescriptor (T k).2.2.1).getD .int, rfl, d1, d2, ?_, fun k hk => (d3 k hk).1, fun k hk => (d3 k hk).2.1.1, ?_, ?_, ?_, List.mem_append_right _ a4⟩
    · intro w hw
      obtain ⟨k, hk, rfl⟩ := List.mem_map.mp hw
      have := a3 k (List.mem_range.mp hk)
      exact List.mem_filter.mpr ⟨List.mem_append_right _ this.1, this.2.1⟩
    · intro k hk
      have := (d3 k hk).2.1.2
      cases hp : parseFieldDescriptor (T k).2.2.1 with
      | none => rw [hp] at this; cases this
      | some t => simp [hp]
    · intro k hk
      have := (d3 k hk).2.1.2
      cases hp : parseFieldDescriptor (T k).2.2.1 with
      | none => rw [hp] at this; cases this
      | some t =>
        rw [hp] at this
        cases t
        case int => exact Or.inl ⟨Nat.eq_of_beq_eq_true this, by simp [hp]⟩
        case boolean => exact Or.inr (Or.inl ⟨Nat.eq_of_beq_eq_true this, by simp [hp]⟩)
        case object n => exact Or.inr (Or.inr ⟨Nat.eq_of_beq_eq_true this, Or.inl ⟨n, by simp [hp]⟩⟩)
        case array n => exact Or.inr (Or.inr ⟨Nat.eq_of_beq_eq_true this, Or.inr ⟨n, by simp [hp]⟩⟩)
        all_goals cases this
    · intro x hx y hy hne h
      have := (d3 x hx).2.2 y hy
      rw [Bool.or_eq_true] at this
      rcases this with h1 | h1
      · exact hne (Nat.eq_of_beq_eq_true h1)
      · simp [h] at h1
theorem zfks8 {c f : Nat} (h : f < zNf c) : c < 8 := by
  by_cases hc : c < 8
  · exact hc
  · exfalso
    have : zfks.length = 8 := rfl
    unfold zNf at h
    rw [List.getD_eq_getElem?_getD, List.getElem?_eq_none (by omega)] at h
    simp at h
section ZHP
variable {p : Program} {l : Launch} {e : Env} {R : Room} {s : State} {m : MethodId} {args : Array Value} {below : List Frame} {meth : Method} {c : Code} {H : Heap} {locs : List Loc} {cells slots : Nat} {Q : State → Prop}
variable {ls : Array Slot} {b0 b i pc npc r1 r2 a k : Nat} {v : Value} {D : va_G} {cs : zCs} {S : zS} {rest : List Value} {H0 : Heap}
theorem zfl_word (hts : ∀ w ∈ lw_tbl, goodWord w = true → w.before args s = true) {o c f : Nat} (h : zhas4 o k c f zfl = true) : (Cond.fieldLink (zcn o) k (zcn c) (zfq c f).2.1 (zfq c f).2.2.1).before args s = true := by
  obtain ⟨q, hq⟩ := zhas4_mem h
  have := List.all_eq_true.mp zfl_ok _ hq
  simp only [decide_eq_true_eq] at this
  exact zword hts this rfl
theorem zgetf_W (hexec : p.tables.exec = Jvm.exec) (hb : c.code = zbt i) (hown : s.vm.findClass (zcn (zow i)) = some m.cls) (hts : ∀ w ∈ lw_tbl, goodWord w = true → w.before args s = true) (hK : va_K D zcl (ztys cs) s) (hP : va_P D zcl (zws b0 b cs S) H)
    (hk : zchk i pc (.getfield k, npc, r1, r2, v) = true) (ho : zobj a S.1 r1 = true) (kk : W p l e R s m args below meth c H locs cells slots Q (F0 m npc ls (zrv b0 b (zgv v S a r2) :: rest))) :
    W p l e R s m args below meth c H locs cells slots Q (F0 m pc ls (.ref (b0 + a) :: rest)) := by
  obtain ⟨hd, rfl⟩ := zchk_d rfl hk
  simp only [zchk, Bool.and_eq_true, decide_eq_true_eq, Nat.blt_eq] at hk
  obtain ⟨-, -, hf, hlt, hv⟩ := hk
  obtain ⟨ha, hkn⟩ := zobj_spec ho
  obtain ⟨C, T, N, ty, e1, e2, e3, e4, e5, e6, e7, e8, e9, -⟩ := zcls (zfks8 hlt)
  have hlt' : r2 < N := by rw [e3]; exact hlt
  have hget := zws_get (b0 := b0) (b := b) (cs := cs) ha
  rw [zcell_obj hkn] at hget
  have hw := zfl_word hts hf
  rw [← e5 r2 hlt'] at hw
  refine va_get hexec hb (zhtsW hts) e4 hown hK hP a hget e1 r2 hlt' (ref := zcn r1) hw (fun x hx => by rw [← e6 r2 hlt']; exact hx) (v := zfv b0 b S a r1 r2) ?_ hd ?_
  · rw [List.getElem?_map, List.getElem?_range (by rw [← e3]; exact hlt')]
    rfl
  · have hz : zfv b0 b S a r1 r2 = zrv b0 b (zgv v S a r2) := by
      have h8 := e8 r2 hlt'
      have hv' : v = (match zfk r1 r2 with | 0 => .int 0 | 1 => .long 0 | _ => .null) := hv
      unfold zfv
      rcases h8 with ⟨h, -⟩ | ⟨h, -⟩ | ⟨h, -⟩ <;> rw [h] at hv' ⊢ <;> rw [hv'] <;> rfl
    rw [hz]
    exact kk
theorem zput_W (hexec : p.tables.exec = Jvm.exec) (hb : c.code = zbt i) (hown : s.vm.findClass (zcn (zow i)) = some m.cls) (hnm : meth.name = (zY i).name) (hts : ∀ w ∈ lw_tbl, goodWord w = true → w.before args s = true) (hK : va_K D zcl (ztys cs) s) (hP : va_P D zcl (zws b0 b cs S) H) (hS49 : S.1 ≤ 49) (hS : va_S (zA2 b0) H0 H locs)
    (hk : zchk i pc (.putfield k, npc, r1, r2, v) = true) (ho : zobj a S.1 r1 = true) {x : Value} {S' : zS} (hx : (zfk r1 r2 = 0 ∧ ∃ y, x = .int y) ∨ (zfk r1 r2 = 1 ∧ (x = .int 0 ∨ x = .int 1)) ∨ (zfk r1 r2 = 2 ∧ ∃ y, x = .ref y))
    (hn : S'.1 = S.1) (hoth : ∀ j, j < S.1 → j ≠ a → zcell b0 b cs S' j = zcell b0 b cs S j) (hat : ∀ f, zfv b0 b S' a r1 f = if f = r2 then x else zfv b0 b S a r1 f)
    (kk : ∀ (H1 : Heap) (locs1 : List Loc), va_P D zcl (zws b0 b cs S') H1 → va_S (zA2 b0) H0 H1 locs1 → W p l e R s m args below meth c H1 locs1 cells slots Q (F0 m npc ls rest)) :
    W p l e R s m args below meth c H locs cells slots Q (F0 m pc ls (x :: .ref (b0 + a) :: rest)) := by
  obtain ⟨hd, rfl⟩ := zchk_d rfl hk
  simp only [zchk, Bool.and_eq_true, decide_eq_true_eq, Nat.blt_eq, Bool.or_eq_true] at hk
  obtain ⟨-, -, hf, hlt, -, hfin⟩ := hk
  obtain ⟨ha, hkn⟩ := zobj_spec ho
  obtain ⟨C, T, N, ty, e1, e2, e3, e4, e5, e6, e7, e8, e9, -⟩ := zcls (zfks8 hlt)
  have hlt' : r2 < N := by rw [e3]; exact hlt
  have hget := zws_get (b0 := b0) (b := b) (cs := cs) ha
  rw [zcell_obj hkn] at hget
  have hw := zfl_word hts hf
  rw [← e5 r2 hlt'] at hw
  have hnf : narrow (ty r2) x = x ∧ fits (ty r2) x = true := by
    rcases e8 r2 hlt' with ⟨h, t⟩ | ⟨h, t⟩ | ⟨h, t⟩ <;> rcases hx with ⟨h1, h2⟩ | ⟨h1, h2⟩ | ⟨h1, h2⟩ <;> first | omega | skip
    · obtain ⟨y, rfl⟩ := h2
      rw [t]
      exact ⟨rfl, rfl⟩
    · rw [t]
      rcases h2 with rfl | rfl <;> exact ⟨rfl, rfl⟩
    · obtain ⟨y, rfl⟩ := h2
      rcases t with ⟨n, t⟩ | ⟨n, t⟩ <;> rw [t] <;> exact ⟨rfl, rfl⟩
  have hset : ((List.range (zNf r1)).map (zfv b0 b S a r1)).set r2 x = (List.range (zNf r1)).map (zfv b0 b S' a r1) := by
    apply List.ext_getElem?
    intro j
    by_cases hj : j < zNf r1
    · rw [List.getElem?_map, List.getElem?_range hj]
      by_cases hjr : r2 = j
      · subst hjr
        rw [List.getElem?_set_self (by simpa using hj)]
        simp [hat]
      · rw [List.getElem?_set_ne hjr, List.getElem?_map, List.getElem?_range hj]
        simp [hat, Ne.symm hjr]
    · rw [List.getElem?_eq_none (by simpa using hj), List.getElem?_eq_none (by simpa using hj)]
  have hfin' : (T r2).2.2.2 = false ∨ ((T r2).2.2.2 = true ∧ meth.name = "<init>" ∧ (T r2).1 = zcn (zow i)) := by
    cases hq : (T r2).2.2.2 with
    | false => exact Or.inl rfl
    | true =>
      rcases hfin with h | ⟨h1, h2⟩
      · rw [e1] at h
        simp [hq] at h
      · exact Or.inr ⟨rfl, by rw [hnm]; exact h1, by rw [e6 r2 hlt', Nat.eq_of_beq_eq_true h2]⟩
  have fin : ∀ (H1 : Heap) (locs1 : List Loc), va_P D zcl ((zws b0 b cs S).set a (b0 + a, .inr (r1, ((List.range (zNf r1)).map (zfv b0 b S a r1)).set r2 x))) H1 → va_P D zcl (zws b0 b cs S') H1 := by
    intro H1 locs1 h
    rw [hset, ← zcell_obj (cs := cs) hkn, zws_set hn hoth] at h
    exact h
  rcases hfin' with hq | ⟨hq, hq1, hq2⟩
  · exact va_put hexec hb (zhtsW hts) e4 ty e7 e9 hown hK hP (zws_D2 hS49) hS a hget e1 r2 hlt' (ref := zcn r1) hw (fun x hx => by rw [← e6 r2 hlt']; exact hx) hq (e7 r2 hlt') hnf.1 hnf.2 (by simpa [← e3] using hlt') hd
      (fun H1 locs1 h1 _ h3 => kk H1 locs1 (fin H1 locs1 h1) h3)
  · exact va_putF hexec hb (zhtsW hts) e4 ty e7 e9 hown hK hP (zws_D2 hS49) hS a hget e1 r2 hlt' (ref := zcn r1) hw (fun x hx => by rw [← e6 r2 hlt']; exact hx) hq hq1 hq2 (e7 r2 hlt') hnf.1 hnf.2 (by simpa [← e3] using hlt') hd
      (fun H1 locs1 h1 _ h3 => kk H1 locs1 (fin H1 locs1 h1) h3)
theorem zak_spec {a n k : Nat} (hk : k ≠ 9) (h : zak a n = k) : (a = 99 ∧ k = 1) ∨ (a ≠ 99 ∧ a < n ∧ (zknd a).1 = k) := by
  unfold zak at h
  cases hb : Nat.beq a 99 with
  | true => rw [hb] at h; exact Or.inl ⟨Nat.eq_of_beq_eq_true hb, h.symm⟩
  | false =>
    rw [hb] at h
    cases hc : Nat.blt a n with
    | true => rw [hc] at h; exact Or.inr ⟨fun z => (by subst z; cases hb), (by simpa [Nat.blt_eq] using hc), h⟩
    | false => rw [hc] at h; exact absurd h.symm hk
theorem zlen_ne {a l : Nat} (h : a ≠ 99) : zlen a l = (zknd a).2 := by
  unfold zlen
  cases hb : Nat.beq a 99 with
  | true => exact absurd (Nat.eq_of_beq_eq_true hb) h
  | false => rfl
theorem ziald_W (hexec : p.tables.exec = Jvm.exec) (hb : c.code = zbt i) (hK : va_K D zcl (ztys cs) s) (hP : va_P D zcl (zws b0 b cs S) H) (hS49 : S.1 ≤ 49) (hX : va_X b S.2.2.1 (S.2.2.2.1 99) s H) {j : Int32}
    (hk : zchk i pc (.iaload, npc, r1, r2, v) = true) (hz : Nat.beq (zak a S.1) 1 = true) (hin : vp_in j (zlen a S.2.2.1)) (kk : W p l e R s m args below meth c H locs cells slots Q (F0 m npc ls (.int (S.2.2.2.1 a j.toNatClampNeg) :: rest))) :
    W p l e R s m args below meth c H locs cells slots Q (F0 m pc ls (.int j :: zrv b0 b (.ref a) :: rest)) := by
  obtain ⟨hd, rfl⟩ := zchk_d rfl hk
  rcases zak_spec (by decide) (Nat.eq_of_beq_eq_true hz) with ⟨rfl, -⟩ | ⟨h1, h2, h3⟩
  · obtain ⟨scr, g1, g2, g3, g4, g5⟩ := hX
    have hlt : j.toNatClampNeg < S.2.2.1 := Nat.not_le.mp fun q => hin (Or.inr q)
    exact W.iald (v := .int (S.2.2.2.1 99 j.toNatClampNeg)) hexec hb g1 g2 g3 (by rw [g4]; exact hin) (g5 _ hlt) rfl rfl hd kk
  · rw [zrv_ref (by omega)]
    have hget := zws_get (b0 := b0) (b := b) (cs := cs) h2
    rw [zcell_int h3] at hget
    rw [zlen_ne h1] at hin
    exact va_iald hexec hb hK hP a 0 hget rfl hin hd kk
theorem zalen_W (hexec : p.tables.exec = Jvm.exec) (hb : c.code = zbt i) (hK : va_K D zcl (ztys cs) s) (hP : va_P D zcl (zws b0 b cs S) H) (hS49 : S.1 ≤ 49) (hX : va_X b S.2.2.1 (S.2.2.2.1 99) s H)
    (hk : zchk i pc (.arraylength, npc, r1, r2, v) = true) (hz1 : Nat.ble 1 (zak a S.1) = true) (hz2 : Nat.ble (zak a S.1) 3 = true) (kk : W p l e R s m args below meth c H locs cells slots Q (F0 m npc ls (.int (Int32.ofNat (zlen a S.2.2.1)) :: rest))) :
    W p l e R s m args below meth c H locs cells slots Q (F0 m pc ls (zrv b0 b (.ref a) :: rest)) := by
  obtain ⟨hd, rfl⟩ := zchk_d rfl hk
  have hz1 := Nat.le_of_ble_eq_true hz1
  have hz2 := Nat.le_of_ble_eq_true hz2
  rcases zak_spec (k := zak a S.1) (by omega) rfl with ⟨rfl, -⟩ | ⟨h1, h2, h3⟩
  · obtain ⟨scr, g1, g2, g3, g4, g5⟩ := hX
    exact W.alen (n := Int32.ofNat S.2.2.1) hexec hb g1 g2 (by rw [g4] <;> rfl) rfl rfl hd kk
  · rw [zrv_ref (by omega)]
    rw [zlen_ne h1] at kk
    have hget := zws_get (b0 := b0) (b := b) (cs := cs) h2
    have hc : zak a S.1 = 1 ∨ zak a S.1 = 2 ∨ zak a S.1 = 3 := by omega
    rcases hc with hc | hc | hc <;> rw [hc] at h3
    · rw [zcell_int h3] at hget
      exact va_alen hexec hb hK hP a 0 hget rfl rfl hd kk
    · rw [zcell_bool h3] at hget
      exact va_alen hexec hb hK hP a 1 hget rfl rfl hd kk
    · rw [zcell_long h3] at hget
      exact va_alen hexec hb hK hP a 2 hget rfl rfl hd kk
theorem zbald_W (hexec : p.tables.exec = Jvm.exec) (hb : c.code = zbt i) (hK : va_K D zcl (ztys cs) s) (hP : va_P D zcl (zws b0 b cs S) H) (hS49 : S.1 ≤ 49) {j : Int32}
    (hk : zchk i pc (.baload, npc, r1, r2, v) = true) (hz : zarr a S.1 2 = true) (hin : vp_in j (zknd a).2) (kk : W p l e R s m args below meth c H locs cells slots Q (F0 m npc ls (.int (S.2.2.2.1 a j.toNatClampNeg) :: rest))) :
    W p l e R s m args below meth c H locs cells slots Q (F0 m pc ls (.int j :: zrv b0 b (.ref a) :: rest)) := by
  obtain ⟨hd, rfl⟩ := zchk_d rfl hk
  obtain ⟨h2, h3⟩ := zarr_spec hz
  rw [zrv_ref (by omega)]
  have hget := zws_get (b0 := b0) (b := b) (cs := cs) h2
  rw [zcell_bool h3] at hget
  exact va_zald hexec hb hK hP a 1 hget rfl hin hd kk
theorem zlald_W (hexec : p.tables.exec = Jvm.exec) (hb : c.code = zbt i) (hK : va_K D zcl (ztys cs) s) (hP : va_P D zcl (zws b0 b cs S) H) (hS49 : S.1 ≤ 49) {j : Int32}
    (hk : zchk i pc (.laload, npc, r1, r2, v) = true) (hz : zarr a S.1 3 = true) (hin : vp_in j (zknd a).2) (kk : W p l e R s m args below meth c H locs cells slots Q (F0 m npc ls (.long (S.2.2.2.2.1 a j.toNatClampNeg) :: rest))) :
    W p l e R s m args below meth c H locs cells slots Q (F0 m pc ls (.int j :: zrv b0 b (.ref a) :: rest)) := by
  obtain ⟨hd, rfl⟩ := zchk_d rfl hk
  obtain ⟨h2, h3⟩ := zarr_spec hz
  rw [zrv_ref (by omega)]
  have hget := zws_get (b0 := b0) (b := b) (cs := cs) h2
  rw [zcell_long h3] at hget
  exact va_lald hexec hb hK hP a 2 hget rfl hin hd kk
theorem zup_self (f : Nat → Nat → Int32) (a j : Nat) (x : Int32) : zup f a j x a = upd (f a) j x := by simp [zup]
theorem zup_ne (f : Nat → Nat → Int32) {a k : Nat} (j : Nat) (x : Int32) (h : k ≠ a) : zup f a j x k = f k := by
  have : Nat.beq k a = false := by
    cases hb : Nat.beq k a with
    | false => rfl
    | true => exact absurd (Nat.eq_of_beq_eq_true hb) h
  simp [zup, this]
theorem zupL_self (f : Nat → Nat → Int64) (a j : Nat) (x : Int64) : zupL f a j x a = vp_updL (f a) j x := by simp [zupL]
theorem zupL_ne (f : Nat → Nat → Int64) {a k : Nat} (j : Nat) (x : Int64) (h : k ≠ a) : zupL f a j x k = f k := by
  have : Nat.beq k a = false := by
    cases hb : Nat.beq k a with
    | false => rfl
    | true => exact absurd (Nat.eq_of_beq_eq_true hb) h
  simp [zupL, this]
theorem ziast_W (hexec : p.tables.exec = Jvm.exec) (hb : c.code = zbt i) (hK : va_K D zcl (ztys cs) s) (hP : va_P D zcl (zws b0 b cs S) H) (hS49 : S.1 ≤ 49) (hS : va_S (zA2 b0) H0 H locs) {j x : Int32}
    (hk : zchk i pc (.iastore, npc, r1, r2, v) = true) (hz : zarr a S.1 1 = true) (hin : vp_in j (zknd a).2)
    (kk : ∀ (H1 : Heap) (locs1 : List Loc), va_P D zcl (zws b0 b cs (S.1, S.2.1, S.2.2.1, zup S.2.2.2.1 a j.toNatClampNeg x, S.2.2.2.2.1, S.2.2.2.2.2)) H1 → va_S (zA2 b0) H0 H1 locs1 → W p l e R s m args below meth c H1 locs1 cells slots Q (F0 m npc ls rest)) :
    W p l e R s m args below meth c H locs cells slots Q (F0 m pc ls (.int x :: .int j :: zrv b0 b (.ref a) :: rest)) := by
  obtain ⟨hd, rfl⟩ := zchk_d rfl hk
  obtain ⟨h2, h3⟩ := zarr_spec hz
  rw [zrv_ref (by omega)]
  have hget := zws_get (b0 := b0) (b := b) (cs := cs) h2
  rw [zcell_int h3] at hget
  refine va_iast hexec hb hK hP (zws_D2 hS49) hS a 0 hget rfl hin hd (fun H1 locs1 g1 _ g3 => kk H1 locs1 ?_ g3)
  have e1 : zcell b0 b cs (S.1, S.2.1, S.2.2.1, zup S.2.2.2.1 a j.toNatClampNeg x, S.2.2.2.2.1, S.2.2.2.2.2) a = .inl (cs.1, (zknd a).2, .inl (upd (S.2.2.2.1 a) j.toNatClampNeg x)) := by
    rw [zcell_int h3]
    dsimp only
    rw [zup_self]
  rw [← e1, zws_set (S := S) (S' := (S.1, S.2.1, S.2.2.1, zup S.2.2.2.1 a j.toNatClampNeg x, S.2.2.2.2.1, S.2.2.2.2.2)) rfl (fun k _ hk => zcell_same (zup_ne _ _ _ hk) rfl rfl)] at g1
  exact g1
theorem zbast_W (hexec : p.tables.exec = Jvm.exec) (hb : c.code = zbt i) (hK : va_K D zcl (ztys cs) s) (hP : va_P D zcl (zws b0 b cs S) H) (hS49 : S.1 ≤ 49) (hS : va_S (zA2 b0) H0 H locs) {j x : Int32}
    (hk : zchk i pc (.bastore, npc, r1, r2, v) = true) (hz : zarr a S.1 2 = true) (hin : vp_in j (zknd a).2) (hx : x = 0 ∨ x = 1)
    (kk : ∀ (H1 : Heap) (locs1 : List Loc), va_P D zcl (zws b0 b cs (S.1, S.2.1, S.2.2.1, zup S.2.2.2.1 a j.toNatClampNeg x, S.2.2.2.2.1, S.2.2.2.2.2)) H1 → va_S (zA2 b0) H0 H1 locs1 → W p l e R s m args below meth c H1 locs1 cells slots Q (F0 m npc ls rest)) :
    W p l e R s m args below meth c H locs cells slots Q (F0 m pc ls (.int x :: .int j :: zrv b0 b (.ref a) :: rest)) := by
  obtain ⟨hd, rfl⟩ := zchk_d rfl hk
  obtain ⟨h2, h3⟩ := zarr_spec hz
  rw [zrv_ref (by omega)]
  have hget := zws_get (b0 := b0) (b := b) (cs := cs) h2
  rw [zcell_bool h3] at hget
  have hx' : vp_nar .boolean x = x := by rcases hx with rfl | rfl <;> rfl
  refine va_zast hexec hb hK hP (zws_D2 hS49) hS a 1 hget rfl hin hd (fun H1 locs1 g1 _ g3 => kk H1 locs1 ?_ g3)
  have e1 : zcell b0 b cs (S.1, S.2.1, S.2.2.1, zup S.2.2.2.1 a j.toNatClampNeg x, S.2.2.2.2.1, S.2.2.2.2.2) a = .inl (cs.2.1, (zknd a).2, .inl (upd (S.2.2.2.1 a) j.toNatClampNeg x)) := by
    rw [zcell_bool h3]
    dsimp only
    rw [zup_self]
  rw [hx', ← e1, zws_set (S := S) (S' := (S.1, S.2.1, S.2.2.1, zup S.2.2.2.1 a j.toNatClampNeg x, S.2.2.2.2.1, S.2.2.2.2.2)) rfl (fun k _ hk => zcell_same (zup_ne _ _ _ hk) rfl rfl)] at g1
  exact g1
theorem zlast_W (hexec : p.tables.exec = Jvm.exec) (hb : c.code = zbt i) (hK : va_K D zcl (ztys cs) s) (hP : va_P D zcl (zws b0 b cs S) H) (hS49 : S.1 ≤ 49) (hS : va_S (zA2 b0) H0 H locs) {j : Int32} {x : Int64}
    (hk : zchk i pc (.lastore, npc, r1, r2, v) = true) (hz : zarr a S.1 3 = true) (hin : vp_in j (zknd a).2)
    (kk : ∀ (H1 : Heap) (locs1 : List Loc), va_P D zcl (zws b0 b cs (S.1, S.2.1, S.2.2.1, S.2.2.2.1, zupL S.2.2.2.2.1 a j.toNatClampNeg x, S.2.2.2.2.2)) H1 → va_S (zA2 b0) H0 H1 locs1 → W p l e R s m args below meth c H1 locs1 cells slots Q (F0 m npc ls rest)) :
    W p l e R s m args below meth c H locs cells slots Q (F0 m pc ls (.long x :: .int j :: zrv b0 b (.ref a) :: rest)) := by
  obtain ⟨hd, rfl⟩ := zchk_d rfl hk
  obtain ⟨h2, h3⟩ := zarr_spec hz
  rw [zrv_ref (by omega)]
  have hget := zws_get (b0 := b0) (b := b) (cs := cs) h2
  rw [zcell_long h3] at hget
  refine va_last hexec hb hK hP (zws_D2 hS49) hS a 2 hget rfl hin hd (fun H1 locs1 g1 _ g3 => kk H1 locs1 ?_ g3)
  have e1 : zcell b0 b cs (S.1, S.2.1, S.2.2.1, S.2.2.2.1, zupL S.2.2.2.2.1 a j.toNatClampNeg x, S.2.2.2.2.2) a = .inl (cs.2.2.1, (zknd a).2, .inr (.inl (vp_updL (S.2.2.2.2.1 a) j.toNatClampNeg x))) := by
    rw [zcell_long h3]
    dsimp only
    rw [zupL_self]
  rw [← e1, zws_set (S := S) (S' := (S.1, S.2.1, S.2.2.1, S.2.2.2.1, zupL S.2.2.2.2.1 a j.toNatClampNeg x, S.2.2.2.2.2)) rfl (fun k _ hk => zcell_same rfl (zupL_ne _ _ _ hk) rfl)] at g1
  exact g1
end ZHP
