/-! regions of methods, by program (wip/whole/tools/vc.py, emitvc.py) -/
-- 169 HeapDeskLaw.kind(LHeapDesk;I[J)I ['r0', 'i', 'r48'] cuts [7]
theorem zv169_0 {d x l : Nat} {a1 : Int32} {σ : Nat → Nat → Int32} {τ : Nat → Nat → Int64} {Q : zR → Prop} (h : zRn d 1 (0, [.ref 0, .int a1, zJ], [], (49, x, l, σ, τ, zrho)) (zret (d + 1) 169 4 7 [zJ, zJ, zJ, zJ] [.int 0, .ref 48] Q)) :
    zRn (d + 1) 169 (0, [.ref 0, .int a1, .ref 48, zJ], [], (49, x, l, σ, τ, zrho)) Q := zreg_ok [7] 7 (zcallE (L' := [.ref 0, .int a1, .ref 48, zJ]) h ⟨Or.inl rfl, Or.inl rfl, Or.inl rfl, Or.inl rfl, trivial⟩ (fun q hq => by rcases q with ⟨_ | _, _⟩ <;> exact hq))
theorem zv169_7 {d x l : Nat} {t1 : Int32} {t2 : Int32} {σ : Nat → Nat → Int32} {τ : Nat → Nat → Int64} {Q : zR → Prop} (h : (vp_in t1 1 ∧ Q (.inl (some (.int 0)), (49, x, l, σ, (zupL τ 48 (t1.toNatClampNeg) ((t2).toInt64)), zrho)))) :
    zRn d 169 (7, [zJ, zJ, zJ, zJ], [.int t2, .int t1, .ref 48], (49, x, l, σ, τ, zrho)) Q := zreg_ok [7] 7 ⟨h.1, h.2⟩
-- 170 HeapDeskLaw.digit(LHeapDesk;II[J)I ['r0', 'i', 'i', 'r48'] cuts [8]
theorem zv170_0 {d x l : Nat} {a1 : Int32} {a2 : Int32} {σ : Nat → Nat → Int32} {τ : Nat → Nat → Int64} {Q : zR → Prop} (h : zRn d 2 (0, [.ref 0, .int a1, .int a2, zJ], [], (49, x, l, σ, τ, zrho)) (zret (d + 1) 170 5 8 [zJ, zJ, zJ, zJ, zJ] [.int 0, .ref 48] Q)) :
    zRn (d + 1) 170 (0, [.ref 0, .int a1, .int a2, .ref 48, zJ], [], (49, x, l, σ, τ, zrho)) Q := zreg_ok [8] 8 (zcallE (L' := [.ref 0, .int a1, .int a2, .ref 48, zJ]) h ⟨Or.inl rfl, Or.inl rfl, Or.inl rfl, Or.inl rfl, Or.inl rfl, trivial⟩ (fun q hq => by rcases q with ⟨_ | _, _⟩ <;> exact hq))
theorem zv170_8 {d x l : Nat} {t1 : Int32} {t2 : Int32} {σ : Nat → Nat → Int32} {τ : Nat → Nat → Int64} {Q : zR → Prop} (h : (vp_in t1 1 ∧ Q (.inl (some (.int 0)), (49, x, l, σ, (zupL τ 48 (t1.toNatClampNeg) ((t2).toInt64)), zrho)))) :
    zRn d 170 (8, [zJ, zJ, zJ, zJ, zJ], [.int t2, .int t1, .ref 48], (49, x, l, σ, τ, zrho)) Q := zreg_ok [8] 7 ⟨h.1, h.2⟩
-- 171 HeapDeskLaw.number(LHeapDesk;IZ[J)I ['r0', 'i', 'i', 'r48'] cuts [8]
theorem zv171_0 {d x l : Nat} {a1 : Int32} {a2 : Int32} {σ : Nat → Nat → Int32} {τ : Nat → Nat → Int64} {Q : zR → Prop} (h : zRn d 3 (0, [.ref 0, .int a1, .int a2, zJ], [], (49, x, l, σ, τ, zrho)) (zret (d + 1) 171 5 8 [zJ, zJ, zJ, zJ, zJ] [.int 0, .ref 48] Q)) :
    zRn (d + 1) 171 (0, [.ref 0, .int a1, .int a2, .ref 48, zJ], [], (49, x, l, σ, τ, zrho)) Q := zreg_ok [8] 8 (zcallE (L' := [.ref 0, .int a1, .int a2, .ref 48, zJ]) h ⟨Or.inl rfl, Or.inl rfl, Or.inl rfl, Or.inl rfl, Or.inl rfl, trivial⟩ (fun q hq => by rcases q with ⟨_ | _, _⟩ <;> exact hq))
theorem zv171_8 {d x l : Nat} {t1 : Int32} {t2 : Int32} {σ : Nat → Nat → Int32} {τ : Nat → Nat → Int64} {Q : zR → Prop} (h : ((t2 = 0 → (vp_in t1 1 ∧ Q (.inl (some (.int 0)), (49, x, l, σ, (zupL τ 48 (t1.toNatClampNeg) 0), zrho)))) ∧ (¬ (t2 = 0) → (vp_in t1 1 ∧ Q (.inl (some (.int 0)), (49, x, l, σ, (zupL τ 48 (t1.toNatClampNeg) 1), zrho)))))) :
    zRn d 171 (8, [zJ, zJ, zJ, zJ, zJ], [.int t2, .int t1, .ref 48], (49, x, l, σ, τ, zrho)) Q := zreg_ok [8] 9 ⟨fun c1 => ⟨(h.1 c1).1, (h.1 c1).2⟩, fun c1 => ⟨(h.2 c1).1, (h.2 c1).2⟩⟩
-- 172 HeapDeskLaw.entry(LHeapDesk;IIIZ[J)I ['r0', 'i', 'i', 'i', 'i', 'r48'] cuts [12]
theorem zv172_0 {d x l : Nat} {a1 : Int32} {a2 : Int32} {a3 : Int32} {a4 : Int32} {σ : Nat → Nat → Int32} {τ : Nat → Nat → Int64} {Q : zR → Prop} (h : zRn d 4 (0, [.ref 0, .int a1, .int a2, .int a3, .int a4, zJ, zJ, zJ], [], (49, x, l, σ, τ, zrho)) (zret (d + 1) 172 9 12 [zJ, zJ, zJ, zJ, zJ, zJ, zJ] [.int 0, .ref 48] Q)) :
    zRn (d + 1) 172 (0, [.ref 0, .int a1, .int a2, .int a3, .int a4, .ref 48, zJ], [], (49, x, l, σ, τ, zrho)) Q := zreg_ok [12] 10 (zcallE (L' := [.ref 0, .int a1, .int a2, .int a3, .int a4, .ref 48, zJ]) h ⟨Or.inl rfl, Or.inl rfl, Or.inl rfl, Or.inl rfl, Or.inl rfl, Or.inl rfl, Or.inl rfl, trivial⟩ (fun q hq => by rcases q with ⟨_ | _, _⟩ <;> exact hq))
theorem zv172_12 {d x l : Nat} {t1 : Int32} {t2 : Int32} {σ : Nat → Nat → Int32} {τ : Nat → Nat → Int64} {Q : zR → Prop} (h : ((t2 = 0 → (vp_in t1 1 ∧ Q (.inl (some (.int 0)), (49, x, l, σ, (zupL τ 48 (t1.toNatClampNeg) 0), zrho)))) ∧ (¬ (t2 = 0) → (vp_in t1 1 ∧ Q (.inl (some (.int 0)), (49, x, l, σ, (zupL τ 48 (t1.toNatClampNeg) 1), zrho)))))) :
    zRn d 172 (12, [zJ, zJ, zJ, zJ, zJ, zJ, zJ], [.int t2, .int t1, .ref 48], (49, x, l, σ, τ, zrho)) Q := zreg_ok [12] 9 ⟨fun c1 => ⟨(h.1 c1).1, (h.1 c1).2⟩, fun c1 => ⟨(h.2 c1).1, (h.2 c1).2⟩⟩
-- 173 HeapDeskLaw.analyse(LHeapDesk;I[J)I ['r0', 'i', 'r48'] cuts [7]
theorem zv173_0 {d x l : Nat} {a1 : Int32} {σ : Nat → Nat → Int32} {τ : Nat → Nat → Int64} {Q : zR → Prop} (h : zRn d 5 (0, [.ref 0, .int a1], [], (49, x, l, σ, τ, zrho)) (zret (d + 1) 173 4 7 [zJ, zJ, zJ, zJ] [.int 0, .ref 48] Q)) :
    zRn (d + 1) 173 (0, [.ref 0, .int a1, .ref 48, zJ], [], (49, x, l, σ, τ, zrho)) Q := zreg_ok [7] 7 (zcallE (L' := [.ref 0, .int a1, .ref 48, zJ]) h ⟨Or.inl rfl, Or.inl rfl, Or.inl rfl, Or.inl rfl, trivial⟩ (fun q hq => by rcases q with ⟨_ | _, _⟩ <;> exact hq))
theorem zv173_7 {d x l : Nat} {t1 : Int32} {t2 : Int32} {σ : Nat → Nat → Int32} {τ : Nat → Nat → Int64} {Q : zR → Prop} (h : (vp_in t1 1 ∧ Q (.inl (some (.int 0)), (49, x, l, σ, (zupL τ 48 (t1.toNatClampNeg) ((t2).toInt64)), zrho)))) :
    zRn d 173 (7, [zJ, zJ, zJ, zJ], [.int t2, .int t1, .ref 48], (49, x, l, σ, τ, zrho)) Q := zreg_ok [7] 7 ⟨h.1, h.2⟩
-- 174 HeapDeskLaw.nimber(LHeapDesk;I[J)I ['r0', 'i', 'r48'] cuts [7]
theorem zv174_0 {d x l : Nat} {a1 : Int32} {σ : Nat → Nat → Int32} {τ : Nat → Nat → Int64} {Q : zR → Prop} (h : zRn d 6 (0, [.ref 0, .int a1], [], (49, x, l, σ, τ, zrho)) (zret (d + 1) 174 4 7 [zJ, zJ, zJ, zJ] [.int 0, .ref 48] Q)) :
    zRn (d + 1) 174 (0, [.ref 0, .int a1, .ref 48, zJ], [], (49, x, l, σ, τ, zrho)) Q := zreg_ok [7] 7 (zcallE (L' := [.ref 0, .int a1, .ref 48, zJ]) h ⟨Or.inl rfl, Or.inl rfl, Or.inl rfl, Or.inl rfl, trivial⟩ (fun q hq => by rcases q with ⟨_ | _, _⟩ <;> exact hq))
theorem zv174_7 {d x l : Nat} {t1 : Int32} {t2 : Int32} {σ : Nat → Nat → Int32} {τ : Nat → Nat → Int64} {Q : zR → Prop} (h : (vp_in t1 1 ∧ Q (.inl (some (.int 0)), (49, x, l, σ, (zupL τ 48 (t1.toNatClampNeg) ((t2).toInt64)), zrho)))) :
    zRn d 174 (7, [zJ, zJ, zJ, zJ], [.int t2, .int t1, .ref 48], (49, x, l, σ, τ, zrho)) Q := zreg_ok [7] 7 ⟨h.1, h.2⟩
-- 175 HeapDeskLaw.period(LHeapDesk;I[J)I ['r0', 'i', 'r48'] cuts [7]
theorem zv175_0 {d x l : Nat} {a1 : Int32} {σ : Nat → Nat → Int32} {τ : Nat → Nat → Int64} {Q : zR → Prop} (h : zRn d 8 (0, [.ref 0, .int a1], [], (49, x, l, σ, τ, zrho)) (zret (d + 1) 175 4 7 [zJ, zJ, zJ, zJ] [.int 0, .ref 48] Q)) :
    zRn (d + 1) 175 (0, [.ref 0, .int a1, .ref 48, zJ], [], (49, x, l, σ, τ, zrho)) Q := zreg_ok [7] 7 (zcallE (L' := [.ref 0, .int a1, .ref 48, zJ]) h ⟨Or.inl rfl, Or.inl rfl, Or.inl rfl, Or.inl rfl, trivial⟩ (fun q hq => by rcases q with ⟨_ | _, _⟩ <;> exact hq))
theorem zv175_7 {d x l : Nat} {t1 : Int32} {t2 : Int32} {σ : Nat → Nat → Int32} {τ : Nat → Nat → Int64} {Q : zR → Prop} (h : (vp_in t1 1 ∧ Q (.inl (some (.int 0)), (49, x, l, σ, (zupL τ 48 (t1.toNatClampNeg) ((t2).toInt64)), zrho)))) :
    zRn d 175 (7, [zJ, zJ, zJ, zJ], [.int t2, .int t1, .ref 48], (49, x, l, σ, τ, zrho)) Q := zreg_ok [7] 7 ⟨h.1, h.2⟩
-- 176 HeapDeskLaw.options(LHeapDesk;I[J)I ['r0', 'i', 'r48'] cuts [7]
theorem zv176_0 {d x l : Nat} {a1 : Int32} {σ : Nat → Nat → Int32} {τ : Nat → Nat → Int64} {Q : zR → Prop} (h : zRn d 9 (0, [.ref 0, .int a1], [], (49, x, l, σ, τ, zrho)) (zret (d + 1) 176 4 7 [zJ, zJ, zJ, zJ] [.int 0, .ref 48] Q)) :
    zRn (d + 1) 176 (0, [.ref 0, .int a1, .ref 48, zJ], [], (49, x, l, σ, τ, zrho)) Q := zreg_ok [7] 7 (zcallE (L' := [.ref 0, .int a1, .ref 48, zJ]) h ⟨Or.inl rfl, Or.inl rfl, Or.inl rfl, Or.inl rfl, trivial⟩ (fun q hq => by rcases q with ⟨_ | _, _⟩ <;> exact hq))
theorem zv176_7 {d x l : Nat} {t1 : Int32} {t2 : Int32} {σ : Nat → Nat → Int32} {τ : Nat → Nat → Int64} {Q : zR → Prop} (h : (vp_in t1 1 ∧ Q (.inl (some (.int 0)), (49, x, l, σ, (zupL τ 48 (t1.toNatClampNeg) ((t2).toInt64)), zrho)))) :
    zRn d 176 (7, [zJ, zJ, zJ, zJ], [.int t2, .int t1, .ref 48], (49, x, l, σ, τ, zrho)) Q := zreg_ok [7] 7 ⟨h.1, h.2⟩
-- 177 HeapDeskLaw.option(LHeapDesk;III[J)I ['r0', 'i', 'i', 'i', 'r48'] cuts [10]
theorem zv177_0 {d x l : Nat} {a1 : Int32} {a2 : Int32} {a3 : Int32} {σ : Nat → Nat → Int32} {τ : Nat → Nat → Int64} {Q : zR → Prop} (h : zRn d 10 (0, [.ref 0, .int a1, .int a2, .int a3], [], (49, x, l, σ, τ, zrho)) (zret (d + 1) 177 7 10 [zJ, zJ, zJ, zJ, zJ, zJ] [.int 0, .ref 48] Q)) :
    zRn (d + 1) 177 (0, [.ref 0, .int a1, .int a2, .int a3, .ref 48, zJ], [], (49, x, l, σ, τ, zrho)) Q := zreg_ok [10] 9 (zcallE (L' := [.ref 0, .int a1, .int a2, .int a3, .ref 48, zJ]) h ⟨Or.inl rfl, Or.inl rfl, Or.inl rfl, Or.inl rfl, Or.inl rfl, Or.inl rfl, trivial⟩ (fun q hq => by rcases q with ⟨_ | _, _⟩ <;> exact hq))
theorem zv177_10 {d x l : Nat} {t1 : Int32} {t2 : Int32} {σ : Nat → Nat → Int32} {τ : Nat → Nat → Int64} {Q : zR → Prop} (h : (vp_in t1 1 ∧ Q (.inl (some (.int 0)), (49, x, l, σ, (zupL τ 48 (t1.toNatClampNeg) ((t2).toInt64)), zrho)))) :
    zRn d 177 (10, [zJ, zJ, zJ, zJ, zJ, zJ], [.int t2, .int t1, .ref 48], (49, x, l, σ, τ, zrho)) Q := zreg_ok [10] 7 ⟨h.1, h.2⟩
-- 178 HeapDeskLaw.heap(LHeapDesk;II[J)I ['r0', 'i', 'i', 'r48'] cuts [8]
theorem zv178_0 {d x l : Nat} {a1 : Int32} {a2 : Int32} {σ : Nat → Nat → Int32} {τ : Nat → Nat → Int64} {Q : zR → Prop} (h : zRn d 11 (0, [.ref 0, .int a1, .int a2, zJ], [], (49, x, l, σ, τ, zrho)) (zret (d + 1) 178 5 8 [zJ, zJ, zJ, zJ, zJ] [.int 0, .ref 48] Q)) :
    zRn (d + 1) 178 (0, [.ref 0, .int a1, .int a2, .ref 48, zJ], [], (49, x, l, σ, τ, zrho)) Q := zreg_ok [8] 8 (zcallE (L' := [.ref 0, .int a1, .int a2, .ref 48, zJ]) h ⟨Or.inl rfl, Or.inl rfl, Or.inl rfl, Or.inl rfl, Or.inl rfl, trivial⟩ (fun q hq => by rcases q with ⟨_ | _, _⟩ <;> exact hq))
theorem zv178_8 {d x l : Nat} {t1 : Int32} {t2 : Int32} {σ : Nat → Nat → Int32} {τ : Nat → Nat → Int64} {Q : zR → Prop} (h : (vp_in t1 1 ∧ Q (.inl (some (.int 0)), (49, x, l, σ, (zupL τ 48 (t1.toNatClampNeg) ((t2).toInt64)), zrho)))) :
    zRn d 178 (8, [zJ, zJ, zJ, zJ, zJ], [.int t2, .int t1, .ref 48], (49, x, l, σ, τ, zrho)) Q := zreg_ok [8] 7 ⟨h.1, h.2⟩
-- 179 HeapDeskLaw.at(LHeapDesk;I[J)I ['r0', 'i', 'r48'] cuts [7]
theorem zv179_0 {d x l : Nat} {a1 : Int32} {σ : Nat → Nat → Int32} {τ : Nat → Nat → Int64} {Q : zR → Prop} (h : zRn d 12 (0, [.ref 0, .int a1], [], (49, x, l, σ, τ, zrho)) (zret (d + 1) 179 4 7 [zJ, zJ, zJ, zJ] [.int 0, .ref 48] Q)) :
    zRn (d + 1) 179 (0, [.ref 0, .int a1, .ref 48, zJ], [], (49, x, l, σ, τ, zrho)) Q := zreg_ok [7] 7 (zcallE (L' := [.ref 0, .int a1, .ref 48, zJ]) h ⟨Or.inl rfl, Or.inl rfl, Or.inl rfl, Or.inl rfl, trivial⟩ (fun q hq => by rcases q with ⟨_ | _, _⟩ <;> exact hq))
theorem zv179_7 {d x l : Nat} {t1 : Int32} {t2 : Int32} {σ : Nat → Nat → Int32} {τ : Nat → Nat → Int64} {Q : zR → Prop} (h : (vp_in t1 1 ∧ Q (.inl (some (.int 0)), (49, x, l, σ, (zupL τ 48 (t1.toNatClampNeg) ((t2).toInt64)), zrho)))) :
    zRn d 179 (7, [zJ, zJ, zJ, zJ], [.int t2, .int t1, .ref 48], (49, x, l, σ, τ, zrho)) Q := zreg_ok [7] 7 ⟨h.1, h.2⟩
-- 180 HeapDeskLaw.moves(LHeapDesk;[J)I ['r0', 'r48'] cuts [6]
theorem zv180_0 {d x l : Nat}  {σ : Nat → Nat → Int32} {τ : Nat → Nat → Int64} {Q : zR → Prop} (h : zRn d 13 (0, [.ref 0, zJ, zJ], [], (49, x, l, σ, τ, zrho)) (zret (d + 1) 180 3 6 [zJ, zJ, zJ] [.int 0, .ref 48] Q)) :
    zRn (d + 1) 180 (0, [.ref 0, .ref 48, zJ], [], (49, x, l, σ, τ, zrho)) Q := zreg_ok [6] 6 (zcallE (L' := [.ref 0, .ref 48, zJ]) h ⟨Or.inl rfl, Or.inl rfl, Or.inl rfl, trivial⟩ (fun q hq => by rcases q with ⟨_ | _, _⟩ <;> exact hq))
theorem zv180_6 {d x l : Nat} {t1 : Int32} {t2 : Int32} {σ : Nat → Nat → Int32} {τ : Nat → Nat → Int64} {Q : zR → Prop} (h : (vp_in t1 1 ∧ Q (.inl (some (.int 0)), (49, x, l, σ, (zupL τ 48 (t1.toNatClampNeg) ((t2).toInt64)), zrho)))) :
    zRn d 180 (6, [zJ, zJ, zJ], [.int t2, .int t1, .ref 48], (49, x, l, σ, τ, zrho)) Q := zreg_ok [6] 7 ⟨h.1, h.2⟩
-- 181 HeapDeskLaw.move(LHeapDesk;II[J)I ['r0', 'i', 'i', 'r48'] cuts [8]
theorem zv181_0 {d x l : Nat} {a1 : Int32} {a2 : Int32} {σ : Nat → Nat → Int32} {τ : Nat → Nat → Int64} {Q : zR → Prop} (h : zRn d 14 (0, [.ref 0, .int a1, .int a2], [], (49, x, l, σ, τ, zrho)) (zret (d + 1) 181 5 8 [zJ, zJ, zJ, zJ, zJ] [.int 0, .ref 48] Q)) :
    zRn (d + 1) 181 (0, [.ref 0, .int a1, .int a2, .ref 48, zJ], [], (49, x, l, σ, τ, zrho)) Q := zreg_ok [8] 8 (zcallE (L' := [.ref 0, .int a1, .int a2, .ref 48, zJ]) h ⟨Or.inl rfl, Or.inl rfl, Or.inl rfl, Or.inl rfl, Or.inl rfl, trivial⟩ (fun q hq => by rcases q with ⟨_ | _, _⟩ <;> exact hq))
theorem zv181_8 {d x l : Nat} {t1 : Int32} {t2 : Int32} {σ : Nat → Nat → Int32} {τ : Nat → Nat → Int64} {Q : zR → Prop} (h : (vp_in t1 1 ∧ Q (.inl (some (.int 0)), (49, x, l, σ, (zupL τ 48 (t1.toNatClampNeg) ((t2).toInt64)), zrho)))) :
    zRn d 181 (8, [zJ, zJ, zJ, zJ, zJ], [.int t2, .int t1, .ref 48], (49, x, l, σ, τ, zrho)) Q := zreg_ok [8] 7 ⟨h.1, h.2⟩
-- 182 HeapDeskLaw.play(LHeapDesk;I[J)I ['r0', 'i', 'r48'] cuts [7]
theorem zv182_0 {d x l : Nat} {a1 : Int32} {σ : Nat → Nat → Int32} {τ : Nat → Nat → Int64} {Q : zR → Prop} (h : zRn d 15 (0, [.ref 0, .int a1], [], (49, x, l, σ, τ, zrho)) (zret (d + 1) 182 4 7 [zJ, zJ, zJ, zJ] [.int 0, .ref 48] Q)) :
    zRn (d + 1) 182 (0, [.ref 0, .int a1, .ref 48, zJ], [], (49, x, l, σ, τ, zrho)) Q := zreg_ok [7] 7 (zcallE (L' := [.ref 0, .int a1, .ref 48, zJ]) h ⟨Or.inl rfl, Or.inl rfl, Or.inl rfl, Or.inl rfl, trivial⟩ (fun q hq => by rcases q with ⟨_ | _, _⟩ <;> exact hq))
theorem zv182_7 {d x l : Nat} {t1 : Int32} {t2 : Int32} {σ : Nat → Nat → Int32} {τ : Nat → Nat → Int64} {Q : zR → Prop} (h : (vp_in t1 1 ∧ Q (.inl (some (.int 0)), (49, x, l, σ, (zupL τ 48 (t1.toNatClampNeg) ((t2).toInt64)), zrho)))) :
    zRn d 182 (7, [zJ, zJ, zJ, zJ], [.int t2, .int t1, .ref 48], (49, x, l, σ, τ, zrho)) Q := zreg_ok [7] 7 ⟨h.1, h.2⟩
-- 183 HeapDeskLaw.wins(LHeapDesk;I[J)I ['r0', 'i', 'r48'] cuts [7]
theorem zv183_0 {d x l : Nat} {a1 : Int32} {σ : Nat → Nat → Int32} {τ : Nat → Nat → Int64} {Q : zR → Prop} (h : zRn d 16 (0, [.ref 0, .int a1, zJ, zJ], [], (49, x, l, σ, τ, zrho)) (zret (d + 1) 183 4 7 [zJ, zJ, zJ, zJ] [.int 0, .ref 48] Q)) :
    zRn (d + 1) 183 (0, [.ref 0, .int a1, .ref 48, zJ], [], (49, x, l, σ, τ, zrho)) Q := zreg_ok [7] 7 (zcallE (L' := [.ref 0, .int a1, .ref 48, zJ]) h ⟨Or.inl rfl, Or.inl rfl, Or.inl rfl, Or.inl rfl, trivial⟩ (fun q hq => by rcases q with ⟨_ | _, _⟩ <;> exact hq))
theorem zv183_7 {d x l : Nat} {t1 : Int32} {t2 : Int32} {σ : Nat → Nat → Int32} {τ : Nat → Nat → Int64} {Q : zR → Prop} (h : ((t2 = 0 → (vp_in t1 1 ∧ Q (.inl (some (.int 0)), (49, x, l, σ, (zupL τ 48 (t1.toNatClampNeg) 0), zrho)))) ∧ (¬ (t2 = 0) → (vp_in t1 1 ∧ Q (.inl (some (.int 0)), (49, x, l, σ, (zupL τ 48 (t1.toNatClampNeg) 1), zrho)))))) :
    zRn d 183 (7, [zJ, zJ, zJ, zJ], [.int t2, .int t1, .ref 48], (49, x, l, σ, τ, zrho)) Q := zreg_ok [7] 9 ⟨fun c1 => ⟨(h.1 c1).1, (h.1 c1).2⟩, fun c1 => ⟨(h.2 c1).1, (h.2 c1).2⟩⟩
-- 184 HeapDeskLaw.undo(LHeapDesk;[J)I ['r0', 'r48'] cuts [6]
theorem zv184_0 {d x l : Nat}  {σ : Nat → Nat → Int32} {τ : Nat → Nat → Int64} {Q : zR → Prop} (h : zRn d 17 (0, [.ref 0], [], (49, x, l, σ, τ, zrho)) (zret (d + 1) 184 3 6 [zJ, zJ, zJ] [.int 0, .ref 48] Q)) :
    zRn (d + 1) 184 (0, [.ref 0, .ref 48, zJ], [], (49, x, l, σ, τ, zrho)) Q := zreg_ok [6] 6 (zcallE (L' := [.ref 0, .ref 48, zJ]) h ⟨Or.inl rfl, Or.inl rfl, Or.inl rfl, trivial⟩ (fun q hq => by rcases q with ⟨_ | _, _⟩ <;> exact hq))
theorem zv184_6 {d x l : Nat} {t1 : Int32} {t2 : Int32} {σ : Nat → Nat → Int32} {τ : Nat → Nat → Int64} {Q : zR → Prop} (h : (vp_in t1 1 ∧ Q (.inl (some (.int 0)), (49, x, l, σ, (zupL τ 48 (t1.toNatClampNeg) ((t2).toInt64)), zrho)))) :
    zRn d 184 (6, [zJ, zJ, zJ], [.int t2, .int t1, .ref 48], (49, x, l, σ, τ, zrho)) Q := zreg_ok [6] 7 ⟨h.1, h.2⟩
-- 185 HeapDeskLaw.value(LHeapDesk;[J)I ['r0', 'r48'] cuts [6]
theorem zv185_0 {d x l : Nat}  {σ : Nat → Nat → Int32} {τ : Nat → Nat → Int64} {Q : zR → Prop} (h : zRn d 18 (0, [.ref 0], [], (49, x, l, σ, τ, zrho)) (zret (d + 1) 185 3 6 [zJ, zJ, zJ] [.int 0, .ref 48] Q)) :
    zRn (d + 1) 185 (0, [.ref 0, .ref 48, zJ], [], (49, x, l, σ, τ, zrho)) Q := zreg_ok [6] 6 (zcallE (L' := [.ref 0, .ref 48, zJ]) h ⟨Or.inl rfl, Or.inl rfl, Or.inl rfl, trivial⟩ (fun q hq => by rcases q with ⟨_ | _, _⟩ <;> exact hq))
theorem zv185_6 {d x l : Nat} {t1 : Int32} {t2 : Int32} {σ : Nat → Nat → Int32} {τ : Nat → Nat → Int64} {Q : zR → Prop} (h : (vp_in t1 1 ∧ Q (.inl (some (.int 0)), (49, x, l, σ, (zupL τ 48 (t1.toNatClampNeg) ((t2).toInt64)), zrho)))) :
    zRn d 185 (6, [zJ, zJ, zJ], [.int t2, .int t1, .ref 48], (49, x, l, σ, τ, zrho)) Q := zreg_ok [6] 7 ⟨h.1, h.2⟩
-- 186 HeapDeskLaw.lastLoses(LHeapDesk;[J)I ['r0', 'r48'] cuts [6]
theorem zv186_0 {d x l : Nat}  {σ : Nat → Nat → Int32} {τ : Nat → Nat → Int64} {Q : zR → Prop} (h : zRn d 19 (0, [.ref 0, zJ], [], (49, x, l, σ, τ, zrho)) (zret (d + 1) 186 3 6 [zJ, zJ, zJ] [.int 0, .ref 48] Q)) :
    zRn (d + 1) 186 (0, [.ref 0, .ref 48, zJ], [], (49, x, l, σ, τ, zrho)) Q := zreg_ok [6] 6 (zcallE (L' := [.ref 0, .ref 48, zJ]) h ⟨Or.inl rfl, Or.inl rfl, Or.inl rfl, trivial⟩ (fun q hq => by rcases q with ⟨_ | _, _⟩ <;> exact hq))
theorem zv186_6 {d x l : Nat} {t1 : Int32} {t2 : Int32} {σ : Nat → Nat → Int32} {τ : Nat → Nat → Int64} {Q : zR → Prop} (h : ((t2 = 0 → (vp_in t1 1 ∧ Q (.inl (some (.int 0)), (49, x, l, σ, (zupL τ 48 (t1.toNatClampNeg) 0), zrho)))) ∧ (¬ (t2 = 0) → (vp_in t1 1 ∧ Q (.inl (some (.int 0)), (49, x, l, σ, (zupL τ 48 (t1.toNatClampNeg) 1), zrho)))))) :
    zRn d 186 (6, [zJ, zJ, zJ], [.int t2, .int t1, .ref 48], (49, x, l, σ, τ, zrho)) Q := zreg_ok [6] 9 ⟨fun c1 => ⟨(h.1 c1).1, (h.1 c1).2⟩, fun c1 => ⟨(h.2 c1).1, (h.2 c1).2⟩⟩
-- 187 HeapDeskLaw.quotient(LHeapDesk;I[J)I ['r0', 'i', 'r48'] cuts [7]
theorem zv187_0 {d x l : Nat} {a1 : Int32} {σ : Nat → Nat → Int32} {τ : Nat → Nat → Int64} {Q : zR → Prop} (h : zRn d 20 (0, [.ref 0, .int a1], [], (49, x, l, σ, τ, zrho)) (zret (d + 1) 187 4 7 [zJ, zJ, zJ, zJ] [.int 0, .ref 48] Q)) :
    zRn (d + 1) 187 (0, [.ref 0, .int a1, .ref 48, zJ], [], (49, x, l, σ, τ, zrho)) Q := zreg_ok [7] 7 (zcallE (L' := [.ref 0, .int a1, .ref 48, zJ]) h ⟨Or.inl rfl, Or.inl rfl, Or.inl rfl, Or.inl rfl, trivial⟩ (fun q hq => by rcases q with ⟨_ | _, _⟩ <;> exact hq))
theorem zv187_7 {d x l : Nat} {t1 : Int32} {t2 : Int32} {σ : Nat → Nat → Int32} {τ : Nat → Nat → Int64} {Q : zR → Prop} (h : (vp_in t1 1 ∧ Q (.inl (some (.int 0)), (49, x, l, σ, (zupL τ 48 (t1.toNatClampNeg) ((t2).toInt64)), zrho)))) :
    zRn d 187 (7, [zJ, zJ, zJ, zJ], [.int t2, .int t1, .ref 48], (49, x, l, σ, τ, zrho)) Q := zreg_ok [7] 7 ⟨h.1, h.2⟩
-- 188 HeapDeskLaw.classOf(LHeapDesk;[J)I ['r0', 'r48'] cuts [6]
theorem zv188_0 {d x l : Nat}  {σ : Nat → Nat → Int32} {τ : Nat → Nat → Int64} {Q : zR → Prop} (h : zRn d 21 (0, [.ref 0, zJ], [], (49, x, l, σ, τ, zrho)) (zret (d + 1) 188 3 6 [zJ, zJ, zJ] [.int 0, .ref 48] Q)) :
    zRn (d + 1) 188 (0, [.ref 0, .ref 48, zJ], [], (49, x, l, σ, τ, zrho)) Q := zreg_ok [6] 6 (zcallE (L' := [.ref 0, .ref 48, zJ]) h ⟨Or.inl rfl, Or.inl rfl, Or.inl rfl, trivial⟩ (fun q hq => by rcases q with ⟨_ | _, _⟩ <;> exact hq))
theorem zv188_6 {d x l : Nat} {t1 : Int32} {t2 : Int32} {σ : Nat → Nat → Int32} {τ : Nat → Nat → Int64} {Q : zR → Prop} (h : (vp_in t1 1 ∧ Q (.inl (some (.int 0)), (49, x, l, σ, (zupL τ 48 (t1.toNatClampNeg) ((t2).toInt64)), zrho)))) :
    zRn d 188 (6, [zJ, zJ, zJ], [.int t2, .int t1, .ref 48], (49, x, l, σ, τ, zrho)) Q := zreg_ok [6] 7 ⟨h.1, h.2⟩
-- 189 HeapDeskLaw.ofClass(LHeapDesk;II[J)I ['r0', 'i', 'i', 'r48'] cuts [8]
theorem zv189_0 {d x l : Nat} {a1 : Int32} {a2 : Int32} {σ : Nat → Nat → Int32} {τ : Nat → Nat → Int64} {Q : zR → Prop} (h : zRn d 22 (0, [.ref 0, .int a1, .int a2], [], (49, x, l, σ, τ, zrho)) (zret (d + 1) 189 5 8 [zJ, zJ, zJ, zJ, zJ] [.int 0, .ref 48] Q)) :
    zRn (d + 1) 189 (0, [.ref 0, .int a1, .int a2, .ref 48, zJ], [], (49, x, l, σ, τ, zrho)) Q := zreg_ok [8] 8 (zcallE (L' := [.ref 0, .int a1, .int a2, .ref 48, zJ]) h ⟨Or.inl rfl, Or.inl rfl, Or.inl rfl, Or.inl rfl, Or.inl rfl, trivial⟩ (fun q hq => by rcases q with ⟨_ | _, _⟩ <;> exact hq))
theorem zv189_8 {d x l : Nat} {t1 : Int32} {t2 : Int32} {σ : Nat → Nat → Int32} {τ : Nat → Nat → Int64} {Q : zR → Prop} (h : (vp_in t1 1 ∧ Q (.inl (some (.int 0)), (49, x, l, σ, (zupL τ 48 (t1.toNatClampNeg) ((t2).toInt64)), zrho)))) :
    zRn d 189 (8, [zJ, zJ, zJ, zJ, zJ], [.int t2, .int t1, .ref 48], (49, x, l, σ, τ, zrho)) Q := zreg_ok [8] 7 ⟨h.1, h.2⟩
