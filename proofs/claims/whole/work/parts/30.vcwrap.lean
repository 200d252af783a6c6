/-! regions of methods, by program (wip/whole/tools/vc.py, emitvc.py) -/
-- 169 HeapDeskLaw.kind(LHeapDesk;I[J)I ['r0', 'i', 'r48'] cuts [7, 13]
theorem zv169_0 {d x l : Nat} {a1 : Int32} {σ : Nat → Nat → Int32} {τ : Nat → Nat → Int64} {Q : zR → Prop} (h : zRn d 1 (0, [.ref 0, .int a1, zJ], [], (49, x, l, σ, τ, zrho)) (zret (d + 1) 169 4 7 [zJ, zJ, zJ, zJ] [.int 0, .ref 48] Q)) :
    zRn (d + 1) 169 (0, [.ref 0, .int a1, .ref 48, zJ], [], (49, x, l, σ, τ, zrho)) Q := zreg_ok [4, 7, 13] 7 (zstepV rfl rfl rfl rfl (zcallE (L' := [.ref 0, .int a1, .ref 48, zJ]) h ⟨Or.inl rfl, Or.inl rfl, Or.inl rfl, Or.inl rfl, trivial⟩ (fun q hq => hq)))
theorem zv169_7 {d x l : Nat} {t1 : Int32} {t2 : Int32} {σ : Nat → Nat → Int32} {τ : Nat → Nat → Int64} {Q : zR → Prop} (h : (vp_in t1 1 ∧ Q (.inl (some (.int 0)), (49, x, l, σ, (zupL τ 48 (t1.toNatClampNeg) ((t2).toInt64)), zrho)))) :
    zRn d 169 (7, [zJ, zJ, zJ, zJ], [.int t2, .int t1, .ref 48], (49, x, l, σ, τ, zrho)) Q := zreg_ok [4, 7, 13] 7 ⟨h.1, h.2⟩
theorem zv169_13 {d x l : Nat}  {σ : Nat → Nat → Int32} {τ : Nat → Nat → Int64} {Q : zR → Prop} (h : Q (.inl (some (.int 1)), (49, x, l, σ, τ, zrho))) :
    zRn d 169 (13, [zJ, zJ, zJ, zJ], [], (49, x, l, σ, τ, zrho)) Q := zreg_ok [4, 7, 13] 4 h
-- 170 HeapDeskLaw.digit(LHeapDesk;II[J)I ['r0', 'i', 'i', 'r48'] cuts [8, 15, 19]
theorem zv170_0 {d x l : Nat} {a1 : Int32} {a2 : Int32} {σ : Nat → Nat → Int32} {τ : Nat → Nat → Int64} {Q : zR → Prop} (h : zRn d 2 (0, [.ref 0, .int a1, .int a2, zJ], [], (49, x, l, σ, τ, zrho)) (zret (d + 1) 170 5 8 [zJ, zJ, zJ, zJ, zJ] [.int 0, .ref 48] Q)) :
    zRn (d + 1) 170 (0, [.ref 0, .int a1, .int a2, .ref 48, zJ], [], (49, x, l, σ, τ, zrho)) Q := zreg_ok [5, 8, 15, 19] 8 (zstepV rfl rfl rfl rfl (zcallE (L' := [.ref 0, .int a1, .int a2, .ref 48, zJ]) h ⟨Or.inl rfl, Or.inl rfl, Or.inl rfl, Or.inl rfl, Or.inl rfl, trivial⟩ (fun q hq => hq)))
theorem zv170_8 {d x l : Nat} {t1 : Int32} {t2 : Int32} {σ : Nat → Nat → Int32} {τ : Nat → Nat → Int64} {Q : zR → Prop} (h : (vp_in t1 1 ∧ Q (.inl (some (.int 0)), (49, x, l, σ, (zupL τ 48 (t1.toNatClampNeg) ((t2).toInt64)), zrho)))) :
    zRn d 170 (8, [zJ, zJ, zJ, zJ, zJ], [.int t2, .int t1, .ref 48], (49, x, l, σ, τ, zrho)) Q := zreg_ok [5, 8, 15, 19] 7 ⟨h.1, h.2⟩
theorem zv170_15 {d x l : Nat}  {σ : Nat → Nat → Int32} {τ : Nat → Nat → Int64} {Q : zR → Prop} (h : Q (.inl (some (.int 1)), (49, x, l, σ, τ, zrho))) :
    zRn d 170 (15, [zJ, zJ, zJ, zJ, zJ], [], (49, x, l, σ, τ, zrho)) Q := zreg_ok [5, 8, 15, 19] 4 h
theorem zv170_19 {d x l : Nat}  {σ : Nat → Nat → Int32} {τ : Nat → Nat → Int64} {Q : zR → Prop} (h : Q (.inl (some (.int 2)), (49, x, l, σ, τ, zrho))) :
    zRn d 170 (19, [zJ, zJ, zJ, zJ, zJ], [], (49, x, l, σ, τ, zrho)) Q := zreg_ok [5, 8, 15, 19] 4 h
-- 171 HeapDeskLaw.number(LHeapDesk;IZ[J)I ['r0', 'i', 'i', 'r48'] cuts [8, 22]
theorem zv171_0 {d x l : Nat} {a1 : Int32} {a2 : Int32} {σ : Nat → Nat → Int32} {τ : Nat → Nat → Int64} {Q : zR → Prop} (h : zRn d 3 (0, [.ref 0, .int a1, .int a2, zJ], [], (49, x, l, σ, τ, zrho)) (zret (d + 1) 171 5 8 [zJ, zJ, zJ, zJ, zJ] [.int 0, .ref 48] Q)) :
    zRn (d + 1) 171 (0, [.ref 0, .int a1, .int a2, .ref 48, zJ], [], (49, x, l, σ, τ, zrho)) Q := zreg_ok [5, 8, 22] 8 (zstepV rfl rfl rfl rfl (zcallE (L' := [.ref 0, .int a1, .int a2, .ref 48, zJ]) h ⟨Or.inl rfl, Or.inl rfl, Or.inl rfl, Or.inl rfl, Or.inl rfl, trivial⟩ (fun q hq => hq)))
theorem zv171_8 {d x l : Nat} {t1 : Int32} {t2 : Int32} {σ : Nat → Nat → Int32} {τ : Nat → Nat → Int64} {Q : zR → Prop} (h : ((t2 = 0 → (vp_in t1 1 ∧ Q (.inl (some (.int 0)), (49, x, l, σ, (zupL τ 48 (t1.toNatClampNeg) 0), zrho)))) ∧ (¬ (t2 = 0) → (vp_in t1 1 ∧ Q (.inl (some (.int 0)), (49, x, l, σ, (zupL τ 48 (t1.toNatClampNeg) 1), zrho)))))) :
    zRn d 171 (8, [zJ, zJ, zJ, zJ, zJ], [.int t2, .int t1, .ref 48], (49, x, l, σ, τ, zrho)) Q := zreg_ok [5, 8, 22] 9 ⟨fun c1 => ⟨(h.1 c1).1, (h.1 c1).2⟩, fun c1 => ⟨(h.2 c1).1, (h.2 c1).2⟩⟩
theorem zv171_22 {d x l : Nat}  {σ : Nat → Nat → Int32} {τ : Nat → Nat → Int64} {Q : zR → Prop} (h : Q (.inl (some (.int 1)), (49, x, l, σ, τ, zrho))) :
    zRn d 171 (22, [zJ, zJ, zJ, zJ, zJ], [], (49, x, l, σ, τ, zrho)) Q := zreg_ok [5, 8, 22] 4 h
-- 172 HeapDeskLaw.entry(LHeapDesk;IIIZ[J)I ['r0', 'i', 'i', 'i', 'i', 'r48'] cuts [12, 26]
theorem zv172_0 {d x l : Nat} {a1 : Int32} {a2 : Int32} {a3 : Int32} {a4 : Int32} {σ : Nat → Nat → Int32} {τ : Nat → Nat → Int64} {Q : zR → Prop} (h : zRn d 4 (0, [.ref 0, .int a1, .int a2, .int a3, .int a4, zJ, zJ, zJ], [], (49, x, l, σ, τ, zrho)) (zret (d + 1) 172 9 12 [zJ, zJ, zJ, zJ, zJ, zJ, zJ] [.int 0, .ref 48] Q)) :
    zRn (d + 1) 172 (0, [.ref 0, .int a1, .int a2, .int a3, .int a4, .ref 48, zJ], [], (49, x, l, σ, τ, zrho)) Q := zreg_ok [9, 12, 26] 10 (zstepV rfl rfl rfl rfl (zcallE (L' := [.ref 0, .int a1, .int a2, .int a3, .int a4, .ref 48, zJ]) h ⟨Or.inl rfl, Or.inl rfl, Or.inl rfl, Or.inl rfl, Or.inl rfl, Or.inl rfl, Or.inl rfl, trivial⟩ (fun q hq => hq)))
theorem zv172_12 {d x l : Nat} {t1 : Int32} {t2 : Int32} {σ : Nat → Nat → Int32} {τ : Nat → Nat → Int64} {Q : zR → Prop} (h : ((t2 = 0 → (vp_in t1 1 ∧ Q (.inl (some (.int 0)), (49, x, l, σ, (zupL τ 48 (t1.toNatClampNeg) 0), zrho)))) ∧ (¬ (t2 = 0) → (vp_in t1 1 ∧ Q (.inl (some (.int 0)), (49, x, l, σ, (zupL τ 48 (t1.toNatClampNeg) 1), zrho)))))) :
    zRn d 172 (12, [zJ, zJ, zJ, zJ, zJ, zJ, zJ], [.int t2, .int t1, .ref 48], (49, x, l, σ, τ, zrho)) Q := zreg_ok [9, 12, 26] 9 ⟨fun c1 => ⟨(h.1 c1).1, (h.1 c1).2⟩, fun c1 => ⟨(h.2 c1).1, (h.2 c1).2⟩⟩
theorem zv172_26 {d x l : Nat}  {σ : Nat → Nat → Int32} {τ : Nat → Nat → Int64} {Q : zR → Prop} (h : Q (.inl (some (.int 1)), (49, x, l, σ, τ, zrho))) :
    zRn d 172 (26, [zJ, zJ, zJ, zJ, zJ, zJ, zJ], [], (49, x, l, σ, τ, zrho)) Q := zreg_ok [9, 12, 26] 4 h
-- 173 HeapDeskLaw.analyse(LHeapDesk;I[J)I ['r0', 'i', 'r48'] cuts [7, 13]
theorem zv173_0 {d x l : Nat} {a1 : Int32} {σ : Nat → Nat → Int32} {τ : Nat → Nat → Int64} {Q : zR → Prop} (h : zRn d 5 (0, [.ref 0, .int a1], [], (49, x, l, σ, τ, zrho)) (zret (d + 1) 173 4 7 [zJ, zJ, zJ, zJ] [.int 0, .ref 48] Q)) :
    zRn (d + 1) 173 (0, [.ref 0, .int a1, .ref 48, zJ], [], (49, x, l, σ, τ, zrho)) Q := zreg_ok [4, 7, 13] 7 (zstepV rfl rfl rfl rfl (zcallE (L' := [.ref 0, .int a1, .ref 48, zJ]) h ⟨Or.inl rfl, Or.inl rfl, Or.inl rfl, Or.inl rfl, trivial⟩ (fun q hq => hq)))
theorem zv173_7 {d x l : Nat} {t1 : Int32} {t2 : Int32} {σ : Nat → Nat → Int32} {τ : Nat → Nat → Int64} {Q : zR → Prop} (h : (vp_in t1 1 ∧ Q (.inl (some (.int 0)), (49, x, l, σ, (zupL τ 48 (t1.toNatClampNeg) ((t2).toInt64)), zrho)))) :
    zRn d 173 (7, [zJ, zJ, zJ, zJ], [.int t2, .int t1, .ref 48], (49, x, l, σ, τ, zrho)) Q := zreg_ok [4, 7, 13] 7 ⟨h.1, h.2⟩
theorem zv173_13 {d x l : Nat}  {σ : Nat → Nat → Int32} {τ : Nat → Nat → Int64} {Q : zR → Prop} (h : Q (.inl (some (.int 1)), (49, x, l, σ, τ, zrho))) :
    zRn d 173 (13, [zJ, zJ, zJ, zJ], [], (49, x, l, σ, τ, zrho)) Q := zreg_ok [4, 7, 13] 4 h
-- 174 HeapDeskLaw.nimber(LHeapDesk;I[J)I ['r0', 'i', 'r48'] cuts [7, 13]
theorem zv174_0 {d x l : Nat} {a1 : Int32} {σ : Nat → Nat → Int32} {τ : Nat → Nat → Int64} {Q : zR → Prop} (h : zRn d 6 (0, [.ref 0, .int a1], [], (49, x, l, σ, τ, zrho)) (zret (d + 1) 174 4 7 [zJ, zJ, zJ, zJ] [.int 0, .ref 48] Q)) :
    zRn (d + 1) 174 (0, [.ref 0, .int a1, .ref 48, zJ], [], (49, x, l, σ, τ, zrho)) Q := zreg_ok [4, 7, 13] 7 (zstepV rfl rfl rfl rfl (zcallE (L' := [.ref 0, .int a1, .ref 48, zJ]) h ⟨Or.inl rfl, Or.inl rfl, Or.inl rfl, Or.inl rfl, trivial⟩ (fun q hq => hq)))
theorem zv174_7 {d x l : Nat} {t1 : Int32} {t2 : Int32} {σ : Nat → Nat → Int32} {τ : Nat → Nat → Int64} {Q : zR → Prop} (h : (vp_in t1 1 ∧ Q (.inl (some (.int 0)), (49, x, l, σ, (zupL τ 48 (t1.toNatClampNeg) ((t2).toInt64)), zrho)))) :
    zRn d 174 (7, [zJ, zJ, zJ, zJ], [.int t2, .int t1, .ref 48], (49, x, l, σ, τ, zrho)) Q := zreg_ok [4, 7, 13] 7 ⟨h.1, h.2⟩
theorem zv174_13 {d x l : Nat}  {σ : Nat → Nat → Int32} {τ : Nat → Nat → Int64} {Q : zR → Prop} (h : Q (.inl (some (.int 1)), (49, x, l, σ, τ, zrho))) :
    zRn d 174 (13, [zJ, zJ, zJ, zJ], [], (49, x, l, σ, τ, zrho)) Q := zreg_ok [4, 7, 13] 4 h
-- 175 HeapDeskLaw.period(LHeapDesk;I[J)I ['r0', 'i', 'r48'] cuts [7, 13]
theorem zv175_0 {d x l : Nat} {a1 : Int32} {σ : Nat → Nat → Int32} {τ : Nat → Nat → Int64} {Q : zR → Prop} (h : zRn d 8 (0, [.ref 0, .int a1], [], (49, x, l, σ, τ, zrho)) (zret (d + 1) 175 4 7 [zJ, zJ, zJ, zJ] [.int 0, .ref 48] Q)) :
    zRn (d + 1) 175 (0, [.ref 0, .int a1, .ref 48, zJ], [], (49, x, l, σ, τ, zrho)) Q := zreg_ok [4, 7, 13] 7 (zstepV rfl rfl rfl rfl (zcallE (L' := [.ref 0, .int a1, .ref 48, zJ]) h ⟨Or.inl rfl, Or.inl rfl, Or.inl rfl, Or.inl rfl, trivial⟩ (fun q hq => hq)))
theorem zv175_7 {d x l : Nat} {t1 : Int32} {t2 : Int32} {σ : Nat → Nat → Int32} {τ : Nat → Nat → Int64} {Q : zR → Prop} (h : (vp_in t1 1 ∧ Q (.inl (some (.int 0)), (49, x, l, σ, (zupL τ 48 (t1.toNatClampNeg) ((t2).toInt64)), zrho)))) :
    zRn d 175 (7, [zJ, zJ, zJ, zJ], [.int t2, .int t1, .ref 48], (49, x, l, σ, τ, zrho)) Q := zreg_ok [4, 7, 13] 7 ⟨h.1, h.2⟩
theorem zv175_13 {d x l : Nat}  {σ : Nat → Nat → Int32} {τ : Nat → Nat → Int64} {Q : zR → Prop} (h : Q (.inl (some (.int 1)), (49, x, l, σ, τ, zrho))) :
    zRn d 175 (13, [zJ, zJ, zJ, zJ], [], (49, x, l, σ, τ, zrho)) Q := zreg_ok [4, 7, 13] 4 h
-- 176 HeapDeskLaw.options(LHeapDesk;I[J)I ['r0', 'i', 'r48'] cuts [7, 13]
theorem zv176_0 {d x l : Nat} {a1 : Int32} {σ : Nat → Nat → Int32} {τ : Nat → Nat → Int64} {Q : zR → Prop} (h : zRn d 9 (0, [.ref 0, .int a1], [], (49, x, l, σ, τ, zrho)) (zret (d + 1) 176 4 7 [zJ, zJ, zJ, zJ] [.int 0, .ref 48] Q)) :
    zRn (d + 1) 176 (0, [.ref 0, .int a1, .ref 48, zJ], [], (49, x, l, σ, τ, zrho)) Q := zreg_ok [4, 7, 13] 7 (zstepV rfl rfl rfl rfl (zcallE (L' := [.ref 0, .int a1, .ref 48, zJ]) h ⟨Or.inl rfl, Or.inl rfl, Or.inl rfl, Or.inl rfl, trivial⟩ (fun q hq => hq)))
theorem zv176_7 {d x l : Nat} {t1 : Int32} {t2 : Int32} {σ : Nat → Nat → Int32} {τ : Nat → Nat → Int64} {Q : zR → Prop} (h : (vp_in t1 1 ∧ Q (.inl (some (.int 0)), (49, x, l, σ, (zupL τ 48 (t1.toNatClampNeg) ((t2).toInt64)), zrho)))) :
    zRn d 176 (7, [zJ, zJ, zJ, zJ], [.int t2, .int t1, .ref 48], (49, x, l, σ, τ, zrho)) Q := zreg_ok [4, 7, 13] 7 ⟨h.1, h.2⟩
theorem zv176_13 {d x l : Nat}  {σ : Nat → Nat → Int32} {τ : Nat → Nat → Int64} {Q : zR → Prop} (h : Q (.inl (some (.int 1)), (49, x, l, σ, τ, zrho))) :
    zRn d 176 (13, [zJ, zJ, zJ, zJ], [], (49, x, l, σ, τ, zrho)) Q := zreg_ok [4, 7, 13] 4 h
-- 177 HeapDeskLaw.option(LHeapDesk;III[J)I ['r0', 'i', 'i', 'i', 'r48'] cuts [10, 17, 21]
theorem zv177_0 {d x l : Nat} {a1 : Int32} {a2 : Int32} {a3 : Int32} {σ : Nat → Nat → Int32} {τ : Nat → Nat → Int64} {Q : zR → Prop} (h : zRn d 10 (0, [.ref 0, .int a1, .int a2, .int a3], [], (49, x, l, σ, τ, zrho)) (zret (d + 1) 177 7 10 [zJ, zJ, zJ, zJ, zJ, zJ] [.int 0, .ref 48] Q)) :
    zRn (d + 1) 177 (0, [.ref 0, .int a1, .int a2, .int a3, .ref 48, zJ], [], (49, x, l, σ, τ, zrho)) Q := zreg_ok [7, 10, 17, 21] 9 (zstepV rfl rfl rfl rfl (zcallE (L' := [.ref 0, .int a1, .int a2, .int a3, .ref 48, zJ]) h ⟨Or.inl rfl, Or.inl rfl, Or.inl rfl, Or.inl rfl, Or.inl rfl, Or.inl rfl, trivial⟩ (fun q hq => hq)))
theorem zv177_10 {d x l : Nat} {t1 : Int32} {t2 : Int32} {σ : Nat → Nat → Int32} {τ : Nat → Nat → Int64} {Q : zR → Prop} (h : (vp_in t1 1 ∧ Q (.inl (some (.int 0)), (49, x, l, σ, (zupL τ 48 (t1.toNatClampNeg) ((t2).toInt64)), zrho)))) :
    zRn d 177 (10, [zJ, zJ, zJ, zJ, zJ, zJ], [.int t2, .int t1, .ref 48], (49, x, l, σ, τ, zrho)) Q := zreg_ok [7, 10, 17, 21] 7 ⟨h.1, h.2⟩
theorem zv177_17 {d x l : Nat}  {σ : Nat → Nat → Int32} {τ : Nat → Nat → Int64} {Q : zR → Prop} (h : Q (.inl (some (.int 1)), (49, x, l, σ, τ, zrho))) :
    zRn d 177 (17, [zJ, zJ, zJ, zJ, zJ, zJ], [], (49, x, l, σ, τ, zrho)) Q := zreg_ok [7, 10, 17, 21] 4 h
theorem zv177_21 {d x l : Nat}  {σ : Nat → Nat → Int32} {τ : Nat → Nat → Int64} {Q : zR → Prop} (h : Q (.inl (some (.int 2)), (49, x, l, σ, τ, zrho))) :
    zRn d 177 (21, [zJ, zJ, zJ, zJ, zJ, zJ], [], (49, x, l, σ, τ, zrho)) Q := zreg_ok [7, 10, 17, 21] 4 h
-- 178 HeapDeskLaw.heap(LHeapDesk;II[J)I ['r0', 'i', 'i', 'r48'] cuts [8, 15, 19]
theorem zv178_0 {d x l : Nat} {a1 : Int32} {a2 : Int32} {σ : Nat → Nat → Int32} {τ : Nat → Nat → Int64} {Q : zR → Prop} (h : zRn d 11 (0, [.ref 0, .int a1, .int a2, zJ], [], (49, x, l, σ, τ, zrho)) (zret (d + 1) 178 5 8 [zJ, zJ, zJ, zJ, zJ] [.int 0, .ref 48] Q)) :
    zRn (d + 1) 178 (0, [.ref 0, .int a1, .int a2, .ref 48, zJ], [], (49, x, l, σ, τ, zrho)) Q := zreg_ok [5, 8, 15, 19] 8 (zstepV rfl rfl rfl rfl (zcallE (L' := [.ref 0, .int a1, .int a2, .ref 48, zJ]) h ⟨Or.inl rfl, Or.inl rfl, Or.inl rfl, Or.inl rfl, Or.inl rfl, trivial⟩ (fun q hq => hq)))
theorem zv178_8 {d x l : Nat} {t1 : Int32} {t2 : Int32} {σ : Nat → Nat → Int32} {τ : Nat → Nat → Int64} {Q : zR → Prop} (h : (vp_in t1 1 ∧ Q (.inl (some (.int 0)), (49, x, l, σ, (zupL τ 48 (t1.toNatClampNeg) ((t2).toInt64)), zrho)))) :
    zRn d 178 (8, [zJ, zJ, zJ, zJ, zJ], [.int t2, .int t1, .ref 48], (49, x, l, σ, τ, zrho)) Q := zreg_ok [5, 8, 15, 19] 7 ⟨h.1, h.2⟩
theorem zv178_15 {d x l : Nat}  {σ : Nat → Nat → Int32} {τ : Nat → Nat → Int64} {Q : zR → Prop} (h : Q (.inl (some (.int 1)), (49, x, l, σ, τ, zrho))) :
    zRn d 178 (15, [zJ, zJ, zJ, zJ, zJ], [], (49, x, l, σ, τ, zrho)) Q := zreg_ok [5, 8, 15, 19] 4 h
theorem zv178_19 {d x l : Nat}  {σ : Nat → Nat → Int32} {τ : Nat → Nat → Int64} {Q : zR → Prop} (h : Q (.inl (some (.int 2)), (49, x, l, σ, τ, zrho))) :
    zRn d 178 (19, [zJ, zJ, zJ, zJ, zJ], [], (49, x, l, σ, τ, zrho)) Q := zreg_ok [5, 8, 15, 19] 4 h
-- 179 HeapDeskLaw.at(LHeapDesk;I[J)I ['r0', 'i', 'r48'] cuts [7, 13]
theorem zv179_0 {d x l : Nat} {a1 : Int32} {σ : Nat → Nat → Int32} {τ : Nat → Nat → Int64} {Q : zR → Prop} (h : zRn d 12 (0, [.ref 0, .int a1], [], (49, x, l, σ, τ, zrho)) (zret (d + 1) 179 4 7 [zJ, zJ, zJ, zJ] [.int 0, .ref 48] Q)) :
    zRn (d + 1) 179 (0, [.ref 0, .int a1, .ref 48, zJ], [], (49, x, l, σ, τ, zrho)) Q := zreg_ok [4, 7, 13] 7 (zstepV rfl rfl rfl rfl (zcallE (L' := [.ref 0, .int a1, .ref 48, zJ]) h ⟨Or.inl rfl, Or.inl rfl, Or.inl rfl, Or.inl rfl, trivial⟩ (fun q hq => hq)))
theorem zv179_7 {d x l : Nat} {t1 : Int32} {t2 : Int32} {σ : Nat → Nat → Int32} {τ : Nat → Nat → Int64} {Q : zR → Prop} (h : (vp_in t1 1 ∧ Q (.inl (some (.int 0)), (49, x, l, σ, (zupL τ 48 (t1.toNatClampNeg) ((t2).toInt64)), zrho)))) :
    zRn d 179 (7, [zJ, zJ, zJ, zJ], [.int t2, .int t1, .ref 48], (49, x, l, σ, τ, zrho)) Q := zreg_ok [4, 7, 13] 7 ⟨h.1, h.2⟩
theorem zv179_13 {d x l : Nat}  {σ : Nat → Nat → Int32} {τ : Nat → Nat → Int64} {Q : zR → Prop} (h : Q (.inl (some (.int 1)), (49, x, l, σ, τ, zrho))) :
    zRn d 179 (13, [zJ, zJ, zJ, zJ], [], (49, x, l, σ, τ, zrho)) Q := zreg_ok [4, 7, 13] 4 h
-- 180 HeapDeskLaw.moves(LHeapDesk;[J)I ['r0', 'r48'] cuts [6, 12]
theorem zv180_0 {d x l : Nat}  {σ : Nat → Nat → Int32} {τ : Nat → Nat → Int64} {Q : zR → Prop} (h : zRn d 13 (0, [.ref 0, zJ, zJ], [], (49, x, l, σ, τ, zrho)) (zret (d + 1) 180 3 6 [zJ, zJ, zJ] [.int 0, .ref 48] Q)) :
    zRn (d + 1) 180 (0, [.ref 0, .ref 48, zJ], [], (49, x, l, σ, τ, zrho)) Q := zreg_ok [3, 6, 12] 6 (zstepV rfl rfl rfl rfl (zcallE (L' := [.ref 0, .ref 48, zJ]) h ⟨Or.inl rfl, Or.inl rfl, Or.inl rfl, trivial⟩ (fun q hq => hq)))
theorem zv180_6 {d x l : Nat} {t1 : Int32} {t2 : Int32} {σ : Nat → Nat → Int32} {τ : Nat → Nat → Int64} {Q : zR → Prop} (h : (vp_in t1 1 ∧ Q (.inl (some (.int 0)), (49, x, l, σ, (zupL τ 48 (t1.toNatClampNeg) ((t2).toInt64)), zrho)))) :
    zRn d 180 (6, [zJ, zJ, zJ], [.int t2, .int t1, .ref 48], (49, x, l, σ, τ, zrho)) Q := zreg_ok [3, 6, 12] 7 ⟨h.1, h.2⟩
theorem zv180_12 {d x l : Nat}  {σ : Nat → Nat → Int32} {τ : Nat → Nat → Int64} {Q : zR → Prop} (h : Q (.inl (some (.int 1)), (49, x, l, σ, τ, zrho))) :
    zRn d 180 (12, [zJ, zJ, zJ], [], (49, x, l, σ, τ, zrho)) Q := zreg_ok [3, 6, 12] 4 h
-- 181 HeapDeskLaw.move(LHeapDesk;II[J)I ['r0', 'i', 'i', 'r48'] cuts [8, 15, 19]
theorem zv181_0 {d x l : Nat} {a1 : Int32} {a2 : Int32} {σ : Nat → Nat → Int32} {τ : Nat → Nat → Int64} {Q : zR → Prop} (h : zRn d 14 (0, [.ref 0, .int a1, .int a2], [], (49, x, l, σ, τ, zrho)) (zret (d + 1) 181 5 8 [zJ, zJ, zJ, zJ, zJ] [.int 0, .ref 48] Q)) :
    zRn (d + 1) 181 (0, [.ref 0, .int a1, .int a2, .ref 48, zJ], [], (49, x, l, σ, τ, zrho)) Q := zreg_ok [5, 8, 15, 19] 8 (zstepV rfl rfl rfl rfl (zcallE (L' := [.ref 0, .int a1, .int a2, .ref 48, zJ]) h ⟨Or.inl rfl, Or.inl rfl, Or.inl rfl, Or.inl rfl, Or.inl rfl, trivial⟩ (fun q hq => hq)))
theorem zv181_8 {d x l : Nat} {t1 : Int32} {t2 : Int32} {σ : Nat → Nat → Int32} {τ : Nat → Nat → Int64} {Q : zR → Prop} (h : (vp_in t1 1 ∧ Q (.inl (some (.int 0)), (49, x, l, σ, (zupL τ 48 (t1.toNatClampNeg) ((t2).toInt64)), zrho)))) :
    zRn d 181 (8, [zJ, zJ, zJ, zJ, zJ], [.int t2, .int t1, .ref 48], (49, x, l, σ, τ, zrho)) Q := zreg_ok [5, 8, 15, 19] 7 ⟨h.1, h.2⟩
theorem zv181_15 {d x l : Nat}  {σ : Nat → Nat → Int32} {τ : Nat → Nat → Int64} {Q : zR → Prop} (h : Q (.inl (some (.int 1)), (49, x, l, σ, τ, zrho))) :
    zRn d 181 (15, [zJ, zJ, zJ, zJ, zJ], [], (49, x, l, σ, τ, zrho)) Q := zreg_ok [5, 8, 15, 19] 4 h
theorem zv181_19 {d x l : Nat}  {σ : Nat → Nat → Int32} {τ : Nat → Nat → Int64} {Q : zR → Prop} (h : Q (.inl (some (.int 2)), (49, x, l, σ, τ, zrho))) :
    zRn d 181 (19, [zJ, zJ, zJ, zJ, zJ], [], (49, x, l, σ, τ, zrho)) Q := zreg_ok [5, 8, 15, 19] 4 h
-- 182 HeapDeskLaw.play(LHeapDesk;I[J)I ['r0', 'i', 'r48'] cuts [7, 13, 16, 19]
theorem zv182_0 {d x l : Nat} {a1 : Int32} {σ : Nat → Nat → Int32} {τ : Nat → Nat → Int64} {Q : zR → Prop} (h : zRn d 15 (0, [.ref 0, .int a1], [], (49, x, l, σ, τ, zrho)) (zret (d + 1) 182 4 7 [zJ, zJ, zJ, zJ] [.int 0, .ref 48] Q)) :
    zRn (d + 1) 182 (0, [.ref 0, .int a1, .ref 48, zJ], [], (49, x, l, σ, τ, zrho)) Q := zreg_ok [4, 7, 13, 16, 19] 7 (zstepV rfl rfl rfl rfl (zcallE (L' := [.ref 0, .int a1, .ref 48, zJ]) h ⟨Or.inl rfl, Or.inl rfl, Or.inl rfl, Or.inl rfl, trivial⟩ (fun q hq => hq)))
theorem zv182_7 {d x l : Nat} {t1 : Int32} {t2 : Int32} {σ : Nat → Nat → Int32} {τ : Nat → Nat → Int64} {Q : zR → Prop} (h : (vp_in t1 1 ∧ Q (.inl (some (.int 0)), (49, x, l, σ, (zupL τ 48 (t1.toNatClampNeg) ((t2).toInt64)), zrho)))) :
    zRn d 182 (7, [zJ, zJ, zJ, zJ], [.int t2, .int t1, .ref 48], (49, x, l, σ, τ, zrho)) Q := zreg_ok [4, 7, 13, 16, 19] 7 ⟨h.1, h.2⟩
theorem zv182_13 {d x l : Nat}  {σ : Nat → Nat → Int32} {τ : Nat → Nat → Int64} {Q : zR → Prop} (h : Q (.inl (some (.int 1)), (49, x, l, σ, τ, zrho))) :
    zRn d 182 (13, [zJ, zJ, zJ, zJ], [], (49, x, l, σ, τ, zrho)) Q := zreg_ok [4, 7, 13, 16, 19] 4 h
theorem zv182_16 {d x l : Nat}  {σ : Nat → Nat → Int32} {τ : Nat → Nat → Int64} {Q : zR → Prop} (h : Q (.inl (some (.int 2)), (49, x, l, σ, τ, zrho))) :
    zRn d 182 (16, [zJ, zJ, zJ, zJ], [], (49, x, l, σ, τ, zrho)) Q := zreg_ok [4, 7, 13, 16, 19] 4 h
theorem zv182_19 {d x l : Nat}  {σ : Nat → Nat → Int32} {τ : Nat → Nat → Int64} {Q : zR → Prop} (h : Q (.inl (some (.int 3)), (49, x, l, σ, τ, zrho))) :
    zRn d 182 (19, [zJ, zJ, zJ, zJ], [], (49, x, l, σ, τ, zrho)) Q := zreg_ok [4, 7, 13, 16, 19] 4 h
-- 183 HeapDeskLaw.wins(LHeapDesk;I[J)I ['r0', 'i', 'r48'] cuts [7, 20, 23, 26]
theorem zv183_0 {d x l : Nat} {a1 : Int32} {σ : Nat → Nat → Int32} {τ : Nat → Nat → Int64} {Q : zR → Prop} (h : zRn d 16 (0, [.ref 0, .int a1, zJ, zJ], [], (49, x, l, σ, τ, zrho)) (zret (d + 1) 183 4 7 [zJ, zJ, zJ, zJ] [.int 0, .ref 48] Q)) :
    zRn (d + 1) 183 (0, [.ref 0, .int a1, .ref 48, zJ], [], (49, x, l, σ, τ, zrho)) Q := zreg_ok [4, 7, 20, 23, 26] 7 (zstepV rfl rfl rfl rfl (zcallE (L' := [.ref 0, .int a1, .ref 48, zJ]) h ⟨Or.inl rfl, Or.inl rfl, Or.inl rfl, Or.inl rfl, trivial⟩ (fun q hq => hq)))
theorem zv183_7 {d x l : Nat} {t1 : Int32} {t2 : Int32} {σ : Nat → Nat → Int32} {τ : Nat → Nat → Int64} {Q : zR → Prop} (h : ((t2 = 0 → (vp_in t1 1 ∧ Q (.inl (some (.int 0)), (49, x, l, σ, (zupL τ 48 (t1.toNatClampNeg) 0), zrho)))) ∧ (¬ (t2 = 0) → (vp_in t1 1 ∧ Q (.inl (some (.int 0)), (49, x, l, σ, (zupL τ 48 (t1.toNatClampNeg) 1), zrho)))))) :
    zRn d 183 (7, [zJ, zJ, zJ, zJ], [.int t2, .int t1, .ref 48], (49, x, l, σ, τ, zrho)) Q := zreg_ok [4, 7, 20, 23, 26] 9 ⟨fun c1 => ⟨(h.1 c1).1, (h.1 c1).2⟩, fun c1 => ⟨(h.2 c1).1, (h.2 c1).2⟩⟩
theorem zv183_20 {d x l : Nat}  {σ : Nat → Nat → Int32} {τ : Nat → Nat → Int64} {Q : zR → Prop} (h : Q (.inl (some (.int 1)), (49, x, l, σ, τ, zrho))) :
    zRn d 183 (20, [zJ, zJ, zJ, zJ], [], (49, x, l, σ, τ, zrho)) Q := zreg_ok [4, 7, 20, 23, 26] 4 h
theorem zv183_23 {d x l : Nat}  {σ : Nat → Nat → Int32} {τ : Nat → Nat → Int64} {Q : zR → Prop} (h : Q (.inl (some (.int 2)), (49, x, l, σ, τ, zrho))) :
    zRn d 183 (23, [zJ, zJ, zJ, zJ], [], (49, x, l, σ, τ, zrho)) Q := zreg_ok [4, 7, 20, 23, 26] 4 h
theorem zv183_26 {d x l : Nat}  {σ : Nat → Nat → Int32} {τ : Nat → Nat → Int64} {Q : zR → Prop} (h : Q (.inl (some (.int 3)), (49, x, l, σ, τ, zrho))) :
    zRn d 183 (26, [zJ, zJ, zJ, zJ], [], (49, x, l, σ, τ, zrho)) Q := zreg_ok [4, 7, 20, 23, 26] 4 h
-- 184 HeapDeskLaw.undo(LHeapDesk;[J)I ['r0', 'r48'] cuts [6, 12]
theorem zv184_0 {d x l : Nat}  {σ : Nat → Nat → Int32} {τ : Nat → Nat → Int64} {Q : zR → Prop} (h : zRn d 17 (0, [.ref 0], [], (49, x, l, σ, τ, zrho)) (zret (d + 1) 184 3 6 [zJ, zJ, zJ] [.int 0, .ref 48] Q)) :
    zRn (d + 1) 184 (0, [.ref 0, .ref 48, zJ], [], (49, x, l, σ, τ, zrho)) Q := zreg_ok [3, 6, 12] 6 (zstepV rfl rfl rfl rfl (zcallE (L' := [.ref 0, .ref 48, zJ]) h ⟨Or.inl rfl, Or.inl rfl, Or.inl rfl, trivial⟩ (fun q hq => hq)))
theorem zv184_6 {d x l : Nat} {t1 : Int32} {t2 : Int32} {σ : Nat → Nat → Int32} {τ : Nat → Nat → Int64} {Q : zR → Prop} (h : (vp_in t1 1 ∧ Q (.inl (some (.int 0)), (49, x, l, σ, (zupL τ 48 (t1.toNatClampNeg) ((t2).toInt64)), zrho)))) :
    zRn d 184 (6, [zJ, zJ, zJ], [.int t2, .int t1, .ref 48], (49, x, l, σ, τ, zrho)) Q := zreg_ok [3, 6, 12] 7 ⟨h.1, h.2⟩
theorem zv184_12 {d x l : Nat}  {σ : Nat → Nat → Int32} {τ : Nat → Nat → Int64} {Q : zR → Prop} (h : Q (.inl (some (.int 1)), (49, x, l, σ, τ, zrho))) :
    zRn d 184 (12, [zJ, zJ, zJ], [], (49, x, l, σ, τ, zrho)) Q := zreg_ok [3, 6, 12] 4 h
-- 185 HeapDeskLaw.value(LHeapDesk;[J)I ['r0', 'r48'] cuts [6, 12]
theorem zv185_0 {d x l : Nat}  {σ : Nat → Nat → Int32} {τ : Nat → Nat → Int64} {Q : zR → Prop} (h : zRn d 18 (0, [.ref 0], [], (49, x, l, σ, τ, zrho)) (zret (d + 1) 185 3 6 [zJ, zJ, zJ] [.int 0, .ref 48] Q)) :
    zRn (d + 1) 185 (0, [.ref 0, .ref 48, zJ], [], (49, x, l, σ, τ, zrho)) Q := zreg_ok [3, 6, 12] 6 (zstepV rfl rfl rfl rfl (zcallE (L' := [.ref 0, .ref 48, zJ]) h ⟨Or.inl rfl, Or.inl rfl, Or.inl rfl, trivial⟩ (fun q hq => hq)))
theorem zv185_6 {d x l : Nat} {t1 : Int32} {t2 : Int32} {σ : Nat → Nat → Int32} {τ : Nat → Nat → Int64} {Q : zR → Prop} (h : (vp_in t1 1 ∧ Q (.inl (some (.int 0)), (49, x, l, σ, (zupL τ 48 (t1.toNatClampNeg) ((t2).toInt64)), zrho)))) :
    zRn d 185 (6, [zJ, zJ, zJ], [.int t2, .int t1, .ref 48], (49, x, l, σ, τ, zrho)) Q := zreg_ok [3, 6, 12] 7 ⟨h.1, h.2⟩
theorem zv185_12 {d x l : Nat}  {σ : Nat → Nat → Int32} {τ : Nat → Nat → Int64} {Q : zR → Prop} (h : Q (.inl (some (.int 1)), (49, x, l, σ, τ, zrho))) :
    zRn d 185 (12, [zJ, zJ, zJ], [], (49, x, l, σ, τ, zrho)) Q := zreg_ok [3, 6, 12] 4 h
-- 186 HeapDeskLaw.lastLoses(LHeapDesk;[J)I ['r0', 'r48'] cuts [6, 19]
theorem zv186_0 {d x l : Nat}  {σ : Nat → Nat → Int32} {τ : Nat → Nat → Int64} {Q : zR → Prop} (h : zRn d 19 (0, [.ref 0, zJ], [], (49, x, l, σ, τ, zrho)) (zret (d + 1) 186 3 6 [zJ, zJ, zJ] [.int 0, .ref 48] Q)) :
    zRn (d + 1) 186 (0, [.ref 0, .ref 48, zJ], [], (49, x, l, σ, τ, zrho)) Q := zreg_ok [3, 6, 19] 6 (zstepV rfl rfl rfl rfl (zcallE (L' := [.ref 0, .ref 48, zJ]) h ⟨Or.inl rfl, Or.inl rfl, Or.inl rfl, trivial⟩ (fun q hq => hq)))
theorem zv186_6 {d x l : Nat} {t1 : Int32} {t2 : Int32} {σ : Nat → Nat → Int32} {τ : Nat → Nat → Int64} {Q : zR → Prop} (h : ((t2 = 0 → (vp_in t1 1 ∧ Q (.inl (some (.int 0)), (49, x, l, σ, (zupL τ 48 (t1.toNatClampNeg) 0), zrho)))) ∧ (¬ (t2 = 0) → (vp_in t1 1 ∧ Q (.inl (some (.int 0)), (49, x, l, σ, (zupL τ 48 (t1.toNatClampNeg) 1), zrho)))))) :
    zRn d 186 (6, [zJ, zJ, zJ], [.int t2, .int t1, .ref 48], (49, x, l, σ, τ, zrho)) Q := zreg_ok [3, 6, 19] 9 ⟨fun c1 => ⟨(h.1 c1).1, (h.1 c1).2⟩, fun c1 => ⟨(h.2 c1).1, (h.2 c1).2⟩⟩
theorem zv186_19 {d x l : Nat}  {σ : Nat → Nat → Int32} {τ : Nat → Nat → Int64} {Q : zR → Prop} (h : Q (.inl (some (.int 1)), (49, x, l, σ, τ, zrho))) :
    zRn d 186 (19, [zJ, zJ, zJ], [], (49, x, l, σ, τ, zrho)) Q := zreg_ok [3, 6, 19] 4 h
-- 187 HeapDeskLaw.quotient(LHeapDesk;I[J)I ['r0', 'i', 'r48'] cuts [7, 13]
theorem zv187_0 {d x l : Nat} {a1 : Int32} {σ : Nat → Nat → Int32} {τ : Nat → Nat → Int64} {Q : zR → Prop} (h : zRn d 20 (0, [.ref 0, .int a1], [], (49, x, l, σ, τ, zrho)) (zret (d + 1) 187 4 7 [zJ, zJ, zJ, zJ] [.int 0, .ref 48] Q)) :
    zRn (d + 1) 187 (0, [.ref 0, .int a1, .ref 48, zJ], [], (49, x, l, σ, τ, zrho)) Q := zreg_ok [4, 7, 13] 7 (zstepV rfl rfl rfl rfl (zcallE (L' := [.ref 0, .int a1, .ref 48, zJ]) h ⟨Or.inl rfl, Or.inl rfl, Or.inl rfl, Or.inl rfl, trivial⟩ (fun q hq => hq)))
theorem zv187_7 {d x l : Nat} {t1 : Int32} {t2 : Int32} {σ : Nat → Nat → Int32} {τ : Nat → Nat → Int64} {Q : zR → Prop} (h : (vp_in t1 1 ∧ Q (.inl (some (.int 0)), (49, x, l, σ, (zupL τ 48 (t1.toNatClampNeg) ((t2).toInt64)), zrho)))) :
    zRn d 187 (7, [zJ, zJ, zJ, zJ], [.int t2, .int t1, .ref 48], (49, x, l, σ, τ, zrho)) Q := zreg_ok [4, 7, 13] 7 ⟨h.1, h.2⟩
theorem zv187_13 {d x l : Nat}  {σ : Nat → Nat → Int32} {τ : Nat → Nat → Int64} {Q : zR → Prop} (h : Q (.inl (some (.int 1)), (49, x, l, σ, τ, zrho))) :
    zRn d 187 (13, [zJ, zJ, zJ, zJ], [], (49, x, l, σ, τ, zrho)) Q := zreg_ok [4, 7, 13] 4 h
-- 188 HeapDeskLaw.classOf(LHeapDesk;[J)I ['r0', 'r48'] cuts [6, 12, 15]
theorem zv188_0 {d x l : Nat}  {σ : Nat → Nat → Int32} {τ : Nat → Nat → Int64} {Q : zR → Prop} (h : zRn d 21 (0, [.ref 0, zJ], [], (49, x, l, σ, τ, zrho)) (zret (d + 1) 188 3 6 [zJ, zJ, zJ] [.int 0, .ref 48] Q)) :
    zRn (d + 1) 188 (0, [.ref 0, .ref 48, zJ], [], (49, x, l, σ, τ, zrho)) Q := zreg_ok [3, 6, 12, 15] 6 (zstepV rfl rfl rfl rfl (zcallE (L' := [.ref 0, .ref 48, zJ]) h ⟨Or.inl rfl, Or.inl rfl, Or.inl rfl, trivial⟩ (fun q hq => hq)))
theorem zv188_6 {d x l : Nat} {t1 : Int32} {t2 : Int32} {σ : Nat → Nat → Int32} {τ : Nat → Nat → Int64} {Q : zR → Prop} (h : (vp_in t1 1 ∧ Q (.inl (some (.int 0)), (49, x, l, σ, (zupL τ 48 (t1.toNatClampNeg) ((t2).toInt64)), zrho)))) :
    zRn d 188 (6, [zJ, zJ, zJ], [.int t2, .int t1, .ref 48], (49, x, l, σ, τ, zrho)) Q := zreg_ok [3, 6, 12, 15] 7 ⟨h.1, h.2⟩
theorem zv188_12 {d x l : Nat}  {σ : Nat → Nat → Int32} {τ : Nat → Nat → Int64} {Q : zR → Prop} (h : Q (.inl (some (.int 1)), (49, x, l, σ, τ, zrho))) :
    zRn d 188 (12, [zJ, zJ, zJ], [], (49, x, l, σ, τ, zrho)) Q := zreg_ok [3, 6, 12, 15] 4 h
theorem zv188_15 {d x l : Nat}  {σ : Nat → Nat → Int32} {τ : Nat → Nat → Int64} {Q : zR → Prop} (h : Q (.inl (some (.int 2)), (49, x, l, σ, τ, zrho))) :
    zRn d 188 (15, [zJ, zJ, zJ], [], (49, x, l, σ, τ, zrho)) Q := zreg_ok [3, 6, 12, 15] 4 h
-- 189 HeapDeskLaw.ofClass(LHeapDesk;II[J)I ['r0', 'i', 'i', 'r48'] cuts [8, 15, 19]
theorem zv189_0 {d x l : Nat} {a1 : Int32} {a2 : Int32} {σ : Nat → Nat → Int32} {τ : Nat → Nat → Int64} {Q : zR → Prop} (h : zRn d 22 (0, [.ref 0, .int a1, .int a2], [], (49, x, l, σ, τ, zrho)) (zret (d + 1) 189 5 8 [zJ, zJ, zJ, zJ, zJ] [.int 0, .ref 48] Q)) :
    zRn (d + 1) 189 (0, [.ref 0, .int a1, .int a2, .ref 48, zJ], [], (49, x, l, σ, τ, zrho)) Q := zreg_ok [5, 8, 15, 19] 8 (zstepV rfl rfl rfl rfl (zcallE (L' := [.ref 0, .int a1, .int a2, .ref 48, zJ]) h ⟨Or.inl rfl, Or.inl rfl, Or.inl rfl, Or.inl rfl, Or.inl rfl, trivial⟩ (fun q hq => hq)))
theorem zv189_8 {d x l : Nat} {t1 : Int32} {t2 : Int32} {σ : Nat → Nat → Int32} {τ : Nat → Nat → Int64} {Q : zR → Prop} (h : (vp_in t1 1 ∧ Q (.inl (some (.int 0)), (49, x, l, σ, (zupL τ 48 (t1.toNatClampNeg) ((t2).toInt64)), zrho)))) :
    zRn d 189 (8, [zJ, zJ, zJ, zJ, zJ], [.int t2, .int t1, .ref 48], (49, x, l, σ, τ, zrho)) Q := zreg_ok [5, 8, 15, 19] 7 ⟨h.1, h.2⟩
theorem zv189_15 {d x l : Nat}  {σ : Nat → Nat → Int32} {τ : Nat → Nat → Int64} {Q : zR → Prop} (h : Q (.inl (some (.int 1)), (49, x, l, σ, τ, zrho))) :
    zRn d 189 (15, [zJ, zJ, zJ, zJ, zJ], [], (49, x, l, σ, τ, zrho)) Q := zreg_ok [5, 8, 15, 19] 4 h
theorem zv189_19 {d x l : Nat}  {σ : Nat → Nat → Int32} {τ : Nat → Nat → Int64} {Q : zR → Prop} (h : Q (.inl (some (.int 2)), (49, x, l, σ, τ, zrho))) :
    zRn d 189 (19, [zJ, zJ, zJ, zJ, zJ], [], (49, x, l, σ, τ, zrho)) Q := zreg_ok [5, 8, 15, 19] 4 h
