/-! the small machine is sound -/
section ZSD
variable {p : Program} {l : Launch} {e : Env} {R : Room} {s : State} {m : MethodId} {args : Array Value} {below : List Frame} {meth : Method} {c : Code} {H : Heap} {locs : List Loc} {cells slots : Nat} {Q : zR → Prop}
variable {D : va_G} {cs : zCs} {s0 : State} {b L : Nat} {xs : Nat → Int32} {S S0 : zS} {d i pc npc r1 r2 : Nat} {v : Value} {ls : Array Slot} {st Lv : List Value}
theorem W.imp {P P' : State → Prop} {g : JFrame} (h : ∀ t, P t → P' t) (k : W p l e R s m args below meth c H locs cells slots P g) : W p l e R s m args below meth c H locs cells slots P' g := by
  intro T hT X
  obtain ⟨t, a, b⟩ := k T hT X
  exact ⟨t, a, h t b⟩
theorem zrel_upd {S' : zS} {H1 : Heap} {locs1 : List Loc} (hrel0 : zRel D cs s0.heap b L xs S0 s.heap) (hvs : va_S (zA2 s0.heap.size) s.heap H1 locs1) (hP : va_P D zcl (zws s0.heap.size b cs S') H1) (h1 : S'.2.2.1 = L) (h2 : S'.2.2.2.1 99 = xs) (h3 : S'.1 ≤ 49) (h4 : S'.2.1 ≤ 600) : zRel D cs s0.heap b L xs S' H1 :=
  ⟨hP, fun q hq => (hvs.2.1 q (Nat.lt_of_lt_of_le hq hrel0.2.2.1) (fun h => by have := h.1; omega)).trans (hrel0.2.1 q hq), Nat.le_trans hrel0.2.2.1 hvs.1, h1, h2, h3, h4⟩
/-- the end of a method that returns -/
theorem zend_ret {w : Option Value} {free : Addr → Prop} (hrel : zRel D cs s0.heap b L xs S H) (hold : zOld S0 S) (hvs : va_S (zA2 s0.heap.size) s.heap H locs) (hroom : zRoom cs d R cells slots S) (hex : S.2.1 = 0 → cells + S0.1 = S.1) (hQ : Q (.inl w, S)) {t : State}
    (h : MQ below (fun _ _ o t => o = .returned (w.map (zrv s0.heap.size b)) ∧ t.heap = H) args s cells slots (zA2 s0.heap.size) t) : zEnd D cs s0 b L xs s below R S0 Q t := by
  obtain ⟨o, h1, h2, ⟨h3, h4⟩, Lc, ⟨-, h5, h6⟩, h7⟩ := h
  refine ⟨(.inl w, S), o, hQ, h1, h2, h3, h5, by rw [h4]; exact hrel, hold, Lc, cells, slots, h6, ?_, hroom.2.2.1, hroom.2.2.2, hex⟩
  rw [h4]
  exact ⟨hvs.1, hvs.2.1, h7⟩
end ZSD
