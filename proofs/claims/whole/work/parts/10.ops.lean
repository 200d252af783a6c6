/-! the small machine's instructions against the kit's rows: stack, locals, branches -/
section ZOP
variable {p : Program} {l : Launch} {e : Env} {R : Room} {s : State} {m : MethodId} {args : Array Value} {below : List Frame} {meth : Method} {c : Code} {H : Heap} {locs : List Loc} {cells slots : Nat} {Q : State → Prop}
variable {ls : Array Slot} {b0 b i pc npc r1 r2 : Nat} {ins : Instr} {v : Value}
def znsw : Instr → Bool
  | .tableswitch .. => false
  | _ => true
theorem zchk_d (hns : znsw ins = true) (h : zchk i pc (ins, npc, r1, r2, v) = true) : decode (zbt i) pc = .ok (ins, zil ins) ∧ npc = pc + zil ins := by
  cases ins
  case tableswitch => cases hns
  all_goals
    simp only [zchk, Bool.and_eq_true, decide_eq_true_eq] at h
    exact ⟨h.1, Nat.eq_of_beq_eq_true h.2.1⟩
/-- a word of the tables by its place -/
theorem zword {k : Nat} {w : Cond} (hts : ∀ w ∈ lw_tbl, goodWord w = true → w.before args s = true) (hk : tables_1[k]? = some w) (hg : goodWord w = true) : w.before args s = true :=
  hts w (List.mem_append_right _ (List.mem_of_getElem? hk)) hg
theorem zci_word {o k : Nat} {x : Int32} (hts : ∀ w ∈ lw_tbl, goodWord w = true → w.before args s = true) (h : zci.any (fun q => Nat.beq q.1 o && (Nat.beq q.2.1 k && decide (v = .int q.2.2.1))) = true) : ∃ x, v = .int x ∧ (Cond.constant (zcn o) k x).before args s = true := by
  obtain ⟨⟨a, b, x, t⟩, hm, hq⟩ := List.any_eq_true.mp h
  simp only [Bool.and_eq_true, decide_eq_true_eq] at hq
  have h2 := List.all_eq_true.mp zci_ok _ hm
  simp only [decide_eq_true_eq] at h2
  rw [Nat.eq_of_beq_eq_true hq.1, Nat.eq_of_beq_eq_true hq.2.1] at h2
  exact ⟨x, hq.2.2, zword hts h2 rfl⟩
theorem zcj_word {o k : Nat} (hts : ∀ w ∈ lw_tbl, goodWord w = true → w.before args s = true) (h : zcj.any (fun q => Nat.beq q.1 o && (Nat.beq q.2.1 k && decide (v = .long q.2.2.1))) = true) : ∃ x, v = .long x ∧ (Cond.constantLong (zcn o) k x).before args s = true := by
  obtain ⟨⟨a, b, x, t⟩, hm, hq⟩ := List.any_eq_true.mp h
  simp only [Bool.and_eq_true, decide_eq_true_eq] at hq
  have h2 := List.all_eq_true.mp zcj_ok _ hm
  simp only [decide_eq_true_eq] at h2
  rw [Nat.eq_of_beq_eq_true hq.1, Nat.eq_of_beq_eq_true hq.2.1] at h2
  exact ⟨x, hq.2.2, zword hts h2 rfl⟩
theorem zop_W {st st' : List Value} (hexec : p.tables.exec = Jvm.exec) (hb : c.code = zbt i) (hown : s.vm.findClass (zcn (zow i)) = some m.cls) (hts : ∀ w ∈ lw_tbl, goodWord w = true → w.before args s = true)
    (hk : zchk i pc (ins, npc, r1, r2, v) = true) (ho : zop ins v st = some st') (kk : W p l e R s m args below meth c H locs cells slots Q (F0 m npc ls (st'.map (zrv b0 b)))) :
    W p l e R s m args below meth c H locs cells slots Q (F0 m pc ls (st.map (zrv b0 b))) := by
  cases ins
  case iconst n =>
    obtain ⟨hd, rfl⟩ := zchk_d rfl hk
    simp only [zchk, Bool.and_eq_true, decide_eq_true_eq] at hk
    cases ho
    obtain ⟨-, -, rfl⟩ := hk
    exact lv_iconst hexec hb hd rfl kk
  case bipush n =>
    obtain ⟨hd, rfl⟩ := zchk_d rfl hk
    simp only [zchk, Bool.and_eq_true, decide_eq_true_eq] at hk
    cases ho
    obtain ⟨-, -, rfl⟩ := hk
    exact lv_bipush hexec hb hd rfl kk
  case sipush n =>
    obtain ⟨hd, rfl⟩ := zchk_d rfl hk
    simp only [zchk, Bool.and_eq_true, decide_eq_true_eq] at hk
    cases ho
    obtain ⟨-, -, rfl⟩ := hk
    exact lv_sipush hexec hb hd rfl kk
  case lconst n =>
    obtain ⟨hd, rfl⟩ := zchk_d rfl hk
    simp only [zchk, Bool.and_eq_true, decide_eq_true_eq] at hk
    cases ho
    obtain ⟨-, -, rfl⟩ := hk
    exact lv_lconst hexec hb hd rfl kk
  case ldc n =>
    obtain ⟨hd, rfl⟩ := zchk_d rfl hk
    simp only [zchk, Bool.and_eq_true, decide_eq_true_eq] at hk
    cases ho
    obtain ⟨x, rfl, hw⟩ := zci_word (x := 0) hts hk.2.2
    exact lv_ldc hexec hb hown hw hd kk
  case ldc_w n =>
    obtain ⟨hd, rfl⟩ := zchk_d rfl hk
    simp only [zchk, Bool.and_eq_true, decide_eq_true_eq] at hk
    cases ho
    obtain ⟨x, rfl, hw⟩ := zci_word (x := 0) hts hk.2.2
    exact lv_ldcw hexec hb hown hw hd kk
  case ldc2_w n =>
    obtain ⟨hd, rfl⟩ := zchk_d rfl hk
    simp only [zchk, Bool.and_eq_true, decide_eq_true_eq] at hk
    cases ho
    obtain ⟨x, rfl, hw⟩ := zcj_word hts hk.2.2
    exact lv_ldc2 hexec hb hown hw hd kk
  case iadd =>
    obtain ⟨hd, rfl⟩ := zchk_d rfl hk
    simp only [zop] at ho
    split at ho
    · cases ho
      exact lv_iadd hexec hb hd kk
    · cases ho
  case isub =>
    obtain ⟨hd, rfl⟩ := zchk_d rfl hk
    simp only [zop] at ho
    split at ho
    · cases ho
      exact lv_isub hexec hb hd kk
    · cases ho
  case imul =>
    obtain ⟨hd, rfl⟩ := zchk_d rfl hk
    simp only [zop] at ho
    split at ho
    · cases ho
      exact lv_imul hexec hb hd kk
    · cases ho
  case iand =>
    obtain ⟨hd, rfl⟩ := zchk_d rfl hk
    simp only [zop] at ho
    split at ho
    · cases ho
      exact lv_iand hexec hb hd kk
    · cases ho
  case ior =>
    obtain ⟨hd, rfl⟩ := zchk_d rfl hk
    simp only [zop] at ho
    split at ho
    · cases ho
      exact lv_ior hexec hb hd kk
    · cases ho
  case ixor =>
    obtain ⟨hd, rfl⟩ := zchk_d rfl hk
    simp only [zop] at ho
    split at ho
    · cases ho
      exact lv_ixor hexec hb hd kk
    · cases ho
  case ishl =>
    obtain ⟨hd, rfl⟩ := zchk_d rfl hk
    simp only [zop] at ho
    split at ho
    · cases ho
      exact lv_ishl hexec hb hd kk
    · cases ho
  case ishr =>
    obtain ⟨hd, rfl⟩ := zchk_d rfl hk
    simp only [zop] at ho
    split at ho
    · cases ho
      exact lv_ishr hexec hb hd kk
    · cases ho
  case ladd =>
    obtain ⟨hd, rfl⟩ := zchk_d rfl hk
    simp only [zop] at ho
    split at ho
    · cases ho
      exact lv_ladd hexec hb hd kk
    · cases ho
  case lsub =>
    obtain ⟨hd, rfl⟩ := zchk_d rfl hk
    simp only [zop] at ho
    split at ho
    · cases ho
      exact lv_lsub hexec hb hd kk
    · cases ho
  case lmul =>
    obtain ⟨hd, rfl⟩ := zchk_d rfl hk
    simp only [zop] at ho
    split at ho
    · cases ho
      exact lv_lmul hexec hb hd kk
    · cases ho
  case land =>
    obtain ⟨hd, rfl⟩ := zchk_d rfl hk
    simp only [zop] at ho
    split at ho
    · cases ho
      exact lv_land hexec hb hd kk
    · cases ho
  case lor =>
    obtain ⟨hd, rfl⟩ := zchk_d rfl hk
    simp only [zop] at ho
    split at ho
    · cases ho
      exact lv_lor hexec hb hd kk
    · cases ho
  case lxor =>
    obtain ⟨hd, rfl⟩ := zchk_d rfl hk
    simp only [zop] at ho
    split at ho
    · cases ho
      exact lv_lxor hexec hb hd kk
    · cases ho
  case lshl =>
    obtain ⟨hd, rfl⟩ := zchk_d rfl hk
    simp only [zop] at ho
    split at ho
    · cases ho
      exact lv_lshl hexec hb hd rfl kk
    · cases ho
  case lshr =>
    obtain ⟨hd, rfl⟩ := zchk_d rfl hk
    simp only [zop] at ho
    split at ho
    · cases ho
      exact lv_lshr hexec hb hd rfl kk
    · cases ho
  case lushr =>
    obtain ⟨hd, rfl⟩ := zchk_d rfl hk
    simp only [zop] at ho
    split at ho
    · cases ho
      exact lv_lushr hexec hb hd rfl kk
    · cases ho
  case i2l =>
    obtain ⟨hd, rfl⟩ := zchk_d rfl hk
    simp only [zop] at ho
    split at ho
    · cases ho
      exact lv_i2l hexec hb hd rfl kk
    · cases ho
  case l2i =>
    obtain ⟨hd, rfl⟩ := zchk_d rfl hk
    simp only [zop] at ho
    split at ho
    · cases ho
      exact lv_l2i hexec hb hd rfl kk
    · cases ho
  case lcmp =>
    obtain ⟨hd, rfl⟩ := zchk_d rfl hk
    simp only [zop] at ho
    split at ho
    · cases ho
      exact W.lcmp hexec hb hd kk
    · cases ho
  case dup =>
    obtain ⟨hd, rfl⟩ := zchk_d rfl hk
    simp only [zop] at ho
    split at ho
    · cases ho
      exact lv_dup hexec hb hd rfl kk
    · cases ho
      exact lv_dup hexec hb hd rfl kk
    · cases ho
  case dup2 =>
    obtain ⟨hd, rfl⟩ := zchk_d rfl hk
    simp only [zop] at ho
    split at ho
    · cases ho
      exact lv_dup2_11 hexec hb hd rfl rfl kk
    · cases ho
      exact lv_dup2_11 hexec hb hd rfl rfl kk
    · cases ho
  case pop =>
    obtain ⟨hd, rfl⟩ := zchk_d rfl hk
    simp only [zop] at ho
    split at ho
    · cases ho
      exact lv_pop hexec hb hd rfl kk
    · cases ho
      exact lv_pop hexec hb hd rfl kk
    · cases ho
  all_goals
    simp only [zop, reduceCtorEq] at ho
theorem zloc_W {L L' st st' : List Value} (hexec : p.tables.exec = Jvm.exec) (hb : c.code = zbt i) (hl : zlv b0 b ls (zmx i) L)
    (hk : zchk i pc (ins, npc, r1, r2, v) = true) (ho : zloc ins r1 v L st = some (L', st')) (kk : ∀ ls' : Array Slot, zlv b0 b ls' (zmx i) L' → W p l e R s m args below meth c H locs cells slots Q (F0 m npc ls' (st'.map (zrv b0 b)))) :
    W p l e R s m args below meth c H locs cells slots Q (F0 m pc ls (st.map (zrv b0 b))) := by
  cases ins
  case iload n =>
    obtain ⟨hd, rfl⟩ := zchk_d rfl hk
    simp only [zchk, Bool.and_eq_true, decide_eq_true_eq] at hk
    have e1 := Nat.eq_of_beq_eq_true hk.2.2
    subst e1
    simp only [zloc] at ho
    split at ho
    · rename_i x hx
      cases ho
      exact lv_iload hexec hb hd (hl.2.2.2 _ _ hx rfl) (kk ls hl)
    · cases ho
  case iload_n n =>
    obtain ⟨hd, rfl⟩ := zchk_d rfl hk
    simp only [zchk, Bool.and_eq_true, decide_eq_true_eq] at hk
    have e1 := Nat.eq_of_beq_eq_true hk.2.2
    subst e1
    simp only [zloc] at ho
    split at ho
    · rename_i x hx
      cases ho
      exact lv_iload_n hexec hb hd rfl (hl.2.2.2 _ _ hx rfl) (kk ls hl)
    · cases ho
  case lload n =>
    obtain ⟨hd, rfl⟩ := zchk_d rfl hk
    simp only [zchk, Bool.and_eq_true, decide_eq_true_eq] at hk
    have e1 := Nat.eq_of_beq_eq_true hk.2.2
    subst e1
    simp only [zloc] at ho
    split at ho
    · rename_i x hx
      cases ho
      exact lv_lload hexec hb hd (hl.2.2.2 _ _ hx rfl) (kk ls hl)
    · cases ho
  case lload_n n =>
    obtain ⟨hd, rfl⟩ := zchk_d rfl hk
    simp only [zchk, Bool.and_eq_true, decide_eq_true_eq] at hk
    have e1 := Nat.eq_of_beq_eq_true hk.2.2
    subst e1
    simp only [zloc] at ho
    split at ho
    · rename_i x hx
      cases ho
      exact lv_lload_n hexec hb hd rfl (hl.2.2.2 _ _ hx rfl) (kk ls hl)
    · cases ho
  case aload n =>
    obtain ⟨hd, rfl⟩ := zchk_d rfl hk
    simp only [zchk, Bool.and_eq_true, decide_eq_true_eq] at hk
    have e1 := Nat.eq_of_beq_eq_true hk.2.2
    subst e1
    simp only [zloc] at ho
    split at ho
    · rename_i x hx
      cases ho
      exact lv_aload hexec hb hd (hl.2.2.2 _ _ hx rfl) (kk ls hl)
    · cases ho
  case aload_n n =>
    obtain ⟨hd, rfl⟩ := zchk_d rfl hk
    simp only [zchk, Bool.and_eq_true, decide_eq_true_eq] at hk
    have e1 := Nat.eq_of_beq_eq_true hk.2.2
    subst e1
    simp only [zloc] at ho
    split at ho
    · rename_i x hx
      cases ho
      exact lv_aload_n hexec hb hd rfl (hl.2.2.2 _ _ hx rfl) (kk ls hl)
    · cases ho
  case istore n =>
    obtain ⟨hd, rfl⟩ := zchk_d rfl hk
    simp only [zchk, Bool.and_eq_true, decide_eq_true_eq, Nat.blt_eq] at hk
    have e1 := Nat.eq_of_beq_eq_true hk.2.2.1
    subst e1
    simp only [zloc] at ho
    split at ho
    · cases ho
      exact lv_istore hexec hb hd (zlv_has hl) hk.2.2.2 rfl (fun ls' h' => kk ls' (zlv_of1 hl (fun _ => rfl) h'))
    · cases ho
  case istore_n n =>
    obtain ⟨hd, rfl⟩ := zchk_d rfl hk
    simp only [zchk, Bool.and_eq_true, decide_eq_true_eq, Nat.blt_eq] at hk
    have e1 := Nat.eq_of_beq_eq_true hk.2.2.1
    subst e1
    simp only [zloc] at ho
    split at ho
    · cases ho
      exact lv_istore_n hexec hb hd rfl (zlv_has hl) hk.2.2.2 rfl (fun ls' h' => kk ls' (zlv_of1 hl (fun _ => rfl) h'))
    · cases ho
  case astore n =>
    obtain ⟨hd, rfl⟩ := zchk_d rfl hk
    simp only [zchk, Bool.and_eq_true, decide_eq_true_eq, Nat.blt_eq] at hk
    have e1 := Nat.eq_of_beq_eq_true hk.2.2.1
    subst e1
    simp only [zloc] at ho
    split at ho
    · cases ho
      exact lv_astore hexec hb hd (zlv_has hl) hk.2.2.2 rfl (fun ls' h' => kk ls' (zlv_of1 hl (fun _ => rfl) h'))
    · cases ho
  case astore_n n =>
    obtain ⟨hd, rfl⟩ := zchk_d rfl hk
    simp only [zchk, Bool.and_eq_true, decide_eq_true_eq, Nat.blt_eq] at hk
    have e1 := Nat.eq_of_beq_eq_true hk.2.2.1
    subst e1
    simp only [zloc] at ho
    split at ho
    · cases ho
      exact lv_astore_n hexec hb hd rfl (zlv_has hl) hk.2.2.2 rfl (fun ls' h' => kk ls' (zlv_of1 hl (fun _ => rfl) h'))
    · cases ho
  case lstore n =>
    obtain ⟨hd, rfl⟩ := zchk_d rfl hk
    simp only [zchk, Bool.and_eq_true, decide_eq_true_eq, Nat.blt_eq] at hk
    have e1 := Nat.eq_of_beq_eq_true hk.2.2.1
    subst e1
    simp only [zloc] at ho
    split at ho
    · cases ho
      exact lv_lstore hexec hb hd (zlv_has hl) hk.2.2.2 rfl (fun ls' h' => kk ls' (zlv_of2 hl (fun _ => rfl) h'))
    · cases ho
  case lstore_n n =>
    obtain ⟨hd, rfl⟩ := zchk_d rfl hk
    simp only [zchk, Bool.and_eq_true, decide_eq_true_eq, Nat.blt_eq] at hk
    have e1 := Nat.eq_of_beq_eq_true hk.2.2.1
    subst e1
    simp only [zloc] at ho
    split at ho
    · cases ho
      exact lv_lstore_n hexec hb hd rfl (zlv_has hl) hk.2.2.2 rfl (fun ls' h' => kk ls' (zlv_of2 hl (fun _ => rfl) h'))
    · cases ho
  case iinc n t =>
    obtain ⟨hd, rfl⟩ := zchk_d rfl hk
    simp only [zchk, Bool.and_eq_true, decide_eq_true_eq, Nat.blt_eq] at hk
    have e1 := Nat.eq_of_beq_eq_true hk.2.2.1
    subst e1
    obtain ⟨-, -, -, hn, rfl⟩ := hk
    simp only [zloc] at ho
    split at ho
    · rename_i x y hx hy
      cases ho
      cases hy
      obtain ⟨k, hk⟩ := List.getElem?_of_mem (zlst_mem (b0 := b0) (b := b) hx rfl)
      exact lv_iinc hexec hb (v := x + Int32.ofInt t) hd (zlv_has hl) hk rfl hn rfl (fun ls' h' => kk ls' (zlv_of1 hl (fun _ => rfl) h'))
    · cases ho
  all_goals
    simp only [zloc, reduceCtorEq] at ho
end ZOP
