/-! a small machine: the program's heap has a fixed shape, so addresses are numbers; one step as a predicate transformer -/
/-- made so far, exceptions so far, the script's length, ints, longs, references -/
abbrev zS : Type := Nat × Nat × Nat × (Nat → Nat → Int32) × (Nat → Nat → Int64) × (Nat → Nat → Value)
/-- pc, locals, stack, state -/
abbrev zF : Type := Nat × List Value × List Value × zS
abbrev zR : Type := (Option Value ⊕ Nat) × zS
def zfind (pc : Nat) : List (Nat × zE) → Option zE
  | [] => none
  | (q, x) :: t => bif Nat.beq q pc then some x else zfind pc t
def zget : (n : Nat) → zT n → Nat → Option zE
  | 0, l, pc => zfind pc l
  | n + 1, t, pc => bif Nat.blt pc t.1 then zget n t.2.1 pc else zget n t.2.2 pc
def zcode (i pc : Nat) : Option zE := bif Nat.blt i 191 && Nat.blt pc 2048 then zget 10 zprog (2048 * i + pc) else none
def zJ : Value := .retAddr 0
def zup (f : Nat → Nat → Int32) (a j : Nat) (x : Int32) : Nat → Nat → Int32 := fun b => bif Nat.beq b a then upd (f b) j x else f b
def zupL (f : Nat → Nat → Int64) (a j : Nat) (x : Int64) : Nat → Nat → Int64 := fun b => bif Nat.beq b a then vp_updL (f b) j x else f b
def zupR (f : Nat → Nat → Value) (a j : Nat) (x : Value) : Nat → Nat → Value := fun b k => bif Nat.beq b a && Nat.beq k j then x else f b k
def zclr {α : Type} (f : Nat → Nat → α) (a : Nat) (d : α) : Nat → Nat → α := fun b k => bif Nat.beq b a then d else f b k
/-- locals: a place is set; a long there before, or one that ends there, is gone -/
def zgone (L : List Value) (i : Nat) : List Value := match i with
  | 0 => L
  | j + 1 => match L[j]? with
    | some (.long _) => L.set j zJ
    | _ => L
def zset1 (L : List Value) (i : Nat) (v : Value) : List Value := (zgone L i).set i v
def zset2 (L : List Value) (i : Nat) (v : Value) : List Value := ((zgone L i).set i v).set (i + 1) zJ
def zcnd (c : ClassFile.Cond) (x y : Int32) : Prop := match c with
  | .eq => x = y
  | .ne => ¬ x = y
  | .lt => x < y
  | .ge => y ≤ x
  | .gt => y < x
  | .le => x ≤ y
/-- what works on the stack alone -/
def zop (ins : Instr) (v : Value) (st : List Value) : Option (List Value) := match ins with
  | .iconst _ => some (v :: st)
  | .bipush _ => some (v :: st)
  | .sipush _ => some (v :: st)
  | .lconst _ => some (v :: st)
  | .ldc _ => some (v :: st)
  | .ldc_w _ => some (v :: st)
  | .ldc2_w _ => some (v :: st)
  | .iadd => match st with | .int y :: .int x :: r => some (.int (x + y) :: r) | _ => none
  | .isub => match st with | .int y :: .int x :: r => some (.int (x - y) :: r) | _ => none
  | .imul => match st with | .int y :: .int x :: r => some (.int (x * y) :: r) | _ => none
  | .iand => match st with | .int y :: .int x :: r => some (.int (x &&& y) :: r) | _ => none
  | .ior => match st with | .int y :: .int x :: r => some (.int (x ||| y) :: r) | _ => none
  | .ixor => match st with | .int y :: .int x :: r => some (.int (x ^^^ y) :: r) | _ => none
  | .ishl => match st with | .int y :: .int x :: r => some (.int (x <<< (y &&& 31)) :: r) | _ => none
  | .ishr => match st with | .int y :: .int x :: r => some (.int (x >>> (y &&& 31)) :: r) | _ => none
  | .ladd => match st with | .long y :: .long x :: r => some (.long (x + y) :: r) | _ => none
  | .lsub => match st with | .long y :: .long x :: r => some (.long (x - y) :: r) | _ => none
  | .lmul => match st with | .long y :: .long x :: r => some (.long (x * y) :: r) | _ => none
  | .land => match st with | .long y :: .long x :: r => some (.long (x &&& y) :: r) | _ => none
  | .lor => match st with | .long y :: .long x :: r => some (.long (x ||| y) :: r) | _ => none
  | .lxor => match st with | .long y :: .long x :: r => some (.long (x ^^^ y) :: r) | _ => none
  | .lshl => match st with | .int y :: .long x :: r => some (.long (x <<< (y.toInt64 &&& 63)) :: r) | _ => none
  | .lshr => match st with | .int y :: .long x :: r => some (.long (x >>> (y.toInt64 &&& 63)) :: r) | _ => none
  | .lushr => match st with | .int y :: .long x :: r => some (.long (x.toUInt64 >>> (y.toInt64.toUInt64 &&& Int64.toUInt64 63)).toInt64 :: r) | _ => none
  | .lcmp => match st with | .long y :: .long x :: r => some (.int (lg_cmp x y) :: r) | _ => none
  | .i2l => match st with | .int x :: r => some (.long x.toInt64 :: r) | _ => none
  | .l2i => match st with | .long x :: r => some (.int x.toInt32 :: r) | _ => none
  | .dup => match st with | .int x :: r => some (.int x :: .int x :: r) | .ref x :: r => some (.ref x :: .ref x :: r) | _ => none
  | .dup2 => match st with | .int x :: .int y :: r => some (.int x :: .int y :: .int x :: .int y :: r) | .int x :: .ref y :: r => some (.int x :: .ref y :: .int x :: .ref y :: r) | _ => none
  | .pop => match st with | .int _ :: r => some r | .ref _ :: r => some r | _ => none
  | _ => none
/-- what works on locals and stack -/
def zloc (ins : Instr) (k : Nat) (v : Value) (L st : List Value) : Option (List Value × List Value) := match ins with
  | .iload _ => match L[k]? with | some (.int x) => some (L, .int x :: st) | _ => none
  | .iload_n _ => match L[k]? with | some (.int x) => some (L, .int x :: st) | _ => none
  | .lload _ => match L[k]? with | some (.long x) => some (L, .long x :: st) | _ => none
  | .lload_n _ => match L[k]? with | some (.long x) => some (L, .long x :: st) | _ => none
  | .aload _ => match L[k]? with | some (.ref x) => some (L, .ref x :: st) | _ => none
  | .aload_n _ => match L[k]? with | some (.ref x) => some (L, .ref x :: st) | _ => none
  | .istore _ => match st with | .int x :: r => some (zset1 L k (.int x), r) | _ => none
  | .istore_n _ => match st with | .int x :: r => some (zset1 L k (.int x), r) | _ => none
  | .lstore _ => match st with | .long x :: r => some (zset2 L k (.long x), r) | _ => none
  | .lstore_n _ => match st with | .long x :: r => some (zset2 L k (.long x), r) | _ => none
  | .astore _ => match st with | .ref x :: r => some (zset1 L k (.ref x), r) | _ => none
  | .astore_n _ => match st with | .ref x :: r => some (zset1 L k (.ref x), r) | _ => none
  | .iinc _ _ => match L[k]?, v with | some (.int x), .int n => some (zset1 L k (.int (x + n)), st) | _, _ => none
  | _ => none
/-- the script stands at 99 -/
def zak (a n : Nat) : Nat := bif Nat.beq a 99 then 1 else bif Nat.blt a n then (zknd a).1 else 9
def zlen (a l : Nat) : Nat := bif Nat.beq a 99 then l else (zknd a).2
def zobj (a n c : Nat) : Bool := Nat.blt a n && (Nat.beq (zknd a).1 0 && Nat.beq (zknd a).2 c)
def zarr (a n k : Nat) : Bool := Nat.blt a n && Nat.beq (zknd a).1 k
def zlay : List Value → List Value
  | [] => []
  | v :: r => bif Nat.beq v.category 2 then v :: zJ :: zlay r else v :: zlay r
def zgv (v : Value) (S : zS) (a f : Nat) : Value := match v with
  | .null => S.2.2.2.2.2 a f
  | _ => .int (S.2.2.2.1 a f)
def zent (j : Nat) (as : List Value) : List Value := zlay as ++ List.replicate (zmx j - (zlay as).length) zJ
def zhand (pc c : Nat) : List (Nat × Nat × Nat × Nat) → Option Nat
  | [] => none
  | (f, t, h, x) :: r => bif (Nat.ble f pc && Nat.blt pc t) && Nat.beq x c then some h else zhand pc c r
/-- one step: C runs a callee, Q is asked at the end, K of what comes next -/
def zst (C : Nat → zF → (zR → Prop) → Prop) (i : Nat) (f : zF) (Q : zR → Prop) (K : zF → Prop) : Prop := match f with
  | (pc, L, st, S) => match zcode i pc with
    | none => False
    | some (ins, npc, r1, r2, v) => match zop ins v st with
      | some st' => K (npc, L, st', S)
      | none => match zloc ins r1 v L st with
        | some (L', st') => K (npc, L', st', S)
        | none => match ins with
          | .idiv => match st with
            | .int y :: .int x :: r => ¬ y = 0 ∧ K (npc, L, .int (x / y) :: r, S)
            | _ => False
          | .irem => match st with
            | .int y :: .int x :: r => ¬ y = 0 ∧ K (npc, L, .int (x - x / y * y) :: r, S)
            | _ => False
          | .ifCond c _ => match st with
            | .int x :: r => (zcnd c x 0 → K (r1, L, r, S)) ∧ (¬ zcnd c x 0 → K (npc, L, r, S))
            | _ => False
          | .if_icmp c _ => match st with
            | .int y :: .int x :: r => (zcnd c x y → K (r1, L, r, S)) ∧ (¬ zcnd c x y → K (npc, L, r, S))
            | _ => False
          | .goto _ => K (r1, L, st, S)
          | .tableswitch d lo hi offs => match st with
            | .int x :: r => (x.toInt < lo ∨ hi < x.toInt → K (((pc : Int) + d).toNat, L, r, S)) ∧ ∀ (n : Nat) (o : Int), offs[n]? = some o → x.toInt = lo + n → K (((pc : Int) + o).toNat, L, r, S)
            | _ => False
          | .arraylength => match st with
            | .ref a :: r => bif Nat.ble 1 (zak a S.1) && Nat.ble (zak a S.1) 3 then K (npc, L, .int (Int32.ofNat (zlen a S.2.2.1)) :: r, S) else False
            | _ => False
          | .iaload => match st with
            | .int j :: .ref a :: r => bif Nat.beq (zak a S.1) 1 then vp_in j (zlen a S.2.2.1) ∧ K (npc, L, .int (S.2.2.2.1 a j.toNatClampNeg) :: r, S) else False
            | _ => False
          | .baload => match st with
            | .int j :: .ref a :: r => bif zarr a S.1 2 then vp_in j (zknd a).2 ∧ K (npc, L, .int (S.2.2.2.1 a j.toNatClampNeg) :: r, S) else False
            | _ => False
          | .laload => match st with
            | .int j :: .ref a :: r => bif zarr a S.1 3 then vp_in j (zknd a).2 ∧ K (npc, L, .long (S.2.2.2.2.1 a j.toNatClampNeg) :: r, S) else False
            | _ => False
          | .iastore => match st with
            | .int x :: .int j :: .ref a :: r => bif zarr a S.1 1 then vp_in j (zknd a).2 ∧ K (npc, L, r, S.1, S.2.1, S.2.2.1, zup S.2.2.2.1 a j.toNatClampNeg x, S.2.2.2.2.1, S.2.2.2.2.2) else False
            | _ => False
          | .bastore => match st with
            | .int x :: .int j :: .ref a :: r => bif zarr a S.1 2 then vp_in j (zknd a).2 ∧ (x = 0 ∨ x = 1) ∧ K (npc, L, r, S.1, S.2.1, S.2.2.1, zup S.2.2.2.1 a j.toNatClampNeg x, S.2.2.2.2.1, S.2.2.2.2.2) else False
            | _ => False
          | .lastore => match st with
            | .long x :: .int j :: .ref a :: r => bif zarr a S.1 3 then vp_in j (zknd a).2 ∧ K (npc, L, r, S.1, S.2.1, S.2.2.1, S.2.2.2.1, zupL S.2.2.2.2.1 a j.toNatClampNeg x, S.2.2.2.2.2) else False
            | _ => False
          | .getfield _ => match st with
            | .ref a :: r => bif zobj a S.1 r1 then K (npc, L, zgv v S a r2 :: r, S) else False
            | _ => False
          | .putfield _ => match st, v with
            | .int x :: .ref a :: r, .int _ => bif zobj a S.1 r1 then K (npc, L, r, S.1, S.2.1, S.2.2.1, zup S.2.2.2.1 a r2 x, S.2.2.2.2.1, S.2.2.2.2.2) else False
            | .int x :: .ref a :: r, .long _ => bif zobj a S.1 r1 then (x = 0 ∨ x = 1) ∧ K (npc, L, r, S.1, S.2.1, S.2.2.1, zup S.2.2.2.1 a r2 x, S.2.2.2.2.1, S.2.2.2.2.2) else False
            | .ref y :: .ref a :: r, .null => bif zobj a S.1 r1 then K (npc, L, r, S.1, S.2.1, S.2.2.1, S.2.2.2.1, S.2.2.2.2.1, zupR S.2.2.2.2.2 a r2 (.ref y)) else False
            | _, _ => False
          | .new _ => bif Nat.beq r1 0 then
              (bif Nat.beq S.2.1 0 && (Nat.blt S.1 49 && (Nat.beq (zknd S.1).1 0 && Nat.beq (zknd S.1).2 r2)) then
                K (npc, L, .ref S.1 :: st, S.1 + 1, S.2.1, S.2.2.1, zclr S.2.2.2.1 S.1 0, zclr S.2.2.2.2.1 S.1 0, zclr S.2.2.2.2.2 S.1 .null) else False)
              else (bif Nat.beq S.1 49 && st.isEmpty then S.2.1 < 600 ∧ Q (.inr r2, S.1, S.2.1 + 1, S.2.2) else False)
          | .newarray _ => match st with
            | .int m :: r => bif Nat.beq S.2.1 0 && (Nat.blt S.1 49 && Nat.beq (zknd S.1).1 r1) then
                m = Int32.ofNat (zknd S.1).2 ∧ K (npc, L, .ref S.1 :: r, S.1 + 1, S.2.1, S.2.2.1, zclr S.2.2.2.1 S.1 0, zclr S.2.2.2.2.1 S.1 0, zclr S.2.2.2.2.2 S.1 .null) else False
            | _ => False
          | .invokespecial _ => bif Nat.beq r1 9999 then (match st with | .ref _ :: r => (bif Nat.ble r.length 8 then K (npc, L, r, S) else False) | _ => False)
              else (bif Nat.ble r2 st.length && Nat.ble (st.drop r2).length 8 then (match (st.take r2).reverse with
                | .ref a :: as => bif zobj a S.1 (zow r1) && Nat.ble (zlay (.ref a :: as)).length (zmx r1) then C r1 (0, zent r1 (.ref a :: as), [], S) (fun q => match q with
                    | (.inl w, S') => K (npc, L, w.toList ++ st.drop r2, S')
                    | (.inr _, _) => False) else False
                | _ => False) else False)
          | .invokevirtual _ => bif Nat.ble r2 st.length && Nat.ble (st.drop r2).length 8 then (match (st.take r2).reverse with
                | .ref a :: as => bif zobj a S.1 (zow r1) && Nat.ble (zlay (.ref a :: as)).length (zmx r1) then C r1 (0, zent r1 (.ref a :: as), [], S) (fun q => match q with
                    | (.inl w, S') => K (npc, L, w.toList ++ st.drop r2, S')
                    | (.inr c, S') => bif (zhd i).isEmpty then Q (.inr c, S') else (match zhand pc c (zhd i) with
                      | none => False
                      | some h => match zcode i h with
                        | some (.astore _, hpc, k, _, _) => K (hpc, zset1 L k zJ, [], S')
                        | some (.astore_n _, hpc, k, _, _) => K (hpc, zset1 L k zJ, [], S')
                        | _ => False)) else False
                | _ => False) else False
          | .invokestatic _ => bif (Nat.ble r2 st.length && Nat.ble (st.drop r2).length 8) && Nat.ble (zlay (st.take r2).reverse).length (zmx r1) then
                C r1 (0, zent r1 (st.take r2).reverse, [], S) (fun q => match q with
                    | (.inl w, S') => K (npc, L, w.toList ++ st.drop r2, S')
                    | (.inr c, S') => bif (zhd i).isEmpty then Q (.inr c, S') else False) else False
          | .ireturn => match st with
            | [.int x] => bif Nat.beq (zrt i) 2 then (x = 0 ∨ x = 1) ∧ Q (.inl (some (.int x)), S) else Q (.inl (some (.int x)), S)
            | _ => False
          | .lreturn => match st with
            | [.long x] => Q (.inl (some (.long x)), S)
            | _ => False
          | .return_ => match st with
            | [] => Q (.inl none, S)
            | _ => False
          | _ => False
/-- a callee, one deeper -/
def zC (X : Nat → Nat → zF → (zR → Prop) → Prop) (d : Nat) : Nat → zF → (zR → Prop) → Prop := fun j f Q => match d with
  | 0 => False
  | d' + 1 => X d' j f Q
def zClosed (X : Nat → Nat → zF → (zR → Prop) → Prop) : Prop := ∀ d i f Q, zst (zC X d) i f Q (fun f' => X d i f' Q) → X d i f Q
/-- method i, with d calls below it at the most, comes to an end with Q -/
def zRn (d i : Nat) (f : zF) (Q : zR → Prop) : Prop := ∀ X, zClosed X → X d i f Q
/-- the same, run on to places where to stop -/
def zcut (pc : Nat) : List Nat → Bool
  | [] => false
  | c :: r => Nat.beq pc c || zcut pc r
def zreg (cuts : List Nat) : Nat → Nat → Nat → zF → (zR → Prop) → Prop
  | 0, d, i, f, Q => zRn d i f Q
  | n + 1, d, i, f, Q => zst (zC zRn d) i f Q (fun f' => bif zcut f'.1 cuts then zRn d i f' Q else zreg cuts n d i f' Q)
