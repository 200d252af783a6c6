/-! the code's tree is the program's code -/
def zall (P : Nat → zE → Bool) : (n : Nat) → zT n → Bool
  | 0, l => List.all l (fun q => P q.1 q.2)
  | n + 1, t => zall P n t.2.1 && zall P n t.2.2
theorem zfind_mem {pc : Nat} {e : zE} : ∀ {l : List (Nat × zE)}, zfind pc l = some e → (pc, e) ∈ l := by
  intro l
  induction l with
  | nil => intro h; cases h
  | cons q t ih =>
    obtain ⟨k, x⟩ := q
    intro h
    unfold zfind at h
    cases hk : Nat.beq k pc with
    | false => rw [hk] at h; exact List.mem_cons_of_mem _ (ih h)
    | true =>
      rw [hk] at h
      cases h
      rw [Nat.eq_of_beq_eq_true hk]
      exact List.mem_cons_self
theorem zall_get {P : Nat → zE → Bool} {key : Nat} {e : zE} : ∀ {n : Nat} {t : zT n}, zall P n t = true → zget n t key = some e → P key e = true := by
  intro n
  induction n with
  | zero =>
    intro t h g
    have g' : zfind key t = some e := g
    have h' : List.all t (fun q => P q.1 q.2) = true := h
    exact List.all_eq_true.mp h' _ (zfind_mem g')
  | succ n ih =>
    intro t h g
    have h' : (zall P n t.2.1 && zall P n t.2.2) = true := h
    have g' : (bif Nat.blt key t.1 then zget n t.2.1 key else zget n t.2.2 key) = some e := g
    rw [Bool.and_eq_true] at h'
    cases hb : Nat.blt key t.1 with
    | true => rw [hb] at g'; exact ih h'.1 g'
    | false => rw [hb] at g'; exact ih h'.2 g'
/-- an instruction's length -/
def zil : Instr → Nat
  | .bipush _ | .ldc _ | .iload _ | .lload _ | .aload _ | .istore _ | .lstore _ | .astore _ | .newarray _ => 2
  | .sipush _ | .ldc_w _ | .ldc2_w _ | .iinc _ _ | .ifCond _ _ | .if_icmp _ _ | .goto _ | .getfield _ | .putfield _ | .new _ | .invokespecial _ | .invokestatic _ | .invokevirtual _ => 3
  | _ => 1
def zis (b : Bool) : Bool := b
/-- where an exception is made and thrown: its message's pool number, wide or not, its constructor's pool number -/
def zthr (i pc : Nat) : Option (Nat × Nat × Nat) := match decode (zbt i) (pc + 3), decode (zbt i) (pc + 4) with
  | .ok (.dup, 1), .ok (.ldc k, 2) => match decode (zbt i) (pc + 6), decode (zbt i) (pc + 9) with
    | .ok (.invokespecial ic, 3), .ok (.athrow, 1) => some (k, 2, ic)
    | _, _ => none
  | .ok (.dup, 1), .ok (.ldc_w k, 3) => match decode (zbt i) (pc + 7), decode (zbt i) (pc + 10) with
    | .ok (.invokespecial ic, 3), .ok (.athrow, 1) => some (k, 3, ic)
    | _, _ => none
  | _, _ => none
def zhas2 (o k a : Nat) : List (Nat × Nat × Nat) → Bool
  | [] => false
  | (x, y, _) :: r => (Nat.beq x o && Nat.beq y k) || zhas2 o k a r
def zhas3 (o k a : Nat) : List (Nat × Nat × Nat × Nat) → Bool
  | [] => false
  | (x, y, z, _) :: r => (Nat.beq x o && (Nat.beq y k && Nat.beq z a)) || zhas3 o k a r
def zhas4 (o k a b : Nat) : List (Nat × Nat × Nat × Nat × Nat) → Bool
  | [] => false
  | (x, y, z, w, _) :: r => (Nat.beq x o && (Nat.beq y k && (Nat.beq z a && Nat.beq w b))) || zhas4 o k a b r
def zchk (i pc : Nat) (e : zE) : Bool := match e with
  | (ins, npc, r1, r2, v) => match ins with
    | .tableswitch d lo hi offs => decide (decode (zbt i) pc = .ok (ins, npc - pc)) && (decide ((0 : Int) ≤ (pc : Int) + d) && (offs.toList.all (fun o => decide ((0 : Int) ≤ (pc : Int) + o)) && decide ((offs.size : Int) = hi - lo + 1)))
    | _ => decide (decode (zbt i) pc = .ok (ins, zil ins)) && (Nat.beq npc (pc + zil ins) && match ins with
      | .iconst n => decide (v = .int (Int32.ofInt n))
      | .bipush n => decide (v = .int ((Int8.ofInt n).toInt32))
      | .sipush n => decide (v = .int ((Int16.ofInt n).toInt32))
      | .lconst n => decide (v = .long (Int64.ofNat n))
      | .ldc k => zci.any (fun q => Nat.beq q.1 (zow i) && (Nat.beq q.2.1 k && decide (v = .int q.2.2.1)))
      | .ldc_w k => zci.any (fun q => Nat.beq q.1 (zow i) && (Nat.beq q.2.1 k && decide (v = .int q.2.2.1)))
      | .ldc2_w k => zcj.any (fun q => Nat.beq q.1 (zow i) && (Nat.beq q.2.1 k && decide (v = .long q.2.2.1)))
      | .iload k => Nat.beq k r1
      | .lload k => Nat.beq k r1
      | .aload k => Nat.beq k r1
      | .iload_n k => Nat.beq k.val r1
      | .lload_n k => Nat.beq k.val r1
      | .aload_n k => Nat.beq k.val r1
      | .istore k => Nat.beq k r1 && Nat.blt r1 (zmx i)
      | .astore k => Nat.beq k r1 && Nat.blt r1 (zmx i)
      | .lstore k => Nat.beq k r1 && Nat.blt (r1 + 1) (zmx i)
      | .istore_n k => Nat.beq k.val r1 && Nat.blt r1 (zmx i)
      | .astore_n k => Nat.beq k.val r1 && Nat.blt r1 (zmx i)
      | .lstore_n k => Nat.beq k.val r1 && Nat.blt (r1 + 1) (zmx i)
      | .iinc k n => Nat.beq k r1 && (Nat.blt r1 (zmx i) && decide (v = .int (Int32.ofInt n)))
      | .ifCond _ o => decide ((pc : Int) + o = (r1 : Int))
      | .if_icmp _ o => decide ((pc : Int) + o = (r1 : Int))
      | .goto o => decide ((pc : Int) + o = (r1 : Int))
      | .getfield k => zhas4 (zow i) k r1 r2 zfl && (Nat.blt r2 ((zfks.getD r1 []).length) && decide (v = (match (zfks.getD r1 []).getD r2 0 with | 0 => .int 0 | 1 => .long 0 | _ => .null)))
      | .putfield k => zhas4 (zow i) k r1 r2 zfl && (Nat.blt r2 ((zfks.getD r1 []).length) && (decide (v = (match (zfks.getD r1 []).getD r2 0 with | 0 => .int 0 | 1 => .long 0 | _ => .null)) && ((match zcl[r1]? with | some q => !(q.2.1 r2).2.2.2 | none => false) || (decide ((zY i).name = "<init>") && Nat.beq r1 (zow i)))))
      | .new k => zhas4 (zow i) k r1 r2 zkl2 && (Nat.beq r1 0 || (match zthr i pc with | none => false | some (m, _, ic) => zsl.any (fun q => Nat.beq q.1 (zow i) && Nat.beq q.2.1 m) && (zhas3 (zow i) ic r2 zel && (zhd i).isEmpty)))
      | .newarray t => Nat.beq r1 (match t with | .int => 1 | .boolean => 2 | .long => 3 | _ => 0)
      | .invokespecial k => bif Nat.beq r1 9999 then zhas2 (zow i) k 0 zol else (zhas3 (zow i) k r1 zml && (decide ((zY r1).name = "<init>") && (Nat.beq r2 (zpn r1 + 1) && (Nat.blt r1 190 && Nat.beq (zrt r1) 0))))
      | .invokestatic k => zhas3 (zow i) k r1 zml && ((match zmw[r1]? with | some q => Nat.beq q.2.1 1 | none => false) && (Nat.beq r2 (zpn r1) && Nat.blt r1 190))
      | .invokevirtual k => zhas3 (zow i) k r1 zml && ((match zmw[r1]? with | some q => Nat.beq q.2.1 0 && Nat.blt q.2.2.2.1 9999 | none => false) && (Nat.beq r2 (zpn r1 + 1) && Nat.blt r1 190))
      | .ireturn => Nat.beq (zrt i) 1 || Nat.beq (zrt i) 2
      | .lreturn => Nat.beq (zrt i) 3
      | .return_ => Nat.beq (zrt i) 0
      | _ => true)
def zchkK (key : Nat) (e : zE) : Bool := zchk (key / 2048) (key % 2048) e
theorem zand0 {a b : Bool} (h : a = true) (k : b = true) : (a && b) = true := by rw [h, k]; rfl
