/-! the small machine by regions -/
/-- locals: fewer known -/
def zle : List Value → List Value → Prop
  | [], [] => True
  | a :: L, b :: L' => (a = zJ ∨ a = b) ∧ zle L L'
  | _, _ => False
theorem zle_len : ∀ {L L' : List Value}, zle L L' → L.length = L'.length := by
  intro L
  induction L with
  | nil => intro L' h; cases L' with | nil => rfl | cons => exact h.elim
  | cons a L ih => intro L' h; cases L' with | nil => exact h.elim | cons b L' => simp [ih h.2]
theorem zle_get : ∀ {L L' : List Value} {k : Nat} {v : Value}, zle L L' → L[k]? = some v → v ≠ zJ → L'[k]? = some v := by
  intro L
  induction L with
  | nil => intro L' k v h hv; simp at hv
  | cons a L ih =>
    intro L' k v h hv hn
    cases L' with
    | nil => exact h.elim
    | cons b L' =>
      cases k with
      | zero =>
        cases hv
        rcases h.1 with h1 | h1
        · exact absurd h1 hn
        · rw [h1]; rfl
      | succ k =>
        show L'[k]? = some v
        exact ih h.2 hv hn
theorem zle_set : ∀ {L L' : List Value} {k : Nat} {a b : Value}, zle L L' → (a = zJ ∨ a = b) → zle (L.set k a) (L'.set k b) := by
  intro L
  induction L with
  | nil => intro L' k a b h hv; cases L' with | nil => exact trivial | cons => exact h.elim
  | cons c L ih =>
    intro L' k a b h hv
    cases L' with
    | nil => exact h.elim
    | cons e L' =>
      cases k with
      | zero => exact ⟨hv, h.2⟩
      | succ k => exact ⟨h.1, ih h.2 hv⟩
theorem zle_drop : ∀ {L L' : List Value} {k : Nat}, zle L L' → zle (L.set k zJ) L' := by
  intro L
  induction L with
  | nil => intro L' k h; exact h
  | cons c L ih =>
    intro L' k h
    cases L' with
    | nil => exact h.elim
    | cons e L' =>
      cases k with
      | zero => exact ⟨Or.inl rfl, h.2⟩
      | succ k => exact ⟨h.1, ih h.2⟩
theorem zle_gone {L L' : List Value} {i : Nat} (h : zle L L') : zle (zgone L i) (zgone L' i) := by
  unfold zgone
  cases i with
  | zero => exact h
  | succ j =>
    dsimp only
    split
    · rename_i x hx
      have := zle_get h hx (fun q => by cases q)
      rw [this]
      exact zle_set h (Or.inl rfl)
    · rename_i hx
      split
      · rename_i y hy
        -- a long there that the lesser list doesn't know
        have hl := zle_len h
        have : zle (L.set j zJ) (L'.set j zJ) := zle_set h (Or.inl rfl)
        have hj : L[j]? = some zJ := by
          have hlt : j < L.length := by rw [hl]; exact (List.getElem?_eq_some_iff.mp hy).1
          cases hq : L[j]? with
          | none => rw [List.getElem?_eq_none_iff] at hq; omega
          | some v =>
            by_cases hv : v = zJ
            · rw [hv]
            · have h2 := zle_get h hq hv
              rw [hy] at h2
              cases h2
              exact absurd hq (hx y)
        have he : L.set j zJ = L := by
          apply List.ext_getElem?
          intro q
          by_cases hqj : j = q
          · subst hqj
            rw [List.getElem?_set_self (List.getElem?_eq_some_iff.mp hj).1, hj]
          · rw [List.getElem?_set_ne hqj]
        rw [he] at this
        exact this
      · exact h
theorem zle_set1 {L L' : List Value} {i : Nat} {v : Value} (h : zle L L') : zle (zset1 L i v) (zset1 L' i v) := zle_set (zle_gone h) (Or.inr rfl)
theorem zle_set2 {L L' : List Value} {i : Nat} {v : Value} (h : zle L L') : zle (zset2 L i v) (zset2 L' i v) := zle_set (zle_set (zle_gone h) (Or.inr rfl)) (Or.inr rfl)
theorem zloc_le {ins : Instr} {k : Nat} {v : Value} {L L' st : List Value} {r : List Value × List Value} (h : zle L L') (hz : zloc ins k v L st = some r) : ∃ r', zloc ins k v L' st = some r' ∧ zle r.1 r'.1 ∧ r.2 = r'.2 := by
  have hg : ∀ {v : Value}, L[k]? = some v → v ≠ zJ → L'[k]? = some v := fun hv hn => zle_get h hv hn
  cases ins
  case iload =>
    simp only [zloc] at hz
    split at hz
    · rename_i x hx
      cases hz
      exact ⟨(L', .int x :: st), by simp only [zloc, hg hx (fun q => by cases q)], h, rfl⟩
    · cases hz
  case iload_n =>
    simp only [zloc] at hz
    split at hz
    · rename_i x hx
      cases hz
      exact ⟨(L', .int x :: st), by simp only [zloc, hg hx (fun q => by cases q)], h, rfl⟩
    · cases hz
  case lload =>
    simp only [zloc] at hz
    split at hz
    · rename_i x hx
      cases hz
      exact ⟨(L', .long x :: st), by simp only [zloc, hg hx (fun q => by cases q)], h, rfl⟩
    · cases hz
  case lload_n =>
    simp only [zloc] at hz
    split at hz
    · rename_i x hx
      cases hz
      exact ⟨(L', .long x :: st), by simp only [zloc, hg hx (fun q => by cases q)], h, rfl⟩
    · cases hz
  case aload =>
    simp only [zloc] at hz
    split at hz
    · rename_i x hx
      cases hz
      exact ⟨(L', .ref x :: st), by simp only [zloc, hg hx (fun q => by cases q)], h, rfl⟩
    · cases hz
  case aload_n =>
    simp only [zloc] at hz
    split at hz
    · rename_i x hx
      cases hz
      exact ⟨(L', .ref x :: st), by simp only [zloc, hg hx (fun q => by cases q)], h, rfl⟩
    · cases hz
  case istore => simp only [zloc] at hz ⊢; split at hz; (cases hz; exact ⟨_, rfl, zle_set1 h, rfl⟩); cases hz
  case istore_n => simp only [zloc] at hz ⊢; split at hz; (cases hz; exact ⟨_, rfl, zle_set1 h, rfl⟩); cases hz
  case astore => simp only [zloc] at hz ⊢; split at hz; (cases hz; exact ⟨_, rfl, zle_set1 h, rfl⟩); cases hz
  case astore_n => simp only [zloc] at hz ⊢; split at hz; (cases hz; exact ⟨_, rfl, zle_set1 h, rfl⟩); cases hz
  case lstore => simp only [zloc] at hz ⊢; split at hz; (cases hz; exact ⟨_, rfl, zle_set2 h, rfl⟩); cases hz
  case lstore_n => simp only [zloc] at hz ⊢; split at hz; (cases hz; exact ⟨_, rfl, zle_set2 h, rfl⟩); cases hz
  case iinc =>
    simp only [zloc] at hz
    split at hz
    · rename_i x n hv
      cases hz
      exact ⟨(zset1 L' k (.int (x + n)), st), by simp only [zloc, hg hv (fun q => by cases q)], zle_set1 h, rfl⟩
    · cases hz
  all_goals simp only [zloc, reduceCtorEq] at hz
theorem zst_junk {C : Nat → zF → (zR → Prop) → Prop} {Q : zR → Prop} {K K' : zF → Prop} (hC : ∀ j f (P P' : zR → Prop), (∀ r, P r → P' r) → C j f P → C j f P') (hK : ∀ n L L' st S, zle L L' → K (n, L, st, S) → K' (n, L', st, S)) {i pc : Nat} {L L' st : List Value} {S : zS} (hl : zle L L') :
    zst C i (pc, L, st, S) Q K → zst C i (pc, L', st, S) Q K' := by
  cases hc : zcode i pc with
  | none => simp only [zst, hc]; exact id
  | some e =>
    obtain ⟨ins, npc, r1, r2, v⟩ := e
    cases ho : zop ins v st with
    | some st' => simp only [zst, hc, ho]; exact hK _ _ _ _ _ hl
    | none =>
      cases hz : zloc ins r1 v L st with
      | some q =>
        obtain ⟨q', h1, h2, h3⟩ := zloc_le hl hz
        obtain ⟨La, sa⟩ := q
        obtain ⟨Lb, sb⟩ := q'
        dsimp only at h2 h3
        subst h3
        simp only [zst, hc, ho, hz, h1]
        exact hK _ _ _ _ _ h2
      | none =>
        cases hz' : zloc ins r1 v L' st with
        | some q' =>
          intro h
          exfalso
          revert h
          cases ins
          all_goals simp only [zst, hc, ho, hz]
          all_goals first | (simp only [zloc, reduceCtorEq] at hz'; done) | exact id
        | none =>
          have kk : ∀ n st S, K (n, L, st, S) → K' (n, L', st, S) := fun n st S => hK n L L' st S hl
          cases ins
          all_goals simp only [zst, hc, ho, hz, hz']
          all_goals first
            | exact id
            | exact kk _ _ _
            | (split <;> first
                | exact id
                | exact fun h => ⟨h.1, kk _ _ _ h.2⟩
                | exact fun h => ⟨fun a => kk _ _ _ (h.1 a), fun a => kk _ _ _ (h.2 a)⟩
                | exact fun h => ⟨fun a => kk _ _ _ (h.1 a), fun n o a b => kk _ _ _ (h.2 n o a b)⟩
                | exact zcm (kk _ _ _)
                | exact zcm (fun h => ⟨h.1, kk _ _ _ h.2⟩)
                | exact zcm (fun h => ⟨h.1, h.2.1, kk _ _ _ h.2.2⟩))
            | skip
          case invokespecial =>
            cases hb : Nat.beq r1 9999
            · simp only [cond_false]
              refine zcm ?_
              split
              · exact zcm (hC _ _ _ _ (fun q => by split; exact kk _ _ _; exact id))
              · exact id
            · simp only [cond_true]
              split
              · exact zcm (kk _ _ _)
              · exact id
          case invokestatic =>
            refine zcm (hC _ _ _ _ (fun q => ?_))
            split
            · exact kk _ _ _
            · exact id
          case invokevirtual =>
            refine zcm ?_
            split
            · refine zcm (hC _ _ _ _ (fun q => ?_))
              split
              · exact kk _ _ _
              · cases (zhd i).isEmpty
                · simp only [cond_false]
                  split
                  · exact id
                  · split
                    · exact hK _ _ _ _ _ (zle_set1 hl)
                    · exact hK _ _ _ _ _ (zle_set1 hl)
                    · exact id
                · exact id
            · exact id
          case new =>
            cases hb : Nat.beq r1 0
            · exact id
            · simp only [cond_true]
              exact zcm (kk _ _ _)
theorem zRn.junk {d i pc : Nat} {L L' st : List Value} {S : zS} {Q : zR → Prop} (h : zRn d i (pc, L, st, S) Q) (hl : zle L L') : zRn d i (pc, L', st, S) Q := by
  refine h (fun d i f Q => ∀ L', zle f.2.1 L' → zRn d i (f.1, L', f.2.2.1, f.2.2.2) Q) ?_ L' hl
  intro d i f Q h L' hl
  obtain ⟨pc, L, st, S⟩ := f
  refine zRn.step ?_
  have h1 : zst (zC zRn d) i (pc, L, st, S) Q (fun f' => ∀ L', zle f'.2.1 L' → zRn d i (f'.1, L', f'.2.2.1, f'.2.2.2) Q) := by
    refine zst_mono (zC_mono ?_ d) (fun _ h => h) (fun _ h => h) h
    intro d j f P P' hP hx
    have hxx : ∀ L : List Value, zle L L ∨ True := fun _ => Or.inr trivial
    have hrefl : ∀ L : List Value, zle L L := by
      intro L
      induction L with
      | nil => exact trivial
      | cons a L ih => exact ⟨Or.inr rfl, ih⟩
    exact (hx f.2.1 (hrefl _)).mono hP
  exact zst_junk (zC_mono (fun d j f P P' hP hx => hx.mono hP) d) (fun n L L' st S hl hk => hk L' hl) hl h1
/-- the references that the constructors lay -/
def zrl : List (List Value) := [[.ref 1, .ref 5, .ref 6, .ref 11, .ref 17, .ref 24], [.null, .ref 2, .ref 3, .ref 4], [], [], [], [.null, .null, .null, .null], [.ref 7, .null, .null, .null, .null, .null, .null, .ref 8, .ref 9, .ref 10], [], [], [], [], [.ref 12, .null, .ref 13, .ref 14, .ref 15, .ref 16], [], [], [], [], [], [.ref 18, .ref 19, .ref 20, .ref 21, .ref 22, .ref 23, .null], [], [], [], [], [], [.null, .null, .null, .null], [.null, .ref 25, .ref 26, .ref 27, .ref 28, .ref 29, .ref 30, .ref 31], [], [], [], [], [], [], [], [.null, .null, .ref 33, .ref 34, .ref 35, .null, .ref 36, .ref 37, .null, .null, .null, .null, .ref 38, .null, .ref 39, .null, .null, .ref 40, .ref 41, .ref 42, .ref 43, .ref 44, .null, .null, .null, .null, .ref 45, .ref 46, .ref 47, .null, .null, .null], [], [], [], [], [], [], [], [], [], [], [], [], [], [], [], []]
def zrho (a f : Nat) : Value := (zrl.getD a []).getD f .null
/-- behind a call -/
def zhn (D i pc : Nat) (L : List Value) (Q : zR → Prop) (c : Nat) (S' : zS) : Prop := bif (zhd i).isEmpty then Q (.inr c, S') else (match zhand pc c (zhd i) with
  | none => False
  | some h => match zcode i h with
    | some (.astore _, hpc, k, _, _) => zRn D i (hpc, zset1 L k zJ, [], S') Q
    | some (.astore_n _, hpc, k, _, _) => zRn D i (hpc, zset1 L k zJ, [], S') Q
    | _ => False)
def zret (D i pc npc : Nat) (L rest : List Value) (Q : zR → Prop) : zR → Prop := fun q => match q with
  | (.inl w, S') => zRn D i (npc, L, w.toList ++ rest, S') Q
  | (.inr c, S') => zhn D i pc L Q c S'
theorem zhn_le {D i pc : Nat} {L L' : List Value} {Q : zR → Prop} {c : Nat} {S' : zS} (hl : zle L L') : zhn D i pc L Q c S' → zhn D i pc L' Q c S' := by
  unfold zhn
  cases (zhd i).isEmpty
  · simp only [cond_false]
    split
    · exact id
    · split
      · exact fun h => h.junk (zle_set1 hl)
      · exact fun h => h.junk (zle_set1 hl)
      · exact id
  · exact id
theorem zcallE {d D j i pc npc : Nat} {f : zF} {L L' rest : List Value} {Q : zR → Prop} {P : zR → Prop} (h : zRn d j f (zret D i pc npc L rest Q)) (hl : zle L L') (hP : ∀ q, zret D i pc npc L' rest Q q → P q) : zRn d j f P := by
  refine h.mono (fun q hq => hP q ?_)
  obtain ⟨r, S'⟩ := q
  cases r with
  | inl w => exact zRn.junk hq hl
  | inr c => exact zhn_le hl hq
