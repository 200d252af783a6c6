/-! laws of the small machine -/
theorem zcm {b : Bool} {X Y : Prop} (h : X → Y) : (cond b X False) → cond b Y False := by cases b; exact id; exact h
theorem zst_mono {C C' : Nat → zF → (zR → Prop) → Prop} {Q Q' : zR → Prop} {K K' : zF → Prop} (hC : ∀ j f (P P' : zR → Prop), (∀ r, P r → P' r) → C j f P → C' j f P') (hQ : ∀ r, Q r → Q' r) (hK : ∀ f, K f → K' f) {i : Nat} {f : zF} :
    zst C i f Q K → zst C' i f Q' K' := by
  obtain ⟨pc, L, st, S⟩ := f
  cases hc : zcode i pc with
  | none => simp only [zst, hc]; exact id
  | some e =>
    obtain ⟨ins, npc, r1, r2, v⟩ := e
    cases ho : zop ins v st with
    | some st' => simp only [zst, hc, ho]; exact hK _
    | none =>
      cases hl : zloc ins r1 v L st with
      | some q => simp only [zst, hc, ho, hl]; exact hK _
      | none =>
        cases ins
        all_goals simp only [zst, hc, ho, hl]
        all_goals first
          | exact id
          | exact hK _
          | exact hQ _
          | (split <;> first
              | exact id
              | exact hQ _
              | exact fun h => ⟨h.1, hK _ h.2⟩
              | exact fun h => ⟨h.1, hQ _ h.2⟩
              | exact fun h => ⟨fun a => hK _ (h.1 a), fun a => hK _ (h.2 a)⟩
              | exact fun h => ⟨fun a => hK _ (h.1 a), fun n o a b => hK _ (h.2 n o a b)⟩
              | exact zcm (hK _)
              | exact zcm (fun h => ⟨h.1, hK _ h.2⟩)
              | exact zcm (fun h => ⟨h.1, h.2.1, hK _ h.2.2⟩)
              | exact zcm (fun h => ⟨h.1, hQ _ h.2⟩)
              | (cases Nat.beq (zrt i) 2 with
                  | false => exact hQ _
                  | true => exact fun h => ⟨h.1, hQ _ h.2⟩))
          | skip
        case invokespecial =>
          cases hb : Nat.beq r1 9999
          · simp only [cond_false]
            refine zcm ?_
            split
            · exact zcm (hC _ _ _ _ (fun q => by split; exact hK _; exact id))
            · exact id
          · simp only [cond_true]
            split
            · exact zcm (hK _)
            · exact id
        case invokestatic =>
          refine zcm (hC _ _ _ _ (fun q => ?_))
          split
          · exact hK _
          · exact zcm (hQ _)
        case invokevirtual =>
          refine zcm ?_
          split
          · refine zcm (hC _ _ _ _ (fun q => ?_))
            split
            · exact hK _
            · cases (zhd i).isEmpty
              · simp only [cond_false]
                split
                · exact id
                · split
                  · exact hK _
                  · exact hK _
                  · exact id
              · exact hQ _
          · exact id
        case new =>
          cases hb : Nat.beq r1 0
          · simp only [cond_false]
            exact zcm (fun h => ⟨h.1, hQ _ h.2⟩)
          · simp only [cond_true]
            exact zcm (hK _)
theorem zC_mono {X Y : Nat → Nat → zF → (zR → Prop) → Prop} (h : ∀ d j f (P P' : zR → Prop), (∀ r, P r → P' r) → X d j f P → Y d j f P') (d : Nat) : ∀ j f (P P' : zR → Prop), (∀ r, P r → P' r) → zC X d j f P → zC Y d j f P' := by
  intro j f P P' hP
  cases d with
  | zero => exact id
  | succ d => exact h d j f P P' hP
theorem zRn.mono {d i : Nat} {f : zF} {Q Q' : zR → Prop} (h : zRn d i f Q) (hQ : ∀ r, Q r → Q' r) : zRn d i f Q' := by
  refine h (fun d i f Q => ∀ Q', (∀ r, Q r → Q' r) → zRn d i f Q') ?_ Q' hQ
  intro d i f Q h Q' hQ Y hY
  refine hY d i f Q' (zst_mono (zC_mono ?_ d) hQ (fun f' hf => hf Q' hQ Y hY) h)
  intro d j f P P' hP hx
  exact hx P' hP Y hY
theorem zRn.step {d i : Nat} {f : zF} {Q : zR → Prop} (h : zst (zC zRn d) i f Q (fun f' => zRn d i f' Q)) : zRn d i f Q := by
  intro Y hY
  refine hY d i f Q (zst_mono (zC_mono ?_ d) (fun _ h => h) (fun f' hf => hf Y hY) h)
  intro d j f P P' hP hx
  exact hx.mono hP Y hY
theorem zRn.deep {d d' i : Nat} {f : zF} {Q : zR → Prop} (h : zRn d i f Q) (hd : d ≤ d') : zRn d' i f Q := by
  refine h (fun d i f Q => ∀ d', d ≤ d' → zRn d' i f Q) ?_ d' hd
  intro d i f Q h d' hd
  refine zRn.step (zst_mono ?_ (fun _ h => h) (fun f' hf => hf d' hd) h)
  intro j f P P' hP hx
  cases d with
  | zero => exact hx.elim
  | succ d =>
    cases d' with
    | zero => omega
    | succ d' => exact (hx d' (by omega)).mono hP
theorem zreg_ok (cuts : List Nat) (n : Nat) {d i : Nat} {f : zF} {Q : zR → Prop} (h : zreg cuts n d i f Q) : zRn d i f Q := by
  induction n generalizing f with
  | zero => exact h
  | succ n ih =>
    refine zRn.step (zst_mono (zC_mono (fun d j f P P' hP hx => hx.mono hP) d) (fun _ h => h) (fun f' hf => ?_) h)
    revert hf
    cases zcut f'.1 cuts
    · exact ih
    · exact id
