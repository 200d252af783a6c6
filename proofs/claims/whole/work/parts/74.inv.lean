/-! class and reference between calls -/
def CQc (u : zRu) (s : Nat) (σ : Nat → Nat → Int32) : Prop := s ≤ 3 ∧ (s = 0 → σ 24 0 = -1) ∧ (1 ≤ s → ∀ W : Nat → Nat → Bool, (∀ q t, W q t = true ↔ Wn u (cq q t)) → CQ W s (σ 24) (σ 25) (σ 29) (σ 30) (σ 31))
def CI (u : zRu) (e kn pl s : Nat) (H : Nat → Nat → Nat) (σ : Nat → Nat → Int32) (τ : Nat → Nat → Int64) : Prop := CR u (σ 1) (σ 2) (σ 3) (τ 4) ∧ CN u e kn (σ 6) (σ 7) (τ 9) (τ 10) ∧ CP u e (σ 6) ∧ CS H pl (σ 11) (σ 12) (σ 13) (σ 14) (σ 15) (σ 16) ∧ CF u (σ 17) (σ 18) (σ 19) (σ 20) (σ 21) ∧ QS (σ 26) (σ 27) (σ 28) ∧ CQc u s σ
def RQc (u : zRu) (s : Nat) (σ : Nat → Nat → Int32) : Prop := s ≤ 3 ∧ σ 32 22 = nI s ∧ (1 ≤ s → σ 32 15 = 1 ∧ ∀ W : Nat → Nat → Bool, (∀ q t, W q t = true ↔ Wn u (cq q t)) → RQ W s (σ 32) (σ 45) (σ 46))
def RI (u : zRu) (e st pl s : Nat) (H : Nat → Nat → Nat) (σ : Nat → Nat → Int32) (τ : Nat → Nat → Int64) : Prop := RR u (σ 32) (σ 33) (σ 34) (σ 35) ∧ RN u e st (σ 32) (σ 36) (σ 37) ∧ RS H pl (σ 32) (σ 38) (σ 39) ∧ RF u (σ 32) (τ 40) (σ 41) (σ 42) (σ 43) ∧ RQc u s σ
def FC (σ σ' : Nat → Nat → Int32) : Prop := ∀ b, 32 ≤ b → σ' b = σ b
def FR (σ σ' : Nat → Nat → Int32) : Prop := ∀ b, (b < 32 ∨ 48 ≤ b) → σ' b = σ b
def FCt (τ τ' : Nat → Nat → Int64) : Prop := ∀ b, 32 ≤ b → b < 48 → τ' b = τ b
def FRt (τ τ' : Nat → Nat → Int64) : Prop := ∀ b, b < 32 → τ' b = τ b
theorem CI_fr {u : zRu} {e kn pl s : Nat} {H : Nat → Nat → Nat} {σ σ' : Nat → Nat → Int32} {τ τ' : Nat → Nat → Int64} (h : CI u e kn pl s H σ τ) (f : FR σ σ') (g : FRt τ τ') : CI u e kn pl s H σ' τ' := by
  unfold CI CQc at h ⊢
  rw [f 1 (by omega), f 2 (by omega), f 3 (by omega), f 6 (by omega), f 7 (by omega), f 11 (by omega), f 12 (by omega), f 13 (by omega), f 14 (by omega), f 15 (by omega), f 16 (by omega), f 17 (by omega), f 18 (by omega), f 19 (by omega), f 20 (by omega), f 21 (by omega), f 24 (by omega), f 25 (by omega), f 26 (by omega), f 27 (by omega), f 28 (by omega), f 29 (by omega), f 30 (by omega), f 31 (by omega), g 4 (by omega), g 9 (by omega), g 10 (by omega)]
  exact h
theorem RI_fr {u : zRu} {e st pl s : Nat} {H : Nat → Nat → Nat} {σ σ' : Nat → Nat → Int32} {τ τ' : Nat → Nat → Int64} (h : RI u e st pl s H σ τ) (f : FC σ σ') (g : FCt τ τ') : RI u e st pl s H σ' τ' := by
  unfold RI RQc at h ⊢
  rw [f 32 (by omega), f 33 (by omega), f 34 (by omega), f 35 (by omega), f 36 (by omega), f 37 (by omega), f 38 (by omega), f 39 (by omega), f 41 (by omega), f 42 (by omega), f 43 (by omega), f 45 (by omega), f 46 (by omega), g 40 (by omega) (by omega)]
  exact h
theorem FC.refl (σ : Nat → Nat → Int32) : FC σ σ := fun _ _ => rfl
theorem FR.refl (σ : Nat → Nat → Int32) : FR σ σ := fun _ _ => rfl
theorem FCt.refl (τ : Nat → Nat → Int64) : FCt τ τ := fun _ _ _ => rfl
theorem FRt.refl (τ : Nat → Nat → Int64) : FRt τ τ := fun _ _ => rfl
theorem FC.trans {a b c : Nat → Nat → Int32} (h1 : FC a b) (h2 : FC b c) : FC a c := fun q w => (h2 q w).trans (h1 q w)
theorem FR.trans {a b c : Nat → Nat → Int32} (h1 : FR a b) (h2 : FR b c) : FR a c := fun q w => (h2 q w).trans (h1 q w)
theorem FC_row (σ : Nat → Nat → Int32) {a : Nat} (s : Nat → Int32) (h : a < 32) : FC σ (zrow σ a s) := fun _ w => zrow_ne _ _ (by omega)
theorem FR_row (σ : Nat → Nat → Int32) {a : Nat} (s : Nat → Int32) (h : 32 ≤ a) (h2 : a < 48) : FR σ (zrow σ a s) := fun _ w => zrow_ne _ _ (by omega)
theorem FC_up (σ : Nat → Nat → Int32) {a : Nat} (j : Nat) (v : Int32) (h : a < 32) : FC σ (zup σ a j v) := fun _ w => zup_nx _ _ _ (by omega)
theorem FR_up (σ : Nat → Nat → Int32) {a : Nat} (j : Nat) (v : Int32) (h : 32 ≤ a) (h2 : a < 48) : FR σ (zup σ a j v) := fun _ w => zup_nx _ _ _ (by omega)
theorem FCt_row (τ : Nat → Nat → Int64) {a : Nat} (s : Nat → Int64) (h : a < 32) : FCt τ (zrowL τ a s) := fun _ w _ => zrowL_ne _ _ (by omega)
theorem FRt_row (τ : Nat → Nat → Int64) {a : Nat} (s : Nat → Int64) (h : 32 ≤ a) : FRt τ (zrowL τ a s) := fun _ w => zrowL_ne _ _ (by omega)
theorem FCt_48 (τ : Nat → Nat → Int64) (s : Nat → Int64) : FCt τ (zrowL τ 48 s) := fun _ _ w => zrowL_ne _ _ (by omega)
theorem FCt.trans {a b c : Nat → Nat → Int64} (h1 : FCt a b) (h2 : FCt b c) : FCt a c := fun q w w2 => (h2 q w w2).trans (h1 q w w2)
theorem FRt.trans {a b c : Nat → Nat → Int64} (h1 : FRt a b) (h2 : FRt b c) : FRt a c := fun q w => (h2 q w).trans (h1 q w)
/-- what walks and codes change matters to no invariant -/
theorem RI_7 {u : zRu} {e st pl s : Nat} {H : Nat → Nat → Nat} {σ : Nat → Nat → Int32} {τ : Nat → Nat → Int64} {t : Nat → Int32} (h : RI u e st pl s H σ τ) (ht : zwf7 (σ 32) t) : RI u e st pl s H (zrow σ 32 t) τ := by
  have g : ∀ j, j ≠ 0 → j ≠ 9 → j ≠ 10 → j ≠ 11 → j ≠ 29 → j ≠ 30 → j ≠ 31 → t j = σ 32 j := ht
  unfold RI RQc RR RN RS RF RFk RQ RQe at h ⊢
  show (t 1 = _ ∧ _) ∧ (t 5 = _ ∧ _ ∧ _ ∧ t 8 = _ ∧ _) ∧ (t 13 = _ ∧ _) ∧ (_ ∧ ((t 15 = _ ∧ t 16 = _ ∧ _) ∨ (t 15 = _ ∧ t 16 = _ ∧ _) ∨ (t 15 = _ ∧ t 16 = _ ∧ _))) ∧ _ ∧ t 22 = _ ∧ (_ → t 15 = _ ∧ ∀ W, _ → t 22 = _ ∧ t 23 = _ ∧ t 25 = _ ∧ _)
  rw [g 1 (by decide) (by decide) (by decide) (by decide) (by decide) (by decide) (by decide), g 5 (by decide) (by decide) (by decide) (by decide) (by decide) (by decide) (by decide), g 8 (by decide) (by decide) (by decide) (by decide) (by decide) (by decide) (by decide), g 13 (by decide) (by decide) (by decide) (by decide) (by decide) (by decide) (by decide), g 15 (by decide) (by decide) (by decide) (by decide) (by decide) (by decide) (by decide), g 16 (by decide) (by decide) (by decide) (by decide) (by decide) (by decide) (by decide), g 22 (by decide) (by decide) (by decide) (by decide) (by decide) (by decide) (by decide), g 23 (by decide) (by decide) (by decide) (by decide) (by decide) (by decide) (by decide), g 25 (by decide) (by decide) (by decide) (by decide) (by decide) (by decide) (by decide)]
  exact h
theorem zwf7_c (s : Nat → Int32) (v : Int32) : zwf7 s (upd s 0 v) := by
  intro j h0
  intros
  exact pk_un h0
theorem sp24 {d x l : Nat} {σ : Nat → Nat → Int32} {τ : Nat → Nat → Int64} {Q : zR → Prop} {u u' : zRu} {e kn pl : Nat} {H : Nat → Nat → Nat} (hc : CR u' (σ 1) (σ 2) (σ 3) (τ 4)) (hn : CN u e kn (σ 6) (σ 7) (τ 9) (τ 10)) (hs : CS H pl (σ 11) (σ 12) (σ 13) (σ 14) (σ 15) (σ 16)) (h18 : P18 (σ 18)) (hS : QS (σ 26) (σ 27) (σ 28))
    (hq : ∀ σ', FC σ σ' → CI u' 0 0 pl 0 H σ' τ → Q (.inl none, (49, x, l, σ', τ, zrho))) :
    zRn (d + 1) 24 (0, [.ref 0], [], (49, x, l, σ, τ, zrho)) Q := by
  refine zv24_0 (zv49_0 (zv24_7 (zv38_0 (zv24_14 ?_))))
  refine hq _ (((((((FC_up _ _ _ (by omega)).trans (FC_up _ _ _ (by omega))).trans (FC_up _ _ _ (by omega))).trans (FC_up _ _ _ (by omega))).trans (FC_up _ _ _ (by omega)))).trans (FC_up _ _ _ (by omega))) ?_
  have e6 : ∀ j, (zup (zup (zup (zup (zup (zup σ 6 5 0) 6 1 0) 6 2 0) 6 6 0) 17 6 0) 24 0 (-1)) 6 j = upd (upd (upd (upd (σ 6) 5 0) 1 0) 2 0) 6 0 j := fun _ => rfl
  refine ⟨hc, ⟨?_, ?_, Nat.le_refl 0, Nat.zero_le _, fun k hk => ?_, ?_, ?_⟩, Or.inl ?_, hs, ⟨h18, Or.inl ?_⟩, hS, Nat.zero_le _, fun _ => ?_, fun h => absurd h (by omega)⟩
  · rw [e6, pk_un (by decide), pk_un (by decide), upd_s rfl]; rfl
  · rw [e6, pk_un (by decide), pk_un (by decide), pk_un (by decide), upd_s rfl]; rfl
  · rw [show k = 0 by omega]
    exact hn.2.2.2.2.1 0 (Nat.zero_le _)
  · rw [e6, pk_un (by decide), upd_s rfl]; rfl
  · exact ⟨fun _ c h1 h2 => absurd h1 (by omega), fun _ c h1 h2 => absurd h1 (by omega)⟩
  · rw [e6, upd_s rfl]
  · show upd (σ 17) 6 0 6 = 0
    exact upd_s rfl
  · show upd (σ 24) 0 (-1) 0 = -1
    exact upd_s rfl
theorem sp111 {d x l : Nat} {σ : Nat → Nat → Int32} {τ : Nat → Nat → Int64} {Q : zR → Prop} {u u' : zRu} {e st pl : Nat} {H : Nat → Nat → Nat} (hr : RR u' (σ 32) (σ 33) (σ 34) (σ 35)) (hn : RN u e st (σ 32) (σ 36) (σ 37)) (hs : RS H pl (σ 32) (σ 38) (σ 39)) (hf : RF u (σ 32) (τ 40) (σ 41) (σ 42) (σ 43))
    (hq : ∀ σ', FR σ σ' → σ' 32 0 = σ 32 0 → RI u' 0 st pl 0 H σ' τ → Q (.inl none, (49, x, l, σ', τ, zrho))) :
    zRn d 111 (0, [.ref 32], [], (49, x, l, σ, τ, zrho)) Q := by
  refine zv111_0 ?_
  rw [show (0 : Int32).toNatClampNeg = 0 from rfl]
  have e32 : ∀ j, (zup (zup (zup (zup (zup σ 32 5 0) 36 0 0) 32 15 0) 32 22 0) 32 25 0) 32 j = upd (upd (upd (upd (σ 32) 5 0) 15 0) 22 0) 25 0 j := fun _ => rfl
  have ot : ∀ j, j ≠ 5 → j ≠ 15 → j ≠ 22 → j ≠ 25 → (zup (zup (zup (zup (zup σ 32 5 0) 36 0 0) 32 15 0) 32 22 0) 32 25 0) 32 j = σ 32 j := fun j h1 h2 h3 h4 => by rw [e32, pk_un h4, pk_un h3, pk_un h2, pk_un h1]
  obtain ⟨f1, f2⟩ := hf
  refine hq _ ((((FR_up _ _ _ (by omega) (by omega)).trans (FR_up _ _ _ (by omega) (by omega))).trans (FR_up _ _ _ (by omega) (by omega))).trans ((FR_up _ _ _ (by omega) (by omega)).trans (FR_up _ _ _ (by omega) (by omega)))) (ot 0 (by decide) (by decide) (by decide) (by decide)) ?_
  have e15 : (zup (zup (zup (zup (zup σ 32 5 0) 36 0 0) 32 15 0) 32 22 0) 32 25 0) 32 15 = 0 := by rw [e32, pk_un (by decide), pk_un (by decide), upd_s rfl]
  have e16 := ot 16 (by decide) (by decide) (by decide) (by decide)
  refine ⟨⟨(ot 1 (by decide) (by decide) (by decide) (by decide)).trans hr.1, hr.2⟩, ⟨?_, Nat.zero_le _, fun k hk => ?_, (ot 8 (by decide) (by decide) (by decide) (by decide)).trans hn.2.2.2.1, hn.2.2.2.2⟩, ⟨(ot 13 (by decide) (by decide) (by decide) (by decide)).trans hs.1, hs.2⟩, ⟨f1, ?_⟩, Nat.zero_le _, ?_, fun h => absurd h (by omega)⟩
  · rw [e32, pk_un (by decide), pk_un (by decide), pk_un (by decide), upd_s rfl]; rfl
  · rw [show k = 0 by omega]
    show upd (σ 36) 0 0 0 = _
    rw [upd_s rfl]; rfl
  · rcases f2 with ⟨a1, a2, a3⟩ | ⟨a1, a2, a3, a4⟩ | ⟨a1, a2, a3, a4, a5⟩
    · exact Or.inl ⟨e15, e16.trans a2, a3⟩
    · exact Or.inr (Or.inl ⟨e15, e16.trans a2, a3, a4⟩)
    · exact Or.inr (Or.inl ⟨e15, e16.trans a2, a3, a4⟩)
  · rw [e32, pk_un (by decide), upd_s rfl]; rfl
