/-! the law's wrappers: what they catch -/
theorem zh169_0 {d x l : Nat} {σ : Nat → Nat → Int32} {τ : Nat → Nat → Int64} {Q : zR → Prop} (h : Q (.inl (some (.int 1)), (49, x, l, σ, τ, zrho))) : zhn d 169 4 [zJ, zJ, zJ, zJ] Q 0 (49, x, l, σ, τ, zrho) := zv169_13 h
theorem zh170_2 {d x l : Nat} {σ : Nat → Nat → Int32} {τ : Nat → Nat → Int64} {Q : zR → Prop} (h : Q (.inl (some (.int 1)), (49, x, l, σ, τ, zrho))) : zhn d 170 5 [zJ, zJ, zJ, zJ, zJ] Q 2 (49, x, l, σ, τ, zrho) := zv170_15 h
theorem zh170_0 {d x l : Nat} {σ : Nat → Nat → Int32} {τ : Nat → Nat → Int64} {Q : zR → Prop} (h : Q (.inl (some (.int 2)), (49, x, l, σ, τ, zrho))) : zhn d 170 5 [zJ, zJ, zJ, zJ, zJ] Q 0 (49, x, l, σ, τ, zrho) := zv170_19 h
theorem zh171_0 {d x l : Nat} {σ : Nat → Nat → Int32} {τ : Nat → Nat → Int64} {Q : zR → Prop} (h : Q (.inl (some (.int 1)), (49, x, l, σ, τ, zrho))) : zhn d 171 5 [zJ, zJ, zJ, zJ, zJ] Q 0 (49, x, l, σ, τ, zrho) := zv171_22 h
theorem zh172_0 {d x l : Nat} {σ : Nat → Nat → Int32} {τ : Nat → Nat → Int64} {Q : zR → Prop} (h : Q (.inl (some (.int 1)), (49, x, l, σ, τ, zrho))) : zhn d 172 9 [zJ, zJ, zJ, zJ, zJ, zJ, zJ] Q 0 (49, x, l, σ, τ, zrho) := zv172_26 h
theorem zh173_0 {d x l : Nat} {σ : Nat → Nat → Int32} {τ : Nat → Nat → Int64} {Q : zR → Prop} (h : Q (.inl (some (.int 1)), (49, x, l, σ, τ, zrho))) : zhn d 173 4 [zJ, zJ, zJ, zJ] Q 0 (49, x, l, σ, τ, zrho) := zv173_13 h
theorem zh174_2 {d x l : Nat} {σ : Nat → Nat → Int32} {τ : Nat → Nat → Int64} {Q : zR → Prop} (h : Q (.inl (some (.int 1)), (49, x, l, σ, τ, zrho))) : zhn d 174 4 [zJ, zJ, zJ, zJ] Q 2 (49, x, l, σ, τ, zrho) := zv174_13 h
theorem zh175_2 {d x l : Nat} {σ : Nat → Nat → Int32} {τ : Nat → Nat → Int64} {Q : zR → Prop} (h : Q (.inl (some (.int 1)), (49, x, l, σ, τ, zrho))) : zhn d 175 4 [zJ, zJ, zJ, zJ] Q 2 (49, x, l, σ, τ, zrho) := zv175_13 h
theorem zh176_0 {d x l : Nat} {σ : Nat → Nat → Int32} {τ : Nat → Nat → Int64} {Q : zR → Prop} (h : Q (.inl (some (.int 1)), (49, x, l, σ, τ, zrho))) : zhn d 176 4 [zJ, zJ, zJ, zJ] Q 0 (49, x, l, σ, τ, zrho) := zv176_13 h
theorem zh177_0 {d x l : Nat} {σ : Nat → Nat → Int32} {τ : Nat → Nat → Int64} {Q : zR → Prop} (h : Q (.inl (some (.int 1)), (49, x, l, σ, τ, zrho))) : zhn d 177 7 [zJ, zJ, zJ, zJ, zJ, zJ] Q 0 (49, x, l, σ, τ, zrho) := zv177_17 h
theorem zh177_2 {d x l : Nat} {σ : Nat → Nat → Int32} {τ : Nat → Nat → Int64} {Q : zR → Prop} (h : Q (.inl (some (.int 2)), (49, x, l, σ, τ, zrho))) : zhn d 177 7 [zJ, zJ, zJ, zJ, zJ, zJ] Q 2 (49, x, l, σ, τ, zrho) := zv177_21 h
theorem zh178_2 {d x l : Nat} {σ : Nat → Nat → Int32} {τ : Nat → Nat → Int64} {Q : zR → Prop} (h : Q (.inl (some (.int 1)), (49, x, l, σ, τ, zrho))) : zhn d 178 5 [zJ, zJ, zJ, zJ, zJ] Q 2 (49, x, l, σ, τ, zrho) := zv178_15 h
theorem zh178_0 {d x l : Nat} {σ : Nat → Nat → Int32} {τ : Nat → Nat → Int64} {Q : zR → Prop} (h : Q (.inl (some (.int 2)), (49, x, l, σ, τ, zrho))) : zhn d 178 5 [zJ, zJ, zJ, zJ, zJ] Q 0 (49, x, l, σ, τ, zrho) := zv178_19 h
theorem zh179_2 {d x l : Nat} {σ : Nat → Nat → Int32} {τ : Nat → Nat → Int64} {Q : zR → Prop} (h : Q (.inl (some (.int 1)), (49, x, l, σ, τ, zrho))) : zhn d 179 4 [zJ, zJ, zJ, zJ] Q 2 (49, x, l, σ, τ, zrho) := zv179_13 h
theorem zh180_3 {d x l : Nat} {σ : Nat → Nat → Int32} {τ : Nat → Nat → Int64} {Q : zR → Prop} (h : Q (.inl (some (.int 1)), (49, x, l, σ, τ, zrho))) : zhn d 180 3 [zJ, zJ, zJ] Q 3 (49, x, l, σ, τ, zrho) := zv180_12 h
theorem zh181_3 {d x l : Nat} {σ : Nat → Nat → Int32} {τ : Nat → Nat → Int64} {Q : zR → Prop} (h : Q (.inl (some (.int 1)), (49, x, l, σ, τ, zrho))) : zhn d 181 5 [zJ, zJ, zJ, zJ, zJ] Q 3 (49, x, l, σ, τ, zrho) := zv181_15 h
theorem zh181_2 {d x l : Nat} {σ : Nat → Nat → Int32} {τ : Nat → Nat → Int64} {Q : zR → Prop} (h : Q (.inl (some (.int 2)), (49, x, l, σ, τ, zrho))) : zhn d 181 5 [zJ, zJ, zJ, zJ, zJ] Q 2 (49, x, l, σ, τ, zrho) := zv181_19 h
theorem zh182_3 {d x l : Nat} {σ : Nat → Nat → Int32} {τ : Nat → Nat → Int64} {Q : zR → Prop} (h : Q (.inl (some (.int 1)), (49, x, l, σ, τ, zrho))) : zhn d 182 4 [zJ, zJ, zJ, zJ] Q 3 (49, x, l, σ, τ, zrho) := zv182_13 h
theorem zh182_2 {d x l : Nat} {σ : Nat → Nat → Int32} {τ : Nat → Nat → Int64} {Q : zR → Prop} (h : Q (.inl (some (.int 2)), (49, x, l, σ, τ, zrho))) : zhn d 182 4 [zJ, zJ, zJ, zJ] Q 2 (49, x, l, σ, τ, zrho) := zv182_16 h
theorem zh182_1 {d x l : Nat} {σ : Nat → Nat → Int32} {τ : Nat → Nat → Int64} {Q : zR → Prop} (h : Q (.inl (some (.int 3)), (49, x, l, σ, τ, zrho))) : zhn d 182 4 [zJ, zJ, zJ, zJ] Q 1 (49, x, l, σ, τ, zrho) := zv182_19 h
theorem zh183_3 {d x l : Nat} {σ : Nat → Nat → Int32} {τ : Nat → Nat → Int64} {Q : zR → Prop} (h : Q (.inl (some (.int 1)), (49, x, l, σ, τ, zrho))) : zhn d 183 4 [zJ, zJ, zJ, zJ] Q 3 (49, x, l, σ, τ, zrho) := zv183_20 h
theorem zh183_2 {d x l : Nat} {σ : Nat → Nat → Int32} {τ : Nat → Nat → Int64} {Q : zR → Prop} (h : Q (.inl (some (.int 2)), (49, x, l, σ, τ, zrho))) : zhn d 183 4 [zJ, zJ, zJ, zJ] Q 2 (49, x, l, σ, τ, zrho) := zv183_23 h
theorem zh183_1 {d x l : Nat} {σ : Nat → Nat → Int32} {τ : Nat → Nat → Int64} {Q : zR → Prop} (h : Q (.inl (some (.int 3)), (49, x, l, σ, τ, zrho))) : zhn d 183 4 [zJ, zJ, zJ, zJ] Q 1 (49, x, l, σ, τ, zrho) := zv183_26 h
theorem zh184_1 {d x l : Nat} {σ : Nat → Nat → Int32} {τ : Nat → Nat → Int64} {Q : zR → Prop} (h : Q (.inl (some (.int 1)), (49, x, l, σ, τ, zrho))) : zhn d 184 3 [zJ, zJ, zJ] Q 1 (49, x, l, σ, τ, zrho) := zv184_12 h
theorem zh185_1 {d x l : Nat} {σ : Nat → Nat → Int32} {τ : Nat → Nat → Int64} {Q : zR → Prop} (h : Q (.inl (some (.int 1)), (49, x, l, σ, τ, zrho))) : zhn d 185 3 [zJ, zJ, zJ] Q 1 (49, x, l, σ, τ, zrho) := zv185_12 h
theorem zh186_3 {d x l : Nat} {σ : Nat → Nat → Int32} {τ : Nat → Nat → Int64} {Q : zR → Prop} (h : Q (.inl (some (.int 1)), (49, x, l, σ, τ, zrho))) : zhn d 186 3 [zJ, zJ, zJ] Q 3 (49, x, l, σ, τ, zrho) := zv186_19 h
theorem zh187_0 {d x l : Nat} {σ : Nat → Nat → Int32} {τ : Nat → Nat → Int64} {Q : zR → Prop} (h : Q (.inl (some (.int 1)), (49, x, l, σ, τ, zrho))) : zhn d 187 4 [zJ, zJ, zJ, zJ] Q 0 (49, x, l, σ, τ, zrho) := zv187_13 h
theorem zh188_1 {d x l : Nat} {σ : Nat → Nat → Int32} {τ : Nat → Nat → Int64} {Q : zR → Prop} (h : Q (.inl (some (.int 1)), (49, x, l, σ, τ, zrho))) : zhn d 188 3 [zJ, zJ, zJ] Q 1 (49, x, l, σ, τ, zrho) := zv188_12 h
theorem zh188_3 {d x l : Nat} {σ : Nat → Nat → Int32} {τ : Nat → Nat → Int64} {Q : zR → Prop} (h : Q (.inl (some (.int 2)), (49, x, l, σ, τ, zrho))) : zhn d 188 3 [zJ, zJ, zJ] Q 3 (49, x, l, σ, τ, zrho) := zv188_15 h
theorem zh189_1 {d x l : Nat} {σ : Nat → Nat → Int32} {τ : Nat → Nat → Int64} {Q : zR → Prop} (h : Q (.inl (some (.int 1)), (49, x, l, σ, τ, zrho))) : zhn d 189 5 [zJ, zJ, zJ, zJ, zJ] Q 1 (49, x, l, σ, τ, zrho) := zv189_15 h
theorem zh189_2 {d x l : Nat} {σ : Nat → Nat → Int32} {τ : Nat → Nat → Int64} {Q : zR → Prop} (h : Q (.inl (some (.int 2)), (49, x, l, σ, τ, zrho))) : zhn d 189 5 [zJ, zJ, zJ, zJ, zJ] Q 2 (49, x, l, σ, τ, zrho) := zv189_19 h
def IV (n x : Nat) (σ : Nat → Nat → Int32) (τ : Nat → Nat → Int64) : Prop := ∃ u e kn st pl s H, zRok u ∧ CI u e kn pl s H σ τ ∧ RI u e st pl s H σ τ ∧ x ≤ n ∧ st ≤ 2000 * n ∧ pl ≤ n
theorem cmp_ok {t a : Int32} {N F P : Prop} (ht : t = a) (h5 : a = 0) (hP : P) (hN : N) : (t = a → ((¬ a = 0 → N) ∧ (¬ (¬ a = 0) → ((P → N) ∧ (¬ P → F))))) ∧ (¬ (t = a) → F) := ⟨fun _ => ⟨fun q => absurd h5 q, fun _ => ⟨fun _ => hN, fun q => absurd hP q⟩⟩, fun q => absurd ht q⟩
theorem cmp_bad {t a : Int32} {N F M : Prop} (ht : t = a) (h5 : ¬ a = 0) (hN : N) : (t = a → ((¬ a = 0 → N) ∧ (¬ (¬ a = 0) → M))) ∧ (¬ (t = a) → F) := ⟨fun _ => ⟨fun _ => hN, fun q => absurd h5 q⟩, fun q => absurd ht q⟩
theorem cmp_z {t a : Int32} {b : Bool} {N F P0 P1 : Prop} (ht : t = a) (h5 : a = 0) (h0 : b = false → P0) (h1 : b = true → P1) (hN : N) : (t = a → ((¬ a = 0 → N) ∧ (¬ (¬ a = 0) → ((bI b = 0 → ((P0 → N) ∧ (¬ P0 → F))) ∧ (¬ (bI b = 0) → ((P1 → N) ∧ (¬ P1 → F))))))) ∧ (¬ (t = a) → F) := by
  refine ⟨fun _ => ⟨fun q => absurd h5 q, fun _ => ⟨fun q => ⟨fun _ => hN, fun q2 => absurd (h0 (by rw [bI_0] at q; exact q)) q2⟩, fun q => ⟨fun _ => hN, fun q2 => absurd (h1 (by rw [bI_0] at q; simpa using q)) q2⟩⟩⟩, fun q => absurd ht q⟩
theorem out_eq {τ : Nat → Nat → Int64} {k : Nat} {w : Int64} : lg_cmp ((zupL τ 48 k w) 48 k) w = 0 := (lg_cmp_eq _ _).2 pk_uLs
theorem FCt_o (τ : Nat → Nat → Int64) (k : Nat) (w : Int64) : FCt τ (zupL τ 48 k w) := by rw [zupL_row]; exact FCt_48 _ _
theorem FRt_o (τ : Nat → Nat → Int64) (k : Nat) (w : Int64) : FRt τ (zupL τ 48 k w) := by rw [zupL_row]; exact FRt_row _ _ (by omega)
theorem vz : vp_in (0 : Int32) 1 := vp_in_nI (n := 0) (by omega) (by decide)
/-- after an error: nothing but the code and the exception -/
theorem IV_err {n x : Nat} {σ : Nat → Nat → Int32} {τ : Nat → Nat → Int64} {t : Nat → Int32} (h : IV n x σ τ) (ht : zwf7 (σ 32) t) : IV (n + 1) (x + 1) (zrow σ 32 t) τ := by
  obtain ⟨u, e, kn, st, pl, s, H, hu, hC, hR, hx, hst, hpl⟩ := h
  exact ⟨u, e, kn, st, pl, s, H, hu, CI_fr hC (FR_row _ _ (by omega) (by omega)) (FRt.refl _), RI_7 hR ht, by omega, by omega, by omega⟩
def bL (b : Bool) : Int64 := bif b then 1 else 0
theorem out2 {b : Bool} {A : Int64 → Prop} (h : A (bL b)) : (bI b = 0 → (vp_in (0 : Int32) 1 ∧ A 0)) ∧ (¬ bI b = 0 → (vp_in (0 : Int32) 1 ∧ A 1)) := by
  cases b with
  | false => exact ⟨fun _ => ⟨vz, h⟩, fun q => absurd rfl q⟩
  | true => exact ⟨fun q => absurd q (by decide), fun _ => ⟨vz, h⟩⟩
theorem two {P : Prop} {v : Bool} {A : Int32 → Prop} (hv : P ↔ v = false) (r : A (bI v)) : (P → A 0) ∧ (¬ P → A 1) := by
  cases v with
  | false => exact ⟨fun _ => r, fun z => absurd (hv.2 rfl) z⟩
  | true => exact ⟨fun z => absurd (hv.1 z) (by decide), fun _ => r⟩
theorem bool_of (a : Int32) : ∃ v : Bool, a = 0 ↔ v = false := ⟨decide (¬ a = 0), by
  by_cases h : a = 0
  · rw [decide_eq_false (fun q => q h)]; exact ⟨fun _ => rfl, fun _ => h⟩
  · rw [decide_eq_true h]; exact ⟨fun q => absurd q h, fun q => (by cases q)⟩⟩
theorem thr (σ : Nat → Nat → Int32) (v : Int32) : (zrow σ 32 (upd (σ 32) 0 v)) 32 0 = v := by rw [zrow_me, upd_s rfl]
