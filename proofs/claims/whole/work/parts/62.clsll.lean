/-! the class: lastLoses -/
def CF (u : zRu) (s17 s18 s19 s20 s21 : Nat → Int32) : Prop := P18 s18 ∧ (s17 6 = 0 ∨ (s17 6 = 1 ∧ OT u s20 s21 ∧ Memo u s19))
/-- what learning and playing may change -/
def zfL (σ σ' : Nat → Nat → Int32) : Prop := ∀ q, q ≠ 17 → q ≠ 19 → q ≠ 20 → q ≠ 21 → q ≠ 22 → q ≠ 23 → σ' q = σ q
theorem zfL.refl (σ : Nat → Nat → Int32) : zfL σ σ := fun _ _ _ _ _ _ _ => rfl
theorem zfL.trans {a b c : Nat → Nat → Int32} (h1 : zfL a b) (h2 : zfL b c) : zfL a c := fun q w1 w2 w3 w4 w5 w6 => (h2 q w1 w2 w3 w4 w5 w6).trans (h1 q w1 w2 w3 w4 w5 w6)
theorem zfL_row {σ σ' : Nat → Nat → Int32} {a : Nat} {s : Nat → Int32} (h : zfL σ σ') (ha : a = 17 ∨ a = 19 ∨ a = 20 ∨ a = 21 ∨ a = 22 ∨ a = 23) : zfL σ (zrow σ' a s) := by
  intro q w1 w2 w3 w4 w5 w6
  rw [zrow_ne _ _ (by omega)]
  exact h q w1 w2 w3 w4 w5 w6
theorem zfL_CR {u : zRu} {σ σ' : Nat → Nat → Int32} {t4 : Nat → Int64} (h : zfL σ σ') (hc : CR u (σ 1) (σ 2) (σ 3) t4) : CR u (σ' 1) (σ' 2) (σ' 3) t4 := by
  rw [h 1 (by decide) (by decide) (by decide) (by decide) (by decide) (by decide), h 2 (by decide) (by decide) (by decide) (by decide) (by decide) (by decide), h 3 (by decide) (by decide) (by decide) (by decide) (by decide) (by decide)]
  exact hc
theorem sp41 {d x l : Nat} {σ : Nat → Nat → Int32} {τ : Nat → Nat → Int64} {Q : zR → Prop} {u : zRu} (hu : zRok u) (hc : CR u (σ 1) (σ 2) (σ 3) (τ 4)) (hf : CF u (σ 17) (σ 18) (σ 19) (σ 20) (σ 21))
    (hq : ∀ σ', zfL σ σ' → σ' 17 6 = 1 → OT u (σ' 20) (σ' 21) → Memo u (σ' 19) → Q (.inl none, (49, x, l, σ', τ, zrho))) :
    zRn (d + 5) 41 (0, [.ref 17, .ref 1, zJ, zJ], [], (49, x, l, σ, τ, zrho)) Q := by
  have f9 := fo_900 hu
  refine zv41_0 ⟨fun _ => ?_, fun c => ?_⟩
  · have loop : ∀ m k σ', k + m = 16 → zfL σ σ' → (∀ h, 1 ≤ h → h ≤ k → σ' 20 h = nI (fo u h)) → (∀ h i o, 1 ≤ h → h ≤ k → (opts u h)[i]? = some o → σ' 21 (fo u h + i) = nI (pkd o)) →
        zRn (d + 5) 41 (12, [.ref 17, .ref 1, .int (nI (fo u (k + 1))), .int (nI (k + 1))], [], (49, x, l, σ', τ, zrho)) Q := by
      intro m
      induction m with
      | zero =>
        intro k σ' hk hfr h20 h21
        have hk : k = 16 := by omega
        subst hk
        refine zv41_12 ⟨fun _ => ?_, fun c => absurd (by decide) c⟩
        rw [show (17 : Int32).toNatClampNeg = 17 from by decide, zup_row]
        refine sp168_19 (fun s hs => zv41_62 ?_)
        rw [zup_row]
        refine hq _ (zfL_row (zfL_row (zfL_row hfr (by omega)) (by omega)) (by omega)) rfl ⟨fun h h1 h2 => ?_, f9, fun h i o h1 h2 ho => h21 h i o h1 h2 ho⟩ (fun c hc => Or.inl ?_)
        · show upd (σ' 20) 17 (nI (fo u 17)) h = nI (fo u h)
          by_cases e : h = 17
          · rw [e, pk_us]
          · rw [pk_un e]; exact h20 h h1 (by omega)
        · show s (rk c 16 18) = 0
          have := rk_lt c 16 18 hc.1
          have := Pt_18
          exact hs _ (by omega)
      | succ m ih =>
        intro k σ' hk hfr h20 h21
        have m1 := fo_mono u (17 - (k + 2)) (k + 2)
        rw [show k + 2 + (17 - (k + 2)) = 17 by omega] at m1
        have e1 : fo u (k + 2) = fo u (k + 1) + (opts u (k + 1)).length := rfl
        refine zv41_12 ⟨fun c => ?_, fun _ => ⟨vp_in_nI (by omega) (by decide), ?_⟩⟩
        · simp (disch := omega) only [zlit, nI_leI, nI_ltI, nI_eq, nI_clamp, nI_add, pk_mul, pk_sub, pk_div] at c; omega
        · rw [nI_clamp (by omega), zup_row]
          have hfr2 : zfL σ (zrow σ' 20 (upd (σ' 20) (k + 1) (nI (fo u (k + 1))))) := zfL_row hfr (by omega)
          refine sp89 hu (zfL_CR hfr2 hc) (by omega) (by omega) (fun a b hw => zv41_39 ?_)
          rw [nI_1]
          refine ih (k + 1) _ (by omega) (zfL_row (zfL_row hfr2 (by omega)) (by omega)) (fun h h1 h2 => ?_) (fun h i o h1 h2 ho => ?_)
          · show upd (σ' 20) (k + 1) (nI (fo u (k + 1))) h = nI (fo u h)
            by_cases e : h = k + 1
            · rw [e, pk_us]
            · rw [pk_un e]; exact h20 h h1 (by omega)
          · show a (fo u h + i) = nI (pkd o)
            by_cases e : h = k + 1
            · subst e; exact hw.1 i o ho
            · have := (List.getElem?_eq_some_iff.mp ho).1
              have m2 := fo_mono u (k + 1 - (h + 1)) (h + 1)
              rw [show h + 1 + (k + 1 - (h + 1)) = k + 1 by omega] at m2
              have e2 : fo u (h + 1) = fo u h + (opts u h).length := rfl
              have := hw.2 (fo u h + i) (by omega)
              rw [this]
              exact h21 h i o h1 (by omega) ho
    have := loop 16 0 σ rfl (zfL.refl σ) (fun h h1 h2 => by omega) (fun h i o h1 h2 => by omega)
    have e0 : fo u (0 + 1) = 0 := by
      show 0 + (opts u 0).length = 0
      rw [opts_0]; rfl
    rw [e0] at this
    exact this
  · rcases hf.2 with h | h
    · exact absurd h c
    · exact hq σ (zfL.refl σ) h.1 h.2.1 h.2.2
theorem sp39 {d x l : Nat} {σ : Nat → Nat → Int32} {τ : Nat → Nat → Int64} {Q : zR → Prop} (hq : ∀ s, (∀ k, k < 32 → s k = 0) → Q (.inl none, (49, x, l, zrow σ 22 s, τ, zrho))) :
    zRn (d + 1) 39 (0, [.ref 17], [], (49, x, l, σ, τ, zrho)) Q := zv39_0 (sp168_22 (fun s hs => zv39_8 (hq s hs)))
theorem sp40 {d x l : Nat} {σ : Nat → Nat → Int32} {τ : Nat → Nat → Int64} {Q : zR → Prop} {h : Nat} {v : Int32} (hh : h ≤ 16) (hq : Q (.inl none, (49, x, l, zrow σ 22 (upd (σ 22) h (σ 22 h + v)), τ, zrho))) :
    zRn d 40 (0, [.ref 17, .int (nI h), .int v], [], (49, x, l, σ, τ, zrho)) Q := by
  refine zv40_0 ⟨fun c => ?_, fun _ => ⟨fun c => ?_, fun _ => ?_⟩⟩
  · simp (disch := omega) only [zlit, nI_leI, nI_ltI, nI_eq, nI_clamp, nI_add, pk_mul, pk_sub, pk_div] at c; omega
  · simp (disch := omega) only [zlit, nI_leI, nI_ltI, nI_eq, nI_clamp, nI_add, pk_mul, pk_sub, pk_div] at c; omega
  · rw [nI_clamp (by omega), zup_row]
    exact ⟨vp_in_nI (by omega) (by decide), vp_in_nI (by omega) (by decide), hq⟩
/-- how many of the first n heaps have a size -/
def ch (hp : Nat → Nat) : Nat → Nat → Nat
  | 0, _ => 0
  | n + 1, k => ch hp n k + one1 (hp n) k
theorem wsm_ch (f hp : Nat → Nat) (b : Nat) : ∀ n, wsm f (ch hp n) b = zsum (fun j => if 1 ≤ hp j ∧ hp j ≤ b then f (hp j) else 0) n := by
  intro n
  induction n with
  | zero =>
    have : ∀ b, wsm f (ch hp 0) b = 0 := by
      intro b
      induction b with
      | zero => rfl
      | succ b ih => show wsm f (ch hp 0) b + 0 * _ = 0; rw [ih, Nat.zero_mul]
    exact this b
  | succ n ih =>
    rw [wsm_add f (c := ch hp (n + 1)) (a := ch hp n) (b := one1 (hp n)) b (fun k _ _ => rfl), ih, wsm_one]
    rfl
theorem tot_ch {hp : Nat → Nat} {b : Nat} : ∀ n, (∀ j, j < n → hp j ≤ b) → tot (ch hp n) b = zsum hp n := by
  intro n h
  rw [tot_w, wsm_ch]
  have : ∀ n, (∀ j, j < n → hp j ≤ b) → zsum (fun j => if 1 ≤ hp j ∧ hp j ≤ b then hp j else 0) n = zsum hp n := by
    intro n
    induction n with
    | zero => intro _; rfl
    | succ n ih =>
      intro h
      show zsum _ n + (if 1 ≤ hp n ∧ hp n ≤ b then hp n else 0) = zsum hp n + hp n
      rw [ih (fun j hj => h j (by omega))]
      have := h n (by omega)
      split <;> omega
  exact this n h
theorem ch_0 {hp : Nat → Nat} {k : Nat} : ∀ n, (∀ j, j < n → hp j ≠ k) → ch hp n k = 0 := by
  intro n
  induction n with
  | zero => intro _; rfl
  | succ n ih =>
    intro h
    show ch hp n k + one1 (hp n) k = 0
    rw [ih (fun j hj => h j (by omega))]
    unfold one1
    rw [if_neg (fun e => h n (by omega) e.symm)]
theorem zsum_ge {hp : Nat → Nat} : ∀ n j, j < n → hp j ≤ zsum hp n := by
  intro n
  induction n with
  | zero => intro j h; omega
  | succ n ih =>
    intro j h
    show hp j ≤ zsum hp n + hp n
    by_cases c : j = n
    · subst c; omega
    · have := ih j (by omega); omega
theorem smO_ch {hp : Nat → Nat} (ht : zsum hp 16 ≤ 16) : smO (ch hp 16) ∧ ms (ch hp 16) 16 ≤ 36 := by
  have hb : ∀ j, j < 16 → hp j ≤ 16 := fun j hj => by have := zsum_ge (hp := hp) 16 j hj; omega
  have h1 := tot_ch (b := 16) 16 hb
  have h2 := ms_tot (ch hp 16) 16
  refine ⟨⟨?_, ch_0 16 (fun j hj => ?_), ch_0 16 (fun j hj => ?_)⟩, by omega⟩
  · unfold smOk; omega
  · have := hb j hj; omega
  · have := hb j hj; omega
theorem sp42 {d x l : Nat} {σ : Nat → Nat → Int32} {τ : Nat → Nat → Int64} {Q : zR → Prop} {u : zRu} {c : Nat → Nat} (hu : zRok u) (hms : ms c 16 ≤ 36) (hc : smO c) (h18 : P18 (σ 18)) (hot : OT u (σ 20) (σ 21)) (hme : Memo u (σ 19)) (h22 : ∀ k, 1 ≤ k → k ≤ 16 → σ 22 k = nI (c k))
    (hq1 : Wn u c → ∀ a b, Memo u a → Q (.inl (some (.int (1))), (49, x, l, L2 σ a b, τ, zrho))) (hq0 : ¬ Wn u c → ∀ a b, Memo u a → Q (.inl (some (.int (0))), (49, x, l, L2 σ a b, τ, zrho))) :
    zRn (d + 76) 42 (0, [.ref 17], [], (49, x, l, σ, τ, zrho)) Q := by
  refine zv42_0 ?_
  exact sp43 (d := d) hu 36 0 c hms (by omega) hc h18 hot hme h22 (fun w a b ha _ => zv42_5 ⟨Or.inr rfl, hq1 w a b ha⟩) (fun w a b ha _ => zv42_5 ⟨Or.inl rfl, hq0 w a b ha⟩)
theorem sp19 {d x l : Nat} {σ : Nat → Nat → Int32} {τ : Nat → Nat → Int64} {Q : zR → Prop} {u : zRu} {hp : Nat → Nat} (hu : zRok u) (hc : CR u (σ 1) (σ 2) (σ 3) (τ 4)) (hf : CF u (σ 17) (σ 18) (σ 19) (σ 20) (σ 21)) (hh : ∀ k, k < 16 → σ 12 k = nI (hp k)) (hb : ∀ k, k < 16 → hp k ≤ 2000) (hx : x < 600)
    (hq1 : zsum hp 16 ≤ 16 → ∀ (w : Bool) σ', (w = true ↔ Wn u (ch hp 16)) → zfL σ σ' → CF u (σ' 17) (σ' 18) (σ' 19) (σ' 20) (σ' 21) → Q (.inl (some (.int (bI w))), (49, x, l, σ', τ, zrho)))
    (hq0 : ¬ zsum hp 16 ≤ 16 → Q (.inr 3, (49, x + 1, l, σ, τ, zrho))) :
    zRn (d + 77) 19 (0, [.ref 0, zJ], [], (49, x, l, σ, τ, zrho)) Q := by
  have hz : zsum hp 16 ≤ 16 * 2000 := zsum_le hb
  refine zv19_0 (sp101 hh (zv19_7 ⟨fun c => ?_, fun c => ⟨hx, ?_⟩⟩))
  · simp (disch := omega) only [zlit, nI_leI, nI_ltI, nI_eq, nI_clamp, nI_add, pk_mul, pk_sub, pk_div] at c
    have hsm := smO_ch c
    have hb16 : ∀ j, j < 16 → hp j ≤ 16 := fun j hj => by have := zsum_ge (hp := hp) 16 j hj; omega
    refine (sp41 (d := d + 71) hu hc hf (fun σ1 f1 r1 ot1 me1 => zv19_33 (sp39 (fun s hs => zv19_40 ?_))))
    have key : ∀ n k s, k + n = 16 → (∀ j, 1 ≤ j → j ≤ 16 → s j = nI (ch hp k j)) → zRn (d + 77) 19 (42, [.ref 0, .int (nI k)], [], (49, x, l, zrow σ1 22 s, τ, zrho)) Q := by
      intro n
      induction n with
      | zero =>
        intro k s hk hs
        have hk : k = 16 := by omega
        subst hk
        have h18 : P18 (σ1 18) := by
          rw [f1 18 (by decide) (by decide) (by decide) (by decide) (by decide) (by decide)]; exact hf.1
        refine zv19_42 ⟨fun _ => ?_, fun c => absurd (by decide) c⟩
        refine sp42 (d := d) (c := ch hp 16) hu hsm.2 hsm.1 h18 ot1 me1 hs (fun w a b ha => zv19_78 ⟨Or.inr rfl, ?_⟩) (fun w a b ha => zv19_78 ⟨Or.inl rfl, ?_⟩)
        · refine hq1 c true _ ⟨fun _ => w, fun _ => rfl⟩ (zfL_row (zfL_row (zfL_row f1 (by omega)) (by omega)) (by omega)) ⟨h18, Or.inr ⟨r1, ot1, ha⟩⟩
        · refine hq1 c false _ ⟨fun q => (by cases q), fun q => absurd q w⟩ (zfL_row (zfL_row (zfL_row f1 (by omega)) (by omega)) (by omega)) ⟨h18, Or.inr ⟨r1, ot1, ha⟩⟩
      | succ n ih =>
        intro k s hk hs
        refine zv19_42 ⟨fun c => ?_, fun _ => ⟨vp_in_nI (by omega) (by decide), ?_⟩⟩
        · simp (disch := omega) only [zlit, nI_leI, nI_ltI, nI_eq, nI_clamp, nI_add, pk_mul, pk_sub, pk_div] at c; omega
        · have h12 : (zrow σ1 22 s) 12 ((nI k).toNatClampNeg) = nI (hp k) := by
            show σ1 12 ((nI k).toNatClampNeg) = nI (hp k)
            rw [nI_clamp (by omega), f1 12 (by decide) (by decide) (by decide) (by decide) (by decide) (by decide)]
            exact hh k (by omega)
          rw [h12]
          refine sp40 (hb16 k (by omega)) (zv19_65 ?_)
          rw [zrow_row, nI_1]
          refine ih (k + 1) _ (by omega) (fun j j1 j2 => ?_)
          show upd s (hp k) (s (hp k) + 1) j = nI (ch hp k j + one1 (hp k) j)
          rw [z_inc, z_one, hs j j1 j2, nI_add]
    exact key 16 0 s rfl (fun j _ j2 => hs j (by omega))
  · simp (disch := omega) only [zlit, nI_leI, nI_ltI, nI_eq, nI_clamp, nI_add, pk_mul, pk_sub, pk_div] at c
    exact hq0 c
