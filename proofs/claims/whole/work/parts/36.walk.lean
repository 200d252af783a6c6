/-! the reference: the walk -/
def zrow (σ : Nat → Nat → Int32) (a : Nat) (s : Nat → Int32) : Nat → Nat → Int32 := fun b => bif Nat.beq b a then s else σ b
theorem zup_row (σ : Nat → Nat → Int32) (a j : Nat) (v : Int32) : zup σ a j v = zrow σ a (upd (σ a) j v) := by
  funext b
  unfold zup zrow
  cases c : Nat.beq b a with
  | false => rfl
  | true => rw [Nat.eq_of_beq_eq_true c]
theorem zrow_row (σ : Nat → Nat → Int32) (a : Nat) (s t : Nat → Int32) : zrow (zrow σ a s) a t = zrow σ a t := by
  funext b
  unfold zrow
  cases c : Nat.beq b a <;> rfl
theorem zrow_me (σ : Nat → Nat → Int32) (a : Nat) (s : Nat → Int32) : zrow σ a s a = s := by
  unfold zrow
  rw [Nat.beq_refl]
  rfl
theorem zrow_id (σ : Nat → Nat → Int32) (a : Nat) : zrow σ a (σ a) = σ := by
  funext b
  unfold zrow
  cases c : Nat.beq b a with
  | false => rfl
  | true => rw [Nat.eq_of_beq_eq_true c]; rfl
abbrev zP : Type := Int × Nat × Nat × Nat × Int
def zat (s : Nat → Int32) (h : Nat) (p : zP) : Prop := s 29 = nI h ∧ s 30 = iI p.1 ∧ s 31 = nI p.2.1 ∧ s 9 = nI p.2.2.1 ∧ s 10 = nI p.2.2.2.1 ∧ s 11 = iI p.2.2.2.2
/-- all but what a walk changes -/
def zwf6 (s t : Nat → Int32) : Prop := ∀ j, j ≠ 9 → j ≠ 10 → j ≠ 11 → j ≠ 29 → j ≠ 30 → j ≠ 31 → t j = s j
theorem zwf6.trans {s t r : Nat → Int32} (h1 : zwf6 s t) (h2 : zwf6 t r) : zwf6 s r := fun j a b c d e f => (h2 j a b c d e f).trans (h1 j a b c d e f)
theorem zwf6.refl (s : Nat → Int32) : zwf6 s s := fun _ _ _ _ _ _ _ => rfl
theorem zwf6_RR {u : zRu} {s t a b c : Nat → Int32} (h : zwf6 s t) (hr : RR u s a b c) : RR u t a b c := ⟨(h 1 (by decide) (by decide) (by decide) (by decide) (by decide) (by decide)).trans hr.1, hr.2⟩
def ent (t : Int) : Nat → zP
  | 0 => (t, 0, 0, 0, 0)
  | 1 => (t, 1, 0, 0, t)
  | 2 => (t, 2, 0, 1, t - 1)
  | _ => (t, 3, 1, 1, t - 1 - 1)
theorem sp121 {d x l : Nat} {σ : Nat → Nat → Int32} {τ : Nat → Nat → Int64} {Q : zR → Prop} {h n : Nat} {t : Int} (hn : n ≤ 3) (h29 : σ 32 29 = nI h) (h30 : σ 32 30 = iI t) (h31 : σ 32 31 = nI n)
    (hq : ∀ s, zwf6 (σ 32) s → zat s h (ent t n) → Q (.inl none, (49, x, l, zrow σ 32 s, τ, zrho))) :
    zRn d 121 (0, [.ref 32], [], (49, x, l, σ, τ, zrho)) Q := by
  have key : ∀ a b c : Int32, zwf6 (σ 32) (upd (upd (upd (σ 32) 9 a) 10 b) 11 c) := by
    intro a b c j h1 h2 h3 h4 h5 h6
    rw [pk_un h3, pk_un h2, pk_un h1]
  have h5 : n = 0 ∨ n = 1 ∨ n = 2 ∨ n = 3 := by omega
  refine zv121_0 ?_
  rcases h5 with h5 | h5 | h5 | h5 <;> subst h5 <;> rw [h31, h30]
  · refine ⟨fun c => ⟨fun c2 => absurd c2 c, fun c2 => ⟨fun c3 => ⟨fun c4 => absurd rfl c4, fun c4 => ?_⟩, fun c3 => absurd (by decide) c3⟩⟩, fun c => absurd (by decide) c⟩
    simp only [zup_row, zrow_row, zrow_me]
    exact hq _ (key _ _ _) ⟨h29, h30, h31, rfl, rfl, rfl⟩
  · refine ⟨fun c => ⟨fun c2 => absurd c2 c, fun c2 => ⟨fun c3 => ⟨fun c4 => ?_, fun c4 => absurd (by decide) c4⟩, fun c3 => absurd (by decide) c3⟩⟩, fun c => absurd (by decide) c⟩
    simp only [zup_row, zrow_row, zrow_me]
    refine hq _ (key _ _ _) ⟨h29, h30, h31, rfl, rfl, ?_⟩
    show iI t - 0 - 0 = iI t
    simp
  · refine ⟨fun c => ⟨fun c2 => absurd c2 c, fun c2 => ⟨fun c3 => absurd rfl c3, fun c3 => ⟨fun c4 => ?_, fun c4 => absurd (by decide) c4⟩⟩⟩, fun c => absurd (by decide) c⟩
    simp only [zup_row, zrow_row, zrow_me]
    refine hq _ (key _ _ _) ⟨h29, h30, h31, rfl, rfl, ?_⟩
    show iI t - 0 - iI 1 = iI (t - 1)
    rw [← iI_sub]; simp
  · refine ⟨fun c => absurd rfl c, fun c => ⟨fun c2 => ⟨fun c3 => ?_, fun c3 => absurd (by decide) c3⟩, fun c2 => absurd rfl c2⟩⟩
    simp only [zup_row, zrow_row, zrow_me]
    refine hq _ (key _ _ _) ⟨h29, h30, h31, rfl, rfl, ?_⟩
    show iI t - iI 1 - iI 1 = iI (t - 1 - 1)
    rw [iI_sub, iI_sub]
theorem sp120 {d x l : Nat} {σ : Nat → Nat → Int32} {τ : Nat → Nat → Int64} {Q : zR → Prop} {h : Nat} (hq : ∀ s, zwf6 (σ 32) s → zat s h (ent h 0) → Q (.inl none, (49, x, l, zrow σ 32 s, τ, zrho))) :
    zRn (d + 1) 120 (0, [.ref 32, .int (nI h)], [], (49, x, l, σ, τ, zrho)) Q := by
  refine zv120_0 ?_
  simp only [zup_row, zrow_row, zrow_me]
  refine sp121 (h := h) (n := 0) (t := h) (by omega) rfl (nI_iI h) rfl (fun s h1 h2 => zv120_19 ?_)
  rw [zrow_row]
  refine hq s ?_ h2
  intro j h1' h2' h3 h4 h5 h6
  refine (h1 j h1' h2' h3 h4 h5 h6).trans ?_
  show upd (upd (upd (σ 32) 29 (nI h)) 30 (nI h)) 31 0 j = σ 32 j
  rw [pk_un h6, pk_un h5, pk_un h4]
def wov (h : Nat) (p : zP) : Bool := decide (p.1 < 0) || h == 0
theorem sp122 {d x l : Nat} {σ : Nat → Nat → Int32} {τ : Nat → Nat → Int64} {Q : zR → Prop} {h : Nat} {p : zP} (hz : zat (σ 32) h p) (hh : h ≤ 2000) (h1 : -2 ≤ p.1) (h2 : p.1 ≤ 2000) (hq : Q (.inl (some (.int (bI (wov h p)))), (49, x, l, σ, τ, zrho))) :
    zRn d 122 (0, [.ref 32], [], (49, x, l, σ, τ, zrho)) Q := by
  unfold wov at hq
  refine zv122_0 ⟨fun c => ?_, fun c => ⟨fun c2 => ?_, fun c2 => ?_⟩⟩
  · rw [hz.2.1] at c; simp (disch := omega) only [zlit, nI_iI, iI_add, iI_sub, iI_mul, iI_leI, iI_ltI, iI_eqI, iI_m1] at c
    rw [decide_eq_true (show p.1 < 0 by omega)] at hq; exact hq
  · rw [hz.2.1] at c; rw [hz.1] at c2; simp (disch := omega) only [zlit, nI_iI, iI_add, iI_sub, iI_mul, iI_leI, iI_ltI, iI_eqI, iI_m1] at c c2
    rw [decide_eq_false (show ¬ p.1 < 0 by omega), z_bne (by omega)] at hq; exact hq
  · rw [hz.2.1] at c; rw [hz.1] at c2; simp (disch := omega) only [zlit, nI_iI, iI_add, iI_sub, iI_mul, iI_leI, iI_ltI, iI_eqI, iI_m1] at c c2
    rw [decide_eq_false (show ¬ p.1 < 0 by omega), show h = 0 by omega] at hq; exact hq
def whr (u : zRu) (h : Nat) (p : zP) : Bool := decide ((p.2.2.2.1 : Int) ≤ p.2.2.2.2) && (may u h p.1.toNat p.2.1 && isO u h (p.2.2.1, p.2.2.2.1, p.2.2.2.2.toNat))
/-- a place of the walk that isn't behind its end -/
def zPok (h : Nat) (p : zP) : Prop := 0 ≤ p.1 ∧ p.1 ≤ h ∧ p.2.1 ≤ 3 ∧ p.2.2.1 ≤ 2000 ∧ p.2.2.2.1 ≤ 2000 ∧ -2 ≤ p.2.2.2.2 ∧ p.2.2.2.2 ≤ h
theorem may4 {u : zRu} (h4 : kd u = 4) {h t n : Nat} (hm : may u h t n = true) : h ≤ 64 := by
  unfold may at hm
  rw [h4] at hm
  simp only [Bool.and_eq_true] at hm
  exact Nat.le_of_ble_eq_true hm.2.2.2.1
theorem sp123 {d x l : Nat} {σ : Nat → Nat → Int32} {τ : Nat → Nat → Int64} {Q : zR → Prop} {u : zRu} {h : Nat} {p : zP} (hu : zRok u) (hr : RR u (σ 32) (σ 33) (σ 34) (σ 35)) (hz : zat (σ 32) h p) (hh : h ≤ 2000) (hp : zPok h p) (hq : Q (.inl (some (.int (bI (whr u h p)))), (49, x, l, σ, τ, zrho))) :
    zRn (d + 2) 123 (0, [.ref 32], [], (49, x, l, σ, τ, zrho)) Q := by
  obtain ⟨p1, p2, p3, p4, p5, p6, p7⟩ := hp
  obtain ⟨z1, z2, z3, z4, z5, z6⟩ := hz
  have q0 : whr u h p = false → Q (.inl (some (.int (0))), (49, x, l, σ, τ, zrho)) := fun c => by rw [c] at hq; exact hq
  have q1 : whr u h p = true → Q (.inl (some (.int (1))), (49, x, l, σ, τ, zrho)) := fun c => by rw [c] at hq; exact hq
  unfold whr at q0 q1
  refine zv123_0 ⟨fun c => ?_, fun c => ?_⟩
  · rw [z5, z6] at c; simp (disch := omega) only [zlit, nI_iI, iI_add, iI_sub, iI_mul, iI_leI, iI_ltI, iI_eqI, iI_m1] at c
    exact q0 (by rw [decide_eq_false (by omega)]; rfl)
  · rw [z5, z6] at c; simp (disch := omega) only [zlit, nI_iI, iI_add, iI_sub, iI_mul, iI_leI, iI_ltI, iI_eqI, iI_m1] at c
    have hd : decide ((p.2.2.2.1 : Int) ≤ p.2.2.2.2) = true := decide_eq_true (by omega)
    rw [hd] at q0 q1
    rw [z1, z2, z3, iI_nat p1]
    refine sp118 hu hr (by omega) hh p3 ?_
    refine zv123_27 ⟨fun c2 => ?_, fun c2 => ?_⟩
    · rw [bI_0] at c2
      exact q0 (by rw [c2]; rfl)
    · rw [bI_0] at c2
      have c2 : may u h p.1.toNat p.2.1 = true := by simpa using c2
      rw [z1]
      refine sp119 (a := p.2.2.1) (b := p.2.2.2.1) (c := p.2.2.2.2.toNat) hu hr (fun h4 => may4 h4 c2) hh (by omega) (by omega) z5 (by rw [z6]; exact iI_nat (by omega)) ?_
      refine zv123_38 ⟨fun c3 => ?_, fun c3 => ?_⟩
      · rw [bI_0] at c3
        exact q0 (by rw [c2, c3]; rfl)
      · rw [bI_0] at c3
        have c3 : isO u h (p.2.2.1, p.2.2.2.1, p.2.2.2.2.toNat) = true := by simpa using c3
        exact q1 (by rw [c2, c3]; rfl)
