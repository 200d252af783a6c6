/-! where the walk goes: through all options, in order -/
def wls (u : zRu) (h : Nat) : Nat → zP → List zO
  | 0, _ => []
  | n + 1, p => if wov h p = true then [] else (if whr u h p = true then [(p.2.2.1, p.2.2.2.1, p.2.2.2.2.toNat)] else []) ++ wls u h n (adv u h p)
def wfin (u : zRu) (h : Nat) : Nat → zP → Prop
  | 0, p => wov h p = true ∧ -2 ≤ p.1 ∧ p.1 ≤ 2000
  | n + 1, p => (wov h p = true ∧ -2 ≤ p.1 ∧ p.1 ≤ 2000) ∨ (wov h p = false ∧ zPok h p ∧ wfin u h n (adv u h p))
def zSg (u : zRu) (h : Nat) (p q : zP) (L : List zO) : Prop := ∃ n, ∀ m, wls u h (n + m) p = L ++ wls u h m q ∧ (wfin u h m q → wfin u h (n + m) p)
theorem zSg.refl {u : zRu} {h : Nat} {p : zP} : zSg u h p p [] := ⟨0, fun m => by rw [Nat.zero_add]; exact ⟨rfl, id⟩⟩
theorem zSg.trans {u : zRu} {h : Nat} {p q r : zP} {L M : List zO} (h1 : zSg u h p q L) (h2 : zSg u h q r M) : zSg u h p r (L ++ M) := by
  obtain ⟨n, h1⟩ := h1
  obtain ⟨k, h2⟩ := h2
  refine ⟨n + k, fun m => ?_⟩
  have e1 := h1 (k + m)
  have e2 := h2 m
  rw [Nat.add_assoc]
  exact ⟨by rw [e1.1, e2.1, List.append_assoc], fun w => e1.2 (e2.2 w)⟩
theorem zSg.step {u : zRu} {h : Nat} {p q : zP} {L : List zO} (hp : zPok h p) (h0 : 1 ≤ h) (hq : adv u h p = q) (hL : (if whr u h p = true then [(p.2.2.1, p.2.2.2.1, p.2.2.2.2.toNat)] else []) = L) : zSg u h p q L := by
  have ho : wov h p = false := by
    unfold wov
    rw [decide_eq_false (by have := hp.1; omega), z_bne (by omega)]; rfl
  refine ⟨1, fun m => ?_⟩
  rw [Nat.add_comm]
  constructor
  · show (if wov h p = true then [] else (if whr u h p = true then [(p.2.2.1, p.2.2.2.1, p.2.2.2.2.toNat)] else []) ++ wls u h m (adv u h p)) = L ++ wls u h m q
    rw [if_neg (by rw [ho]; decide), hL, hq]
  · intro w
    exact Or.inr ⟨ho, hp, by rw [hq]; exact w⟩
theorem zfil1 {α : Type} (f : α → Bool) (a : α) : [a].filter f = if f a = true then [a] else [] := by
  cases c : f a <;> simp [c]
theorem zSg_no {u : zRu} {h t n : Nat} (h0 : 1 ≤ h) (hh : h ≤ 2000) (ht : t ≤ h) (hn : n ≤ 3) (hm : may u h t n = false) : zSg u h (ent t n) (wnx t n) [] := by
  have h5 : n = 0 ∨ n = 1 ∨ n = 2 ∨ n = 3 := by omega
  have hw : whr u h (ent t n) = false := by
    unfold whr
    have : may u h (ent (t : Int) n).1.toNat (ent (t : Int) n).2.1 = false := by rcases h5 with h5 | h5 | h5 | h5 <;> subst h5 <;> exact hm
    rw [this, Bool.false_and, Bool.and_false]
  refine zSg.step ?_ h0 ?_ (by rw [hw]; rfl)
  · unfold zPok
    rcases h5 with h5 | h5 | h5 | h5 <;> subst h5 <;> simp only [ent] <;> omega
  · have ha : adv u h (ent t n) = wrw u h (ent t n) := by
      unfold adv
      have : may u h (ent (t : Int) n).1.toNat (ent (t : Int) n).2.1 = false := by rcases h5 with h5 | h5 | h5 | h5 <;> subst h5 <;> exact hm
      rw [if_neg (fun e => by rw [this] at e; exact absurd e.2.1 (by decide))]
    rw [ha]
    unfold wrw
    rcases h5 with h5 | h5 | h5 | h5 <;> subst h5
    · rw [if_neg (fun e => absurd e.1 (by simp [ent]))]; rfl
    · rw [if_neg (fun e => absurd e.1 (by simp [ent]))]; rfl
    · rw [if_neg (fun e => absurd e.1 (by simp [ent]))]; rfl
    · rw [if_neg (fun e => by have e2 := e.2.1; have : may u h t 3 = true := e2; rw [hm] at this; exact absurd this (by decide))]; rfl
theorem zwhr {u : zRu} {h t n a b c : Nat} (hb : b ≤ c) (hm : may u h t n = true) : whr u h ((t : Int), n, a, b, (c : Int)) = isO u h (a, b, c) := by
  unfold whr
  dsimp only
  rw [decide_eq_true (by omega), Int.toNat_natCast, Int.toNat_natCast, hm, Bool.true_and, Bool.true_and]
theorem zSg_01 {u : zRu} {h t n : Nat} (h0 : 1 ≤ h) (hh : h ≤ 2000) (ht : t ≤ h) (hn : n ≤ 1) (hm : may u h t n = true) : zSg u h (ent t n) (wnx t n) ((grp t n).filter (isO u h)) := by
  have h5 : n = 0 ∨ n = 1 := by omega
  rcases h5 with h5 | h5 <;> subst h5
  · refine zSg.step ?_ h0 ?_ ?_
    · unfold zPok; simp only [ent]; omega
    · unfold adv; rw [if_neg (fun e => absurd e.1 (by simp [ent]))]
      unfold wrw; rw [if_neg (fun e => absurd e.1 (by simp [ent]))]; rfl
    · show _ = List.filter (isO u h) [(0, 0, 0)]
      rw [zfil1]
      have := zwhr (u := u) (h := h) (t := t) (n := 0) (a := 0) (b := 0) (c := 0) (by omega) hm
      show (if whr u h (ent t 0) = true then [(0, 0, 0)] else []) = _
      rw [show whr u h (ent t 0) = isO u h (0, 0, 0) from this]
  · refine zSg.step ?_ h0 ?_ ?_
    · unfold zPok; simp only [ent]; omega
    · unfold adv; rw [if_neg (fun e => absurd e.1 (by simp [ent]))]
      unfold wrw; rw [if_neg (fun e => absurd e.1 (by simp [ent]))]; rfl
    · show _ = List.filter (isO u h) [(0, 0, t)]
      rw [zfil1]
      have := zwhr (u := u) (h := h) (t := t) (n := 1) (a := 0) (b := 0) (c := t) (by omega) hm
      show (if whr u h (ent t 1) = true then [(0, 0, (t : Int).toNat)] else []) = _
      rw [show whr u h (ent t 1) = isO u h (0, 0, t) from this, Int.toNat_natCast]
theorem zSg_2 {u : zRu} {h t : Nat} (h0 : 1 ≤ h) (hh : h ≤ 2000) (ht : t ≤ h) (hm : may u h t 2 = true) : zSg u h (ent t 2) (wnx t 2) ((grp t 2).filter (isO u h)) := by
  have hle := may_le hm
  have one : ∀ k, 2 * (k + 1) < t → zSg u h ((t : Int), 2, 0, k + 1, ((t - (k + 1) : Nat) : Int)) ((t : Int), 2, 0, k + 1 + 1, ((t - (k + 1 + 1) : Nat) : Int)) ([(0, k + 1, t - (k + 1))].filter (isO u h)) := by
    intro k hk
    refine zSg.step ?_ h0 ?_ ?_
    · unfold zPok; dsimp only; omega
    · unfold adv
      dsimp only
      rw [Int.toNat_natCast, if_pos ⟨by omega, hm, by omega⟩, if_pos (Or.inr rfl)]
      congr 4
      omega
    · dsimp only
      rw [zwhr (by omega) hm, zfil1, Int.toNat_natCast]
  have S : ∀ k, 2 * k < t → zSg u h (ent t 2) ((t : Int), 2, 0, k + 1, ((t - (k + 1) : Nat) : Int)) ((row2 t k).filter (isO u h)) := by
    intro k
    induction k with
    | zero =>
      intro _
      have : ent (t : Int) 2 = ((t : Int), 2, 0, 0 + 1, ((t - (0 + 1) : Nat) : Int)) := by
        show ((t : Int), 2, 0, 1, (t : Int) - 1) = _
        congr 4
        omega
      rw [this]
      exact zSg.refl
    | succ k ih =>
      intro hk
      have := (ih (by omega)).trans (one k hk)
      rw [← List.filter_append] at this
      exact this
  have last : ∀ k, k + 1 ≤ t → (t < 2 * (k + 1) + 1) → adv u h ((t : Int), 2, 0, k + 1, ((t - (k + 1) : Nat) : Int)) = wnx t 2 := by
    intro k h1 h2
    unfold adv
    dsimp only
    rw [if_neg (fun e => by omega)]
    unfold wrw
    dsimp only
    rw [if_neg (fun e => by omega)]
  show zSg u h (ent t 2) (wnx t 2) ((row2 t (t / 2)).filter (isO u h))
  rcases Nat.mod_two_eq_zero_or_one t with h2 | h2
  · obtain ⟨m, hm2⟩ : ∃ m, t = 2 * (m + 1) := ⟨t / 2 - 1, by omega⟩
    have e : t / 2 = m + 1 := by omega
    rw [e]
    have h3 : zSg u h ((t : Int), 2, 0, m + 1, ((t - (m + 1) : Nat) : Int)) (wnx t 2) ([(0, m + 1, t - (m + 1))].filter (isO u h)) := by
      refine zSg.step ?_ h0 (last m (by omega) (by omega)) ?_
      · unfold zPok; dsimp only; omega
      · dsimp only
        rw [zwhr (by omega) hm, zfil1, Int.toNat_natCast]
    have := (S m (by omega)).trans h3
    rw [← List.filter_append] at this
    exact this
  · obtain ⟨m, hm2⟩ : ∃ m, t = 2 * m + 1 := ⟨t / 2, by omega⟩
    have e : t / 2 = m := by omega
    rw [e]
    have h3 : zSg u h ((t : Int), 2, 0, m + 1, ((t - (m + 1) : Nat) : Int)) (wnx t 2) [] := by
      refine zSg.step ?_ h0 (last m (by omega) (by omega)) ?_
      · unfold zPok; dsimp only; omega
      · have : whr u h ((t : Int), 2, 0, m + 1, ((t - (m + 1) : Nat) : Int)) = false := by
          unfold whr; dsimp only; rw [decide_eq_false (by omega)]; rfl
        rw [this]; rfl
    have := (S m (by omega)).trans h3
    rw [List.append_nil] at this
    exact this
theorem zSg_3 {u : zRu} {h t : Nat} (h0 : 1 ≤ h) (hh : h ≤ 2000) (ht : t ≤ h) (hm : may u h t 3 = true) : zSg u h (ent t 3) (wnx t 3) ((grp t 3).filter (isO u h)) := by
  have hle := may_le hm
  have one : ∀ a k, 1 ≤ a → a + (a + k) + (a + k) ≤ t → ∀ q, adv u h ((t : Int), 3, a, a + k, ((t - a - (a + k) : Nat) : Int)) = q → zSg u h ((t : Int), 3, a, a + k, ((t - a - (a + k) : Nat) : Int)) q ([(a, a + k, t - a - (a + k))].filter (isO u h)) := by
    intro a k ha hk q hq
    refine zSg.step ?_ h0 hq ?_
    · unfold zPok; dsimp only; omega
    · dsimp only
      rw [zwhr (by omega) hm, zfil1, Int.toNat_natCast]
  have go : ∀ a k, 1 ≤ a → a + (a + k) + (a + k) + 2 ≤ t → adv u h ((t : Int), 3, a, a + k, ((t - a - (a + k) : Nat) : Int)) = ((t : Int), 3, a, a + (k + 1), ((t - a - (a + (k + 1)) : Nat) : Int)) := by
    intro a k ha hk
    unfold adv
    dsimp only
    rw [Int.toNat_natCast, if_pos ⟨by omega, hm, by omega⟩, if_pos (Or.inl (by omega))]
    congr 4
    omega
  have S : ∀ a k, 1 ≤ a → a + (a + k) + (a + k) ≤ t → zSg u h ((t : Int), 3, a, a + 0, ((t - a - (a + 0) : Nat) : Int)) ((t : Int), 3, a, a + k, ((t - a - (a + k) : Nat) : Int)) ((row3 t a k).filter (isO u h)) := by
    intro a k ha
    induction k with
    | zero => intro _; exact zSg.refl
    | succ k ih =>
      intro hk
      have := (ih (by omega)).trans (one a k ha (by omega) _ (go a k ha (by omega)))
      rw [← List.filter_append] at this
      exact this
  have rowEnd : ∀ a, 1 ≤ a → 3 * a ≤ t → zSg u h ((t : Int), 3, a, a + 0, ((t - a - (a + 0) : Nat) : Int)) (if 3 * (a + 1) ≤ t then ((t : Int), 3, a + 1, a + 1 + 0, ((t - (a + 1) - (a + 1 + 0) : Nat) : Int)) else wnx t 3) ((row3 t a ((t - a) / 2 - a + 1)).filter (isO u h)) := by
    intro a ha h3
    have hw : a + (a + ((t - a) / 2 - a)) + (a + ((t - a) / 2 - a)) ≤ t := by omega
    show zSg u h _ _ ((row3 t a ((t - a) / 2 - a) ++ [(a, a + ((t - a) / 2 - a), t - a - (a + ((t - a) / 2 - a)))]).filter (isO u h))
    rw [List.filter_append]
    refine (S a ((t - a) / 2 - a) ha hw).trans (one a ((t - a) / 2 - a) ha hw _ ?_)
    · have : adv u h ((t : Int), 3, a, a + ((t - a) / 2 - a), ((t - a - (a + ((t - a) / 2 - a)) : Nat) : Int)) = wrw u h ((t : Int), 3, a, a + ((t - a) / 2 - a), ((t - a - (a + ((t - a) / 2 - a)) : Nat) : Int)) := by
        unfold adv
        dsimp only
        by_cases c : ((a + ((t - a) / 2 - a) : Nat) : Int) < ((t - a - (a + ((t - a) / 2 - a)) : Nat) : Int)
        · rw [Int.toNat_natCast, if_pos ⟨by omega, hm, c⟩, if_neg (fun e => by omega)]
        · rw [if_neg (fun e => c e.2.2)]
      rw [this]
      unfold wrw
      dsimp only
      rw [Int.toNat_natCast]
      by_cases c : 3 * (a + 1) ≤ t
      · rw [if_pos ⟨rfl, hm, by omega⟩, if_pos c]
        congr 4
        omega
      · rw [if_neg (fun e => by omega), if_neg c]
  have R : ∀ k, 3 * (k + 1) ≤ t → zSg u h (ent t 3) ((t : Int), 3, k + 1, k + 1 + 0, ((t - (k + 1) - (k + 1 + 0) : Nat) : Int)) ((rows3 t k).filter (isO u h)) := by
    intro k
    induction k with
    | zero =>
      intro _
      have : ent (t : Int) 3 = ((t : Int), 3, 0 + 1, 0 + 1 + 0, ((t - (0 + 1) - (0 + 1 + 0) : Nat) : Int)) := by
        show ((t : Int), 3, 1, 1, (t : Int) - 1 - 1) = _
        congr 4
        omega
      rw [this]
      exact zSg.refl
    | succ k ih =>
      intro hk
      have h1 := rowEnd (k + 1) (by omega) (by omega)
      rw [if_pos hk] at h1
      have := (ih (by omega)).trans h1
      rw [← List.filter_append] at this
      exact this
  show zSg u h (ent t 3) (wnx t 3) ((rows3 t (t / 3)).filter (isO u h))
  obtain ⟨m, e⟩ : ∃ m, t / 3 = m + 1 := ⟨t / 3 - 1, by omega⟩
  rw [e]
  have h1 := rowEnd (m + 1) (by omega) (by omega)
  rw [if_neg (by omega)] at h1
  have := (R m (by omega)).trans h1
  rw [← List.filter_append] at this
  exact this
theorem zSg_G {u : zRu} {h t n : Nat} (h0 : 1 ≤ h) (hh : h ≤ 2000) (ht : t ≤ h) (hn : n ≤ 3) : zSg u h (ent t n) (wnx t n) (G u h t n) := by
  unfold G
  cases hm : may u h t n with
  | false => exact zSg_no h0 hh ht hn hm
  | true =>
    have h5 : n ≤ 1 ∨ n = 2 ∨ n = 3 := by omega
    rcases h5 with h5 | h5 | h5
    · exact zSg_01 h0 hh ht h5 hm
    · subst h5; exact zSg_2 h0 hh ht hm
    · subst h5; exact zSg_3 h0 hh ht hm
theorem zSg_gO {u : zRu} {h t : Nat} (h0 : 1 ≤ h) (hh : h ≤ 2000) (ht : t ≤ h) : zSg u h (ent t 0) (ent ((t : Int) - 1) 0) (gO u h t) :=
  (zSg_G h0 hh ht (n := 0) (by omega)).trans ((zSg_G h0 hh ht (n := 1) (by omega)).trans ((zSg_G h0 hh ht (n := 2) (by omega)).trans (zSg_G h0 hh ht (n := 3) (by omega))))
theorem zSg_oF {u : zRu} {h : Nat} (h0 : 1 ≤ h) (hh : h ≤ 2000) : ∀ t, t ≤ h → zSg u h (ent t 0) (ent (-1) 0) (oF u h t) := by
  intro t
  induction t with
  | zero => intro ht; exact zSg_gO h0 hh ht
  | succ t ih =>
    intro ht
    have h1 := zSg_gO (u := u) h0 hh ht
    rw [show ((t + 1 : Nat) : Int) - 1 = (t : Int) by omega] at h1
    exact h1.trans (ih (by omega))
theorem may_h0 {u : zRu} {n : Nat} (hm : may u 0 0 n = true) : False := by
  have h1 := may_le hm
  have h2 : n = 0 := by omega
  subst h2
  unfold may at hm
  simp only [Bool.and_eq_true] at hm
  obtain ⟨_, _, hm⟩ := hm
  revert hm
  split <;> simp
theorem opts_0 (u : zRu) : opts u 0 = [] := by
  have : ∀ n, G u 0 0 n = [] := by
    intro n
    unfold G
    cases hm : may u 0 0 n with
    | false => rfl
    | true => exact (may_h0 hm).elim
  show gO u 0 0 = []
  unfold gO
  rw [this, this, this, this]
  rfl
theorem w_all (u : zRu) {h : Nat} (hh : h ≤ 2000) : ∃ N, wls u h N (ent h 0) = opts u h ∧ wfin u h N (ent h 0) := by
  by_cases h0 : h = 0
  · subst h0
    exact ⟨0, (opts_0 u).symm, rfl, by simp only [ent]; omega, by simp only [ent]; omega⟩
  · obtain ⟨n, hn⟩ := zSg_oF (u := u) (show 1 ≤ h by omega) hh h (Nat.le_refl h)
    have := hn 0
    refine ⟨n, ?_, ?_⟩
    · rw [Nat.add_zero] at this
      rw [this.1]
      exact List.append_nil _
    · have w := this.2
      rw [Nat.add_zero] at w
      refine w ⟨rfl, by simp only [ent]; omega, by simp only [ent]; omega⟩
