/-! the reference: options -/
def zwf7 (s t : Nat → Int32) : Prop := ∀ j, j ≠ 0 → j ≠ 9 → j ≠ 10 → j ≠ 11 → j ≠ 29 → j ≠ 30 → j ≠ 31 → t j = s j
theorem zwf7.trans {s t r : Nat → Int32} (h1 : zwf7 s t) (h2 : zwf7 t r) : zwf7 s r := fun j a b c d e f g => (h2 j a b c d e f g).trans (h1 j a b c d e f g)
theorem zwf7.refl (s : Nat → Int32) : zwf7 s s := fun _ _ _ _ _ _ _ _ => rfl
theorem zwf6.seven {s t : Nat → Int32} (h : zwf6 s t) : zwf7 s t := fun j _ b c d e f g => h j b c d e f g
theorem zwf7_0 {s t : Nat → Int32} {v : Int32} (h : zwf7 s t) : zwf7 s (upd t 0 v) := fun j a b c d e f g => by rw [pk_un a]; exact h j a b c d e f g
theorem zwf7_RR {u : zRu} {s t a b c : Nat → Int32} (h : zwf7 s t) (hr : RR u s a b c) : RR u t a b c := ⟨(h 1 (by decide) (by decide) (by decide) (by decide) (by decide) (by decide) (by decide)).trans hr.1, hr.2⟩
theorem any8_le {u : zRu} (n : Nat) : any8 u n = true → any8 u (n + 1) = true := fun h => by show (any8 u n || _) = true; rw [h]; rfl
theorem sp117 {d x l : Nat} {σ : Nat → Nat → Int32} {τ : Nat → Nat → Int64} {Q : zR → Prop} {u : zRu} (hu : zRok u) (hr : RR u (σ 32) (σ 33) (σ 34) (σ 35)) (hq : Q (.inl (some (.int (bI (has8 u)))), (49, x, l, σ, τ, zrho))) :
    zRn d 117 (0, [.ref 32, zJ, zJ], [], (49, x, l, σ, τ, zrho)) Q := by
  have h4 := hu.1
  have key : ∀ n k, k + n = 12 → zRn d 117 (4, [.ref 32, .int (bI (any8 u k)), .int (nI (k + 1))], [], (49, x, l, σ, τ, zrho)) Q := by
    intro n
    induction n with
    | zero =>
      intro k hk
      have hk : k = 12 := by omega
      subst hk
      refine zv117_4 ⟨fun c => ?_, fun c => ?_⟩
      · rw [hr.1]
        unfold has8 at hq
        refine ⟨fun c2 => ?_, fun c2 => ⟨fun c3 => ?_, fun c3 => ?_⟩⟩
        · simp (disch := omega) only [zlit, nI_leI, nI_ltI, nI_eq, nI_clamp, nI_add, pk_mul, pk_sub, pk_div] at c2
          rw [z_bne c2] at hq; exact hq
        · simp (disch := omega) only [zlit, nI_leI, nI_ltI, nI_eq, nI_clamp, nI_add, pk_mul, pk_sub, pk_div] at c2
          rw [bI_0] at c3
          rw [c3, Bool.and_false] at hq; exact hq
        · simp (disch := omega) only [zlit, nI_leI, nI_ltI, nI_eq, nI_clamp, nI_add, pk_mul, pk_sub, pk_div] at c2
          rw [bI_0] at c3
          rw [show any8 u 12 = true by simpa using c3, show kd u = 0 by omega] at hq; exact hq
      · exact absurd (by decide) c
    | succ n ih =>
      intro k hk
      have hd := hu.2.1 (k + 1)
      refine zv117_4 ⟨fun c => ?_, fun c => ⟨fun c2 => ?_, fun c2 => ⟨vp_in_nI (by omega) (by decide), ?_⟩⟩⟩
      · simp (disch := omega) only [zlit, nI_leI, nI_ltI, nI_eq, nI_clamp, nI_add, pk_mul, pk_sub, pk_div] at c; omega
      · rw [bI_0] at c2
        have c2 : any8 u k = true := by simpa using c2
        have := ih (k + 1) (by omega)
        rw [any8_le k c2] at this
        rw [nI_1]; exact this
      · rw [bI_0] at c2
        have c2 : any8 u k = false := by simpa using c2
        rw [nI_clamp (by omega), hr.2.1 _ (by omega)]
        have := ih (k + 1) (by omega)
        have e : any8 u (k + 1) = (any8 u k || Nat.ble 8 (dg u (k + 1))) := rfl
        rw [e, c2, Bool.false_or] at this
        refine ⟨fun c3 => ?_, fun c3 => ?_⟩
        · simp (disch := omega) only [zlit, nI_leI, nI_ltI, nI_eq, nI_clamp, nI_add, pk_mul, pk_sub, pk_div] at c3
          rw [z_ble_f (by omega)] at this
          rw [nI_1]; exact this
        · simp (disch := omega) only [zlit, nI_leI, nI_ltI, nI_eq, nI_clamp, nI_add, pk_mul, pk_sub, pk_div] at c3
          rw [z_ble_t (by omega)] at this
          rw [nI_1]; exact this
  exact zv117_0 (key 12 0 rfl)
def far (u : zRu) : Nat := if has8 u = true then 60 else 2000
theorem sp125 {d x l : Nat} {σ : Nat → Nat → Int32} {τ : Nat → Nat → Int64} {Q : zR → Prop} {u : zRu} {i : Int} (hu : zRok u) (hr : RR u (σ 32) (σ 33) (σ 34) (σ 35)) (h1 : -2147483648 ≤ i) (h2 : i < 2147483648)
    (hq1 : 0 ≤ i → i ≤ far u → Q (.inl (some (.int (1))), (49, x, l, σ, τ, zrho))) (hq0 : ¬ (0 ≤ i ∧ i ≤ far u) → Q (.inl (some (.int (0))), (49, x, l, σ, τ, zrho))) :
    zRn (d + 1) 125 (0, [.ref 32, .int (iI i)], [], (49, x, l, σ, τ, zrho)) Q := by
  unfold far at hq0 hq1
  refine zv125_0 (sp117 hu hr (zv125_6 ⟨fun c => ?_, fun c => ?_⟩))
  · rw [bI_0] at c
    rw [if_neg (by rw [c]; decide)] at hq0 hq1
    exact sp110 (b := 0) (c := 2000) h1 h2 (by omega) (by omega) (by omega) (by omega) (fun a b => zv125_20 ⟨Or.inr rfl, hq1 a b⟩) (fun a => zv125_20 ⟨Or.inl rfl, hq0 a⟩)
  · rw [bI_0] at c
    rw [if_pos (by simpa using c)] at hq0 hq1
    exact sp110 (b := 0) (c := 60) h1 h2 (by omega) (by omega) (by omega) (by omega) (fun a b => zv125_20 ⟨Or.inr rfl, hq1 a b⟩) (fun a => zv125_20 ⟨Or.inl rfl, hq0 a⟩)
theorem wok {h : Nat} {p : zP} (hp : zPok h p) (hh : h ≤ 2000) : -2 ≤ p.1 ∧ p.1 ≤ 2000 := by
  obtain ⟨a, b, _⟩ := hp
  omega
theorem sp126 {d x l : Nat} {σ : Nat → Nat → Int32} {τ : Nat → Nat → Int64} {Q : zR → Prop} {u : zRu} {h : Nat} (hu : zRok u) (hr : RR u (σ 32) (σ 33) (σ 34) (σ 35)) (hh : h ≤ 2000)
    (hq : ∀ s, zwf6 (σ 32) s → Q (.inl (some (.int (nI (opts u h).length))), (49, x, l, zrow σ 32 s, τ, zrho))) :
    zRn (d + 3) 126 (0, [.ref 32, .int (nI h), zJ], [], (49, x, l, σ, τ, zrho)) Q := by
  obtain ⟨N, e, w⟩ := w_all u hh
  have key : ∀ N p s a, zwf6 (σ 32) s → zat s h p → wfin u h N p → a + (wls u h N p).length = (opts u h).length → zRn (d + 3) 126 (7, [.ref 32, zJ, .int (nI a)], [], (49, x, l, zrow σ 32 s, τ, zrho)) Q := by
    intro N
    induction N with
    | zero =>
      intro p s a h1 h2 h3 h4
      refine zv126_7 (sp122 h2 hh h3.2.1 h3.2.2 ?_)
      rw [h3.1]
      refine zv126_11 ⟨fun _ => ?_, fun c => absurd (by decide) c⟩
      have h4 : a + 0 = (opts u h).length := h4
      rw [show a = (opts u h).length by omega]
      exact hq s h1
    | succ N ih =>
      intro p s a h1 h2 h3 h4
      rcases h3 with h3 | h3
      · refine zv126_7 (sp122 h2 hh h3.2.1 h3.2.2 ?_)
        rw [h3.1]
        refine zv126_11 ⟨fun _ => ?_, fun c => absurd (by decide) c⟩
        have h5 : wls u h (N + 1) p = [] := by show (if _ then _ else _) = _; rw [if_pos h3.1]
        rw [h5] at h4
        have h4 : a + 0 = (opts u h).length := h4
        rw [show a = (opts u h).length by omega]
        exact hq s h1
      · obtain ⟨h5, h6, h7⟩ := h3
        have h8 : wls u h (N + 1) p = (if whr u h p = true then [(p.2.2.1, p.2.2.2.1, p.2.2.2.2.toNat)] else []) ++ wls u h N (adv u h p) := by show (if _ then _ else _) = _; rw [if_neg (by rw [h5]; decide)]
        rw [h8] at h4
        refine zv126_7 (sp122 h2 hh (wok h6 hh).1 (wok h6 hh).2 ?_)
        rw [h5]
        refine zv126_11 ⟨fun c => absurd rfl c, fun _ => ?_⟩
        refine sp123 hu (zwf6_RR h1 hr) h2 hh h6 ?_
        refine zv126_18 ⟨fun c => ?_, fun c => ?_⟩
        · rw [bI_0] at c
          refine sp124 hu (zwf6_RR h1 hr) h2 hh h6 (fun s' e1 e2 => zv126_28 ?_)
          rw [zrow_row]
          rw [if_neg (by rw [c]; decide)] at h4
          exact ih _ _ _ (h1.trans e1) e2 h7 h4
        · rw [bI_0] at c
          refine sp124 hu (zwf6_RR h1 hr) h2 hh h6 (fun s' e1 e2 => zv126_28 ?_)
          rw [zrow_row, nI_1]
          rw [if_pos (by simpa using c), List.length_append, List.length_singleton] at h4
          exact ih _ _ _ (h1.trans e1) e2 h7 (by omega)
  refine zv126_0 (sp120 (fun s h1 h2 => ?_))
  exact key N _ s 0 h1 h2 w (by rw [e]; omega)
theorem sp127 {d x l : Nat} {σ : Nat → Nat → Int32} {τ : Nat → Nat → Int64} {Q : zR → Prop} {u : zRu} {h k : Nat} (hu : zRok u) (hr : RR u (σ 32) (σ 33) (σ 34) (σ 35)) (hh : h ≤ 2000) (hk : k < 2147483648)
    (hq1 : ∀ s o, zwf6 (σ 32) s → (opts u h)[k]? = some o → s 9 = nI o.1 → s 10 = nI o.2.1 → s 11 = nI o.2.2 → Q (.inl (some (.int (1))), (49, x, l, zrow σ 32 s, τ, zrho)))
    (hq0 : ∀ s, zwf6 (σ 32) s → (opts u h)[k]? = none → Q (.inl (some (.int (0))), (49, x, l, zrow σ 32 s, τ, zrho))) :
    zRn (d + 3) 127 (0, [.ref 32, .int (nI h), .int (nI k), zJ], [], (49, x, l, σ, τ, zrho)) Q := by
  obtain ⟨N, e, w⟩ := w_all u hh
  have key : ∀ N p s a, zwf6 (σ 32) s → zat s h p → wfin u h N p → a ≤ k → (wls u h N p)[k - a]? = (opts u h)[k]? → zRn (d + 3) 127 (7, [.ref 32, zJ, .int (nI k), .int (nI a)], [], (49, x, l, zrow σ 32 s, τ, zrho)) Q := by
    intro N
    induction N with
    | zero =>
      intro p s a h1 h2 h3 ha h4
      refine zv127_7 (sp122 h2 hh h3.2.1 h3.2.2 ?_)
      rw [h3.1]
      refine zv127_11 ⟨fun _ => ?_, fun c => absurd (by decide) c⟩
      exact hq0 s h1 (by rw [← h4]; exact List.getElem?_nil)
    | succ N ih =>
      intro p s a h1 h2 h3 ha h4
      rcases h3 with h3 | h3
      · refine zv127_7 (sp122 h2 hh h3.2.1 h3.2.2 ?_)
        rw [h3.1]
        refine zv127_11 ⟨fun _ => ?_, fun c => absurd (by decide) c⟩
        have h5 : wls u h (N + 1) p = [] := by show (if _ then _ else _) = _; rw [if_pos h3.1]
        rw [h5] at h4
        exact hq0 s h1 (by rw [← h4]; exact List.getElem?_nil)
      · obtain ⟨h5, h6, h7⟩ := h3
        have h8 : wls u h (N + 1) p = (if whr u h p = true then [(p.2.2.1, p.2.2.2.1, p.2.2.2.2.toNat)] else []) ++ wls u h N (adv u h p) := by show (if _ then _ else _) = _; rw [if_neg (by rw [h5]; decide)]
        rw [h8] at h4
        refine zv127_7 (sp122 h2 hh (wok h6 hh).1 (wok h6 hh).2 ?_)
        rw [h5]
        refine zv127_11 ⟨fun c => absurd rfl c, fun _ => ?_⟩
        refine sp123 hu (zwf6_RR h1 hr) h2 hh h6 ?_
        refine zv127_18 ⟨fun c => ?_, fun c => ⟨fun c2 => ?_, fun c2 => ?_⟩⟩
        · rw [bI_0] at c
          refine sp124 hu (zwf6_RR h1 hr) h2 hh h6 (fun s' e1 e2 => zv127_35 ?_)
          rw [zrow_row]
          rw [if_neg (by rw [c]; decide)] at h4
          exact ih _ _ _ (h1.trans e1) e2 h7 ha h4
        · rw [bI_0] at c
          simp (disch := omega) only [zlit, nI_leI, nI_ltI, nI_eq, nI_clamp, nI_add, pk_mul, pk_sub, pk_div] at c2
          refine sp124 hu (zwf6_RR h1 hr) h2 hh h6 (fun s' e1 e2 => zv127_35 ?_)
          rw [zrow_row, nI_1]
          rw [if_pos (by simpa using c), List.singleton_append, show k - a = (k - (a + 1)) + 1 by omega, List.getElem?_cons_succ] at h4
          exact ih _ _ _ (h1.trans e1) e2 h7 (by omega) h4
        · rw [bI_0] at c
          simp (disch := omega) only [zlit, nI_leI, nI_ltI, nI_eq, nI_clamp, nI_add, pk_mul, pk_sub, pk_div] at c2
          have c : whr u h p = true := by simpa using c
          rw [if_pos c, List.singleton_append, show k - a = 0 by omega, List.getElem?_cons_zero] at h4
          have h9 : (p.2.2.2.1 : Int) ≤ p.2.2.2.2 := by
            unfold whr at c
            rw [Bool.and_eq_true] at c
            exact of_decide_eq_true c.1
          refine hq1 s _ h1 h4.symm h2.2.2.2.1 h2.2.2.2.2.1 ?_
          rw [h2.2.2.2.2.2]
          exact iI_nat (by omega)
  refine zv127_0 (sp120 (fun s h1 h2 => ?_))
  exact key N _ s 0 h1 h2 w (by omega) (by rw [e]; rfl)
def rt (o : zO) (w : Nat) : Nat := match 3 - ((if 0 < o.1 then 1 else 0) + (if 0 < o.2.1 then 1 else 0) + (if 0 < o.2.2 then 1 else 0)) + w with
  | 0 => o.1
  | 1 => o.2.1
  | 2 => o.2.2
  | _ => 0
theorem sp129 {d x l : Nat} {σ : Nat → Nat → Int32} {τ : Nat → Nat → Int64} {Q : zR → Prop} {o : zO} {w : Nat} (hw : w ≤ 2) (h1 : σ 32 9 = nI o.1) (h2 : σ 32 10 = nI o.2.1) (h3 : σ 32 11 = nI o.2.2) (b1 : o.1 ≤ 2000) (b2 : o.2.1 ≤ 2000) (b3 : o.2.2 ≤ 2000)
    (hq : Q (.inl (some (.int (nI (rt o w)))), (49, x, l, σ, τ, zrho))) :
    zRn d 129 (0, [.ref 32, .int (nI w), zJ, zJ], [], (49, x, l, σ, τ, zrho)) Q := by
  have k37 : ∀ m n, m + n = ((if 0 < o.1 then 1 else 0) + (if 0 < o.2.1 then 1 else 0) + (if 0 < o.2.2 then 1 else 0)) → m + n ≤ 3 → zRn d 129 (37, [.ref 32, .int (nI w), zJ, zJ], [.int (nI n), .int (nI m)], (49, x, l, σ, τ, zrho)) Q := by
    intro m n e hn
    refine zw129_37 ?_
    have e1 : 3 - (nI m + nI n) + nI w = nI (3 - (m + n) + w) := by
      rw [nI_add, show (3 : Int32) = nI 3 from rfl, pk_sub hn, nI_add]
    rw [e1]
    unfold rt at hq
    rw [← e] at hq
    refine ⟨fun c => ⟨fun c2 => ⟨fun c3 => ?_, fun c3 => ?_⟩, fun c2 => ?_⟩, fun c => ?_⟩
    · simp (disch := omega) only [zlit, nI_leI, nI_ltI, nI_eq, nI_clamp, nI_add, pk_mul, pk_sub, pk_div] at c c2 c3
      split at hq <;> first | omega | exact hq
    · simp (disch := omega) only [zlit, nI_leI, nI_ltI, nI_eq, nI_clamp, nI_add, pk_mul, pk_sub, pk_div] at c3
      rw [show 3 - (m + n) + w = 2 by omega] at hq
      rw [h3]; exact hq
    · simp (disch := omega) only [zlit, nI_leI, nI_ltI, nI_eq, nI_clamp, nI_add, pk_mul, pk_sub, pk_div] at c2
      rw [show 3 - (m + n) + w = 1 by omega] at hq
      rw [h2]; exact hq
    · simp (disch := omega) only [zlit, nI_leI, nI_ltI, nI_eq, nI_clamp, nI_add, pk_mul, pk_sub, pk_div] at c
      rw [show 3 - (m + n) + w = 0 by omega] at hq
      rw [h1]; exact hq
  have k24 : ∀ m n, m + n = ((if 0 < o.1 then 1 else 0) + (if 0 < o.2.1 then 1 else 0)) → m + n ≤ 2 → zRn d 129 (24, [.ref 32, .int (nI w), zJ, zJ], [.int (nI n), .int (nI m)], (49, x, l, σ, τ, zrho)) Q := by
    intro m n e hn
    refine zw129_24 ?_
    rw [h3, nI_add]
    refine ⟨fun c => ?_, fun c => ?_⟩
    · simp (disch := omega) only [zlit, nI_leI, nI_ltI, nI_eq, nI_clamp, nI_add, pk_mul, pk_sub, pk_div] at c
      exact k37 (m + n) 0 (by rw [← e, if_neg (by omega)]) (by omega)
    · simp (disch := omega) only [zlit, nI_leI, nI_ltI, nI_eq, nI_clamp, nI_add, pk_mul, pk_sub, pk_div] at c
      exact k37 (m + n) 1 (by rw [← e, if_pos (by omega)]) (by omega)
  have k12 : ∀ m, m = (if 0 < o.1 then 1 else 0) → m ≤ 1 → zRn d 129 (12, [.ref 32, .int (nI w), zJ, zJ], [.int (nI m)], (49, x, l, σ, τ, zrho)) Q := by
    intro m e hn
    refine zw129_12 ?_
    rw [h2]
    refine ⟨fun c => ?_, fun c => ?_⟩
    · simp (disch := omega) only [zlit, nI_leI, nI_ltI, nI_eq, nI_clamp, nI_add, pk_mul, pk_sub, pk_div] at c
      exact k24 m 0 (by rw [← e, if_neg (by omega)]) (by omega)
    · simp (disch := omega) only [zlit, nI_leI, nI_ltI, nI_eq, nI_clamp, nI_add, pk_mul, pk_sub, pk_div] at c
      exact k24 m 1 (by rw [← e, if_pos (by omega)]) (by omega)
  refine zw129_0 ?_
  rw [h1]
  refine ⟨fun c => ?_, fun c => ?_⟩
  · simp (disch := omega) only [zlit, nI_leI, nI_ltI, nI_eq, nI_clamp, nI_add, pk_mul, pk_sub, pk_div] at c
    exact k12 0 (by rw [if_neg (by omega)]) (by omega)
  · simp (disch := omega) only [zlit, nI_leI, nI_ltI, nI_eq, nI_clamp, nI_add, pk_mul, pk_sub, pk_div] at c
    exact k12 1 (by rw [if_pos (by omega)]) (by omega)
