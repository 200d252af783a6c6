/-! the class: what a heap's options have -/
def need2 (u : zRu) : Prop := kd u = 0 ∧ ∃ k, 1 ≤ k ∧ k ≤ 12 ∧ (dg u k).testBit 2 = true
/-- rows of marks that are kept -/
def CW (u : zRu) (kn : Nat) (t9 t10 : Nat → Int64) : Prop := (need2 u → ∀ c, 1 ≤ c → c ≤ kn → kn < c + 16 → ∀ w, w < 2048 → (mk t9 (c % 16 * 32) w = true ↔ ∃ i, 1 ≤ i ∧ 2 * i ≤ c ∧ w = xo (gn u) (0, i, c - i))) ∧
  (has8 u = true → ∀ c, 1 ≤ c → c ≤ kn → kn < c + 16 → ∀ w, w < 2048 → (mk t10 (c % 16 * 32) w = true ↔ ∃ a b, 1 ≤ a ∧ a ≤ b ∧ a + 2 * b ≤ c ∧ w = xo (gn u) (a, b, c - a - b)))
/-- a nimber of an option that leaves t counters -/
def seen1 (u : zRu) (h t w : Nat) : Prop := ∃ n o, n ≤ 3 ∧ o ∈ G u h t n ∧ w = xo (gn u) o
theorem z_dand : ∀ m, m < 16 → (nI m &&& 1 = 0 ↔ m.testBit 0 = false) ∧ (nI m &&& 2 = 0 ↔ m.testBit 1 = false) ∧ (nI m &&& 4 = 0 ↔ m.testBit 2 = false) ∧ (nI m &&& 8 = 0 ↔ m.testBit 3 = false) := by decide +kernel
theorem G_k0 {u : zRu} (hk : kd u = 0) {h t n : Nat} (h1 : 1 ≤ h - t) (h2 : h - t ≤ 12) (c1 : n ≤ t) (c2 : n = 0 ↔ t = 0) (o : zO) : o ∈ G u h t n ↔ (dg u (h - t)).testBit n = true ∧ o ∈ grp t n := by
  rw [G_012 (by omega), may_k0 hk c1 c2, z_ble_t h1, z_ble_t h2, Bool.true_and, Bool.true_and]
  cases (dg u (h - t)).testBit n <;> simp
theorem G_out {u : zRu} {h t n : Nat} (c : ¬ (n ≤ t ∧ (n = 0 ↔ t = 0))) (o : zO) : o ∉ G u h t n := by
  unfold G
  rw [may_out c]
  exact List.not_mem_nil
theorem grp2_iff {t : Nat} (w : Nat) (f : zO → Nat) : (∃ o, o ∈ grp t 2 ∧ w = f o) ↔ ∃ i, 1 ≤ i ∧ 2 * i ≤ t ∧ w = f (0, i, t - i) := by
  constructor
  · intro ⟨o, h1, h2⟩
    obtain ⟨i, h3, h4⟩ := row2_mem (k := t / 2) h1
    exact ⟨i + 1, by omega, by omega, by rw [h2, h4]⟩
  · intro ⟨i, h1, h2, h3⟩
    refine ⟨(0, i, t - i), ?_, h3⟩
    have := row2_get t (t / 2) (i - 1) (by omega)
    rw [show i - 1 + 1 = i by omega] at this
    exact List.mem_of_getElem? this
theorem rows3_in {t a i : Nat} : ∀ {k}, 1 ≤ a → a ≤ k → i < (t - a) / 2 - a + 1 → (a, a + i, t - a - (a + i)) ∈ rows3 t k := by
  intro k
  induction k with
  | zero => intro h1 h2; omega
  | succ k ih =>
    intro h1 h2 h3
    show _ ∈ rows3 t k ++ row3 t (k + 1) ((t - (k + 1)) / 2 - (k + 1) + 1)
    by_cases c : a = k + 1
    · subst c
      exact List.mem_append_right _ (List.mem_of_getElem? (row3_get t (k + 1) _ i h3))
    · exact List.mem_append_left _ (ih h1 (by omega) h3)
theorem grp3_iff {t : Nat} (w : Nat) (f : zO → Nat) : (∃ o, o ∈ grp t 3 ∧ w = f o) ↔ ∃ a b, 1 ≤ a ∧ a ≤ b ∧ a + 2 * b ≤ t ∧ w = f (a, b, t - a - b) := by
  constructor
  · intro ⟨o, h1, h2⟩
    obtain ⟨a, i, h3, h4, h5, h6⟩ := rows3_mem (k := t / 3) h1
    exact ⟨a, a + i, by omega, by omega, by omega, by rw [h2, h6]⟩
  · intro ⟨a, b, h1, h2, h3, h4⟩
    refine ⟨(a, b, t - a - b), ?_, h4⟩
    have := rows3_in (t := t) (a := a) (i := b - a) (k := t / 3) h1 (by omega) (by omega)
    rw [show a + (b - a) = b by omega] at this
    exact this
theorem xo0 (u : zRu) : xo (gn u) (0, 0, 0) = 0 := by rw [xo2, gn_0]; rfl
theorem sp56 {d x l : Nat} {σ : Nat → Nat → Int32} {τ : Nat → Nat → Int64} {Q : zR → Prop} {u : zRu} {h : Nat} (hu : zRok u) (hc : CR u (σ 1) (σ 2) (σ 3) (τ 4)) (hk : kd u = 0) (hh : h ≤ 2000) (h1 : 1 ≤ h) (h7 : ∀ k, k < h → σ 7 k = nI (gn u k)) (hw : CW u (h - 1) (τ 9) (τ 10))
    (hq : ∀ t, Mk (τ 8) t 0 (fun w => ∃ c, c ≤ h ∧ seen1 u h c w) → Q (.inl none, (49, x, l, σ, zrowL τ 8 t, zrho))) :
    zRn (d + 2) 56 (0, [.ref 6, .int (nI h), .ref 1, zJ, zJ, zJ], [], (49, x, l, σ, τ, zrho)) Q := by
  have fin : ∀ k t, (k = 12 ∨ k = h) → k ≤ 12 → k ≤ h → Mk (τ 8) t 0 (fun w => ∃ c, c < h ∧ h ≤ c + k ∧ seen1 u h c w) → Q (.inl none, (49, x, l, σ, zrowL τ 8 t, zrho)) := by
    intro k t hk1 hk2 hk3 ht
    refine hq t (ht.iff (fun w _ => ?_))
    constructor
    · intro ⟨c, a1, a2, a3⟩; exact ⟨c, by omega, a3⟩
    · intro ⟨c, a1, n, o, a2, a3, a4⟩
      have hm := (G_may a3).1
      have := may_k0 hk (h := h) (may_le hm) (may_0 hm)
      rw [hm] at this
      have := this.symm
      simp only [Bool.and_eq_true] at this
      have b1 := Nat.le_of_ble_eq_true this.1
      have b2 := Nat.le_of_ble_eq_true this.2.1
      exact ⟨c, by omega, by omega, n, o, a2, a3, a4⟩
  have key : ∀ m k t, k + m = 12 → k ≤ h → Mk (τ 8) t 0 (fun w => ∃ c, c < h ∧ h ≤ c + k ∧ seen1 u h c w) → zRn (d + 2) 56 (2, [.ref 6, .int (nI h), .ref 1, .int (nI (k + 1)), zJ, zJ], [], (49, x, l, σ, zrowL τ 8 t, zrho)) Q := by
    intro m
    induction m with
    | zero =>
      intro k t hkm hkh ht
      refine zv56_2 ⟨fun _ => fin k t (by omega) (by omega) hkh ht, fun c => ?_⟩
      simp (disch := omega) only [zlit, nI_leI, nI_ltI, nI_eq, nI_clamp, nI_add, pk_mul, pk_sub, pk_div] at c; omega
    | succ m ih =>
      intro k t hkm hkh ht
      refine zv56_2 ⟨fun c => ?_, fun _ => ⟨fun c => ?_, fun c => ?_⟩⟩
      · simp (disch := omega) only [zlit, nI_leI, nI_ltI, nI_eq, nI_clamp, nI_add, pk_mul, pk_sub, pk_div] at c; omega
      · simp (disch := omega) only [zlit, nI_leI, nI_ltI, nI_eq, nI_clamp, nI_add, pk_mul, pk_sub, pk_div] at c
        exact fin k t (by omega) (by omega) hkh ht
      · simp (disch := omega) only [zlit, nI_leI, nI_ltI, nI_eq, nI_clamp, nI_add, pk_mul, pk_sub, pk_div] at c
        have hdg := hu.2.1 (k + 1)
        have hda := z_dand (dg u (k + 1)) (by omega)
        -- what is left, and the marks that it gives
        have e0 : h - (h - (k + 1)) = k + 1 := by omega
        have next : ∀ t2, Mk t t2 0 (seen1 u h (h - (k + 1))) → zRn (d + 2) 56 (113, [.ref 6, .int (nI h), .ref 1, .int (nI (k + 1)), zJ, zJ], [], (49, x, l, σ, zrowL τ 8 t2, zrho)) Q := by
          intro t2 h2
          refine zv56_113 ?_
          rw [nI_1]
          refine ih (k + 1) t2 (by omega) (by omega) (ht.trans h2 (fun w => ?_))
          constructor
          · intro ⟨c, a1, a2, a3⟩
            by_cases e : c = h - (k + 1)
            · subst e; exact Or.inr a3
            · exact Or.inl ⟨c, a1, by omega, a3⟩
          · intro q
            rcases q with ⟨c, a1, a2, a3⟩ | q
            · exact ⟨c, a1, by omega, a3⟩
            · exact ⟨h - (k + 1), by omega, by omega, q⟩
        rw [pk_sub (show k + 1 ≤ h by omega), nI_clamp (by omega), nI_clamp (by omega), hc.2.1 (k + 1) (by omega)]
        refine ⟨vp_in_nI (by omega) (by decide), fun c2 => ?_, fun c2 => ?_⟩
        · simp (disch := omega) only [zlit, nI_leI, nI_ltI, nI_eq, nI_clamp, nI_add, pk_mul, pk_sub, pk_div] at c2
          have hT : h - (k + 1) ≠ 0 := c2
          have p113 : ∀ t1, Mk t t1 0 (fun w => ∃ n o, n ≤ 3 ∧ o ∈ G u h (h - (k + 1)) n ∧ w = xo (gn u) o) → zRn (d + 2) 56 (113, [.ref 6, .int (nI h), .ref 1, .int (nI (k + 1)), zJ, zJ], [], (49, x, l, σ, zrowL τ 8 t1, zrho)) Q := next
          have p92 : ∀ t1, Mk t t1 0 (fun w => ∃ n o, n ≤ 2 ∧ o ∈ G u h (h - (k + 1)) n ∧ w = xo (gn u) o) → zRn (d + 2) 56 (92, [.ref 6, .int (nI h), .ref 1, .int (nI (k + 1)), .int (nI (h - (k + 1))), .int (nI (dg u (k + 1)))], [], (49, x, l, σ, zrowL τ 8 t1, zrho)) Q := by
            intro t1 m1
            refine zv56_92 ⟨fun c3 => ?_, fun c3 => ?_⟩
            · rw [hda.2.2.2] at c3
              refine p113 t1 (m1.iff (fun w _ => ⟨fun ⟨n, o, a1, a2, a3⟩ => ⟨n, o, by omega, a2, a3⟩, fun ⟨n, o, a1, a2, a3⟩ => ?_⟩))
              by_cases e : n = 3
              · exfalso
                subst e
                have hm := (G_may a2).1
                have := ((G_k0 hk (by omega) (by omega) (may_le hm) (may_0 hm) o).mp a2).1
                rw [e0, c3] at this; cases this
              · exact ⟨n, o, by omega, a2, a3⟩
            · rw [hda.2.2.2] at c3
              have c3 : (dg u (k + 1)).testBit 3 = true := by simpa using c3
              have h8 : has8 u = true := by
                rw [tb3 hdg] at c3
                unfold has8
                rw [hk, any8_of (by omega) (show k + 1 ≤ 12 by omega) (Nat.le_of_ble_eq_true c3)]; rfl
              refine sp62 (by omega) (zv56_110 (sp64_10 (by omega) (fun t2 m2 => ?_)))
              rw [zrowL_row]
              refine p113 t2 (m1.trans m2 (fun w => ?_))
              have hrow := hw.2 h8 (h - (k + 1)) (by omega) (by omega) (by omega)
              constructor
              · intro ⟨n, o, a1, a2, a3⟩
                by_cases e : n = 3
                · subst e
                  have hm := (G_may a2).1
                  have g := ((G_k0 hk (by omega) (by omega) (may_le hm) (may_0 hm) o).mp a2).2
                  have hb := opt_bd hu (opts_mem.mpr ⟨_, 3, by omega, by omega, a2⟩)
                  have hx := xo_lt hu (o := o) (by omega) (by omega) (by omega)
                  rw [← a3] at hx
                  exact Or.inr ⟨hx, (hrow w hx).mpr ((grp3_iff w (xo (gn u))).mp ⟨o, g, a3⟩)⟩
                · exact Or.inl ⟨n, o, by omega, a2, a3⟩
              · intro q
                rcases q with ⟨n, o, a1, a2, a3⟩ | ⟨q1, q2⟩
                · exact ⟨n, o, by omega, a2, a3⟩
                · have hrw := (hrow w q1).mp q2
                  obtain ⟨o, g1, g2⟩ := (grp3_iff w (xo (gn u))).mpr hrw
                  obtain ⟨a, b, r1, r2, r3, _⟩ := hrw
                  exact ⟨3, o, by omega, (G_k0 hk (by omega) (by omega) (by omega) (by omega) o).mpr ⟨by rw [e0]; exact c3, g1⟩, g2⟩
          have p72 : ∀ t1, Mk t t1 0 (fun w => ∃ n o, n ≤ 1 ∧ o ∈ G u h (h - (k + 1)) n ∧ w = xo (gn u) o) → zRn (d + 2) 56 (72, [.ref 6, .int (nI h), .ref 1, .int (nI (k + 1)), .int (nI (h - (k + 1))), .int (nI (dg u (k + 1)))], [], (49, x, l, σ, zrowL τ 8 t1, zrho)) Q := by
            intro t1 m1
            refine zv56_72 ⟨fun c3 => ?_, fun c3 => ?_⟩
            · rw [hda.2.2.1] at c3
              refine p92 t1 (m1.iff (fun w _ => ⟨fun ⟨n, o, a1, a2, a3⟩ => ⟨n, o, by omega, a2, a3⟩, fun ⟨n, o, a1, a2, a3⟩ => ?_⟩))
              by_cases e : n = 2
              · exfalso
                subst e
                have hm := (G_may a2).1
                have := ((G_k0 hk (by omega) (by omega) (may_le hm) (may_0 hm) o).mp a2).1
                rw [e0, c3] at this; cases this
              · exact ⟨n, o, by omega, a2, a3⟩
            · rw [hda.2.2.1] at c3
              have c3 : (dg u (k + 1)).testBit 2 = true := by simpa using c3
              refine sp62 (by omega) (zv56_89 (sp64_9 (by omega) (fun t2 m2 => ?_)))
              rw [zrowL_row]
              refine p92 t2 (m1.trans m2 (fun w => ?_))
              have hrow := hw.1 ⟨hk, k + 1, by omega, by omega, c3⟩ (h - (k + 1)) (by omega) (by omega) (by omega)
              constructor
              · intro ⟨n, o, a1, a2, a3⟩
                by_cases e : n = 2
                · subst e
                  have hm := (G_may a2).1
                  have g := ((G_k0 hk (by omega) (by omega) (may_le hm) (may_0 hm) o).mp a2).2
                  have hb := opt_bd hu (opts_mem.mpr ⟨_, 2, by omega, by omega, a2⟩)
                  have hx := xo_lt hu (o := o) (by omega) (by omega) (by omega)
                  rw [← a3] at hx
                  exact Or.inr ⟨hx, (hrow w hx).mpr ((grp2_iff w (xo (gn u))).mp ⟨o, g, a3⟩)⟩
                · exact Or.inl ⟨n, o, by omega, a2, a3⟩
              · intro q
                rcases q with ⟨n, o, a1, a2, a3⟩ | ⟨q1, q2⟩
                · exact ⟨n, o, by omega, a2, a3⟩
                · have hrw := (hrow w q1).mp q2
                  obtain ⟨o, g1, g2⟩ := (grp2_iff w (xo (gn u))).mpr hrw
                  obtain ⟨i, r1, r2, _⟩ := hrw
                  exact ⟨2, o, by omega, (G_k0 hk (by omega) (by omega) (by omega) (by omega) o).mpr ⟨by rw [e0]; exact c3, g1⟩, g2⟩
          refine ⟨fun c3 => ?_, fun c3 => ⟨vp_in_nI (by omega) (by decide), ?_⟩⟩
          · rw [hda.2.1] at c3
            refine p72 t (Mk.refl (fun w ⟨n, o, a1, a2, a3⟩ => ?_))
            have hm := (G_may a2).1
            have g := ((G_k0 hk (by omega) (by omega) (may_le hm) (may_0 hm) o).mp a2).1
            have := may_0 hm
            rw [e0, show n = 1 by omega, c3] at g; cases g
          · rw [hda.2.1] at c3
            have c3 : (dg u (k + 1)).testBit 1 = true := by simpa using c3
            rw [h7 _ (by omega)]
            have hgl := gn_le hu (show h - (k + 1) ≤ 2000 by omega)
            refine sp65_8 (f := 0) (by omega) (by omega) (fun t2 m2 => ?_)
            rw [zrowL_row]
            refine p72 t2 (m2.iff (fun w _ => ?_))
            have ex : xo (gn u) (0, 0, h - (k + 1)) = gn u (h - (k + 1)) := by rw [xo2, gn_0, Nat.zero_xor]
            constructor
            · intro e
              exact ⟨1, (0, 0, h - (k + 1)), by omega, (G_k0 hk (by omega) (by omega) (by omega) (by omega) _).mpr ⟨by rw [e0]; exact c3, List.mem_singleton.mpr rfl⟩, by rw [ex]; exact e⟩
            · intro ⟨n, o, a1, a2, a3⟩
              have hm := (G_may a2).1
              have := may_0 hm
              have hn1 : n = 1 := by omega
              subst hn1
              have g := List.mem_singleton.mp ((G_k0 hk (by omega) (by omega) (may_le hm) (may_0 hm) o).mp a2).2
              rw [g, ex] at a3
              exact a3
        · simp (disch := omega) only [zlit, nI_leI, nI_ltI, nI_eq, nI_clamp, nI_add, pk_mul, pk_sub, pk_div] at c2
          have hT : h - (k + 1) = 0 := by omega
          refine ⟨fun c3 => ?_, fun c3 => ?_⟩
          · rw [hda.1] at c3
            refine next t (Mk.refl (fun w ⟨n, o, a1, a2, a3⟩ => ?_))
            have hm := (G_may a2).1
            have g := ((G_k0 hk (by omega) (by omega) (may_le hm) (may_0 hm) o).mp a2).1
            have := may_0 hm
            rw [e0, show n = 0 by omega, c3] at g; cases g
          · rw [hda.1] at c3
            have c3 : (dg u (k + 1)).testBit 0 = true := by simpa using c3
            refine sp65_8 (f := 0) (v := 0) (by omega) (by omega) (fun t2 m2 => zv56_47 ?_)
            rw [zrowL_row]
            refine next t2 (m2.iff (fun w _ => ?_))
            constructor
            · intro e
              exact ⟨0, (0, 0, 0), by omega, (G_k0 hk (by omega) (by omega) (by omega) (by omega) _).mpr ⟨by rw [e0]; exact c3, List.mem_singleton.mpr rfl⟩, by rw [xo0]; exact e⟩
            · intro ⟨n, o, a1, a2, a3⟩
              have hm := (G_may a2).1
              have := may_0 hm
              have hn1 : n = 0 := by omega
              subst hn1
              have g := List.mem_singleton.mp ((G_k0 hk (by omega) (by omega) (may_le hm) (may_0 hm) o).mp a2).2
              rw [g, xo0] at a3
              exact a3
  have := key 12 0 (τ 8) rfl (by omega) (Mk.refl (fun w ⟨c, a1, a2, _⟩ => by omega))
  rw [zrowL_id] at this
  exact zv56_0 this
theorem G_k1 {u : zRu} (hk : kd u = 1) {h t n : Nat} (h1 : 1 ≤ h - t) (h2 : h - t ≤ 64) (c1 : n ≤ t) (c2 : n = 0 ↔ t = 0) (o : zO) : o ∈ G u h t n ↔ (nb u (h - t) = true ∧ n < 2) ∧ o ∈ grp t n := by
  rw [G_012 (by omega), may_k1 hk c1 c2, z_ble_t h1, z_ble_t h2, Bool.true_and, Bool.true_and]
  by_cases c : n < 2
  · rw [z_blt_t c]
    cases nb u (h - t) <;> simp [c]
  · rw [z_blt_f (by omega)]
    cases nb u (h - t) <;> simp [c]
theorem sp57 {d x l : Nat} {σ : Nat → Nat → Int32} {τ : Nat → Nat → Int64} {Q : zR → Prop} {u : zRu} {h : Nat} (hu : zRok u) (hc : CR u (σ 1) (σ 2) (σ 3) (τ 4)) (hk : kd u = 1) (hh : h ≤ 2000) (h1 : 1 ≤ h) (h7 : ∀ k, k < h → σ 7 k = nI (gn u k))
    (hq : ∀ t, Mk (τ 8) t 0 (fun w => ∃ c, c ≤ h ∧ seen1 u h c w) → Q (.inl none, (49, x, l, σ, zrowL τ 8 t, zrho))) :
    zRn (d + 2) 57 (0, [.ref 6, .int (nI h), .ref 1, zJ], [], (49, x, l, σ, τ, zrho)) Q := by
  have fin : ∀ k t, (k = 64 ∨ k = h) → k ≤ 64 → k ≤ h → Mk (τ 8) t 0 (fun w => ∃ c, c < h ∧ h ≤ c + k ∧ seen1 u h c w) → Q (.inl none, (49, x, l, σ, zrowL τ 8 t, zrho)) := by
    intro k t hk1 hk2 hk3 ht
    refine hq t (ht.iff (fun w _ => ?_))
    constructor
    · intro ⟨c, a1, a2, a3⟩; exact ⟨c, by omega, a3⟩
    · intro ⟨c, a1, n, o, a2, a3, a4⟩
      have hm := (G_may a3).1
      have := may_k1 hk (h := h) (may_le hm) (may_0 hm)
      rw [hm] at this
      have := this.symm
      simp only [Bool.and_eq_true] at this
      have b1 := Nat.le_of_ble_eq_true this.1
      have b2 := Nat.le_of_ble_eq_true this.2.1
      exact ⟨c, by omega, by omega, n, o, a2, a3, a4⟩
  have key : ∀ m k t, k + m = 64 → k ≤ h → Mk (τ 8) t 0 (fun w => ∃ c, c < h ∧ h ≤ c + k ∧ seen1 u h c w) → zRn (d + 2) 57 (2, [.ref 6, .int (nI h), .ref 1, .int (nI (k + 1))], [], (49, x, l, σ, zrowL τ 8 t, zrho)) Q := by
    intro m
    induction m with
    | zero =>
      intro k t hkm hkh ht
      refine zv57_2 ⟨fun _ => fin k t (by omega) (by omega) hkh ht, fun c => ?_⟩
      simp (disch := omega) only [zlit, nI_leI, nI_ltI, nI_eq, nI_clamp, nI_add, pk_mul, pk_sub, pk_div] at c; omega
    | succ m ih =>
      intro k t hkm hkh ht
      refine zv57_2 ⟨fun c => ?_, fun _ => ⟨fun c => ?_, fun c => ?_⟩⟩
      · simp (disch := omega) only [zlit, nI_leI, nI_ltI, nI_eq, nI_clamp, nI_add, pk_mul, pk_sub, pk_div] at c; omega
      · simp (disch := omega) only [zlit, nI_leI, nI_ltI, nI_eq, nI_clamp, nI_add, pk_mul, pk_sub, pk_div] at c
        exact fin k t (by omega) (by omega) hkh ht
      · simp (disch := omega) only [zlit, nI_leI, nI_ltI, nI_eq, nI_clamp, nI_add, pk_mul, pk_sub, pk_div] at c
        have e0 : h - (h - (k + 1)) = k + 1 := by omega
        have next : ∀ t2, Mk t t2 0 (seen1 u h (h - (k + 1))) → zRn (d + 2) 57 (38, [.ref 6, .int (nI h), .ref 1, .int (nI (k + 1))], [], (49, x, l, σ, zrowL τ 8 t2, zrho)) Q := by
          intro t2 h2
          refine zv57_38 ?_
          rw [nI_1]
          refine ih (k + 1) t2 (by omega) (by omega) (ht.trans h2 (fun w => ?_))
          constructor
          · intro ⟨c, a1, a2, a3⟩
            by_cases e : c = h - (k + 1)
            · subst e; exact Or.inr a3
            · exact Or.inl ⟨c, a1, by omega, a3⟩
          · intro q
            rcases q with ⟨c, a1, a2, a3⟩ | q
            · exact ⟨c, a1, by omega, a3⟩
            · exact ⟨h - (k + 1), by omega, by omega, q⟩
        rw [pk_sub (show k + 1 ≤ h by omega), nI_clamp (by omega), nI_clamp (by omega), hc.2.2.1 (k + 1) (by omega), bI_0]
        refine ⟨vp_in_nI (by omega) (by decide), fun c2 => ?_, fun c2 => ⟨vp_in_nI (by omega) (by decide), ?_⟩⟩
        · refine next t (Mk.refl (fun w ⟨n, o, a1, a2, a3⟩ => ?_))
          have hm := (G_may a2).1
          have g := ((G_k1 hk (by omega) (by omega) (may_le hm) (may_0 hm) o).mp a2).1.1
          rw [e0, c2] at g; cases g
        · have c2 : nb u (k + 1) = true := by simpa using c2
          rw [h7 _ (by omega)]
          have hgl := gn_le hu (show h - (k + 1) ≤ 2000 by omega)
          refine sp65_8 (f := 0) (by omega) (by omega) (fun t2 m2 => ?_)
          rw [zrowL_row]
          refine next t2 (m2.iff (fun w _ => ?_))
          have ex : xo (gn u) (0, 0, h - (k + 1)) = gn u (h - (k + 1)) := by rw [xo2, gn_0, Nat.zero_xor]
          constructor
          · intro e
            by_cases c3 : h - (k + 1) = 0
            · refine ⟨0, (0, 0, h - (k + 1)), by omega, (G_k1 hk (by omega) (by omega) (by omega) (by omega) _).mpr ⟨⟨by rw [e0]; exact c2, by omega⟩, ?_⟩, by rw [ex]; exact e⟩
              rw [c3]; exact List.mem_singleton.mpr rfl
            · exact ⟨1, (0, 0, h - (k + 1)), by omega, (G_k1 hk (by omega) (by omega) (by omega) (by omega) _).mpr ⟨⟨by rw [e0]; exact c2, by omega⟩, List.mem_singleton.mpr rfl⟩, by rw [ex]; exact e⟩
          · intro ⟨n, o, a1, a2, a3⟩
            have hm := (G_may a2).1
            obtain ⟨g1, g2⟩ := (G_k1 hk (by omega) (by omega) (may_le hm) (may_0 hm) o).mp a2
            have h01 := may_0 hm
            have g3 : o = (0, 0, h - (k + 1)) := by
              by_cases c3 : n = 0
              · subst c3
                have := List.mem_singleton.mp g2
                rw [this, h01.mp rfl]
              · have : n = 1 := by omega
                subst this
                exact List.mem_singleton.mp g2
            rw [g3, ex] at a3
            exact a3
  have := key 64 0 (τ 8) rfl (by omega) (Mk.refl (fun w ⟨c, a1, a2, _⟩ => by omega))
  rw [zrowL_id] at this
  exact zv57_0 this
theorem sp58 {d x l : Nat} {σ : Nat → Nat → Int32} {τ : Nat → Nat → Int64} {Q : zR → Prop} {u : zRu} {c : Nat} (hu : zRok u) (hc : c ≤ 2000) (h7 : ∀ k, k < c → σ 7 k = nI (gn u k))
    (hq : ∀ t, Mk (τ 8) t 0 (fun w => ∃ i, 1 ≤ i ∧ 2 * i < c ∧ w = xo (gn u) (0, i, c - i)) → Q (.inl none, (49, x, l, σ, zrowL τ 8 t, zrho))) :
    zRn (d + 1) 58 (0, [.ref 6, .int (nI c), zJ], [], (49, x, l, σ, τ, zrho)) Q := by
  have key : ∀ m k t, k + m = (c - 1) / 2 → Mk (τ 8) t 0 (fun w => ∃ i, 1 ≤ i ∧ i ≤ k ∧ w = xo (gn u) (0, i, c - i)) → zRn (d + 1) 58 (2, [.ref 6, .int (nI c), .int (nI (k + 1))], [], (49, x, l, σ, zrowL τ 8 t, zrho)) Q := by
    intro m
    induction m with
    | zero =>
      intro k t hk h1
      refine zv58_2 ⟨fun _ => hq t (h1.iff (fun w _ => ?_)), fun c2 => ?_⟩
      · exact ⟨fun ⟨i, a, b, e⟩ => ⟨i, a, by omega, e⟩, fun ⟨i, a, b, e⟩ => ⟨i, a, by omega, e⟩⟩
      · simp (disch := omega) only [zlit, nI_leI, nI_ltI, nI_eq, nI_clamp, nI_add, pk_mul, pk_sub, pk_div] at c2; omega
    | succ m ih =>
      intro k t hk h1
      have g1 := gn_le hu (show k + 1 ≤ 2000 by omega)
      have g2 := gn_le hu (show c - (k + 1) ≤ 2000 by omega)
      refine zv58_2 ⟨fun c2 => ?_, fun _ => ?_⟩
      · simp (disch := omega) only [zlit, nI_leI, nI_ltI, nI_eq, nI_clamp, nI_add, pk_mul, pk_sub, pk_div] at c2; omega
      · rw [pk_sub (show k + 1 ≤ c by omega), nI_clamp (by omega), nI_clamp (by omega), h7 _ (by omega), h7 _ (by omega), z_xor]
        refine ⟨vp_in_nI (by omega) (by decide), vp_in_nI (by omega) (by decide), ?_⟩
        refine sp65_8 (f := 0) (by omega) (xor_lt (by omega) (by omega)) (fun t2 h2 => zv58_32 ?_)
        rw [zrowL_row, nI_1]
        refine ih (k + 1) t2 (by omega) (h1.trans h2 (fun w => ?_))
        rw [← xo2]
        constructor
        · intro ⟨i, a, b, e⟩
          by_cases c3 : i = k + 1
          · subst c3; exact Or.inr e
          · exact Or.inl ⟨i, a, by omega, e⟩
        · intro q
          rcases q with ⟨i, a, b, e⟩ | q
          · exact ⟨i, a, by omega, e⟩
          · exact ⟨k + 1, by omega, by omega, q⟩
  have := key ((c - 1) / 2) 0 (τ 8) (by omega) (Mk.refl (fun w ⟨i, a, b, _⟩ => by omega))
  rw [zrowL_id] at this
  exact zv58_0 this
theorem sp59 {d x l : Nat} {σ : Nat → Nat → Int32} {τ : Nat → Nat → Int64} {Q : zR → Prop} {u : zRu} {h : Nat} (hu : zRok u) (hc : CR u (σ 1) (σ 2) (σ 3) (τ 4)) (hh : h ≤ 2000) (h1 : 1 ≤ h) (h7 : ∀ k, k < h → σ 7 k = nI (gn u k))
    (hq : ∀ t, Mk (τ 8) t 0 (fun w => ∃ a b, en u h a b = true ∧ w = xo (gn u) (0, a, b)) → Q (.inl none, (49, x, l, σ, zrowL τ 8 t, zrho))) :
    zRn (d + 1) 59 (0, [.ref 6, .int (nI h), .ref 1, zJ, zJ], [], (49, x, l, σ, τ, zrho)) Q := by
  refine zv59_0 ⟨fun c => ?_, fun c => ?_⟩
  · simp (disch := omega) only [zlit, nI_leI, nI_ltI, nI_eq, nI_clamp, nI_add, pk_mul, pk_sub, pk_div] at c
    have inner : ∀ a, 2 * a ≤ h →
        (∀ t, Mk (τ 8) t 0 (fun w => ∃ i b, i ≤ a ∧ en u h i b = true ∧ w = xo (gn u) (0, i, b)) → zRn (d + 1) 59 (9, [.ref 6, .int (nI h), .ref 1, .int (nI (a + 1)), zJ], [], (49, x, l, σ, zrowL τ 8 t, zrho)) Q) →
        ∀ m b t, b + m = h → a ≤ b → Mk (τ 8) t 0 (fun w => ∃ i j, i ≤ a ∧ (i = a → j < b) ∧ en u h i j = true ∧ w = xo (gn u) (0, i, j)) →
        zRn (d + 1) 59 (19, [.ref 6, .int (nI h), .ref 1, .int (nI a), .int (nI b)], [], (49, x, l, σ, zrowL τ 8 t, zrho)) Q := by
      intro a ha hk m
      have out : ∀ b t, (h ≤ b ∨ h < a + b) → Mk (τ 8) t 0 (fun w => ∃ i j, i ≤ a ∧ (i = a → j < b) ∧ en u h i j = true ∧ w = xo (gn u) (0, i, j)) → zRn (d + 1) 59 (9, [.ref 6, .int (nI h), .ref 1, .int (nI (a + 1)), zJ], [], (49, x, l, σ, zrowL τ 8 t, zrho)) Q := by
        intro b t hb h2
        refine hk t (h2.iff (fun w _ => ?_))
        constructor
        · intro ⟨i, j, e1, e2, e3, e4⟩; exact ⟨i, j, e1, e3, e4⟩
        · intro ⟨i, j, e1, e3, e4⟩
          have := hu.2.2 _ _ _ e3
          exact ⟨i, j, e1, fun e => by omega, e3, e4⟩
      induction m with
      | zero =>
        intro b t hb hab h2
        refine zv59_19 ⟨fun _ => by rw [nI_1]; exact out b t (by omega) h2, fun c2 => ?_⟩
        simp (disch := omega) only [zlit, nI_leI, nI_ltI, nI_eq, nI_clamp, nI_add, pk_mul, pk_sub, pk_div] at c2; omega
      | succ m ih =>
        intro b t hb hab h2
        refine zv59_19 ⟨fun c2 => ?_, fun _ => ⟨fun c2 => ?_, fun c2 => ?_⟩⟩
        · simp (disch := omega) only [zlit, nI_leI, nI_ltI, nI_eq, nI_clamp, nI_add, pk_mul, pk_sub, pk_div] at c2; omega
        · simp (disch := omega) only [zlit, nI_leI, nI_ltI, nI_eq, nI_clamp, nI_add, pk_mul, pk_sub, pk_div] at c2
          rw [nI_1]; exact out b t (by omega) h2
        · simp (disch := omega) only [zlit, nI_leI, nI_ltI, nI_eq, nI_clamp, nI_add, pk_mul, pk_sub, pk_div] at c2
          have g1 := gn_le hu (show a ≤ 2000 by omega)
          have g2 := gn_le hu (show b ≤ 2000 by omega)
          have step : ∀ t2, Mk t t2 0 (fun w => en u h a b = true ∧ w = xo (gn u) (0, a, b)) → zRn (d + 1) 59 (66, [.ref 6, .int (nI h), .ref 1, .int (nI a), .int (nI b)], [], (49, x, l, σ, zrowL τ 8 t2, zrho)) Q := by
            intro t2 h3
            refine zv59_66 ?_
            rw [nI_1]
            refine ih (b + 1) t2 (by omega) (by omega) (h2.trans h3 (fun w => ?_))
            constructor
            · intro ⟨i, j, e1, e2, e3, e4⟩
              by_cases c3 : i = a ∧ j = b
              · obtain ⟨c3, c4⟩ := c3
                subst c3; subst c4; exact Or.inr ⟨e3, e4⟩
              · exact Or.inl ⟨i, j, e1, fun e => by have := e2 e; omega, e3, e4⟩
            · intro q
              rcases q with ⟨i, j, e1, e2, e3, e4⟩ | ⟨q1, q2⟩
              · exact ⟨i, j, e1, fun e => by have := e2 e; omega, e3, e4⟩
              · exact ⟨a, b, by omega, fun _ => by omega, q1, q2⟩
          refine sp79 hc c (by omega) (by omega) (zv59_41 ⟨fun c3 => ?_, fun c3 => ?_⟩)
          · rw [bI_0] at c3
            exact step t (Mk.refl (fun w q => by rw [c3] at q; cases q.1))
          · rw [bI_0] at c3
            have c3 : en u h a b = true := by simpa using c3
            rw [nI_clamp (by omega), nI_clamp (by omega), h7 _ (by omega), h7 _ (by omega), z_xor]
            refine ⟨vp_in_nI (by omega) (by decide), vp_in_nI (by omega) (by decide), ?_⟩
            refine sp65_8 (f := 0) (by omega) (xor_lt (by omega) (by omega)) (fun t2 h3 => ?_)
            rw [zrowL_row]
            refine step t2 (h3.iff (fun w _ => ?_))
            rw [← xo2]
            exact ⟨fun e => ⟨c3, e⟩, fun e => e.2⟩
    have key : ∀ m k t, k + m = h / 2 + 1 → Mk (τ 8) t 0 (fun w => ∃ i b, i < k ∧ en u h i b = true ∧ w = xo (gn u) (0, i, b)) → zRn (d + 1) 59 (9, [.ref 6, .int (nI h), .ref 1, .int (nI k), zJ], [], (49, x, l, σ, zrowL τ 8 t, zrho)) Q := by
      intro m
      induction m with
      | zero =>
        intro k t hk h2
        refine zv59_9 ⟨fun _ => hq t (h2.iff (fun w _ => ?_)), fun c2 => ?_⟩
        · constructor
          · intro ⟨i, b, e1, e2, e3⟩; exact ⟨i, b, e2, e3⟩
          · intro ⟨i, b, e2, e3⟩
            have := hu.2.2 _ _ _ e2
            exact ⟨i, b, by omega, e2, e3⟩
        · simp (disch := omega) only [zlit, nI_leI, nI_ltI, nI_eq, nI_clamp, nI_add, pk_mul, pk_sub, pk_div] at c2; omega
      | succ m ih =>
        intro k t hk h2
        refine zv59_9 ⟨fun c2 => ?_, fun _ => ?_⟩
        · simp (disch := omega) only [zlit, nI_leI, nI_ltI, nI_eq, nI_clamp, nI_add, pk_mul, pk_sub, pk_div] at c2; omega
        · refine inner k (by omega) (fun t2 h3 => ih (k + 1) t2 (by omega) (h3.iff (fun w _ => ?_))) (h - k) k t (by omega) (by omega) (h2.iff (fun w _ => ?_))
          · exact ⟨fun ⟨i, b, e1, e2, e3⟩ => ⟨i, b, by omega, e2, e3⟩, fun ⟨i, b, e1, e2, e3⟩ => ⟨i, b, by omega, e2, e3⟩⟩
          · constructor
            · intro ⟨i, b, e1, e2, e3⟩
              exact ⟨i, b, by omega, fun e => by omega, e2, e3⟩
            · intro ⟨i, j, e1, e2, e3, e4⟩
              have := hu.2.2 _ _ _ e3
              refine ⟨i, j, Nat.lt_of_le_of_ne e1 (fun e => ?_), e3, e4⟩
              have := e2 e
              omega
    have := key (h / 2 + 1) 0 (τ 8) (by omega) (Mk.refl (fun w ⟨i, b, a, _⟩ => by omega))
    rw [zrowL_id] at this
    exact this
  · simp (disch := omega) only [zlit, nI_leI, nI_ltI, nI_eq, nI_clamp, nI_add, pk_mul, pk_sub, pk_div] at c
    have := hq (τ 8) (Mk.refl (fun w ⟨a, b, e, _⟩ => by have := hu.2.2 _ _ _ e; omega))
    rw [zrowL_id] at this
    exact this
