/-! the class: the table of nimbers -/
theorem seen_opts {u : zRu} {h w : Nat} : (∃ c, c ≤ h ∧ seen1 u h c w) ↔ w ∈ (opts u h).map (xo (gn u)) := by
  constructor
  · intro ⟨c, h1, n, o, h2, h3, h4⟩
    exact List.mem_map.mpr ⟨o, opts_mem.mpr ⟨c, n, h1, h2, h3⟩, h4.symm⟩
  · intro hm
    obtain ⟨o, ho, e⟩ := List.mem_map.mp hm
    obtain ⟨t, n, h1, h2, h3⟩ := opts_mem.mp ho
    exact ⟨t, h1, n, o, h2, h3, e.symm⟩
theorem may_23 {u : zRu} (hk : kd u = 2 ∨ kd u = 3) {h t n : Nat} (hm : may u h t n = true) : t = h ∧ n = 2 := by
  rcases hk with hk | hk
  · have := may_k2 hk (h := h) (may_le hm) (may_0 hm)
    rw [hm] at this
    have := this.symm
    simp only [Bool.and_eq_true, beq_iff_eq] at this
    omega
  · have := may_k3 hk (h := h) (may_le hm) (may_0 hm)
    rw [hm] at this
    have := this.symm
    simp only [Bool.and_eq_true, beq_iff_eq] at this
    omega
theorem may_23' {u : zRu} (hk : kd u = 2 ∨ kd u = 3) {h : Nat} (h2 : 2 ≤ h) : may u h h 2 = true := by
  rcases hk with hk | hk
  · rw [may_k2 hk h2 (by omega)]; simp
  · rw [may_k3 hk h2 (by omega)]; simp
theorem opts_k2 {u : zRu} (hk : kd u = 2) {h w : Nat} : (∃ i, 1 ≤ i ∧ 2 * i ≤ h ∧ w = xo (gn u) (0, i, h - i)) ↔ w ∈ (opts u h).map (xo (gn u)) := by
  rw [← grp2_iff w (xo (gn u)), ← seen_opts]
  constructor
  · intro ⟨o, h1, h2⟩
    have h3 : 2 ≤ h := by obtain ⟨i, a, b⟩ := row2_mem (k := h / 2) h1; omega
    refine ⟨h, Nat.le_refl h, 2, o, by omega, ?_, h2⟩
    rw [G_012 (by omega), may_23' (Or.inl hk) h3]
    exact h1
  · intro ⟨c, _, n, o, _, h3, h4⟩
    obtain ⟨m1, m2, _⟩ := G_may h3
    obtain ⟨e1, e2⟩ := may_23 (Or.inl hk) m1
    subst e1; subst e2
    exact ⟨o, m2, h4⟩
theorem opts_k3 {u : zRu} (hk : kd u = 3) {h w : Nat} : (∃ i, 1 ≤ i ∧ 2 * i < h ∧ w = xo (gn u) (0, i, h - i)) ↔ w ∈ (opts u h).map (xo (gn u)) := by
  rw [← seen_opts]
  constructor
  · intro ⟨i, h1, h2, h3⟩
    refine ⟨h, Nat.le_refl h, 2, (0, i, h - i), by omega, ?_, h3⟩
    unfold G
    rw [may_23' (Or.inr hk) (by omega), cond_true, grp2_unl hk]
    have := row2_get h ((h - 1) / 2) (i - 1) (by omega)
    rw [show i - 1 + 1 = i by omega] at this
    exact List.mem_of_getElem? this
  · intro ⟨c, _, n, o, _, h3, h4⟩
    obtain ⟨m1, m2, _⟩ := G_may h3
    obtain ⟨e1, e2⟩ := may_23 (Or.inr hk) m1
    subst e1; subst e2
    unfold G at h3
    rw [m1, cond_true, grp2_unl hk] at h3
    obtain ⟨i, a, b⟩ := row2_mem h3
    exact ⟨i + 1, by omega, by omega, by rw [h4, b]⟩
theorem en_opts {u : zRu} (hu : zRok u) (hk : kd u = 4) {h a b : Nat} (he : en u h a b = true) : (0, a, b) ∈ opts u h := by
  have hr := hu.2.2 _ _ _ he
  have go : ∀ n, n ≤ 2 → n ≤ a + b → (n = 0 ↔ a + b = 0) → (0, a, b) ∈ grp (a + b) n → (0, a, b) ∈ opts u h := by
    intro n h1 h2 h3 h4
    refine opts_mem.mpr ⟨a + b, n, by omega, by omega, ?_⟩
    rw [G_4 hk (by omega) (by omega) h1 h2 h3]
    refine List.mem_filter.mpr ⟨h4, ?_⟩
    rw [isO_4 hk]; exact he
  by_cases c1 : b = 0
  · have : a = 0 := by omega
    subst c1; subst this
    exact go 0 (by omega) (by omega) (by omega) (List.mem_singleton.mpr rfl)
  · by_cases c2 : a = 0
    · subst c2
      refine go 1 (by omega) (by omega) (by omega) ?_
      rw [Nat.zero_add]; exact List.mem_singleton.mpr rfl
    · refine go 2 (by omega) (by omega) (by omega) ?_
      have := row2_get (a + b) ((a + b) / 2) (a - 1) (by omega)
      rw [show a - 1 + 1 = a by omega, show a + b - a = b by omega] at this
      exact List.mem_of_getElem? this
theorem opts_k4 {u : zRu} (hu : zRok u) (hk : kd u = 4) {h w : Nat} : (∃ a b, en u h a b = true ∧ w = xo (gn u) (0, a, b)) ↔ w ∈ (opts u h).map (xo (gn u)) := by
  constructor
  · intro ⟨a, b, h1, h2⟩
    exact List.mem_map.mpr ⟨(0, a, b), en_opts hu hk h1, h2.symm⟩
  · intro hm
    obtain ⟨o, ho, e⟩ := List.mem_map.mp hm
    obtain ⟨t, n, h1, h2, h3⟩ := opts_mem.mp ho
    obtain ⟨m1, m2, m3⟩ := G_may h3
    rw [isO_4 hk] at m3
    have hn : n ≤ 2 := by
      have := may_k4 hk (h := h) (may_le m1) (may_0 m1)
      rw [m1] at this
      have := this.symm
      simp only [Bool.and_eq_true] at this
      have := Nat.le_of_ble_eq_true this.2.2
      omega
    have hg := grp_mem h2 (may_le m1) (may_0 m1) m2
    obtain ⟨a, b, c⟩ := o
    have ha : a = 0 := hg.2.2.2.1 hn
    subst ha
    exact ⟨b, c, m3, e.symm⟩
theorem sp55 {d x l : Nat} {σ : Nat → Nat → Int32} {τ : Nat → Nat → Int64} {Q : zR → Prop} {u : zRu} {h : Nat} (hu : zRok u) (hc : CR u (σ 1) (σ 2) (σ 3) (τ 4)) (hh : h ≤ 2000) (h1 : 1 ≤ h) (h7 : ∀ k, k < h → σ 7 k = nI (gn u k)) (hw : CW u (h - 1) (τ 9) (τ 10))
    (hq : ∀ t, Mk (τ 8) t 0 (fun w => w ∈ (opts u h).map (xo (gn u))) → Q (.inl none, (49, x, l, σ, zrowL τ 8 t, zrho))) :
    zRn (d + 3) 55 (0, [.ref 6, .int (nI h), .ref 1], [], (49, x, l, σ, τ, zrho)) Q := by
  have h4 := hu.1
  have hk : (σ 1 0).toInt = (kd u : Int) := by rw [hc.1]; exact nI_T (by omega)
  refine zv55_0 ?_
  rw [hk]
  refine ⟨fun c => ?_, fun c => ?_, fun c => ?_, fun c => ?_, fun c => ?_⟩
  · exact sp59 hu hc hh h1 h7 (fun t m => zv55_81 (hq t (m.iff (fun w _ => opts_k4 hu (by omega)))))
  · exact sp56 hu hc (by omega) hh h1 h7 hw (fun t m => zv55_42 (zv55_81 (hq t (m.iff (fun w _ => seen_opts)))))
  · exact sp57 hu hc (by omega) hh h1 h7 (fun t m => zv55_51 (zv55_81 (hq t (m.iff (fun w _ => seen_opts)))))
  · exact sp60_8 (f := 0) hu (by omega) hh h7 (fun t m => zv55_64 (zv55_81 (hq t (m.iff (fun w _ => opts_k2 (by omega))))))
  · exact sp58 hu hh h7 (fun t m => zv55_72 (zv55_81 (hq t (m.iff (fun w _ => opts_k3 (by omega))))))
theorem sp54 {d x l : Nat} {σ : Nat → Nat → Int32} {τ : Nat → Nat → Int64} {Q : zR → Prop} {u : zRu} {e : Nat} (hu : zRok u) (he : e ≤ 2000) (h1 : σ 6 1 = nI e) (h7 : ∀ k, k ≤ e → σ 7 k = nI (gn u k))
    (hq : Q (.inl none, (49, x, l, zrow σ 6 (upd (σ 6) 2 (nI (mx (gn u) (e + 1)))), τ, zrho))) :
    zRn (d + 1) 54 (0, [.ref 6, zJ], [], (49, x, l, σ, τ, zrho)) Q := by
  have hup : ∀ a b : Int32, upd (upd (σ 6) 2 a) 2 b = upd (σ 6) 2 b := by
    intro a b
    funext j
    by_cases c : j = 2
    · rw [c, pk_us, pk_us]
    · rw [pk_un c, pk_un c, pk_un c]
  have key : ∀ m k, k + m = e + 1 → zRn (d + 1) 54 (7, [.ref 6, .int (nI k)], [], (49, x, l, zrow σ 6 (upd (σ 6) 2 (nI (mx (gn u) k))), τ, zrho)) Q := by
    intro m
    induction m with
    | zero =>
      intro k hk
      refine zv54_7 ⟨fun _ => ?_, fun c => ?_⟩
      · rw [show k = e + 1 by omega]; exact hq
      · have c : ¬ σ 6 1 < nI k := c
        rw [h1] at c; simp (disch := omega) only [zlit, nI_leI, nI_ltI, nI_eq, nI_clamp, nI_add, pk_mul, pk_sub, pk_div] at c; omega
    | succ m ih =>
      intro k hk
      have hm : mx (gn u) k ≤ 2000 := mx_le (fun j hj => gn_le hu (by omega))
      have hg := gn_le hu (show k ≤ 2000 by omega)
      refine zv54_7 ⟨fun c => ?_, fun _ => ⟨vp_in_nI (by omega) (by decide), ?_⟩⟩
      · have c : σ 6 1 < nI k := c
        rw [h1] at c; simp (disch := omega) only [zlit, nI_leI, nI_ltI, nI_eq, nI_clamp, nI_add, pk_mul, pk_sub, pk_div] at c; omega
      · show zRn d 165 (0, [.int (nI (mx (gn u) k)), .int (σ 7 ((nI k).toNatClampNeg))], [], _) _
        rw [nI_clamp (by omega), h7 k (by omega), nI_iI, nI_iI (gn u k)]
        refine sp165 (by omega) (by omega) (by omega) (by omega) (zv54_29 ?_)
        rw [zup_row, zrow_row, zrow_me, hup, nI_1, iI_nat (by omega), show (max (mx (gn u) k : Int) (gn u k : Int)).toNat = max (mx (gn u) k) (gn u k) by omega]
        exact ih (k + 1) (by omega)
  refine zv54_0 ?_
  rw [zup_row]
  exact key (e + 1) 0 (by omega)
def CN (u : zRu) (e kn : Nat) (s6 s7 : Nat → Int32) (t9 t10 : Nat → Int64) : Prop := s6 1 = nI e ∧ s6 5 = nI kn ∧ e ≤ kn ∧ kn ≤ 2000 ∧ (∀ k, k ≤ kn → s7 k = nI (gn u k)) ∧ s6 2 = nI (mx (gn u) (e + 1)) ∧ CW u kn t9 t10
def T3 (τ : Nat → Nat → Int64) (a b c : Nat → Int64) : Nat → Nat → Int64 := zrowL (zrowL (zrowL τ 8 a) 9 b) 10 c
theorem T3_10 (τ : Nat → Nat → Int64) (a b c t : Nat → Int64) : zrowL (T3 τ a b c) 10 t = T3 τ a b t := zrowL_row _ _ _ _
theorem T3_9 (τ : Nat → Nat → Int64) (a b c t : Nat → Int64) : zrowL (T3 τ a b c) 9 t = T3 τ a t c := by
  unfold T3
  rw [zrowL_sw _ _ _ (by decide), zrowL_row]
theorem T3_8 (τ : Nat → Nat → Int64) (a b c t : Nat → Int64) : zrowL (T3 τ a b c) 8 t = T3 τ t b c := by
  unfold T3
  rw [zrowL_sw _ _ _ (by decide), zrowL_sw _ _ _ (show (9 : Nat) ≠ 8 by decide), zrowL_row]
theorem T3_id (τ : Nat → Nat → Int64) : T3 τ (τ 8) (τ 9) (τ 10) = τ := by
  unfold T3
  rw [zrowL_id, show zrowL τ 9 (τ 9) = τ from zrowL_id τ 9, zrowL_id]
theorem mk_same {t t' : Nat → Int64} {c f : Nat} (h : ∀ j, (j < f ∨ f + 32 ≤ j) → t' j = t j) (hd : c + 32 ≤ f ∨ f + 32 ≤ c) {w : Nat} (hw : w < 2048) : mk t' c w = mk t c w := by
  unfold mk
  rw [h _ (by omega)]
theorem mod16 {c k : Nat} (h1 : c < k) (h2 : k < c + 16) : c % 16 * 32 + 32 ≤ k % 16 * 32 ∨ k % 16 * 32 + 32 ≤ c % 16 * 32 := by omega
theorem sp53 {d x l : Nat} {σ : Nat → Nat → Int32} {τ : Nat → Nat → Int64} {Q : zR → Prop} {u : zRu} {e kn n : Nat} (hu : zRok u) (hc : CR u (σ 1) (σ 2) (σ 3) (τ 4)) (hn : CN u e kn (σ 6) (σ 7) (τ 9) (τ 10)) (hnn : n ≤ 2000)
    (hq : ∀ s a t8 t9 t10, CN u n (max kn n) s a t9 t10 → s 6 = 0 → Q (.inl none, (49, x, l, zrow (zrow σ 7 a) 6 s, T3 τ t8 t9 t10, zrho))) :
    zRn (d + 4) 53 (0, [.ref 6, .int (nI n), .ref 1, zJ, zJ, zJ], [], (49, x, l, σ, τ, zrho)) Q := by
  obtain ⟨n1, n2, n3, n4, n5, n6, n7⟩ := hn
  have tail : ∀ k a t8 t9 t10, k = max kn n → (∀ j, j ≤ k → a j = nI (gn u j)) → CW u k t9 t10 → zRn (d + 3) 165 (0, [.int (σ 6 5), .int (nI n)], [], (49, x, l, zrow σ 7 a, T3 τ t8 t9 t10, zrho)) (zret (d + 3 + 1) 53 142 145 [.ref 6, .int (nI n), zJ, zJ, zJ, zJ] [.ref 6] Q) := by
    intro k a t8 t9 t10 hk ha hw
    rw [n2, nI_iI, nI_iI n]
    refine sp165 (by omega) (by omega) (by omega) (by omega) (zv53_145 ?_)
    rw [iI_nat (by omega), show (max (kn : Int) (n : Int)).toNat = max kn n by omega, ← nI_iI]
    simp only [zup_row, zrow_row, zrow_me]
    refine sp54 (e := n) hu hnn rfl (fun j hj => ha j (by omega)) (zv53_162 ?_)
    rw [zrow_row]
    refine hq _ a t8 t9 t10 ⟨rfl, rfl, by omega, by omega, fun j hj => ha j (by omega), rfl, by rw [← hk]; exact hw⟩ rfl
  have loop : ∀ (b3 : Bool), (b3 = true ↔ need2 u) → ∀ m k a t8 t9 t10, k + m = max kn n → kn ≤ k → (∀ j, j ≤ k → a j = nI (gn u j)) → CW u k t9 t10 →
      zRn (d + 4) 53 (35, [.ref 6, .int (nI n), .ref 1, .int (bI b3), .int (bI (has8 u)), .int (nI (k + 1))], [], (49, x, l, zrow σ 7 a, T3 τ t8 t9 t10, zrho)) Q := by
    intro b3 hb3 m
    induction m with
    | zero =>
      intro k a t8 t9 t10 hk hkn ha hw
      refine zv53_35 ⟨fun _ => tail k a t8 t9 t10 (by omega) ha hw, fun c => ?_⟩
      simp (disch := omega) only [zlit, nI_leI, nI_ltI, nI_eq, nI_clamp, nI_add, pk_mul, pk_sub, pk_div] at c; omega
    | succ m ih =>
      intro k a t8 t9 t10 hk hkn ha hw
      refine zv53_35 ⟨fun c => ?_, fun _ => ?_⟩
      · simp (disch := omega) only [zlit, nI_leI, nI_ltI, nI_eq, nI_clamp, nI_add, pk_mul, pk_sub, pk_div] at c; omega
      · refine sp167 (fun t8a hz => zv53_49 ?_)
        rw [T3_8]
        refine sp55 (h := k + 1) hu hc (by omega) (by omega) (fun j hj => ha j (by omega)) hw (fun t8b hm => zv53_56 ?_)
        rw [T3_8]
        have hms := mex_spec (L := (opts u (k + 1)).map (xo (gn u))) (fun w hw => by
          obtain ⟨o, ho, hw⟩ := List.mem_map.mp hw
          have hbb := opt_bd hu ho
          have := xo_lt hu (o := o) (by omega) (by omega) (by omega)
          omega)
        rw [← gn_S hu] at hms
        have hg := gn_le hu (show k + 1 ≤ 2000 by omega)
        have hmk : ∀ w, w < 2048 → (mk t8b 0 w = true ↔ w ∈ (opts u (k + 1)).map (xo (gn u))) := by
          intro w hw
          rw [hm.1 w hw]
          constructor
          · intro q
            rcases q with q | q
            · have q : mk t8a 0 w = true := q
              rw [hz w hw] at q; cases q
            · exact q
          · exact Or.inr
        refine sp66 (g := gn u (k + 1)) hg ?_ (fun w hw => (hmk w (by omega)).mpr (hms.2 w hw)) (zv53_66 ?_)
        · show mk t8b 0 (gn u (k + 1)) = false
          cases q : mk t8b 0 (gn u (k + 1)) with
          | false => rfl
          | true => exact absurd ((hmk _ (by omega)).mp q) hms.1
        · rw [nI_clamp (by omega), zup_row, zrow_row, zrow_me]
          have ha2 : ∀ j, j ≤ k + 1 → upd a (k + 1) (nI (gn u (k + 1))) j = nI (gn u j) := by
            intro j hj
            by_cases c : j = k + 1
            · rw [c, pk_us]
            · rw [pk_un c]; exact ha j (by omega)
          have p130 : ∀ y z, CW u (k + 1) y z → zRn (d + 4) 53 (130, [.ref 6, .int (nI n), .ref 1, .int (bI b3), .int (bI (has8 u)), .int (nI (k + 1))], [], (49, x, l, zrow σ 7 (upd a (k + 1) (nI (gn u (k + 1)))), T3 τ t8b y z, zrho)) Q := by
            intro y z hyz
            refine zv53_130 ?_
            rw [nI_1]
            exact ih (k + 1) _ t8b y z (by omega) (by omega) ha2 hyz
          have p98 : ∀ y, (need2 u → ∀ c, 1 ≤ c → c ≤ k + 1 → k + 1 < c + 16 → ∀ w, w < 2048 → (mk y (c % 16 * 32) w = true ↔ ∃ i, 1 ≤ i ∧ 2 * i ≤ c ∧ w = xo (gn u) (0, i, c - i))) → zRn (d + 4) 53 (98, [.ref 6, .int (nI n), .ref 1, .int (bI b3), .int (bI (has8 u)), .int (nI (k + 1))], [], (49, x, l, zrow σ 7 (upd a (k + 1) (nI (gn u (k + 1)))), T3 τ t8b y t10, zrho)) Q := by
            intro y hy
            refine zv53_98 ⟨fun c => ?_, fun c => ?_⟩
            · rw [bI_0] at c
              exact p130 y t10 ⟨hy, fun h8 => by rw [c] at h8; cases h8⟩
            · rw [bI_0] at c
              refine sp62 (by omega) (zv53_112 (sp63_10 (by omega) (fun z1 hz1 hz2 => zv53_115 (sp62 (by omega) (zv53_125 ?_)))))
              rw [T3_10]
              refine sp61 hu (by omega) (by omega) (fun j hj => ha2 j (by omega)) (fun z2 hz3 => ?_)
              rw [T3_10]
              refine p130 y z2 ⟨hy, fun h8 cc c1 c2 c3 w hw2 => ?_⟩
              by_cases e1 : cc = k + 1
              · subst e1
                rw [hz3.1 w hw2]
                constructor
                · intro q
                  rcases q with q | q
                  · have q : mk z1 ((k + 1) % 16 * 32) w = true := q
                    rw [hz1 w hw2] at q; cases q
                  · exact q
                · exact Or.inr
              · have hd := mod16 (show cc < k + 1 by omega) c3
                have q1 : mk z2 (cc % 16 * 32) w = mk z1 (cc % 16 * 32) w := mk_same hz3.2 hd hw2
                have q2 : mk z1 (cc % 16 * 32) w = mk t10 (cc % 16 * 32) w := mk_same hz2 hd hw2
                rw [q1, q2]
                exact hw.2 h8 cc c1 (by omega) (by omega) w hw2
          refine ⟨vp_in_nI (by omega) (by decide), fun c => ?_, fun c => ?_⟩
          · rw [bI_0] at c
            refine p98 t9 (fun h2 => ?_)
            have := hb3.mpr h2
            rw [c] at this; cases this
          · rw [bI_0] at c
            refine sp62 (by omega) (zv53_80 (sp63_9 (by omega) (fun z1 hz1 hz2 => zv53_83 (sp62 (by omega) (zv53_93 ?_)))))
            rw [T3_9]
            refine sp60_9 hu (by omega) (by omega) (fun j hj => ha2 j (by omega)) (fun z2 hz3 => ?_)
            rw [T3_9]
            refine p98 z2 (fun h2 cc c1 c2 c3 w hw2 => ?_)
            by_cases e1 : cc = k + 1
            · subst e1
              rw [hz3.1 w hw2]
              constructor
              · intro q
                rcases q with q | q
                · have q : mk z1 ((k + 1) % 16 * 32) w = true := q
                  rw [hz1 w hw2] at q; cases q
                · exact q
              · exact Or.inr
            · have hd := mod16 (show cc < k + 1 by omega) c3
              have q1 : mk z2 (cc % 16 * 32) w = mk z1 (cc % 16 * 32) w := mk_same hz3.2 hd hw2
              have q2 : mk z1 (cc % 16 * 32) w = mk t9 (cc % 16 * 32) w := mk_same hz2 hd hw2
              rw [q1, q2]
              exact hw.1 h2 cc c1 (by omega) (by omega) w hw2
  have p25 : ∀ (b3 : Bool), (b3 = true ↔ need2 u) → zRn (d + 4) 53 (25, [.ref 6, .int (nI n), .ref 1, .int (bI b3), zJ, zJ], [.int (bI (has8 u))], (49, x, l, σ, τ, zrho)) Q := by
    intro b3 hb3
    refine zv53_25 ?_
    rw [n2, nI_1]
    have := loop b3 hb3 (max kn n - kn) kn (σ 7) (τ 8) (τ 9) (τ 10) (by omega) (Nat.le_refl _) n5 n7
    rw [zrow_id, T3_id] at this
    exact this
  have h4 := hu.1
  refine zv53_0 ⟨fun c => ?_, fun c => ?_⟩
  · rw [hc.1] at c
    simp (disch := omega) only [zlit, nI_leI, nI_ltI, nI_eq, nI_clamp, nI_add, pk_mul, pk_sub, pk_div] at c
    exact sp84 hu hc (p25 false ⟨fun q => (by cases q), fun q => absurd q.1 c⟩)
  · rw [hc.1] at c
    simp (disch := omega) only [zlit, nI_leI, nI_ltI, nI_eq, nI_clamp, nI_add, pk_mul, pk_sub, pk_div] at c
    have k0 : kd u = 0 := by omega
    refine sp81 (u := u) (w := 4) hc (fun k h1 h2 h3 => ?_) (fun h => ?_)
    · refine zv53_12 ⟨fun c => absurd c (by decide), fun _ => sp84 hu hc (p25 true ⟨fun _ => ⟨k0, k, h1, h2, ?_⟩, fun _ => rfl⟩)⟩
      have := (z_dand (dg u k) (by have := hu.2.1 k; omega)).2.2.1
      cases q : (dg u k).testBit 2 with
      | true => rfl
      | false => exact absurd (this.mpr q) h3
    · refine zv53_12 ⟨fun _ => sp84 hu hc (p25 false ⟨fun q => (by cases q), fun q => ?_⟩), fun c => absurd rfl c⟩
      obtain ⟨_, k, h1, h2, h3⟩ := q
      have := (z_dand (dg u k) (by have := hu.2.1 k; omega)).2.2.1
      rw [this.mp (h k h1 h2)] at h3
      cases h3
