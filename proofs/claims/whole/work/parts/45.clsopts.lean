/-! the class: options -/
def oB (u : zRu) (h : Nat) : Nat → List zO
  | 0 => []
  | t + 1 => gO u h t ++ oB u h t
theorem oB_F (u : zRu) (h : Nat) : ∀ t, oB u h (t + 1) = oF u h t := by
  intro t
  induction t with
  | zero => show gO u h 0 ++ [] = gO u h 0; rw [List.append_nil]
  | succ t ih => show gO u h (t + 1) ++ oB u h (t + 1) = gO u h (t + 1) ++ oF u h t; rw [ih]
theorem opts_B (u : zRu) (h : Nat) : opts u h = oB u h (h + 1) := (oB_F u h h).symm
theorem lst_may {u : zRu} (hu : zRok u) {h t n : Nat} (hl : t < lst u h) (ht : t ≤ h) : may u h t n = false := by
  have h4 := hu.1
  cases hm : may u h t n with
  | false => rfl
  | true =>
    exfalso
    have c1 := may_le hm
    have c2 := may_0 hm
    have h5 : kd u = 0 ∨ kd u = 1 ∨ kd u = 2 ∨ kd u = 3 ∨ kd u = 4 := by omega
    unfold lst at hl
    rcases h5 with h5 | h5 | h5 | h5 | h5 <;> rw [h5] at hl
    · have := may_k0 h5 (h := h) c1 c2
      rw [hm, z_ble_f (show 12 < h - t from by have : t < h - 12 := hl; omega)] at this
      simp at this
    · have := may_k1 h5 (h := h) c1 c2
      rw [hm, z_ble_f (show 64 < h - t from by have : t < h - 64 := hl; omega)] at this
      simp at this
    · have := may_k2 h5 (h := h) c1 c2
      have hl : t < h := hl
      rw [hm, z_bne (show h ≠ t by omega)] at this
      simp at this
    · have := may_k3 h5 (h := h) c1 c2
      have hl : t < h := hl
      rw [hm, z_bne (show h ≠ t by omega)] at this
      simp at this
    · have hb := may4 h5 hm
      have hl : t < (if h ≤ 64 then 0 else h) := hl
      rw [if_pos hb] at hl
      omega
theorem oB_lst {u : zRu} (hu : zRok u) {h : Nat} : ∀ t, t ≤ lst u h → t ≤ h + 1 → oB u h t = [] := by
  intro t
  induction t with
  | zero => intro _ _; rfl
  | succ t ih =>
    intro h1 h2
    have hg : ∀ n, G u h t n = [] := fun n => by unfold G; rw [lst_may hu (by omega) (by omega)]; rfl
    show gO u h t ++ oB u h t = []
    rw [ih (by omega) (by omega)]
    unfold gO
    rw [hg, hg, hg, hg]; rfl
theorem lst_le (u : zRu) (h : Nat) : lst u h ≤ h := by
  unfold lst
  split <;> first | omega | (split <;> omega)
theorem G_le {u : zRu} (hu : zRok u) {h t n : Nat} (ht : t ≤ h) (hh : h ≤ 2000) (h8 : has8 u = true → h ≤ 60) (hn : n ≤ 3) : (G u h t n).length ≤ 1001 := by
  unfold G
  cases hm : may u h t n with
  | false => exact Nat.zero_le _
  | true =>
    rw [cond_true]
    have h1 := List.length_filter_le (isO u h) (grp t n)
    have c1 := may_le hm
    have c2 := may_0 hm
    have h2 : (grp t n).length = wy t n := grp_len hn (fun e => by rw [e] at hm; have := h8 (may3 hu hm); omega) c1 c2
    have h3 : wy t n ≤ 1001 := by
      have h5 : n = 0 ∨ n = 1 ∨ n = 2 ∨ n = 3 := by omega
      rcases h5 with h5 | h5 | h5 | h5 <;> subst h5
      · show (if t = 0 then 1 else 0) ≤ 1001; split <;> omega
      · show (if 1 ≤ t then 1 else 0) ≤ 1001; split <;> omega
      · show t / 2 ≤ 1001; omega
      · show (t * t + 6) / 12 ≤ 1001
        have : t ≤ 60 := by have := h8 (may3 hu hm); omega
        have : t * t ≤ 60 * 60 := Nat.mul_le_mul this this
        omega
    omega
theorem sp87 {d x l : Nat} {σ : Nat → Nat → Int32} {τ : Nat → Nat → Int64} {Q : zR → Prop} {u : zRu} {h : Nat} (hu : zRok u) (hc : CR u (σ 1) (σ 2) (σ 3) (τ 4)) (hh : h ≤ 2000) (h8 : has8 u = true → h ≤ 60) (hq : Q (.inl (some (.int (nI (opts u h).length))), (49, x, l, σ, τ, zrho))) :
    zRn (d + 4) 87 (0, [.ref 1, .int (nI h), zJ, zJ, zJ, zJ], [], (49, x, l, σ, τ, zrho)) Q := by
  have hl := lst_le u h
  have step : ∀ t n acc, lst u h ≤ t → t ≤ h → n ≤ 3 → zRn (d + 4) 87 (20, [.ref 1, .int (nI h), .int (nI (acc + (G u h t n).length)), .int (nI (lst u h)), .int (nI t), .int (nI (n + 1))], [], (49, x, l, σ, τ, zrho)) Q →
      zRn (d + 4) 87 (20, [.ref 1, .int (nI h), .int (nI acc), .int (nI (lst u h)), .int (nI t), .int (nI n)], [], (49, x, l, σ, τ, zrho)) Q := by
    intro t n acc h1 h2 h3 hk
    refine zv87_20 ⟨fun c => ?_, fun c => ?_⟩
    · simp (disch := omega) only [zlit, nI_leI, nI_ltI, nI_eq, nI_clamp, nI_add, pk_mul, pk_sub, pk_div] at c; omega
    · refine sp91 hu hc h2 h1 hh h8 h3 (zv87_36 ?_)
      rw [nI_add, nI_1]
      exact hk
  have key : ∀ T acc, lst u h ≤ T → T ≤ h + 1 → acc + (oB u h T).length = (opts u h).length → zRn (d + 4) 87 (11, [.ref 1, .int (nI h), .int (nI acc), .int (nI (lst u h)), .int (iI ((T : Int) - 1)), zJ], [], (49, x, l, σ, τ, zrho)) Q := by
    intro T
    induction T with
    | zero =>
      intro acc h1 h2 h3
      refine zv87_11 ⟨fun _ => ?_, fun c => ?_⟩
      · rw [show acc = (opts u h).length from h3]; exact hq
      · simp (disch := omega) only [zlit, nI_iI, iI_add, iI_sub, iI_mul, iI_leI, iI_ltI, iI_eqI, iI_m1] at c; omega
    | succ t ih =>
      intro acc h1 h2 h3
      by_cases c0 : lst u h ≤ t
      · refine zv87_11 ⟨fun c => ?_, fun c => ?_⟩
        · simp (disch := omega) only [zlit, nI_iI, iI_add, iI_sub, iI_mul, iI_leI, iI_ltI, iI_eqI, iI_m1] at c; omega
        · rw [show iI (((t + 1 : Nat) : Int) - 1) = nI t by rw [nI_iI]; congr 1; omega]
          refine step t 0 _ c0 (by omega) (by omega) (step t 1 _ c0 (by omega) (by omega) (step t 2 _ c0 (by omega) (by omega) (step t 3 _ c0 (by omega) (by omega) ?_)))
          refine zv87_20 ⟨fun _ => ?_, fun c => absurd (by decide) c⟩
          rw [show nI t + (-1) = iI ((t : Int) - 1) by rw [nI_iI, iI_m1, iI_add]; rfl]
          refine ih _ c0 (by omega) ?_
          have e : (oB u h (t + 1)).length = (G u h t 0).length + ((G u h t 1).length + ((G u h t 2).length + (G u h t 3).length)) + (oB u h t).length := by
            show (gO u h t ++ oB u h t).length = _
            unfold gO
            simp only [List.length_append]
          omega
      · refine zv87_11 ⟨fun _ => ?_, fun c => ?_⟩
        · rw [oB_lst hu (t + 1) (by omega) h2] at h3
          rw [show acc = (opts u h).length from h3]; exact hq
        · simp (disch := omega) only [zlit, nI_iI, iI_add, iI_sub, iI_mul, iI_leI, iI_ltI, iI_eqI, iI_m1] at c; omega
  refine zv87_0 (sp90 hu hc hh (zv87_7 ?_))
  rw [show nI h = iI (((h + 1 : Nat) : Int) - 1) by rw [nI_iI]; congr 1; omega]
  have := key (h + 1) 0 (by omega) (by omega) (by rw [opts_B]; omega)
  rw [show nI h = iI (((h + 1 : Nat) : Int) - 1) by rw [nI_iI]; congr 1; omega] at this
  exact this
theorem sp88 {d x l : Nat} {σ : Nat → Nat → Int32} {τ : Nat → Nat → Int64} {Q : zR → Prop} {u : zRu} {h k : Nat} (hu : zRok u) (hc : CR u (σ 1) (σ 2) (σ 3) (τ 4)) (hh : h ≤ 2000) (h8 : has8 u = true → h ≤ 60) (hk : k < 2147483648)
    (hq1 : ∀ o s, (opts u h)[k]? = some o → zCh (σ 5) s (rt o 0) (rt o 1) (rt o 2) → Q (.inl (some (.int (1))), (49, x, l, zrow σ 5 s, τ, zrho)))
    (hq0 : (opts u h)[k]? = none → Q (.inl (some (.int (0))), (49, x, l, σ, τ, zrho))) :
    zRn (d + 4) 88 (0, [.ref 1, .int (nI h), .int (nI k), .ref 5, zJ, zJ, zJ, zJ, zJ], [], (49, x, l, σ, τ, zrho)) Q := by
  have hl := lst_le u h
  have step : ∀ t n a (R : List zO), lst u h ≤ t → t ≤ h → n ≤ 3 → a < 2147483648 → (G u h t n ++ R)[a]? = (opts u h)[k]? →
      (∀ b, b < 2147483648 → R[b]? = (opts u h)[k]? → zRn (d + 4) 88 (29, [.ref 1, .int (nI h), zJ, .ref 5, .int (nI b), .int (nI (lst u h)), .int (nI t), .int (nI (n + 1)), zJ], [], (49, x, l, σ, τ, zrho)) Q) →
      zRn (d + 4) 88 (29, [.ref 1, .int (nI h), zJ, .ref 5, .int (nI a), .int (nI (lst u h)), .int (nI t), .int (nI n), zJ], [], (49, x, l, σ, τ, zrho)) Q := by
    intro t n a R h1 h2 h3 h4 h5 hcont
    have hle := G_le hu h2 hh h8 h3
    refine zv88_29 ⟨fun c => ?_, fun c => ?_⟩
    · simp (disch := omega) only [zlit, nI_leI, nI_ltI, nI_eq, nI_clamp, nI_add, pk_mul, pk_sub, pk_div] at c; omega
    · refine sp91 hu hc h2 h1 hh h8 h3 (zv88_44 ⟨fun c2 => ?_, fun c2 => ?_⟩)
      · simp (disch := omega) only [nI_leI] at c2
        rw [pk_sub c2, nI_1]
        rw [List.getElem?_append_right c2] at h5
        exact hcont _ (by omega) h5
      · simp (disch := omega) only [nI_leI] at c2
        rw [List.getElem?_append_left (by omega)] at h5
        obtain ⟨o, ho⟩ : ∃ o, (G u h t n)[a]? = some o := ⟨_, List.getElem?_eq_getElem (by omega)⟩
        refine sp96_5 hu hc h2 hh h3 (by omega) ho (fun s hs => zv88_65 ?_)
        exact hq1 o s (by rw [← h5, ho]) hs
  have key : ∀ T a, lst u h ≤ T → T ≤ h + 1 → a < 2147483648 → (oB u h T)[a]? = (opts u h)[k]? → zRn (d + 4) 88 (19, [.ref 1, .int (nI h), zJ, .ref 5, .int (nI a), .int (nI (lst u h)), .int (iI ((T : Int) - 1)), zJ, zJ], [], (49, x, l, σ, τ, zrho)) Q := by
    intro T
    induction T with
    | zero =>
      intro a h1 h2 ha h3
      refine zv88_19 ⟨fun _ => ?_, fun c => ?_⟩
      · exact hq0 (by rw [← h3]; exact List.getElem?_nil)
      · simp (disch := omega) only [zlit, nI_iI, iI_add, iI_sub, iI_mul, iI_leI, iI_ltI, iI_eqI, iI_m1] at c; omega
    | succ t ih =>
      intro a h1 h2 ha h3
      by_cases c0 : lst u h ≤ t
      · refine zv88_19 ⟨fun c => ?_, fun c => ?_⟩
        · simp (disch := omega) only [zlit, nI_iI, iI_add, iI_sub, iI_mul, iI_leI, iI_ltI, iI_eqI, iI_m1] at c; omega
        · rw [show iI (((t + 1 : Nat) : Int) - 1) = nI t by rw [nI_iI]; congr 1; omega]
          have h3 : ((G u h t 0 ++ (G u h t 1 ++ (G u h t 2 ++ G u h t 3))) ++ oB u h t)[a]? = (opts u h)[k]? := h3
          rw [List.append_assoc, List.append_assoc, List.append_assoc] at h3
          refine step t 0 _ _ c0 (by omega) (by omega) ha h3 (fun b b1 b2 => step t 1 _ _ c0 (by omega) (by omega) b1 b2 (fun b b1 b2 => step t 2 _ _ c0 (by omega) (by omega) b1 b2 (fun b b1 b2 => step t 3 _ _ c0 (by omega) (by omega) b1 b2 (fun b b1 b2 => ?_))))
          refine zv88_29 ⟨fun _ => ?_, fun c => absurd (by decide) c⟩
          rw [show nI t + (-1) = iI ((t : Int) - 1) by rw [nI_iI, iI_m1, iI_add]; rfl]
          exact ih _ c0 (by omega) b1 b2
      · refine zv88_19 ⟨fun _ => ?_, fun c => ?_⟩
        · rw [oB_lst hu (t + 1) (by omega) h2] at h3
          exact hq0 (by rw [← h3]; exact List.getElem?_nil)
        · simp (disch := omega) only [zlit, nI_iI, iI_add, iI_sub, iI_mul, iI_leI, iI_ltI, iI_eqI, iI_m1] at c; omega
  refine zv88_0 ⟨fun _ => ?_, fun c => ?_⟩
  · refine sp90 hu hc hh (zv88_14 ?_)
    have := key (h + 1) k (by omega) (by omega) hk (by rw [← opts_B])
    rw [show iI (((h + 1 : Nat) : Int) - 1) = nI h by rw [nI_iI]; congr 1; omega] at this
    exact this
  · simp (disch := omega) only [zlit, nI_leI, nI_ltI, nI_eq, nI_clamp, nI_add, pk_mul, pk_sub, pk_div] at c; omega
