/-! the class: the options of small heaps are written down -/
def w3 (t : Nat) : Nat := wy t 0 + (wy t 1 + wy t 2)
def w4 (t : Nat) : Nat := wy t 0 + (wy t 1 + (wy t 2 + wy t 3))
def b0 (h t : Nat) : Nat := if 1 ≤ h - t ∧ h - t ≤ 12 then w4 t else 0
theorem zsum_mono {f g : Nat → Nat} : ∀ n, (∀ k, k < n → f k ≤ g k) → zsum f n ≤ zsum g n := by
  intro n
  induction n with
  | zero => intro _; exact Nat.le_refl _
  | succ n ih =>
    intro h
    have h1 := ih (fun k hk => h k (by omega))
    have h2 := h n (by omega)
    show zsum f n + f n ≤ zsum g n + g n
    omega
theorem oB_zs (u : zRu) (h : Nat) : ∀ T, (oB u h T).length = zsum (fun t => (gO u h t).length) T := by
  intro T
  induction T with
  | zero => rfl
  | succ T ih =>
    show (gO u h T ++ oB u h T).length = zsum (fun t => (gO u h t).length) T + (gO u h T).length
    rw [List.length_append, ih]; omega
theorem gO_len (u : zRu) (h t : Nat) : (gO u h t).length = (G u h t 0).length + ((G u h t 1).length + ((G u h t 2).length + (G u h t 3).length)) := by
  unfold gO
  simp only [List.length_append]
theorem gO_b0 {u : zRu} (hk : kd u = 0) {h t : Nat} (ht : t ≤ h) (hh : h ≤ 16) : (gO u h t).length ≤ b0 h t := by
  rw [gO_len, G_len0 hk (n := 0) (by omega) (by omega), G_len0 hk (n := 1) (by omega) (by omega), G_len0 hk (n := 2) (by omega) (by omega), G_len0 hk (n := 3) (by omega) (fun _ _ => by omega)]
  unfold b0
  by_cases c : 1 ≤ h - t ∧ h - t ≤ 12
  · rw [if_pos c]
    have q : ∀ n, (bif (Nat.ble 1 (h - t) && (Nat.ble (h - t) 12 && (dg u (h - t)).testBit n)) then wy t n else 0) ≤ wy t n := by
      intro n
      cases (Nat.ble 1 (h - t) && (Nat.ble (h - t) 12 && (dg u (h - t)).testBit n))
      · exact Nat.zero_le _
      · exact Nat.le_refl _
    have := q 0; have := q 1; have := q 2; have := q 3
    unfold w4
    omega
  · have q : ∀ n, (Nat.ble 1 (h - t) && (Nat.ble (h - t) 12 && (dg u (h - t)).testBit n)) = false := by
      intro n
      by_cases c1 : 1 ≤ h - t
      · rw [z_ble_f (show 12 < h - t by omega)]; simp
      · rw [z_ble_f (show h - t < 1 by omega)]; rfl
    rw [q, q, q, q, if_neg c]
    exact Nat.le_refl _
theorem G_wy {u : zRu} {h t n : Nat} (hn : n ≤ 2) : (G u h t n).length ≤ wy t n := by
  unfold G
  cases hm : may u h t n with
  | false => exact Nat.zero_le _
  | true =>
    rw [cond_true]
    have h1 := List.length_filter_le (isO u h) (grp t n)
    rw [grp_len (show n ≤ 3 by omega) (by omega) (may_le hm) (may_0 hm)] at h1
    exact h1
theorem gO_w3 {u : zRu} (hu : zRok u) (hk : kd u ≠ 0) {h t : Nat} : (gO u h t).length ≤ w3 t := by
  have h3 : G u h t 3 = [] := by
    unfold G
    cases hm : may u h t 3 with
    | false => rfl
    | true =>
      exfalso
      have := may3 hu hm
      unfold has8 at this
      rw [Bool.and_eq_true, beq_iff_eq] at this
      exact hk this.1
  rw [gO_len, h3]
  have := G_wy (u := u) (h := h) (t := t) (n := 0) (by omega)
  have := G_wy (u := u) (h := h) (t := t) (n := 1) (by omega)
  have := G_wy (u := u) (h := h) (t := t) (n := 2) (by omega)
  unfold w3
  show _ + (_ + (_ + 0)) ≤ _
  omega
theorem fo_900 {u : zRu} (hu : zRok u) : fo u 17 ≤ 900 := by
  unfold fo
  by_cases hk : kd u = 0
  · refine Nat.le_trans (zsum_mono (g := fun h => zsum (b0 h) (h + 1)) 17 (fun h hh => ?_)) (by decide +kernel)
    rw [opts_B, oB_zs]
    exact zsum_mono (h + 1) (fun t ht => gO_b0 hk (by omega) (by omega))
  · refine Nat.le_trans (zsum_mono (g := fun h => zsum w3 (h + 1)) 17 (fun h hh => ?_)) (by decide +kernel)
    rw [opts_B, oB_zs]
    exact zsum_mono (h + 1) (fun t ht => gO_w3 hu hk)
theorem z_or (a b : Nat) : nI a ||| nI b = nI (a ||| b) := by
  apply Int32.toBitVec_inj.1
  show BitVec.ofNat 32 a ||| BitVec.ofNat 32 b = BitVec.ofNat 32 (a ||| b)
  apply BitVec.eq_of_getLsbD_eq
  intro i hi
  simp [hi]
theorem sp36 {d x l : Nat} {σ : Nat → Nat → Int32} {τ : Nat → Nat → Int64} {Q : zR → Prop} {o : zO} (r0 : rt o 0 < 32) (r1 : rt o 1 < 32) (r2 : rt o 2 < 32) (h1 : σ 23 1 = nI (rt o 0)) (h2 : σ 23 2 = nI (rt o 1)) (h3 : σ 23 3 = nI (rt o 2)) (hq : Q (.inl (some (.int (nI (pkd o)))), (49, x, l, σ, τ, zrho))) :
    zRn d 36 (0, [.ref 23], [], (49, x, l, σ, τ, zrho)) Q := by
  refine zv36_0 ?_
  have e : (nI (rt o 0) ||| nI (rt o 1) <<< ((5 : Int32) &&& 31)) ||| nI (rt o 2) <<< ((10 : Int32) &&& 31) = nI (pkd o) := by
    rw [pk_shlN _ 5 (by decide) (by omega), pk_shlN _ 10 (by decide) (by omega), z_or, z_or]
    congr 1
    have a1 : 2 ^ 5 * rt o 1 + rt o 0 = 2 ^ 5 * rt o 1 ||| rt o 0 := Nat.two_pow_add_eq_or_of_lt (by omega) _
    have a2 : 2 ^ 10 * rt o 2 + (2 ^ 5 * rt o 1 + rt o 0) = 2 ^ 10 * rt o 2 ||| (2 ^ 5 * rt o 1 + rt o 0) := Nat.two_pow_add_eq_or_of_lt (by omega) _
    rw [Nat.mul_comm (rt o 1), Nat.mul_comm (rt o 2), Nat.or_comm (rt o 0), ← a1, Nat.or_comm, ← a2]
    unfold pkd
    omega
  rw [h1, h2, h3, e]
  exact hq
def Wr (σ : Nat → Nat → Int32) (f : Nat) (a : Nat → Int32) (pre : List zO) : Prop := (∀ i o, pre[i]? = some o → a (f + i) = nI (pkd o)) ∧ ∀ j, j < f → a j = σ 21 j
theorem Wr_snoc {σ : Nat → Nat → Int32} {f : Nat} {a : Nat → Int32} {pre : List zO} {o : zO} (h : Wr σ f a pre) : Wr σ f (upd a (f + pre.length) (nI (pkd o))) (pre ++ [o]) := by
  refine ⟨fun i o2 hi => ?_, fun j hj => ?_⟩
  · by_cases c : i = pre.length
    · subst c
      rw [List.getElem?_append_right (Nat.le_refl _), Nat.sub_self] at hi
      cases hi
      exact pk_us
    · have hl := (List.getElem?_eq_some_iff.mp hi).1
      rw [List.length_append, List.length_singleton] at hl
      rw [List.getElem?_append_left (by omega)] at hi
      rw [pk_un (by omega)]
      exact h.1 i o2 hi
  · rw [pk_un (by omega)]; exact h.2 j hj
def M2 (σ : Nat → Nat → Int32) (a b : Nat → Int32) : Nat → Nat → Int32 := zrow (zrow σ 21 a) 23 b
theorem M2_23 (σ : Nat → Nat → Int32) (a b t : Nat → Int32) : zrow (M2 σ a b) 23 t = M2 σ a t := zrow_row _ _ _ _
theorem M2_21 (σ : Nat → Nat → Int32) (a b t : Nat → Int32) : zrow (M2 σ a b) 21 t = M2 σ t b := by
  unfold M2
  rw [zrow_sw _ _ _ (by decide), zrow_row]
theorem M2_id (σ : Nat → Nat → Int32) : M2 σ (σ 21) (σ 23) = σ := by
  unfold M2
  rw [show zrow σ 21 (σ 21) = σ from zrow_id σ 21, zrow_id]
theorem sp89 {d x l : Nat} {σ : Nat → Nat → Int32} {τ : Nat → Nat → Int64} {Q : zR → Prop} {u : zRu} {h f : Nat} (hu : zRok u) (hc : CR u (σ 1) (σ 2) (σ 3) (τ 4)) (hh : h ≤ 16) (hf : f + (opts u h).length ≤ 900)
    (hq : ∀ a b, Wr σ f a (opts u h) → Q (.inl (some (.int (nI (f + (opts u h).length)))), (49, x, l, M2 σ a b, τ, zrho))) :
    zRn (d + 4) 89 (0, [.ref 1, .int (nI h), .ref 21, .int (nI f), .ref 23, zJ, zJ, zJ, zJ, zJ, zJ], [], (49, x, l, σ, τ, zrho)) Q := by
  have hl := lst_le u h
  have h8 : has8 u = true → h ≤ 60 := fun _ => by omega
  have grpL : ∀ (t n : Nat) (pre0 R : List zO), lst u h ≤ t → t ≤ h → n ≤ 3 → pre0 ++ (G u h t n ++ R) = opts u h →
      (∀ a b, Wr σ f a (pre0 ++ G u h t n) → zRn (d + 4) 89 (23, [.ref 1, .int (nI h), .ref 21, zJ, .ref 23, .int (nI (f + (pre0 ++ G u h t n).length)), .int (nI (lst u h)), .int (nI t), .int (nI (n + 1)), zJ, zJ], [], (49, x, l, M2 σ a b, τ, zrho)) Q) →
      ∀ m k a b, k + m = (G u h t n).length → Wr σ f a (pre0 ++ (G u h t n).take k) →
      zRn (d + 4) 89 (43, [.ref 1, .int (nI h), .ref 21, zJ, .ref 23, .int (nI (f + (pre0 ++ (G u h t n).take k).length)), .int (nI (lst u h)), .int (nI t), .int (nI n), .int (nI (G u h t n).length), .int (nI k)], [], (49, x, l, M2 σ a b, τ, zrho)) Q := by
    intro t n pre0 R h1 h2 h3 hL hcont m
    have hlen : pre0.length + ((G u h t n).length + R.length) = (opts u h).length := by rw [← hL, List.length_append, List.length_append]
    induction m with
    | zero =>
      intro k a b hk hw
      have hk : k = (G u h t n).length := by omega
      subst hk
      rw [List.take_length] at hw ⊢
      refine zv89_43 ⟨fun _ => ?_, fun q => ?_⟩
      · rw [nI_1]; exact hcont a b hw
      · simp (disch := omega) only [nI_leI] at q
        omega
    | succ m ih =>
      intro k a b hk hw
      obtain ⟨o, ho⟩ : ∃ o, (G u h t n)[k]? = some o := ⟨_, List.getElem?_eq_getElem (by omega)⟩
      have htl : (pre0 ++ (G u h t n).take k).length = pre0.length + k := by rw [List.length_append, List.length_take]; omega
      have hom : o ∈ opts u h := opts_mem.mpr ⟨t, n, h2, h3, List.mem_of_getElem? ho⟩
      have hob := opt_bd hu hom
      have r0 := rt_le (w := 0) (b := 16) (show o.1 ≤ 16 by omega) (by omega) (by omega)
      have r1 := rt_le (w := 1) (b := 16) (show o.1 ≤ 16 by omega) (by omega) (by omega)
      have r2 := rt_le (w := 2) (b := 16) (show o.1 ≤ 16 by omega) (by omega) (by omega)
      rw [htl]
      refine zv89_43 ⟨fun q => ?_, fun _ => ⟨fun q => ?_, fun _ => ?_⟩⟩
      · simp (disch := omega) only [nI_leI] at q
        omega
      · have q : nI 900 ≤ nI (f + (pre0.length + k)) := q
        simp (disch := omega) only [nI_leI] at q
        omega
      · refine sp96_23 hu hc h2 (by omega) h3 (by omega) ho (fun s hs => zv89_70 ?_)
        rw [M2_23]
        refine sp36 (o := o) (by omega) (by omega) (by omega) hs.2.1 hs.2.2.1 hs.2.2.2 (zv89_78 ?_)
        rw [nI_clamp (by omega), zup_row, M2_21, nI_1, nI_1]
        refine ⟨vp_in_nI (by omega) (by decide), ?_⟩
        have e1 : pre0 ++ (G u h t n).take (k + 1) = pre0 ++ (G u h t n).take k ++ [o] := by
          rw [List.append_assoc]
          congr 1
          rw [List.take_add_one, ho]; rfl
        have := ih (k + 1) (upd a (f + (pre0 ++ (G u h t n).take k).length) (nI (pkd o))) s (by omega) (by rw [e1]; exact Wr_snoc hw)
        rw [e1, List.length_append, List.length_singleton, htl] at this
        exact this
  have step : ∀ t n a b (pre0 R : List zO), lst u h ≤ t → t ≤ h → n ≤ 3 → pre0 ++ (G u h t n ++ R) = opts u h → Wr σ f a pre0 →
      (∀ a b, Wr σ f a (pre0 ++ G u h t n) → zRn (d + 4) 89 (23, [.ref 1, .int (nI h), .ref 21, zJ, .ref 23, .int (nI (f + (pre0 ++ G u h t n).length)), .int (nI (lst u h)), .int (nI t), .int (nI (n + 1)), zJ, zJ], [], (49, x, l, M2 σ a b, τ, zrho)) Q) →
      zRn (d + 4) 89 (23, [.ref 1, .int (nI h), .ref 21, zJ, .ref 23, .int (nI (f + pre0.length)), .int (nI (lst u h)), .int (nI t), .int (nI n), zJ, zJ], [], (49, x, l, M2 σ a b, τ, zrho)) Q := by
    intro t n a b pre0 R h1 h2 h3 hL hw hcont
    refine zv89_23 ⟨fun q => ?_, fun _ => ?_⟩
    · simp (disch := omega) only [zlit, nI_leI, nI_ltI, nI_eq, nI_clamp, nI_add, pk_mul, pk_sub, pk_div] at q; omega
    · refine sp91 hu hc h2 h1 (by omega) h8 h3 (zv89_38 ?_)
      have := grpL t n pre0 R h1 h2 h3 hL hcont (G u h t n).length 0 a b (by omega) (by rw [List.take_zero, List.append_nil]; exact hw)
      rw [List.take_zero, List.append_nil] at this
      exact this
  have key : ∀ T a b pre0, lst u h ≤ T → T ≤ h + 1 → pre0 ++ oB u h T = opts u h → Wr σ f a pre0 → zRn (d + 4) 89 (13, [.ref 1, .int (nI h), .ref 21, zJ, .ref 23, .int (nI (f + pre0.length)), .int (nI (lst u h)), .int (iI ((T : Int) - 1)), zJ, zJ, zJ], [], (49, x, l, M2 σ a b, τ, zrho)) Q := by
    intro T
    induction T with
    | zero =>
      intro a b pre0 h1 h2 h3 hw
      refine zv89_13 ⟨fun _ => ?_, fun q => ?_⟩
      · rw [← show pre0 = opts u h by rw [← h3]; exact (List.append_nil _).symm] at hq
        exact hq a b hw
      · simp (disch := omega) only [zlit, nI_iI, iI_add, iI_sub, iI_mul, iI_leI, iI_ltI, iI_eqI, iI_m1] at q; omega
    | succ t ih =>
      intro a b pre0 h1 h2 h3 hw
      by_cases c0 : lst u h ≤ t
      · refine zv89_13 ⟨fun q => ?_, fun _ => ?_⟩
        · simp (disch := omega) only [zlit, nI_iI, iI_add, iI_sub, iI_mul, iI_leI, iI_ltI, iI_eqI, iI_m1] at q; omega
        · rw [show iI (((t + 1 : Nat) : Int) - 1) = nI t by rw [nI_iI]; congr 1; omega]
          have h3 : pre0 ++ ((G u h t 0 ++ (G u h t 1 ++ (G u h t 2 ++ G u h t 3))) ++ oB u h t) = opts u h := h3
          rw [List.append_assoc, List.append_assoc, List.append_assoc] at h3
          have e1 : (pre0 ++ G u h t 0) ++ (G u h t 1 ++ (G u h t 2 ++ (G u h t 3 ++ oB u h t))) = opts u h := by rw [List.append_assoc]; exact h3
          have e2 : (pre0 ++ G u h t 0 ++ G u h t 1) ++ (G u h t 2 ++ (G u h t 3 ++ oB u h t)) = opts u h := by rw [List.append_assoc]; exact e1
          have e3 : (pre0 ++ G u h t 0 ++ G u h t 1 ++ G u h t 2) ++ (G u h t 3 ++ oB u h t) = opts u h := by rw [List.append_assoc]; exact e2
          have e4 : (pre0 ++ G u h t 0 ++ G u h t 1 ++ G u h t 2 ++ G u h t 3) ++ oB u h t = opts u h := by rw [List.append_assoc]; exact e3
          refine step t 0 a b _ _ c0 (by omega) (by omega) h3 hw (fun a b hw => step t 1 a b _ _ c0 (by omega) (by omega) e1 hw (fun a b hw => step t 2 a b _ _ c0 (by omega) (by omega) e2 hw (fun a b hw => step t 3 a b _ _ c0 (by omega) (by omega) e3 hw (fun a b hw => ?_))))
          refine zv89_23 ⟨fun _ => ?_, fun q => absurd (by decide) q⟩
          rw [show nI t + (-1) = iI ((t : Int) - 1) by rw [nI_iI, iI_m1, iI_add]; rfl]
          exact ih a b _ c0 (by omega) e4 hw
      · refine zv89_13 ⟨fun _ => ?_, fun q => ?_⟩
        · rw [oB_lst hu (t + 1) (by omega) h2, List.append_nil] at h3
          rw [← h3] at hq
          exact hq a b hw
        · simp (disch := omega) only [zlit, nI_iI, iI_add, iI_sub, iI_mul, iI_leI, iI_ltI, iI_eqI, iI_m1] at q; omega
  refine zv89_0 (sp90 hu hc (by omega) (zv89_8 ?_))
  have := key (h + 1) (σ 21) (σ 23) [] (by omega) (by omega) (by rw [← opts_B]; rfl) ⟨fun i o hi => (by rw [List.getElem?_nil] at hi; cases hi), fun _ _ => rfl⟩
  rw [M2_id, show iI (((h + 1 : Nat) : Int) - 1) = nI h by rw [nI_iI]; congr 1; omega] at this
  exact this
theorem sp168_19 {d x l : Nat} {σ : Nat → Nat → Int32} {τ : Nat → Nat → Int64} {Q : zR → Prop} (hq : ∀ s, (∀ k, k < 1597 → s k = 0) → Q (.inl none, (49, x, l, zrow σ 19 s, τ, zrho))) :
    zRn d 168 (0, [.ref 19, .int 0, zJ, zJ], [], (49, x, l, σ, τ, zrho)) Q := by
  have key : ∀ m k s, k + m = 1597 → (∀ i, i < k → s i = 0) → zRn d 168 (5, [.ref 19, .int 0, .int (nI k), .int (nI 1597)], [], (49, x, l, zrow σ 19 s, τ, zrho)) Q := by
    intro m
    induction m with
    | zero =>
      intro k s hk h1
      refine zv168_r19_5 ⟨fun _ => hq s (fun i hi => h1 i (by omega)), fun c => ?_⟩
      simp (disch := omega) only [nI_leI] at c; omega
    | succ m ih =>
      intro k s hk h1
      refine zv168_r19_5 ⟨fun c => ?_, fun _ => ?_⟩
      · simp (disch := omega) only [nI_leI] at c; omega
      · rw [nI_clamp (by omega), nI_1, zup_row, zrow_row]
        refine ⟨vp_in_nI (by omega) (by decide), ih (k + 1) _ (by omega) (fun i hi => ?_)⟩
        show upd s k 0 i = 0
        by_cases c : i = k
        · rw [c, pk_us]
        · rw [pk_un c]; exact h1 i (by omega)
  have := key 1597 0 (σ 19) rfl (fun i hi => by omega)
  rw [zrow_id] at this
  exact zv168_r19_0 this
theorem sp168_22 {d x l : Nat} {σ : Nat → Nat → Int32} {τ : Nat → Nat → Int64} {Q : zR → Prop} (hq : ∀ s, (∀ k, k < 32 → s k = 0) → Q (.inl none, (49, x, l, zrow σ 22 s, τ, zrho))) :
    zRn d 168 (0, [.ref 22, .int 0, zJ, zJ], [], (49, x, l, σ, τ, zrho)) Q := by
  have key : ∀ m k s, k + m = 32 → (∀ i, i < k → s i = 0) → zRn d 168 (5, [.ref 22, .int 0, .int (nI k), .int (nI 32)], [], (49, x, l, zrow σ 22 s, τ, zrho)) Q := by
    intro m
    induction m with
    | zero =>
      intro k s hk h1
      refine zv168_r22_5 ⟨fun _ => hq s (fun i hi => h1 i (by omega)), fun c => ?_⟩
      simp (disch := omega) only [nI_leI] at c; omega
    | succ m ih =>
      intro k s hk h1
      refine zv168_r22_5 ⟨fun c => ?_, fun _ => ?_⟩
      · simp (disch := omega) only [nI_leI] at c; omega
      · rw [nI_clamp (by omega), nI_1, zup_row, zrow_row]
        refine ⟨vp_in_nI (by omega) (by decide), ih (k + 1) _ (by omega) (fun i hi => ?_)⟩
        show upd s k 0 i = 0
        by_cases c : i = k
        · rw [c, pk_us]
        · rw [pk_un c]; exact h1 i (by omega)
  have := key 32 0 (σ 22) rfl (fun i hi => by omega)
  rw [zrow_id] at this
  exact zv168_r22_0 this
