/-! the constructors' loops -/
theorem Pt_gt {s y : Nat} (h : y < s + 1) : Pt (s + 1) y = Pt s y := by rw [Pt_S, if_neg (by omega), Nat.add_zero]
theorem Pt_ge {s y : Nat} (h : s + 1 ≤ y) : Pt (s + 1) y = Pt s y + Pt (s + 1) (y - (s + 1)) := by rw [Pt_S, if_pos h]
theorem c37 {d l : Nat} {xs : Nat → Int32} {σ : Nat → Nat → Int32} {τ : Nat → Nat → Int64} {ρ : Nat → Nat → Value} {Q : zR → Prop} (hz : ZZ [] xs σ) (ht : TZ τ)
    (hq : ∀ σ' τ', ZZ [18] xs σ' → TZ τ' → P18 (σ' 18) → Q (.inl none, (24, 0, l, σ', τ', r37 ρ))) :
    zRn (d + 1) 37 (0, [.ref 17, zJ, zJ, zJ], [], (18, 0, l, σ, τ, ρ)) Q := by
  refine c37_0 hz ht (fun σ1 τ1 hz1 ht1 => ?_)
  have keyO : ∀ n y r, y + n = 19 → (∀ y', y' < y → ∀ s, s ≤ 18 → r (y' * 19 + s) = nI (Pt s y')) → zRn (d + 1) 37 (60, [.ref 17, .int (nI y), zJ, zJ], [], (24, 0, l, zrow σ1 18 r, τ1, r37 ρ)) Q := by
    intro n
    induction n with
    | zero =>
      intro y r hy hT
      have hy : y = 19 := by omega
      subst hy
      refine zc37_60 ⟨fun _ => hq _ τ1 (ZZ_row (ZZ_mono hz1 (fun b hb => (by cases hb))) (by decide) (by decide)) ht1 ?_, fun c => absurd (by decide) c⟩
      intro s y hs hy
      exact hT y (by omega) s hs
    | succ n ih =>
      intro y r hy hT
      have e19 : nI y * 19 = nI (y * 19) := by rw [show (19 : Int32) = nI 19 from rfl, pk_mul]
      have inner : ∀ m s r, s + m = 19 → 1 ≤ s → (∀ y', y' < y → ∀ s, s ≤ 18 → r (y' * 19 + s) = nI (Pt s y')) → (∀ s', s' < s → r (y * 19 + s') = nI (Pt s' y)) → zRn (d + 1) 37 (78, [.ref 17, .int (nI y), .int (nI s), zJ], [], (24, 0, l, zrow σ1 18 r, τ1, r37 ρ)) Q := by
        intro m
        induction m with
        | zero =>
          intro s r hs h1 hT hR
          have hs : s = 19 := by omega
          subst hs
          refine zc37_78 ⟨fun _ => ?_, fun c => absurd (by decide) c⟩
          rw [nI_1]
          refine ih (y + 1) r (by omega) (fun y' hy' s hs => ?_)
          by_cases c : y' = y
          · rw [c]; exact hR s (by omega)
          · exact hT y' (by omega) s hs
        | succ m ih2 =>
          intro s r hs h1 hT hR
          obtain ⟨k, hk⟩ : ∃ k, s = k + 1 := ⟨s - 1, by omega⟩
          subst hk
          have e1 : nI y * 19 + nI (k + 1) = nI (y * 19 + (k + 1)) := by rw [e19, nI_add]
          have e2 : nI (y * 19 + (k + 1)) - 1 = nI (y * 19 + k) := pk_sub (a := y * 19 + (k + 1)) (b := 1) (by omega)
          have go : ∀ v : Int32, v = nI (Pt (k + 1) y) → zRn (d + 1) 37 (78, [.ref 17, .int (nI y), .int (nI (k + 1) + 1), zJ], [], (24, 0, l, zup (zrow σ1 18 r) 18 (y * 19 + (k + 1)) v, τ1, r37 ρ)) Q := by
            intro v hv
            rw [nI_1, zup_row, zrow_row, zrow_me]
            refine ih2 (k + 1 + 1) _ (by omega) (by omega) (fun y' hy' s hs => ?_) (fun s' hs' => ?_)
            · rw [pk_un (by omega)]; exact hT y' hy' s hs
            · by_cases c : s' = k + 1
              · rw [c, upd_s rfl]; exact hv
              · rw [pk_un (by omega)]; exact hR s' (by omega)
          refine zc37_78 ⟨fun c => ?_, fun _ => ⟨fun c => ?_, fun c => ?_⟩⟩
          · simp (disch := omega) only [zlit, nI_leI, nI_ltI, nI_eq, nI_clamp, nI_add, pk_mul, pk_sub, pk_div] at c; omega
          · simp (disch := omega) only [zlit, nI_leI, nI_ltI, nI_eq, nI_clamp, nI_add, pk_mul, pk_sub, pk_div] at c
            rw [e1, e2, nI_clamp (by omega), nI_clamp (by omega)]
            refine ⟨vp_in_nI (by omega) (by decide), vp_in_nI (by omega) (by decide), go _ ?_⟩
            rw [zrow_me, hR k (by omega), Pt_gt c]
            exact nI_add _ 0
          · simp (disch := omega) only [zlit, nI_leI, nI_ltI, nI_eq, nI_clamp, nI_add, pk_mul, pk_sub, pk_div] at c
            have e3 : (nI y - nI (k + 1)) * 19 + nI (k + 1) = nI ((y - (k + 1)) * 19 + (k + 1)) := by rw [pk_sub (by omega), show (19 : Int32) = nI 19 from rfl, pk_mul, nI_add]
            rw [e1, e2, e3, nI_clamp (by omega), nI_clamp (by omega), nI_clamp (by omega)]
            refine ⟨vp_in_nI (by omega) (by decide), vp_in_nI (by omega) (by decide), vp_in_nI (by omega) (by decide), go _ ?_⟩
            rw [zrow_me, hR k (by omega), hT (y - (k + 1)) (by omega) (k + 1) (by omega), nI_add, ← Pt_ge (by omega)]
      refine zc37_60 ⟨fun c => ?_, fun _ => ?_⟩
      · simp (disch := omega) only [zlit, nI_leI, nI_ltI, nI_eq, nI_clamp, nI_add, pk_mul, pk_sub, pk_div] at c; omega
      · rw [e19, nI_clamp (by omega), zup_row, zrow_row, zrow_me]
        refine ⟨vp_in_nI (by omega) (by decide), inner 18 1 _ (by omega) (by omega) (fun y' hy' s hs => ?_) (fun s' hs' => ?_)⟩
        · rw [pk_un (by omega)]; exact hT y' hy' s hs
        · rw [show s' = 0 by omega, upd_s (by omega), Pt_0]; rfl
  have := keyO 19 0 (σ1 18) (by omega) (fun y' hy' => absurd hy' (by omega))
  rwa [zrow_id] at this
/-- the quotient's sums, as its constructor lays them -/
def twl (h o : Nat) : Nat → List (Nat × Nat × Nat) → List (Nat × Nat × Nat)
  | 0, L => L
  | t + 1, L => twl h o t (L ++ [(o, t, h - o - t)])
def onl (h : Nat) : Nat → List (Nat × Nat × Nat) → List (Nat × Nat × Nat)
  | 0, L => L
  | o + 1, L => onl h o (twl h o (h - o + 1) L)
def hsl : Nat → List (Nat × Nat × Nat) → List (Nat × Nat × Nat)
  | 0, L => L
  | k + 1, L => hsl k (onl (4 - k) (4 - k + 1) L)
theorem hsl_ok : hsl 5 [] = trs := by decide +kernel
theorem app1 {L : List (Nat × Nat × Nat)} {v : Nat × Nat × Nat} : (L ++ [v]).length = L.length + 1 := by rw [List.length_append]; rfl
theorem twl_le (h o : Nat) : ∀ t L, L.length ≤ (twl h o t L).length := by
  intro t
  induction t with
  | zero => intro L; exact Nat.le_refl _
  | succ t ih =>
    intro L
    have := ih (L ++ [(o, t, h - o - t)])
    rw [app1] at this
    show L.length ≤ (twl h o t (L ++ [(o, t, h - o - t)])).length
    omega
theorem onl_le (h : Nat) : ∀ o L, L.length ≤ (onl h o L).length := by
  intro o
  induction o with
  | zero => intro L; exact Nat.le_refl _
  | succ o ih => intro L; exact Nat.le_trans (twl_le h o (h - o + 1) L) (ih _)
theorem hsl_le : ∀ k L, L.length ≤ (hsl k L).length := by
  intro k
  induction k with
  | zero => intro L; exact Nat.le_refl _
  | succ k ih => intro L; exact Nat.le_trans (onl_le (4 - k) (4 - k + 1) L) (ih _)
def QL (L : List (Nat × Nat × Nat)) (a b c : Nat → Int32) : Prop := ∀ j, j < L.length → a j = nI (L.getD j (0, 0, 0)).1 ∧ b j = nI (L.getD j (0, 0, 0)).2.1 ∧ c j = nI (L.getD j (0, 0, 0)).2.2
theorem getD_ap3 (L : List (Nat × Nat × Nat)) (v : Nat × Nat × Nat) : (∀ j, j < L.length → (L ++ [v]).getD j (0, 0, 0) = L.getD j (0, 0, 0)) ∧ (L ++ [v]).getD L.length (0, 0, 0) = v := by
  induction L with
  | nil => exact ⟨fun j h => absurd h (Nat.not_lt_zero _), rfl⟩
  | cons y L ih =>
    refine ⟨fun j h => ?_, ih.2⟩
    cases j with
    | zero => rfl
    | succ j => exact ih.1 j (Nat.lt_of_succ_lt_succ h)
theorem QL_app {L : List (Nat × Nat × Nat)} {a b c : Nat → Int32} {o t w : Nat} (h : QL L a b c) : QL (L ++ [(o, t, w)]) (upd a L.length (nI o)) (upd b L.length (nI t)) (upd c L.length (nI w)) := by
  intro j hj
  rw [app1] at hj
  by_cases e : j = L.length
  · rw [e, (getD_ap3 L _).2, upd_s rfl, upd_s rfl, upd_s rfl]
    exact ⟨rfl, rfl, rfl⟩
  · rw [(getD_ap3 L _).1 j (by omega), pk_un e, pk_un e, pk_un e]
    exact h j (by omega)
def Z6 (σ : Nat → Nat → Int32) (a b c : Nat → Int32) : Nat → Nat → Int32 := zrow (zrow (zrow σ 26 a) 27 b) 28 c
theorem Z6_up (σ : Nat → Nat → Int32) (a b c : Nat → Int32) (k : Nat) (u v w : Int32) : zup (zup (zup (Z6 σ a b c) 26 k u) 27 k v) 28 k w = Z6 σ (upd a k u) (upd b k v) (upd c k w) := by
  rw [zup_row, zup_row, zup_row]
  unfold Z6
  rw [zrow_sw _ _ _ (show (28 : Nat) ≠ 26 by decide), zrow_sw _ _ _ (show (27 : Nat) ≠ 26 by decide), zrow_row]
  rw [zrow_sw _ _ _ (show (28 : Nat) ≠ 27 by decide), zrow_row, zrow_row]
  rfl
theorem Z6_id (σ : Nat → Nat → Int32) : Z6 σ (σ 26) (σ 27) (σ 28) = σ := by
  unfold Z6
  rw [zrow_id, zrow_id, zrow_id]
theorem c69 {d l : Nat} {xs : Nat → Int32} {σ : Nat → Nat → Int32} {τ : Nat → Nat → Int64} {ρ : Nat → Nat → Value} {Q : zR → Prop} (hz : ZZ [18] xs σ) (ht : TZ τ)
    (hq : ∀ σ' τ', ZZ [18, 24, 26, 27, 28] xs σ' → TZ τ' → FB [18] σ σ' → σ' 24 0 = -1 → QS (σ' 26) (σ' 27) (σ' 28) → Q (.inl none, (32, 0, l, σ', τ', r69 ρ))) :
    zRn d 69 (0, [.ref 24, zJ, zJ, zJ, zJ], [], (25, 0, l, σ, τ, ρ)) Q := by
  refine c69_0 (ZZ_mono hz (fun b hb => by rw [List.mem_singleton.1 hb]; decide)) ht (fun σ1 τ1 hz1 ht1 hf1 h24 => ?_)
  have fin : ∀ a b c, QL trs a b c → Q (.inl none, (32, 0, l, Z6 σ1 a b c, τ1, r69 ρ)) := by
    intro a b c hQ
    refine hq _ τ1 (ZZ_row (ZZ_row (ZZ_row hz1 (by decide) (by decide)) (by decide) (by decide)) (by decide) (by decide)) ht1 (FB_row (FB_row (FB_row hf1 (by decide)) (by decide)) (by decide)) h24 ?_
    intro k hk
    exact hQ k hk
  have k5 : ∀ k L a b c, k ≤ 5 → hsl k L = trs → QL L a b c → zRn d 69 (69, [.ref 24, .int (nI L.length), .int (nI (5 - k)), zJ, zJ], [], (32, 0, l, Z6 σ1 a b c, τ1, r69 ρ)) Q := by
    intro k
    induction k with
    | zero =>
      intro L a b c _ hL hQ
      have hL : L = trs := hL
      subst hL
      exact zc69_69 ⟨fun _ => fin a b c hQ, fun q => absurd (by decide) q⟩
    | succ k ih =>
      intro L a b c hk hL hQ
      have hL : hsl k (onl (4 - k) (4 - k + 1) L) = trs := hL
      have hle := hsl_le k (onl (4 - k) (4 - k + 1) L)
      rw [hL] at hle
      have hle : (onl (4 - k) (4 - k + 1) L).length ≤ 35 := hle
      rw [show 5 - (k + 1) = 4 - k by omega]
      generalize hF : onl (4 - k) (4 - k + 1) L = F at hL hle
      have nx : nI (4 - k) + 1 = nI (5 - k) := by rw [nI_1]; congr 1; omega
      have onK : ∀ o L a b c, o ≤ 4 - k + 1 → onl (4 - k) o L = F → QL L a b c → zRn d 69 (76, [.ref 24, .int (nI L.length), .int (nI (4 - k)), .int (iI ((o : Int) - 1)), zJ], [], (32, 0, l, Z6 σ1 a b c, τ1, r69 ρ)) Q := by
        intro o
        induction o with
        | zero =>
          intro L a b c _ hL2 hQ
          have hL2 : L = F := hL2
          subst hL2
          refine zc69_76 ⟨fun _ => ?_, fun q => absurd (by decide) q⟩
          rw [nx]
          exact ih L a b c (by omega) hL hQ
        | succ o ih2 =>
          intro L a b c ho hL2 hQ
          have hL2 : onl (4 - k) o (twl (4 - k) o (4 - k - o + 1) L) = F := hL2
          have hle2 := onl_le (4 - k) o (twl (4 - k) o (4 - k - o + 1) L)
          rw [hL2] at hle2
          generalize hG : twl (4 - k) o (4 - k - o + 1) L = G at hL2 hle2
          have e1 : iI (((o + 1 : Nat) : Int) - 1) = nI o := by rw [nI_iI]; congr 1; omega
          have e2 : nI o + -1 = iI ((o : Int) - 1) := by rw [nI_iI, show (-1 : Int32) = iI (-1) from rfl, iI_add]; rfl
          have twK : ∀ t L a b c, t ≤ 4 - k - o + 1 → twl (4 - k) o t L = G → QL L a b c → zRn d 69 (85, [.ref 24, .int (nI L.length), .int (nI (4 - k)), .int (nI o), .int (iI ((t : Int) - 1))], [], (32, 0, l, Z6 σ1 a b c, τ1, r69 ρ)) Q := by
            intro t
            induction t with
            | zero =>
              intro L a b c _ hL3 hQ
              have hL3 : L = G := hL3
              subst hL3
              refine zc69_85 ⟨fun _ => ?_, fun q => absurd (by decide) q⟩
              rw [e2]
              exact ih2 L a b c (by omega) hL2 hQ
            | succ t ih3 =>
              intro L a b c ht2 hL3 hQ
              have hL3 : twl (4 - k) o t (L ++ [(o, t, 4 - k - o - t)]) = G := hL3
              have hle3 := twl_le (4 - k) o t (L ++ [(o, t, 4 - k - o - t)])
              rw [hL3, app1] at hle3
              have f1 : iI (((t + 1 : Nat) : Int) - 1) = nI t := by rw [nI_iI]; congr 1; omega
              have f2 : nI t + -1 = iI ((t : Int) - 1) := by rw [nI_iI, show (-1 : Int32) = iI (-1) from rfl, iI_add]; rfl
              have f3 : nI (4 - k) - nI o - nI t = nI (4 - k - o - t) := by rw [pk_sub (by omega), pk_sub (by omega)]
              rw [f1]
              refine zc69_85 ⟨fun q => ?_, fun _ => ?_⟩
              · simp (disch := omega) only [zlit, nI_leI, nI_ltI, nI_eq, nI_clamp, nI_add, pk_mul, pk_sub, pk_div] at q; omega
              · have vL : vp_in (nI L.length) 35 := vp_in_nI (by omega) (by decide)
                refine ⟨vL, vL, vL, ?_⟩
                rw [f2, f3, nI_clamp (by omega), Z6_up, nI_1, ← app1 (v := (o, t, 4 - k - o - t))]
                exact ih3 _ _ _ _ (by omega) hL3 (QL_app hQ)
          rw [e1]
          refine zc69_76 ⟨fun q => ?_, fun _ => ?_⟩
          · simp (disch := omega) only [zlit, nI_leI, nI_ltI, nI_eq, nI_clamp, nI_add, pk_mul, pk_sub, pk_div] at q; omega
          · have := twK (4 - k - o + 1) L a b c (Nat.le_refl _) hG hQ
            rw [show iI (((4 - k - o + 1 : Nat) : Int) - 1) = nI (4 - k) - nI o by rw [pk_sub (by omega), nI_iI]; congr 1; omega] at this
            exact this
      refine zc69_69 ⟨fun q => ?_, fun _ => ?_⟩
      · simp (disch := omega) only [zlit, nI_leI, nI_ltI, nI_eq, nI_clamp, nI_add, pk_mul, pk_sub, pk_div] at q; omega
      · have := onK (4 - k + 1) L a b c (Nat.le_refl _) hF hQ
        rw [show iI (((4 - k + 1 : Nat) : Int) - 1) = nI (4 - k) by rw [nI_iI]; congr 1; omega] at this
        exact this
  have := k5 5 [] (σ1 26) (σ1 27) (σ1 28) (Nat.le_refl _) hsl_ok (fun j hj => absurd hj (Nat.not_lt_zero _))
  rwa [Z6_id] at this
