/-! the reference: play, undo, wins -/
def R4 (σ : Nat → Nat → Int32) (s b c : Nat → Int32) : Nat → Nat → Int32 := zrow (zrow (zrow σ 39 c) 38 b) 32 s
theorem R4_32 (σ : Nat → Nat → Int32) (s a b t : Nat → Int32) : zrow (R4 σ s a b) 32 t = R4 σ t a b := zrow_row _ _ _ _
theorem R4_38 (σ : Nat → Nat → Int32) (s a b t : Nat → Int32) : zrow (R4 σ s a b) 38 t = R4 σ s t b := by
  unfold R4
  rw [zrow_sw _ _ _ (by decide), zrow_row]
theorem R4_39 (σ : Nat → Nat → Int32) (s a b t : Nat → Int32) : zrow (R4 σ s a b) 39 t = R4 σ s a t := by
  unfold R4
  rw [zrow_sw _ _ _ (by decide), zrow_sw _ _ _ (show (38 : Nat) ≠ 39 by decide), zrow_row]
theorem R4_id (σ : Nat → Nat → Int32) (s : Nat → Int32) : R4 σ s (σ 38) (σ 39) = zrow σ 32 s := by
  unfold R4
  rw [zrow_id, show zrow σ 38 (σ 38) = σ from zrow_id σ 38]
def zf (hp : Nat → Nat) : Nat → Nat → Nat
  | 0, _ => 0
  | n + 1, k => (if hp k = 0 then 1 else 0) + zf hp n (k + 1)
theorem fe_zf {hp : Nat → Nat} : ∀ n k, (fe hp n k = k + n ∧ zf hp n k = 0) ∨ (fe hp n k < k + n ∧ zf hp n k = 1 + zf hp (k + n - (fe hp n k + 1)) (fe hp n k + 1)) := by
  intro n
  induction n with
  | zero => intro k; exact Or.inl ⟨rfl, rfl⟩
  | succ n ih =>
    intro k
    have e0 : fe hp (n + 1) k = if hp k = 0 then k else fe hp n (k + 1) := rfl
    have e1 : zf hp (n + 1) k = (if hp k = 0 then 1 else 0) + zf hp n (k + 1) := rfl
    by_cases c : hp k = 0
    · right
      rw [e0, e1, if_pos c, if_pos c]
      exact ⟨by omega, by rw [show k + (n + 1) - (k + 1) = n by omega]⟩
    · rw [e0, e1, if_neg c, if_neg c, Nat.zero_add]
      rcases ih (k + 1) with h | h
      · left; exact ⟨by omega, h.2⟩
      · right; exact ⟨by omega, by rw [show k + (n + 1) = k + 1 + n by omega]; exact h.2⟩
theorem fe_min {hp : Nat → Nat} : ∀ n k j, k ≤ j → j < fe hp n k → hp j ≠ 0 := by
  intro n
  induction n with
  | zero => intro k j h1 h2; have : j < k := h2; omega
  | succ n ih =>
    intro k j h1 h2
    have e0 : fe hp (n + 1) k = if hp k = 0 then k else fe hp n (k + 1) := rfl
    by_cases c : hp k = 0
    · rw [e0, if_pos c] at h2; omega
    · rw [e0, if_neg c] at h2
      by_cases e : j = k
      · subst e; exact c
      · exact ih (k + 1) j (by omega) h2
def room (hp : Nat → Nat) (b c : Nat) : Prop := (0 < b → fe hp 16 0 < 16) ∧ (0 < c → fe hp (16 - (fe hp 16 0 + 1)) (fe hp 16 0 + 1) < 16)
theorem room_zf {hp : Nat → Nat} {b c : Nat} (hbc : 0 < c → 0 < b) : room hp b c ↔ (if 0 < b then 1 else 0) + (if 0 < c then 1 else 0) ≤ zf hp 16 0 := by
  unfold room
  have f1 := fe_le hp 16 0
  have f2 := fe_le hp (16 - (fe hp 16 0 + 1)) (fe hp 16 0 + 1)
  rcases fe_zf (hp := hp) 16 0 with h | h
  · rw [h.2]
    by_cases cb : 0 < b
    · rw [if_pos cb]
      constructor
      · intro q; have := q.1 cb; omega
      · intro q; omega
    · have : ¬ 0 < c := fun e => cb (hbc e)
      rw [if_neg cb, if_neg this]
      exact ⟨fun _ => Nat.le_refl _, fun _ => ⟨fun e => absurd e cb, fun e => absurd e this⟩⟩
  · rw [h.2]
    rw [show 0 + 16 - (fe hp 16 0 + 1) = 16 - (fe hp 16 0 + 1) by omega]
    rcases fe_zf (hp := hp) (16 - (fe hp 16 0 + 1)) (fe hp 16 0 + 1) with g | g
    · rw [g.2]
      by_cases cc : 0 < c
      · rw [if_pos (hbc cc), if_pos cc]
        constructor
        · intro q; have := q.2 cc; omega
        · intro q; omega
      · rw [if_neg cc]
        constructor
        · intro _; split <;> omega
        · intro _; exact ⟨fun _ => by omega, fun e => absurd e cc⟩
    · constructor
      · intro _; split <;> split <;> omega
      · intro _; exact ⟨fun _ => by omega, fun _ => by omega⟩
theorem rt_pos {o : zO} (h1 : o.1 ≤ o.2.1) (h2 : o.2.1 ≤ o.2.2) : 0 < rt o 2 → 0 < rt o 1 := by
  obtain ⟨a, b, c⟩ := o
  dsimp only at h1 h2
  by_cases ha : 0 < a
  · rw [(rt3 ha (by omega) (by omega)).2.1]; omega
  · have : a = 0 := by omega
    subst this
    by_cases hb : 0 < b
    · rw [(rt2 hb (by omega)).2.2]; omega
    · have : b = 0 := by omega
      subst this
      rw [rt1.2.2]; omega
abbrev zLp : List Nat := [0, 9, 10, 11, 13, 29, 30, 31]
theorem sp144 {d x l : Nat} {σ : Nat → Nat → Int32} {τ : Nat → Nat → Int64} {Q : zR → Prop} {u : zRu} {H : Nat → Nat → Nat} {pl : Nat} {i : Int} (hu : zRok u) (hr : RR u (σ 32) (σ 33) (σ 34) (σ 35)) (hs : RS H pl (σ 32) (σ 38) (σ 39)) (hpl : pl < 600) (hb : ∀ k, k < 16 → H pl k ≤ 2000) (b1 : -2147483648 ≤ i) (b2 : i < 2147483648)
    (hq1 : (∀ k, k < 16 → H pl k ≤ far u) → ∀ (m k : Nat) o, i = (m : Int) → fm u (H pl) 16 0 m = some (k, o) → room (H pl) (rt o 1) (rt o 2) → ∀ s b c, zfrm zLp (σ 32) s → s 0 = nI 0 → RS (fun j => if j = pl + 1 then nh (H pl) k (rt o 0) (rt o 1) (rt o 2) else H j) (pl + 1) s b c → Q (.inl (some (.int (nI (pl + 1)))), (49, x, l, R4 σ s b c, τ, zrho)))
    (hq3 : (∀ k, k < 16 → H pl k ≤ far u) → ∀ (m k : Nat) o, i = (m : Int) → fm u (H pl) 16 0 m = some (k, o) → ¬ room (H pl) (rt o 1) (rt o 2) → ∀ s, zwf7 (σ 32) s → s 0 = nI 3 → Q (.inl (some (.int (0))), (49, x, l, zrow σ 32 s, τ, zrho)))
    (hq2 : (∀ k, k < 16 → H pl k ≤ far u) → (i < 0 ∨ ∃ m : Nat, i = (m : Int) ∧ fm u (H pl) 16 0 m = none) → ∀ s, zwf7 (σ 32) s → s 0 = nI 2 → Q (.inl (some (.int (0))), (49, x, l, zrow σ 32 s, τ, zrho)))
    (hq0 : ¬ (∀ k, k < 16 → H pl k ≤ far u) → ∀ s, zwf7 (σ 32) s → s 0 = nI 1 → Q (.inl (some (.int (0))), (49, x, l, zrow σ 32 s, τ, zrho))) :
    zRn (d + 5) 144 (0, [.ref 32, .int (iI i), zJ, zJ, zJ, zJ, zJ], [], (49, x, l, σ, τ, zrho)) Q := by
  obtain ⟨s13, s38, s39⟩ := hs
  refine zv144_0 ?_
  rw [zup_row]
  refine sp140 hu (zwf7_RR zfrm_0 hr) s38 hb (fun hf => zv144_9 ⟨fun _ => ⟨fun c => ?_, fun c => ?_⟩, fun c => absurd (by decide) c⟩) (fun hf => zv144_9 ⟨fun c => absurd rfl c, fun _ => zv109_0 (zv144_17 ?_)⟩)
  · rw [show (0 : Int32) = iI 0 from rfl, iI_leI (by omega) (by omega) b1 b2] at c
    obtain ⟨m, hm⟩ : ∃ m : Nat, i = (m : Int) := ⟨i.toNat, by omega⟩
    rw [hm, ← nI_iI]
    refine sp142 hu (zwf7_RR zfrm_0 hr) s38 hf (by omega) (fun P o s h1 hP h3 h4 h9 h10 h11 => zv144_31 ⟨fun _ => ?_, fun c4 => ?_⟩) (fun h1 s h2 => zv144_31 ⟨fun c4 => absurd c4 (by decide), fun _ => zv109_0 (zv144_41 ?_)⟩)
    · rw [zrow_row]
      have hob := opt_bd hu h3
      have hPb := hb P hP
      have hP0 : 0 < H pl P := by omega
      have hrl : ∀ w, rt o w ≤ 2000 := fun w => rt_le (by omega) (by omega) (by omega)
      have hrp := rt_pos hob.2.2.2.1 hob.2.2.2.2.1
      have hs7 : zwf7 (σ 32) s := zfrm_0.trans h4.seven
      have s0 : s 0 = nI 0 := h4 0 (by decide) (by decide) (by decide) (by decide) (by decide) (by decide)
      have hsp : s 13 = nI pl := (h4 13 (by decide) (by decide) (by decide) (by decide) (by decide) (by decide)).trans s13
      have hsf : zfrm zLp (σ 32) s := zfrm_7 hs7 (by decide) (by decide) (by decide) (by decide) (by decide) (by decide) (by decide)
      have f1 := fe_le (H pl) 16 0
      have f2 := fe_le (H pl) (16 - (fe (H pl) 16 0 + 1)) (fe (H pl) 16 0 + 1)
      have z1 := fe_z (hp := H pl) 16 0
      have z2 := fe_z (hp := H pl) (16 - (fe (H pl) 16 0 + 1)) (fe (H pl) 16 0 + 1)
      -- the heaps of the move go to their places
      have k184 : room (H pl) (rt o 1) (rt o 2) → ∀ n k w b c s', k + n = 16 → zfrm zLp (σ 32) s' → s' 0 = nI 0 → s' 13 = nI (pl + 1) → s' 9 = nI o.1 → s' 10 = nI o.2.1 → s' 11 = nI o.2.2 →
          (∀ j q, j < pl + 1 → q < 16 → c (16 * j + q) = nI (H j q)) → (∀ j, j < k → b j = nI (nh (H pl) P (rt o 0) (rt o 1) (rt o 2) j)) → (∀ j, k ≤ j → j < 16 → b j = nI (if j = P then rt o 0 else H pl j)) →
          ((w = 1 ∧ k ≤ fe (H pl) 16 0) ∨ (w = 2 ∧ fe (H pl) 16 0 < k ∧ k ≤ fe (H pl) (16 - (fe (H pl) 16 0 + 1)) (fe (H pl) 16 0 + 1)) ∨ (w = 3 ∧ fe (H pl) 16 0 < k ∧ fe (H pl) (16 - (fe (H pl) 16 0 + 1)) (fe (H pl) 16 0 + 1) < k)) →
          zRn (d + 5) 144 (184, [.ref 32, zJ, .int (nI P), zJ, zJ, .int (nI w), .int (nI k)], [], (49, x, l, R4 σ s' b c, τ, zrho)) Q := by
        intro hroom n
        induction n with
        | zero =>
          intro k w b c s' hk hf' h0' h13 _ _ _ hc hb1 hb2 hw
          refine zv144_184 ⟨fun _ => ?_, fun c4 => ?_⟩
          · show Q (.inl (some (.int (s' 13))), _)
            rw [h13]
            refine hq1 hf m P o hm h1 hroom s' b c hf' h0' ⟨h13, fun j hj => ?_, fun j q hj hq => ?_⟩
            · show b j = nI ((if pl + 1 = pl + 1 then nh (H pl) P (rt o 0) (rt o 1) (rt o 2) else H (pl + 1)) j)
              rw [if_pos rfl]; exact hb1 j (by omega)
            · show c (16 * j + q) = nI ((if j = pl + 1 then nh (H pl) P (rt o 0) (rt o 1) (rt o 2) else H j) q)
              rw [if_neg (by omega)]; exact hc j q hj hq
          · simp (disch := omega) only [zlit, nI_leI, nI_ltI, nI_eq, nI_clamp, nI_add, pk_mul, pk_sub, pk_div] at c4; omega
        | succ n ih =>
          intro k w b c s' hk hf' h0' h13 h9' h10' h11' hc hb1 hb2 hw
          have hbk : b k = nI (if k = P then rt o 0 else H pl k) := hb2 k (Nat.le_refl _) (by omega)
          have hle : (if k = P then rt o 0 else H pl k) ≤ 2000 := by
            have := hb k (by omega); have := hrl 0
            split <;> omega
          have skip : ∀ w', nh (H pl) P (rt o 0) (rt o 1) (rt o 2) k = (if k = P then rt o 0 else H pl k) →
              ((w' = 1 ∧ k + 1 ≤ fe (H pl) 16 0) ∨ (w' = 2 ∧ fe (H pl) 16 0 < k + 1 ∧ k + 1 ≤ fe (H pl) (16 - (fe (H pl) 16 0 + 1)) (fe (H pl) 16 0 + 1)) ∨ (w' = 3 ∧ fe (H pl) 16 0 < k + 1 ∧ fe (H pl) (16 - (fe (H pl) 16 0 + 1)) (fe (H pl) 16 0 + 1) < k + 1)) →
              zRn (d + 5) 144 (184, [.ref 32, zJ, .int (nI P), zJ, zJ, .int (nI w'), .int (nI k + 1)], [], (49, x, l, R4 σ s' b c, τ, zrho)) Q := by
            intro w' e1 e2
            rw [nI_1]
            refine ih (k + 1) w' b c s' (by omega) hf' h0' h13 h9' h10' h11' hc (fun j hj => ?_) (fun j hj => hb2 j (by omega)) e2
            by_cases e : j = k
            · subst e; rw [e1]; exact hbk
            · exact hb1 j (by omega)
          -- no empty place of the sum: nothing to do there
          have nz : k ≠ P → H pl k ≠ 0 → nh (H pl) P (rt o 0) (rt o 1) (rt o 2) k = (if k = P then rt o 0 else H pl k) := by
            intro e1 e2
            unfold nh
            rw [if_neg e1, if_neg e1, if_neg (fun e => e2 (by rw [e]; exact z1 (by omega))), if_neg (fun e => e2 (by rw [e]; exact z2 (by omega)))]
          have nw : (k = P ∨ H pl k ≠ 0) → ((w = 1 ∧ k + 1 ≤ fe (H pl) 16 0) ∨ (w = 2 ∧ fe (H pl) 16 0 < k + 1 ∧ k + 1 ≤ fe (H pl) (16 - (fe (H pl) 16 0 + 1)) (fe (H pl) 16 0 + 1)) ∨ (w = 3 ∧ fe (H pl) 16 0 < k + 1 ∧ fe (H pl) (16 - (fe (H pl) 16 0 + 1)) (fe (H pl) 16 0 + 1) < k + 1)) := by
            intro e
            have e2 : H pl k ≠ 0 := by
              rcases e with e | e
              · rw [e]; omega
              · exact e
            rcases hw with hw | hw | hw
            · left
              refine ⟨hw.1, ?_⟩
              by_cases q : k = fe (H pl) 16 0
              · exact absurd (by rw [q]; exact z1 (by omega)) e2
              · omega
            · right; left
              refine ⟨hw.1, by omega, ?_⟩
              by_cases q : k = fe (H pl) (16 - (fe (H pl) 16 0 + 1)) (fe (H pl) 16 0 + 1)
              · exact absurd (by rw [q]; exact z2 (by omega)) e2
              · omega
            · right; right; exact ⟨hw.1, by omega, by omega⟩
          refine zv144_184 ⟨fun c4 => ?_, fun _ => ⟨vp_in_nI (by omega) (by decide), fun c4 => ?_, fun c4 => ⟨fun c5 => ?_, fun c5 => ⟨fun c6 => ?_, fun c6 => ?_⟩⟩⟩⟩
          · simp (disch := omega) only [zlit, nI_leI, nI_ltI, nI_eq, nI_clamp, nI_add, pk_mul, pk_sub, pk_div] at c4; omega
          · have c4 : ¬ b ((nI k).toNatClampNeg) = 0 := c4
            rw [nI_clamp (by omega), hbk] at c4
            simp (disch := omega) only [zlit, nI_leI, nI_ltI, nI_eq, nI_clamp, nI_add, pk_mul, pk_sub, pk_div] at c4
            by_cases e : k = P
            · refine skip w ?_ (nw (Or.inl e))
              unfold nh; rw [if_pos e, if_pos e]
            · rw [if_neg e] at c4
              exact skip w (nz e c4) (nw (Or.inr c4))
          · simp (disch := omega) only [nI_eq] at c5
            refine skip w ?_ (nw (Or.inl c5))
            unfold nh; rw [if_pos c5, if_pos c5]
          · have c4 : ¬ ¬ b ((nI k).toNatClampNeg) = 0 := c4
            rw [nI_clamp (by omega), hbk] at c4
            simp (disch := omega) only [zlit, nI_leI, nI_ltI, nI_eq, nI_clamp, nI_add, pk_mul, pk_sub, pk_div] at c4 c5
            rw [if_neg c5] at c4
            have w3 : w = 3 := by simp (disch := omega) only [zlit, nI_leI, nI_ltI, nI_eq, nI_clamp, nI_add, pk_mul, pk_sub, pk_div] at c6; omega
            refine skip w ?_ (by omega)
            unfold nh
            rw [if_neg c5, if_neg c5, if_neg (by omega), if_neg (by omega)]
          · have c4 : ¬ ¬ b ((nI k).toNatClampNeg) = 0 := c4
            rw [nI_clamp (by omega), hbk] at c4
            simp (disch := omega) only [zlit, nI_leI, nI_ltI, nI_eq, nI_clamp, nI_add, pk_mul, pk_sub, pk_div] at c4 c5
            rw [if_neg c5] at c4
            have w2 : w ≤ 2 := by simp (disch := omega) only [zlit, nI_leI, nI_ltI, nI_eq, nI_clamp, nI_add, pk_mul, pk_sub, pk_div] at c6; omega
            refine sp129 (o := o) (by omega) h9' h10' h11' (by omega) (by omega) (by omega) (zv144_225 ?_)
            rw [nI_clamp (by omega), zup_row, R4_38, nI_1, nI_1]
            refine ⟨vp_in_nI (by omega) (by decide), ?_⟩
            have hkz : H pl k = 0 := by omega
            refine ih (k + 1) (w + 1) _ c s' (by omega) hf' h0' h13 h9' h10' h11' hc (fun j hj => ?_) (fun j hj hj2 => ?_) ?_
            · show upd b k (nI (rt o w)) j = _
              by_cases e : j = k
              · subst e
                rw [pk_us]
                unfold nh
                rw [if_neg c5]
                rcases hw with hw | hw | hw
                · have : j = fe (H pl) 16 0 := by
                    by_cases q : j = fe (H pl) 16 0
                    · exact q
                    · exact absurd hkz (fe_min 16 0 j (by omega) (by omega))
                  rw [if_pos this, hw.1]
                · have : j = fe (H pl) (16 - (fe (H pl) 16 0 + 1)) (fe (H pl) 16 0 + 1) := by
                    by_cases q : j = fe (H pl) (16 - (fe (H pl) 16 0 + 1)) (fe (H pl) 16 0 + 1)
                    · exact q
                    · exact absurd hkz (fe_min (16 - (fe (H pl) 16 0 + 1)) (fe (H pl) 16 0 + 1) j (by omega) (by omega))
                  rw [if_neg (by omega), if_pos this, hw.1]
                · omega
              · rw [pk_un e]; exact hb1 j (by omega)
            · show upd b k (nI (rt o w)) j = _
              rw [pk_un (by omega)]; exact hb2 j (by omega) hj2
            · rcases hw with hw | hw | hw
              · right; left
                have : k = fe (H pl) 16 0 := by
                  by_cases q : k = fe (H pl) 16 0
                  · exact q
                  · exact absurd hkz (fe_min 16 0 k (by omega) (by omega))
                omega
              · right; right
                have : k = fe (H pl) (16 - (fe (H pl) 16 0 + 1)) (fe (H pl) 16 0 + 1) := by
                  by_cases q : k = fe (H pl) (16 - (fe (H pl) 16 0 + 1)) (fe (H pl) 16 0 + 1)
                  · exact q
                  · exact absurd hkz (fe_min (16 - (fe (H pl) 16 0 + 1)) (fe (H pl) 16 0 + 1) k (by omega) (by omega))
                omega
              · omega
      have k122 : room (H pl) (rt o 1) (rt o 2) → ∀ n k c, k + n = 16 → (∀ j q, j < pl → q < 16 → c (16 * j + q) = nI (H j q)) → (∀ q, q < k → c (16 * pl + q) = nI (H pl q)) → zRn (d + 5) 144 (122, [.ref 32, zJ, .int (nI P), zJ, zJ, .int (nI k), zJ], [], (49, x, l, R4 σ s (σ 38) c, τ, zrho)) Q := by
        intro hroom n
        induction n with
        | zero =>
          intro k c hk hc1 hc2
          refine zv144_122 ⟨fun _ => ?_, fun c4 => ?_⟩
          · rw [zup_row, R4_32]
            refine sp129 (o := o) (w := 0) (by omega) h9 h10 h11 (by omega) (by omega) (by omega) (zv144_177 ?_)
            rw [nI_clamp (by omega), zup_row, R4_38]
            refine ⟨vp_in_nI hP (by decide), ?_⟩
            refine k184 hroom 16 0 1 _ c _ rfl (zfrm_u hsf (by decide)) s0 ?_ h9 h10 h11 (fun j q hj hq => ?_) (fun j hj => by omega) (fun j _ hj => ?_) (Or.inl ⟨rfl, by omega⟩)
            · show upd s 13 (s 13 + 1) 13 = nI (pl + 1)
              rw [pk_us, hsp, nI_1]
            · by_cases e : j = pl
              · subst e; exact hc2 q (by omega)
              · exact hc1 j q (by omega) hq
            · show upd (σ 38) P (nI (rt o 0)) j = _
              by_cases e : j = P
              · rw [if_pos e, e, pk_us]
              · rw [if_neg e, pk_un e]; exact s38 j hj
          · simp (disch := omega) only [zlit, nI_leI, nI_ltI, nI_eq, nI_clamp, nI_add, pk_mul, pk_sub, pk_div] at c4; omega
        | succ n ih =>
          intro k c hk hc1 hc2
          refine zv144_122 ⟨fun c4 => ?_, fun _ => ⟨vp_in_nI (by omega) (by decide), ?_⟩⟩
          · simp (disch := omega) only [zlit, nI_leI, nI_ltI, nI_eq, nI_clamp, nI_add, pk_mul, pk_sub, pk_div] at c4; omega
          · have e1 : 16 * R4 σ s (σ 38) c 32 13 + nI k = nI (16 * pl + k) := by
              show 16 * s 13 + nI k = _
              rw [hsp, show (16 : Int32) = nI 16 from rfl, pk_mul, nI_add]
            rw [e1, nI_clamp (by omega), zup_row, R4_39, nI_1]
            refine ⟨vp_in_nI (by omega) (by decide), ih (k + 1) _ (by omega) (fun j q hj hq => ?_) (fun q hq => ?_)⟩
            · show upd c (16 * pl + k) _ (16 * j + q) = _
              rw [pk_un (by omega)]; exact hc1 j q hj hq
            · show upd c (16 * pl + k) (σ 38 ((nI k).toNatClampNeg)) (16 * pl + q) = _
              by_cases e : q = k
              · rw [e, pk_us, nI_clamp (by omega)]; exact s38 k (by omega)
              · rw [pk_un (by omega)]; exact hc2 q (by omega)
      have k47 : ∀ n k a, k + n = 16 → a + zf (H pl) n k = zf (H pl) 16 0 → zRn (d + 5) 144 (47, [.ref 32, zJ, .int (nI P), .int (nI a), .int (nI k), zJ, zJ], [], (49, x, l, zrow σ 32 s, τ, zrho)) Q := by
        intro n
        induction n with
        | zero =>
          intro k a hk ha
          have ha : a = zf (H pl) 16 0 := ha
          have hz16 : zf (H pl) 16 0 ≤ 16 := by
            have : ∀ n k, zf (H pl) n k ≤ n := by
              intro n
              induction n with
              | zero => intro k; exact Nat.le_refl _
              | succ n ih => intro k; have := ih (k + 1); show (if H pl k = 0 then 1 else 0) + zf (H pl) n (k + 1) ≤ n + 1; split <;> omega
            exact this 16 0
          refine zv144_47 ⟨fun _ => ?_, fun c4 => ?_⟩
          · have fin : ∀ y z : Nat, y = (if 0 < rt o 1 then 1 else 0) → z = (if 0 < rt o 2 then 1 else 0) → y + z ≤ 2 →
                ((nI y + nI z ≤ nI a → zRn (d + 5) 144 (122, [.ref 32, zJ, .int (nI P), zJ, zJ, .int 0, zJ], [], (49, x, l, zrow σ 32 s, τ, zrho)) Q) ∧ (¬ (nI y + nI z ≤ nI a) → zRn (d + 4) 109 (0, [.ref 32, .int 3], [], (49, x, l, zrow σ 32 s, τ, zrho)) (zret (d + 4 + 1) 144 115 118 [zJ, zJ, zJ, zJ, zJ, zJ, zJ] [] Q))) := by
              intro y z hy hz hyz
              have hrz := room_zf (hp := H pl) hrp
              rw [← hy, ← hz] at hrz
              rw [nI_add]
              refine ⟨fun c7 => ?_, fun c7 => ?_⟩
              · simp (disch := omega) only [nI_leI] at c7
                have := k122 (hrz.mpr (by omega)) 16 0 (σ 39) rfl s39 (fun q hq => by omega)
                rw [R4_id] at this
                exact this
              · simp (disch := omega) only [nI_leI] at c7
                refine zv109_0 (zv144_118 ?_)
                rw [zup_row, zrow_row]
                exact hq3 hf m P o hm h1 (fun q => c7 (by have := hrz.mp q; omega)) _ (zwf7_0 hs7) rfl
            have r1 := hrl 1
            have r2 := hrl 2
            refine sp129 (o := o) (w := 1) (by omega) h9 h10 h11 (by omega) (by omega) (by omega) (zv144_83 ⟨fun c5 => ?_, fun c5 => ?_⟩)
            · simp (disch := omega) only [zlit, nI_leI, nI_ltI, nI_eq, nI_clamp, nI_add, pk_mul, pk_sub, pk_div] at c5
              refine sp129 (o := o) (w := 2) (by omega) h9 h10 h11 (by omega) (by omega) (by omega) (zv144_96 ⟨fun c6 => ?_, fun c6 => ?_⟩)
              · simp (disch := omega) only [zlit, nI_leI, nI_ltI, nI_eq, nI_clamp, nI_add, pk_mul, pk_sub, pk_div] at c6
                exact fin 0 0 (by rw [if_neg (by omega)]) (by rw [if_neg (by omega)]) (by omega)
              · simp (disch := omega) only [zlit, nI_leI, nI_ltI, nI_eq, nI_clamp, nI_add, pk_mul, pk_sub, pk_div] at c6
                exact fin 0 1 (by rw [if_neg (by omega)]) (by rw [if_pos (by omega)]) (by omega)
            · simp (disch := omega) only [zlit, nI_leI, nI_ltI, nI_eq, nI_clamp, nI_add, pk_mul, pk_sub, pk_div] at c5
              refine sp129 (o := o) (w := 2) (by omega) h9 h10 h11 (by omega) (by omega) (by omega) (zv144_96 ⟨fun c6 => ?_, fun c6 => ?_⟩)
              · simp (disch := omega) only [zlit, nI_leI, nI_ltI, nI_eq, nI_clamp, nI_add, pk_mul, pk_sub, pk_div] at c6
                exact fin 1 0 (by rw [if_pos (by omega)]) (by rw [if_neg (by omega)]) (by omega)
              · simp (disch := omega) only [zlit, nI_leI, nI_ltI, nI_eq, nI_clamp, nI_add, pk_mul, pk_sub, pk_div] at c6
                exact fin 1 1 (by rw [if_pos (by omega)]) (by rw [if_pos (by omega)]) (by omega)
          · simp (disch := omega) only [zlit, nI_leI, nI_ltI, nI_eq, nI_clamp, nI_add, pk_mul, pk_sub, pk_div] at c4; omega
        | succ n ih =>
          intro k a hk ha
          have e1 : zf (H pl) (n + 1) k = (if H pl k = 0 then 1 else 0) + zf (H pl) n (k + 1) := rfl
          rw [e1] at ha
          have := hb k (by omega)
          refine zv144_47 ⟨fun c4 => ?_, fun _ => ⟨vp_in_nI (by omega) (by decide), fun c4 => ?_, fun c4 => ?_⟩⟩
          · simp (disch := omega) only [zlit, nI_leI, nI_ltI, nI_eq, nI_clamp, nI_add, pk_mul, pk_sub, pk_div] at c4; omega
          · have c4 : ¬ σ 38 ((nI k).toNatClampNeg) = 0 := c4
            rw [nI_clamp (by omega), s38 k (by omega)] at c4
            simp (disch := omega) only [zlit, nI_leI, nI_ltI, nI_eq, nI_clamp, nI_add, pk_mul, pk_sub, pk_div] at c4
            rw [if_neg c4] at ha
            rw [show nI a + 0 = nI a from nI_add a 0, nI_1]
            exact ih (k + 1) a (by omega) (by omega)
          · have c4 : ¬ ¬ σ 38 ((nI k).toNatClampNeg) = 0 := c4
            rw [nI_clamp (by omega), s38 k (by omega)] at c4
            simp (disch := omega) only [zlit, nI_leI, nI_ltI, nI_eq, nI_clamp, nI_add, pk_mul, pk_sub, pk_div] at c4
            rw [if_pos (by omega)] at ha
            rw [nI_1, nI_1]
            exact ih (k + 1) (a + 1) (by omega) (by omega)
      exact k47 16 0 0 rfl (by omega)
    · simp (disch := omega) only [zlit, nI_leI, nI_ltI, nI_eq, nI_clamp, nI_add, pk_mul, pk_sub, pk_div] at c4; omega
    · rw [zup_row, zrow_row, zrow_row]
      exact hq2 hf (Or.inr ⟨m, hm, h1⟩) _ (zwf7_0 (zfrm_0.trans h2.seven)) rfl
  · rw [show (0 : Int32) = iI 0 from rfl, iI_leI (by omega) (by omega) b1 b2] at c
    refine zv144_31 ⟨fun c4 => absurd c4 (by decide), fun _ => zv109_0 (zv144_41 ?_)⟩
    rw [zup_row, zrow_row]
    exact hq2 hf (Or.inl (by omega)) _ (zwf7_0 zfrm_0) rfl
  · rw [zup_row, zrow_row]
    exact hq0 hf _ (zwf7_0 zfrm_0) rfl
theorem sp146 {d x l : Nat} {σ : Nat → Nat → Int32} {τ : Nat → Nat → Int64} {Q : zR → Prop} {H : Nat → Nat → Nat} {pl : Nat} (hs : RS H pl (σ 32) (σ 38) (σ 39)) (hpl : pl < 600)
    (hq1 : ∀ p, pl = p + 1 → ∀ s b, zfrm zLp (σ 32) s → s 0 = nI 0 → RS H p s b (σ 39) → Q (.inl (some (.int (nI p))), (49, x, l, R4 σ s b (σ 39), τ, zrho)))
    (hq0 : pl = 0 → ∀ s, zwf7 (σ 32) s → s 0 = nI 1 → Q (.inl (some (.int (0))), (49, x, l, zrow σ 32 s, τ, zrho))) :
    zRn (d + 1) 146 (0, [.ref 32, zJ], [], (49, x, l, σ, τ, zrho)) Q := by
  obtain ⟨s13, s38, s39⟩ := hs
  refine zv146_0 ⟨fun c => ?_, fun c => ?_⟩
  · rw [s13] at c
    simp (disch := omega) only [zlit, nI_leI, nI_ltI, nI_eq, nI_clamp, nI_add, pk_mul, pk_sub, pk_div] at c
    obtain ⟨p, hp⟩ : ∃ p, pl = p + 1 := ⟨pl - 1, by omega⟩
    subst hp
    rw [s13, nI_pred]
    simp only [zup_row, zrow_row, zrow_me]
    have key : ∀ n k b, k + n = 16 → (∀ j, j < k → b j = nI (H p j)) → zRn (d + 1) 146 (30, [.ref 32, .int (nI k)], [], (49, x, l, R4 σ (upd (upd (σ 32) 0 0) 13 (nI p)) b (σ 39), τ, zrho)) Q := by
      intro n
      induction n with
      | zero =>
        intro k b hk hb
        refine zv146_30 ⟨fun _ => ?_, fun c4 => ?_⟩
        · exact hq1 p rfl _ b (zfrm_u (zfrm_u (zfrm.refl _ _) (by decide)) (by decide)) rfl ⟨rfl, fun j hj => hb j (by omega), fun j q hj hq => s39 j q (by omega) hq⟩
        · simp (disch := omega) only [zlit, nI_leI, nI_ltI, nI_eq, nI_clamp, nI_add, pk_mul, pk_sub, pk_div] at c4; omega
      | succ n ih =>
        intro k b hk hb
        refine zv146_30 ⟨fun c4 => ?_, fun _ => ?_⟩
        · simp (disch := omega) only [zlit, nI_leI, nI_ltI, nI_eq, nI_clamp, nI_add, pk_mul, pk_sub, pk_div] at c4; omega
        · have e1 : 16 * R4 σ (upd (upd (σ 32) 0 0) 13 (nI p)) b (σ 39) 32 13 + nI k = nI (16 * p + k) := by
            show 16 * nI p + nI k = _
            rw [show (16 : Int32) = nI 16 from rfl, pk_mul, nI_add]
          rw [e1, nI_clamp (by omega), nI_clamp (by omega), zup_row, R4_38, nI_1]
          refine ⟨vp_in_nI (by omega) (by decide), vp_in_nI (by omega) (by decide), ih (k + 1) _ (by omega) (fun j hj => ?_)⟩
          show upd b k (σ 39 (16 * p + k)) j = nI (H p j)
          by_cases e : j = k
          · rw [e, pk_us]; exact s39 p k (by omega) (by omega)
          · rw [pk_un e]; exact hb j (by omega)
    have := key 16 0 (σ 38) rfl (fun j hj => by omega)
    rw [R4_id] at this
    exact this
  · rw [s13] at c
    simp (disch := omega) only [zlit, nI_leI, nI_ltI, nI_eq, nI_clamp, nI_add, pk_mul, pk_sub, pk_div] at c
    refine zv109_0 (zv146_17 ?_)
    rw [zup_row, zup_row, zrow_row]
    exact hq0 (by omega) _ (zwf7_0 zfrm_0) rfl
