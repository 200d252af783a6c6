/-! the reference: the list of sums of T counters in m heaps -/
def psm (p : List Nat) : Nat → Nat
  | 0 => 0
  | k + 1 => psm p k + p.getD k 0
def ksm (p : List Nat) : Nat → Nat
  | 0 => 0
  | k + 1 => ksm p k + unN (p.getD k 0)
def fnd (T m : Nat) (p : List Nat) : Nat → Option Nat
  | 0 => none
  | k + 1 => if T < psm p k + (p.getD k 0 + 1) * (m - k) then fnd T m p k else some k
def fil : List Nat → Nat → Nat → List Nat
  | [], _, _ => []
  | _ :: p, 0, v => v :: fil p 0 v
  | y :: p, a + 1, v => y :: fil p a v
def kk (T m : Nat) (p : List Nat) : Nat := ksm p (m - 1) + unN (T - psm p (m - 1))
def okb (T m : Nat) (p : List Nat) : Bool := decide (p.length + 1 = m ∧ psm p (m - 1) + 1 ≤ T ∧ (m = 1 ∨ p.getD (m - 2) 0 ≤ T - psm p (m - 1)) ∧ ∀ j, j < m - 1 → 1 ≤ p.getD j 0 ∧ p.getD j 0 ≤ 18)
def cns (p : List Nat) : Option (List (List Nat)) → Option (List (List Nat))
  | none => none
  | some r => some (p :: r)
def opE (p : List Nat) (g : Nat → Option (List (List Nat))) : Option Nat → Option (List (List Nat))
  | none => some [p]
  | some a => cns p (g a)
def blk (T m : Nat) : Nat → List Nat → Option (List (List Nat))
  | 0, _ => none
  | f + 1, p => bif okb T m p then opE p (fun a => blk T m f (fil p a (p.getD a 0 + 1))) (fnd T m p (m - 1)) else none
theorem fil_len : ∀ (p : List Nat) (a v : Nat), (fil p a v).length = p.length := by
  intro p
  induction p with
  | nil => intro a v; rfl
  | cons y p ih =>
    intro a v
    cases a with
    | zero => show (fil p 0 v).length + 1 = p.length + 1; rw [ih]
    | succ a => show (fil p a v).length + 1 = p.length + 1; rw [ih]
theorem fil_at : ∀ (p : List Nat) (a v j : Nat), j < p.length → (fil p a v).getD j 0 = if j < a then p.getD j 0 else v := by
  intro p
  induction p with
  | nil => intro a v j h; exact absurd h (Nat.not_lt_zero _)
  | cons y p ih =>
    intro a v j h
    have h : j < p.length + 1 := h
    cases a with
    | zero =>
      rw [if_neg (by omega)]
      cases j with
      | zero => rfl
      | succ j => show (fil p 0 v).getD j 0 = v; rw [ih 0 v j (by omega), if_neg (by omega)]
    | succ a =>
      cases j with
      | zero => rw [if_pos (by omega)]; rfl
      | succ j =>
        show (fil p a v).getD j 0 = if j + 1 < a + 1 then p.getD j 0 else v
        rw [ih a v j (by omega)]
        by_cases c : j < a
        · rw [if_pos c, if_pos (by omega)]
        · rw [if_neg c, if_neg (by omega)]
theorem psm_le {p : List Nat} {m : Nat} (hb : ∀ j, j + 1 < m → p.getD j 0 ≤ 18) : ∀ k, k + 1 ≤ m → psm p k ≤ 18 * k := by
  intro k
  induction k with
  | zero => intro _; exact Nat.le_refl 0
  | succ k ih =>
    intro hk
    have := ih (by omega)
    have := hb k (by omega)
    show psm p k + p.getD k 0 ≤ 18 * (k + 1)
    omega
theorem lst_fnd {d x l : Nat} {σ : Nat → Nat → Int32} {τ : Nat → Nat → Int64} {Q : zR → Prop} {T m : Nat} {p : List Nat} (hT : T ≤ 18) (hm1 : 1 ≤ m) (hm : m ≤ 18) (hp : ∀ j, j + 1 < m → σ 44 j = nI (p.getD j 0)) (hb : ∀ j, j + 1 < m → p.getD j 0 ≤ 18)
    (h0 : fnd T m p (m - 1) = none → Q (.inl none, (49, x, l, σ, τ, zrho)))
    (h1 : ∀ a, fnd T m p (m - 1) = some a → a + 1 < m → ∀ s, (∀ j, j + 1 < m → s j = nI (if j < a then p.getD j 0 else p.getD a 0 + 1)) → zRn d 152 (48, [.ref 32, .int (nI T), .int (nI m), .int 1, zJ, zJ, zJ, zJ, zJ], [], (49, x, l, zrow σ 44 s, τ, zrho)) Q) :
    zRn d 152 (160, [.ref 32, .int (nI T), .int (nI m), zJ, zJ, zJ, zJ, zJ, zJ], [], (49, x, l, σ, τ, zrho)) Q := by
  have key : ∀ k, k + 1 ≤ m → fnd T m p k = fnd T m p (m - 1) →
      zRn d 152 (168, [.ref 32, .int (nI T), .int (nI m), zJ, zJ, .int (iI ((k : Int) - 1)), .int 0, zJ, zJ], [], (49, x, l, σ, τ, zrho)) Q := by
    intro k
    induction k with
    | zero =>
      intro hk hf
      refine zv152_168 ⟨fun _ => ⟨fun _ => zv152_48 ⟨fun _ => h0 hf.symm, fun c => absurd rfl c⟩, fun c => absurd rfl c⟩, fun c => absurd (by decide) c⟩
    | succ k ih =>
      intro hk hf
      have e : iI (((k + 1 : Nat) : Int) - 1) = nI k := by rw [nI_iI]; congr 1; omega
      rw [e]
      have hbk := hb k (by omega)
      have loop : ∀ n j, j + n = k → zRn d 152 (184, [.ref 32, .int (nI T), .int (nI m), zJ, zJ, .int (nI k), zJ, .int (nI (psm p j)), .int (nI j)], [], (49, x, l, σ, τ, zrho)) Q := by
        intro n
        induction n with
        | zero =>
          intro j hj
          have hj : j = k := by omega
          subst hj
          have hps := psm_le hb j (by omega)
          have hmul : (p.getD j 0 + 1) * (m - j) ≤ 19 * 18 := Nat.mul_le_mul (by omega) (by omega)
          have e2 : nI (psm p j) + (σ 44 ((nI j).toNatClampNeg) + 1) * (nI m - nI j) = nI (psm p j + (p.getD j 0 + 1) * (m - j)) := by
            rw [nI_clamp (by omega), hp j (by omega), nI_1, pk_sub (by omega), pk_mul, nI_add]
          have hf' : fnd T m p (j + 1) = if T < psm p j + (p.getD j 0 + 1) * (m - j) then fnd T m p j else some j := rfl
          refine zv152_184 ⟨fun _ => ⟨vp_in_nI (by omega) (by decide), fun c => ⟨fun q => absurd rfl q, fun _ => ?_⟩, fun c => ⟨fun _ => ?_, fun q => absurd (by decide) q⟩⟩, fun c => absurd (Int32.le_refl _) c⟩
          · rw [e2] at c
            simp (disch := omega) only [zlit, nI_leI, nI_ltI, nI_eq, nI_clamp, nI_add, pk_mul, pk_sub, pk_div] at c
            rw [if_pos c] at hf'
            have := ih (by omega) (hf'.symm.trans hf)
            rwa [show iI ((j : Int) - 1) = nI j + (-1) by rw [nI_iI, show (-1 : Int32) = iI (-1) from rfl, iI_add]; rfl] at this
          · rw [e2] at c
            simp (disch := omega) only [zlit, nI_leI, nI_ltI, nI_eq, nI_clamp, nI_add, pk_mul, pk_sub, pk_div] at c
            rw [if_neg c] at hf'
            have h2 := h1 j (hf.symm.trans hf') (by omega)
            refine zv152_168 ⟨fun q => ?_, fun _ => ⟨fun _ => ⟨fun q => absurd q (by decide), fun _ => ⟨vp_in_nI (by omega) (by decide), ?_⟩⟩, fun q => absurd (by decide) q⟩⟩
            · simp (disch := omega) only [zlit, nI_leI, nI_ltI, nI_eq, nI_clamp, nI_add, pk_mul, pk_sub, pk_div] at q; omega
            · rw [nI_clamp (by omega), hp j (by omega), nI_1]
              have fill : ∀ n i s, j ≤ i → i + n + 1 = m → (∀ y, y < i → s y = nI (if y < j then p.getD y 0 else p.getD j 0 + 1)) →
                  zRn d 152 (271, [.ref 32, .int (nI T), .int (nI m), .int 1, zJ, zJ, zJ, .int (nI (p.getD j 0 + 1)), .int (nI i)], [], (49, x, l, zrow σ 44 s, τ, zrho)) Q := by
                intro n
                induction n with
                | zero =>
                  intro i s hji hi hs
                  refine zv152_271 ⟨fun _ => h2 s (fun y hy => hs y (by omega)), fun c => ?_⟩
                  simp (disch := omega) only [zlit, nI_leI, nI_ltI, nI_eq, nI_clamp, nI_add, pk_mul, pk_sub, pk_div] at c; omega
                | succ n ih2 =>
                  intro i s hji hi hs
                  refine zv152_271 ⟨fun c => ?_, fun _ => ⟨vp_in_nI (by omega) (by decide), ?_⟩⟩
                  · simp (disch := omega) only [zlit, nI_leI, nI_ltI, nI_eq, nI_clamp, nI_add, pk_mul, pk_sub, pk_div] at c; omega
                  · rw [nI_clamp (by omega), zup_row, zrow_row, zrow_me, nI_1]
                    refine ih2 (i + 1) _ (by omega) (by omega) (fun y hy => ?_)
                    by_cases w : y = i
                    · rw [upd_s w, if_neg (by omega)]
                    · rw [pk_un w]; exact hs y (by omega)
              have := fill (m - 1 - j) j (σ 44) (Nat.le_refl _) (by omega) (fun y hy => by rw [if_pos hy]; exact hp y (by omega))
              rwa [zrow_id] at this
        | succ n ih2 =>
          intro j hj
          refine zv152_184 ⟨fun c => ?_, fun _ => ⟨vp_in_nI (by omega) (by decide), ?_⟩⟩
          · simp (disch := omega) only [zlit, nI_leI, nI_ltI, nI_eq, nI_clamp, nI_add, pk_mul, pk_sub, pk_div] at c; omega
          · rw [nI_clamp (by omega), hp j (by omega), nI_add, nI_1]
            exact ih2 (j + 1) (by omega)
      refine zv152_168 ⟨fun c => ?_, fun _ => ⟨fun c => absurd rfl c, fun _ => loop k 0 (by omega)⟩⟩
      simp (disch := omega) only [zlit, nI_leI, nI_ltI, nI_eq, nI_clamp, nI_add, pk_mul, pk_sub, pk_div] at c; omega
  have e : nI m - 2 = iI (((m - 1 : Nat) : Int) - 1) := by
    rw [nI_iI, show (2 : Int32) = iI 2 from rfl, iI_sub]; congr 1; omega
  refine zv152_160 ?_
  rw [e]
  exact key (m - 1) (by omega) rfl
def AFs (σ σ' : Nat → Nat → Int32) : Prop := (∀ b, b ≠ 32 → b ≠ 42 → b ≠ 44 → σ' b = σ b) ∧ ∀ j, j ≠ 16 → σ' 32 j = σ 32 j
theorem AFs.trans {a b c : Nat → Nat → Int32} (h1 : AFs a b) (h2 : AFs b c) : AFs a c := ⟨fun q e1 e2 e3 => (h2.1 q e1 e2 e3).trans (h1.1 q e1 e2 e3), fun j e => (h2.2 j e).trans (h1.2 j e)⟩
theorem AFs.refl (a : Nat → Nat → Int32) : AFs a a := ⟨fun _ _ _ _ => rfl, fun _ _ => rfl⟩
theorem AFs_44 (σ : Nat → Nat → Int32) (s : Nat → Int32) : AFs σ (zrow σ 44 s) := ⟨fun b _ _ h => zrow_ne _ _ h, fun _ _ => rfl⟩
theorem lst_emit {d x l : Nat} {σ : Nat → Nat → Int32} {τ : Nat → Nat → Int64} {Q : zR → Prop} {T m n : Nat} {p : List Nat} (hT : T ≤ 18) (hm1 : 1 ≤ m) (hm : m ≤ 18) (hok : okb T m p = true) (hn : n < 1700) (h43 : R43 (σ 43)) (h16 : σ 32 16 = nI n) (hH : HT n (τ 40) (σ 42)) (hp : ∀ j, j + 1 < m → σ 44 j = nI (p.getD j 0))
    (hq : ∀ σ', AFs σ σ' → σ' 32 16 = nI (n + 1) → HT (n + 1) (vp_updL (τ 40) n (lN (kk T m p))) (σ' 42) → (∀ j, j + 1 < m → σ' 44 j = nI (p.getD j 0)) → zRn (d + 2) 152 (160, [.ref 32, .int (nI T), .int (nI m), zJ, zJ, zJ, zJ, zJ, zJ], [], (49, x, l, σ', zrowL τ 40 (vp_updL (τ 40) n (lN (kk T m p))), zrho)) Q) :
    zRn (d + 2) 152 (48, [.ref 32, .int (nI T), .int (nI m), .int 1, zJ, zJ, zJ, zJ, zJ], [], (49, x, l, σ, τ, zrho)) Q := by
  obtain ⟨o1, o2, o3, o4⟩ := of_decide_eq_true hok
  have hb : ∀ j, j + 1 < m → p.getD j 0 ≤ 18 := fun j hj => (o4 j (by omega)).2
  have loop2 : ∀ s, (∀ j, j + 1 < m → s j = nI (p.getD j 0)) → s (m - 1) = nI (T - psm p (m - 1)) → ∀ n k, k + n + 1 = m →
      zRn (d + 2) 152 (126, [.ref 32, .int (nI T), .int (nI m), zJ, zJ, .long (lN (ksm p k)), zJ, .int (nI k), zJ], [], (49, x, l, zrow σ 44 s, τ, zrho)) Q := by
    intro s hs hl n2
    induction n2 with
    | zero =>
      intro k hk
      have hk : k = m - 1 := by omega
      subst hk
      refine zv152_126 ⟨fun c => ?_, fun _ => ⟨vp_in_nI (by omega) (by decide), ?_⟩⟩
      · simp (disch := omega) only [zlit, nI_leI, nI_ltI, nI_eq, nI_clamp, nI_add, pk_mul, pk_sub, pk_div] at c; omega
      · rw [nI_clamp (by omega), zrow_me, hl]
        refine sp150 (by omega) h43 (zv152_145 ?_)
        rw [lN_add, nI_1, show m - 1 + 1 = m by omega]
        refine zv152_126 ⟨fun _ => ?_, fun c => absurd (Int32.le_refl _) c⟩
        refine sp149 hn h16 hH (fun s42 h42 => ?_)
        refine hq _ ⟨fun b e1 e2 e3 => ?_, fun j e => ?_⟩ ?_ ?_ (fun j hj => ?_)
        · rw [zrow_ne _ _ e1, zrow_ne _ _ e2, zrow_ne _ _ e3]
        · rw [zrow_me, pk_un e]; rfl
        · rw [zrow_me, upd_s rfl]
        · exact h42
        · exact hs j hj
    | succ n2 ih =>
      intro k hk
      have := hb k (by omega)
      refine zv152_126 ⟨fun c => ?_, fun _ => ⟨vp_in_nI (by omega) (by decide), ?_⟩⟩
      · simp (disch := omega) only [zlit, nI_leI, nI_ltI, nI_eq, nI_clamp, nI_add, pk_mul, pk_sub, pk_div] at c; omega
      · rw [nI_clamp (by omega), zrow_me, hs k (by omega)]
        refine sp150 (by omega) h43 (zv152_145 ?_)
        rw [lN_add, nI_1]
        exact ih (k + 1) (by omega)
  have key : ∀ n2 k, k + n2 + 1 = m → zRn (d + 2) 152 (58, [.ref 32, .int (nI T), .int (nI m), zJ, .int (nI (psm p k)), .int (nI k), zJ, zJ, zJ], [], (49, x, l, σ, τ, zrho)) Q := by
    intro n2
    induction n2 with
    | zero =>
      intro k hk
      have hk : k = m - 1 := by omega
      subst hk
      have e1 : nI m - 1 = nI (m - 1) := pk_sub (b := 1) (by omega)
      have e3 : nI T - nI (psm p (m - 1)) = nI (T - psm p (m - 1)) := pk_sub (by omega)
      have go := loop2 (upd (σ 44) (m - 1) (nI (T - psm p (m - 1)))) (fun j hj => by rw [pk_un (by omega)]; exact hp j hj) (upd_s rfl) (m - 1) 0 (by omega)
      refine zv152_58 ⟨fun _ => ?_, fun c => ?_⟩
      · rw [e1, e3, nI_clamp (by omega), zup_row]
        refine ⟨vp_in_nI (by omega) (by decide), fun _ => go, fun c => ?_⟩
        have hm2 : 2 ≤ m := by
          apply Classical.byContradiction
          intro w
          exact c (by rw [show m = 1 by omega]; rfl)
        have e2 : nI m - 2 = nI (m - 2) := pk_sub (b := 2) (by omega)
        rw [e2, nI_clamp (by omega), upd_s rfl, pk_un (by omega), hp (m - 2) (by omega)]
        refine ⟨vp_in_nI (by omega) (by decide), vp_in_nI (by omega) (by decide), fun q => ?_, fun _ => go⟩
        have := hb (m - 2) (by omega)
        simp (disch := omega) only [zlit, nI_leI, nI_ltI, nI_eq, nI_clamp, nI_add, pk_mul, pk_sub, pk_div] at q
        omega
      · have hps := psm_le hb (m - 1) (by omega)
        simp (disch := omega) only [zlit, nI_leI, nI_ltI, nI_eq, nI_clamp, nI_add, pk_mul, pk_sub, pk_div] at c; omega
    | succ n2 ih =>
      intro k hk
      refine zv152_58 ⟨fun c => ?_, fun _ => ⟨vp_in_nI (by omega) (by decide), ?_⟩⟩
      · simp (disch := omega) only [zlit, nI_leI, nI_ltI, nI_eq, nI_clamp, nI_add, pk_mul, pk_sub, pk_div] at c; omega
      · rw [nI_clamp (by omega), hp k (by omega), nI_add, nI_1]
        exact ih (k + 1) (by omega)
  exact zv152_48 ⟨fun c => absurd c (by decide), fun _ => key (m - 1) 0 (by omega)⟩
/-- what a list adds -/
def AP (n T m : Nat) (r : List (List Nat)) (K K' : Nat → Int64) : Prop := (∀ i, i < n → K' i = K i) ∧ ∀ j, j < r.length → K' (n + j) = lN (kk T m (r.getD j []))
theorem lst_go {d x l T m : Nat} {Q : zR → Prop} (hT : T ≤ 18) (hm1 : 1 ≤ m) (hm : m ≤ 18) : ∀ f p r n (σ : Nat → Nat → Int32) (τ : Nat → Nat → Int64), blk T m f p = some r → n + r.length ≤ 1700 → R43 (σ 43) → σ 32 16 = nI n → HT n (τ 40) (σ 42) → (∀ j, j + 1 < m → σ 44 j = nI (p.getD j 0)) →
    (∀ σ' t, AFs σ σ' → σ' 32 16 = nI (n + r.length) → HT (n + r.length) t (σ' 42) → AP n T m r (τ 40) t → Q (.inl none, (49, x, l, σ', zrowL τ 40 t, zrho))) →
    zRn (d + 2) 152 (48, [.ref 32, .int (nI T), .int (nI m), .int 1, zJ, zJ, zJ, zJ, zJ], [], (49, x, l, σ, τ, zrho)) Q := by
  intro f
  induction f with
  | zero => intro p r n σ τ h; cases h
  | succ f ih =>
    intro p r n σ τ h hn h43 h16 hH hp hq
    have h : (bif okb T m p then opE p (fun a => blk T m f (fil p a (p.getD a 0 + 1))) (fnd T m p (m - 1)) else none) = some r := h
    cases ho : okb T m p with
    | false => rw [ho] at h; cases h
    | true =>
      rw [ho] at h
      have h : opE p (fun a => blk T m f (fil p a (p.getD a 0 + 1))) (fnd T m p (m - 1)) = some r := h
      obtain ⟨o1, o2, o3, o4⟩ := of_decide_eq_true ho
      have hb : ∀ j, j + 1 < m → p.getD j 0 ≤ 18 := fun j hj => (o4 j (by omega)).2
      have hr1 : 1 ≤ r.length := by
        cases hf : fnd T m p (m - 1) with
        | none =>
          rw [hf] at h
          have h : some [p] = some r := h
          cases h; exact Nat.le_refl 1
        | some a =>
          rw [hf] at h
          have h : cns p (blk T m f (fil p a (p.getD a 0 + 1))) = some r := h
          cases hbk : blk T m f (fil p a (p.getD a 0 + 1)) with
          | none => rw [hbk] at h; cases h
          | some r' =>
            rw [hbk] at h
            have h : some (p :: r') = some r := h
            cases h
            show 1 ≤ r'.length + 1
            omega
      refine lst_emit hT hm1 hm ho (by omega) h43 h16 hH hp (fun σ1 f1 g16 gH g44 => ?_)
      refine lst_fnd hT hm1 hm g44 hb (fun hf => ?_) (fun a hf ha s hs => ?_)
      · rw [hf] at h
        have h : some [p] = some r := h
        cases h
        refine hq σ1 _ f1 g16 gH ⟨fun i hi => pk_uLn (by omega), fun j hj => ?_⟩
        have hj : j < 1 := hj
        have : j = 0 := by omega
        subst this
        exact pk_uLs
      · rw [hf] at h
        have h : cns p (blk T m f (fil p a (p.getD a 0 + 1))) = some r := h
        cases hbk : blk T m f (fil p a (p.getD a 0 + 1)) with
        | none => rw [hbk] at h; cases h
        | some r' =>
          rw [hbk] at h
          have h : some (p :: r') = some r := h
          cases h
          have hlen : (p :: r').length = r'.length + 1 := rfl
          refine ih _ r' (n + 1) (zrow σ1 44 s) _ hbk (by omega) ?_ g16 ?_ (fun j hj => ?_) (fun σ' t f2 k16 kH kA => ?_)
          · show R43 (σ1 43)
            rw [f1.1 43 (by decide) (by decide) (by decide)]; exact h43
          · rw [zrowL_me]; exact gH
          · rw [fil_at _ _ _ _ (by omega)]
            show s j = _
            exact hs j hj
          · rw [zrowL_row]
            rw [show n + 1 + r'.length = n + (p :: r').length by omega] at k16 kH
            rw [zrowL_me] at kA
            refine hq σ' t ((f1.trans (AFs_44 σ1 s)).trans f2) k16 kH ⟨fun i hi => (kA.1 i (by omega)).trans (pk_uLn (by omega)), fun j hj => ?_⟩
            cases j with
            | zero => exact (kA.1 n (by omega)).trans pk_uLs
            | succ j =>
              have := kA.2 j (by omega)
              rwa [show n + 1 + j = n + (j + 1) by omega] at this
def bl (T m : Nat) : List (List Nat) := (blk T m 80 (List.replicate (m - 1) 1)).getD []
/-- the list of sums of T counters in m heaps -/
theorem sp152 {d x l : Nat} {σ : Nat → Nat → Int32} {τ : Nat → Nat → Int64} {Q : zR → Prop} {T m n : Nat} (hT : T ≤ 18) (hm1 : 1 ≤ m) (hm : m ≤ T) (hbl : blk T m 80 (List.replicate (m - 1) 1) = some (bl T m)) (hn : n + (bl T m).length ≤ 1700) (h43 : R43 (σ 43)) (h16 : σ 32 16 = nI n) (hH : HT n (τ 40) (σ 42))
    (hq : ∀ σ' t, AFs σ σ' → σ' 32 16 = nI (n + (bl T m).length) → HT (n + (bl T m).length) t (σ' 42) → AP n T m (bl T m) (τ 40) t → Q (.inl none, (49, x, l, σ', zrowL τ 40 t, zrho))) :
    zRn (d + 2) 152 (0, [.ref 32, .int (nI T), .int (nI m), zJ, zJ, zJ, zJ, zJ, zJ], [], (49, x, l, σ, τ, zrho)) Q := by
  have key : ∀ n2 k s, k + n2 = m → (∀ j, j < k → s j = nI 1) → zRn (d + 2) 152 (2, [.ref 32, .int (nI T), .int (nI m), .int (nI k), zJ, zJ, zJ, zJ, zJ], [], (49, x, l, zrow σ 44 s, τ, zrho)) Q := by
    intro n2
    induction n2 with
    | zero =>
      intro k s hk hs
      have hk : k = m := by omega
      subst hk
      have e0 : ¬ nI T = 0 := by
        intro q
        simp (disch := omega) only [zlit, nI_leI, nI_ltI, nI_eq, nI_clamp, nI_add, pk_mul, pk_sub, pk_div] at q
        omega
      refine zv152_2 ⟨fun _ => ⟨fun _ => ⟨fun _ => ?_, fun c => absurd e0 c⟩, fun c => ?_⟩, fun c => absurd (Int32.le_refl _) c⟩
      · refine lst_go hT hm1 (by omega) 80 _ _ n (zrow σ 44 s) τ hbl hn h43 h16 hH (fun j hj => ?_) (fun σ' t f1 => hq σ' t ((AFs_44 σ s).trans f1))
        rw [zrow_me, hs j (by omega)]
        congr 1
        have : ∀ n j, j < n → (List.replicate n 1).getD j 0 = 1 := by
          intro n
          induction n with
          | zero => intro j q; omega
          | succ n ih2 =>
            intro j q
            cases j with
            | zero => rfl
            | succ j => exact ih2 j (by omega)
        exact (this (k - 1) j (by omega)).symm
      · simp (disch := omega) only [zlit, nI_leI, nI_ltI, nI_eq, nI_clamp, nI_add, pk_mul, pk_sub, pk_div] at c; omega
    | succ n2 ih =>
      intro k s hk hs
      refine zv152_2 ⟨fun c => ?_, fun _ => ⟨vp_in_nI (by omega) (by decide), ?_⟩⟩
      · simp (disch := omega) only [zlit, nI_leI, nI_ltI, nI_eq, nI_clamp, nI_add, pk_mul, pk_sub, pk_div] at c; omega
      · rw [nI_clamp (by omega), zup_row, zrow_row, zrow_me, nI_1]
        refine ih (k + 1) _ (by omega) (fun j hj => ?_)
        by_cases w : j = k
        · rw [upd_s w]; rfl
        · rw [pk_un w]; exact hs j (by omega)
  refine zv152_0 ?_
  have := key m 0 (σ 44) (by omega) (fun j hj => absurd hj (by omega))
  rwa [zrow_id] at this
theorem sp152_0 {d x l : Nat} {σ : Nat → Nat → Int32} {τ : Nat → Nat → Int64} {Q : zR → Prop} {n : Nat} (hn : n < 1700) (h16 : σ 32 16 = nI n) (hH : HT n (τ 40) (σ 42))
    (hq : ∀ s42, HT (n + 1) (vp_updL (τ 40) n (lN 0)) s42 → Q (.inl none, (49, x, l, zrow (zrow σ 42 s42) 32 (upd (σ 32) 16 (nI (n + 1))), zrowL τ 40 (vp_updL (τ 40) n (lN 0)), zrho))) :
    zRn (d + 2) 152 (0, [.ref 32, .int (nI 0), .int (nI 0), zJ, zJ, zJ, zJ, zJ, zJ], [], (49, x, l, σ, τ, zrho)) Q := by
  refine zv152_0 (zv152_2 ⟨fun _ => ⟨fun c => absurd c (by decide), fun _ => ⟨fun c => absurd rfl c, fun _ => ⟨fun c => absurd rfl c, fun _ => ⟨fun c => absurd rfl c, fun _ => ?_⟩⟩⟩⟩, fun c => absurd (by decide) c⟩)
  exact sp149 (k := lN 0) hn h16 hH (fun s42 h42 => zv152_47 (hq s42 h42))
