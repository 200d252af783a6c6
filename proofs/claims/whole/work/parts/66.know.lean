/-! the reference: who wins sums of up to 18 counters -/
def Lv (T m : Nat) (c : Nat → Nat) : Prop := tot c 18 < T ∨ (tot c 18 = T ∧ m < nhs c 18)
theorem nhs_tot (c : Nat → Nat) : ∀ n, nhs c n ≤ tot c n := by
  intro n
  induction n with
  | zero => exact Nat.le_refl 0
  | succ n ih =>
    show nhs c n + c (n + 1) ≤ tot c n + c (n + 1) * (n + 1)
    have : c (n + 1) * 1 ≤ c (n + 1) * (n + 1) := Nat.mul_le_mul_left _ (by omega)
    omega
theorem tot_nhs (c : Nat → Nat) : ∀ n, nhs c n = 0 → tot c n = 0 := by
  intro n
  induction n with
  | zero => intro _; rfl
  | succ n ih =>
    intro h
    have h : nhs c n + c (n + 1) = 0 := h
    show tot c n + c (n + 1) * (n + 1) = 0
    rw [ih (by omega), show c (n + 1) = 0 by omega, Nat.zero_mul]
theorem lN_inj {a b : Nat} (ha : a < 2 ^ 34) (hb : b < 2 ^ 34) (e : lN a = lN b) : a = b := by
  have h : (lN a).toBitVec.toNat = (lN b).toBitVec.toNat := by rw [e]
  have h : (BitVec.ofNat 64 a).toNat = (BitVec.ofNat 64 b).toNat := h
  rw [BitVec.toNat_ofNat, BitVec.toNat_ofNat, Nat.mod_eq_of_lt (by omega), Nat.mod_eq_of_lt (by omega)] at h
  exact h
theorem key_lv {c c' : Nat → Nat} (h1 : tot c 18 ≤ 18) (h2 : tot c' 18 ≤ 18) (e : lN (keyN c) = lN (keyN c')) : tot c 18 = tot c' 18 ∧ nhs c 18 = nhs c' 18 :=
  have k := key_inj h1 h2 (lN_inj (key_34 h1) (key_34 h2) e)
  ⟨tot_cong 18 k, nhs_cong 18 k⟩
/-- all sums before a place of the order, and only these, in order -/
def KB (T m n : Nat) (K : Nat → Int64) : Prop := (∀ i, i < n → ∃ c, tot c 18 ≤ 18 ∧ K i = lN (keyN c) ∧ Lv T m c) ∧ (∀ i j c c', i ≤ j → j < n → tot c 18 ≤ 18 → tot c' 18 ≤ 18 → K i = lN (keyN c) → K j = lN (keyN c') → ¬ Lv (tot c 18) (nhs c 18) c') ∧ (∀ c, tot c 18 ≤ 18 → Lv T m c → ∃ i, i < n ∧ K i = lN (keyN c))
def E3 : Nat → Nat → Nat → List Nat
  | 0, T, m => if T = 0 ∧ m = 0 then [0] else []
  | k + 1, T, m => (List.range (T / (k + 1) + 1)).flatMap (fun n => if n ≤ m then (E3 k (T - n * (k + 1)) (m - n)).map (fun y => y + n * U (k + 1)) else [])
theorem E3_in (c : Nat → Nat) : ∀ k, wsm U c k ∈ E3 k (tot c k) (nhs c k) := by
  intro k
  induction k with
  | zero => exact List.mem_singleton.2 rfl
  | succ k ih =>
    show wsm U c k + c (k + 1) * U (k + 1) ∈ (List.range ((tot c k + c (k + 1) * (k + 1)) / (k + 1) + 1)).flatMap (fun n => if n ≤ nhs c k + c (k + 1) then (E3 k (tot c k + c (k + 1) * (k + 1) - n * (k + 1)) (nhs c k + c (k + 1) - n)).map (fun y => y + n * U (k + 1)) else [])
    rw [List.mem_flatMap]
    refine ⟨c (k + 1), List.mem_range.2 ?_, ?_⟩
    · have : c (k + 1) ≤ (tot c k + c (k + 1) * (k + 1)) / (k + 1) := (Nat.le_div_iff_mul_le (by omega)).2 (by omega)
      omega
    · rw [if_pos (by omega), Nat.add_sub_cancel, Nat.add_sub_cancel]
      exact List.mem_map.2 ⟨wsm U c k, ih, rfl⟩
theorem blk_ok {T m : Nat} : ∀ f p r, blk T m f p = some r → ∀ q ∈ r, okb T m q = true := by
  intro f
  induction f with
  | zero => intro p r h; cases h
  | succ f ih =>
    intro p r h
    have h : (bif okb T m p then opE p (fun a => blk T m f (fil p a (p.getD a 0 + 1))) (fnd T m p (m - 1)) else none) = some r := h
    cases ho : okb T m p with
    | false => rw [ho] at h; cases h
    | true =>
      rw [ho] at h
      have h : opE p (fun a => blk T m f (fil p a (p.getD a 0 + 1))) (fnd T m p (m - 1)) = some r := h
      cases hf : fnd T m p (m - 1) with
      | none =>
        rw [hf] at h
        have h : some [p] = some r := h
        cases h
        intro q hq
        rw [List.mem_singleton.1 hq]; exact ho
      | some a =>
        rw [hf] at h
        have h : cns p (blk T m f (fil p a (p.getD a 0 + 1))) = some r := h
        cases hbk : blk T m f (fil p a (p.getD a 0 + 1)) with
        | none => rw [hbk] at h; cases h
        | some r' =>
          rw [hbk] at h
          have h : some (p :: r') = some r := h
          cases h
          intro q hq
          rcases List.mem_cons.1 hq with e | e
          · rw [e]; exact ho
          · exact ih _ _ hbk q e
/-- the same list, quicker to run -/
def sumL : List Nat → Nat
  | [] => 0
  | v :: r => v + sumL r
def unL : List Nat → Nat
  | [] => 0
  | v :: r => unN v + unL r
def allb : List Nat → Bool
  | [] => true
  | v :: r => Nat.ble 1 v && (Nat.ble v 18 && allb r)
def fndA (T m : Nat) : List Nat → Nat → Nat → Option Nat → Option Nat
  | [], _, _, best => best
  | v :: r, S, k, best => fndA T m r (S + v) (k + 1) (if T < S + (v + 1) * (m - k) then best else some k)
def okA (T m : Nat) (p : List Nat) (S : Nat) : Bool := Nat.beq (p.length + 1) m && (Nat.ble (S + 1) T && ((Nat.beq m 1 || Nat.ble (p.getD (m - 2) 0) (T - S)) && allb p))
def blkA (T m : Nat) : Nat → List Nat → Option (List (List Nat))
  | 0, _ => none
  | f + 1, p => bif okA T m p (sumL p) then opE p (fun a => blkA T m f (fil p a (p.getD a 0 + 1))) (fndA T m p 0 0 none) else none
theorem psm_cons (v : Nat) (p : List Nat) : ∀ k, psm (v :: p) (k + 1) = v + psm p k := by
  intro k
  induction k with
  | zero => show 0 + v = v + 0; omega
  | succ k ih =>
    show psm (v :: p) (k + 1) + p.getD k 0 = v + (psm p k + p.getD k 0)
    rw [ih]; omega
theorem ksm_cons (v : Nat) (p : List Nat) : ∀ k, ksm (v :: p) (k + 1) = unN v + ksm p k := by
  intro k
  induction k with
  | zero => show 0 + unN v = unN v + 0; omega
  | succ k ih =>
    show ksm (v :: p) (k + 1) + unN (p.getD k 0) = unN v + (ksm p k + unN (p.getD k 0))
    rw [ih]; omega
theorem sumL_eq : ∀ p : List Nat, psm p p.length = sumL p ∧ ksm p p.length = unL p := by
  intro p
  induction p with
  | nil => exact ⟨rfl, rfl⟩
  | cons v p ih =>
    show psm (v :: p) (p.length + 1) = v + sumL p ∧ ksm (v :: p) (p.length + 1) = unN v + unL p
    rw [psm_cons, ksm_cons, ih.1, ih.2]
    exact ⟨rfl, rfl⟩
theorem allb_iff : ∀ p : List Nat, allb p = true ↔ ∀ j, j < p.length → 1 ≤ p.getD j 0 ∧ p.getD j 0 ≤ 18 := by
  intro p
  induction p with
  | nil => exact ⟨fun _ j h => absurd h (Nat.not_lt_zero _), fun _ => rfl⟩
  | cons v p ih =>
    show (Nat.ble 1 v && (Nat.ble v 18 && allb p)) = true ↔ _
    rw [Bool.and_eq_true, Bool.and_eq_true, ih, Nat.ble_eq, Nat.ble_eq]
    refine ⟨fun ⟨a, b, c⟩ j hj => ?_, fun h => ⟨(h 0 (Nat.zero_lt_succ _)).1, (h 0 (Nat.zero_lt_succ _)).2, fun j hj => h (j + 1) (Nat.succ_lt_succ hj)⟩⟩
    cases j with
    | zero => exact ⟨a, b⟩
    | succ j => exact c j (Nat.lt_of_succ_lt_succ hj)
theorem okA_eq (T m : Nat) (p : List Nat) : okA T m p (sumL p) = okb T m p := by
  rw [Bool.eq_iff_iff]
  unfold okb okA
  rw [decide_eq_true_iff, Bool.and_eq_true, Bool.and_eq_true, Bool.and_eq_true, Bool.or_eq_true, Nat.beq_eq, Nat.beq_eq, Nat.ble_eq, Nat.ble_eq, allb_iff]
  constructor
  · intro ⟨a, b, c, d⟩
    have e : m - 1 = p.length := by omega
    rw [e, (sumL_eq p).1]
    exact ⟨a, b, c, d⟩
  · intro ⟨a, b, c, d⟩
    have e : m - 1 = p.length := by omega
    rw [e, (sumL_eq p).1] at b c
    rw [e] at d
    exact ⟨a, b, c, d⟩
theorem fndA_eq {T m : Nat} {p : List Nat} : ∀ (r : List Nat) (k : Nat), (∀ j, j < r.length → p.getD (k + j) 0 = r.getD j 0) → fndA T m r (psm p k) k (fnd T m p k) = fnd T m p (k + r.length) := by
  intro r
  induction r with
  | nil => intro k _; rfl
  | cons v r ih =>
    intro k h
    have h0 : p.getD k 0 = v := h 0 (Nat.zero_lt_succ _)
    show fndA T m r (psm p k + v) (k + 1) (if T < psm p k + (v + 1) * (m - k) then fnd T m p k else some k) = fnd T m p (k + (r.length + 1))
    have e : (if T < psm p k + (v + 1) * (m - k) then fnd T m p k else some k) = fnd T m p (k + 1) := by rw [← h0]; rfl
    have e2 : psm p k + v = psm p (k + 1) := by rw [← h0]; rfl
    rw [e, e2, show k + (r.length + 1) = k + 1 + r.length by omega]
    refine ih (k + 1) (fun j hj => ?_)
    have := h (j + 1) (Nat.succ_lt_succ hj)
    rw [show k + 1 + j = k + (j + 1) by omega]
    exact this
theorem blkA_eq (T m : Nat) : ∀ f p, blkA T m f p = blk T m f p := by
  intro f
  induction f with
  | zero => intro p; rfl
  | succ f ih =>
    intro p
    show (bif okA T m p (sumL p) then opE p (fun a => blkA T m f (fil p a (p.getD a 0 + 1))) (fndA T m p 0 0 none) else none) = (bif okb T m p then opE p (fun a => blk T m f (fil p a (p.getD a 0 + 1))) (fnd T m p (m - 1)) else none)
    rw [okA_eq]
    cases ho : okb T m p with
    | false => rfl
    | true =>
      obtain ⟨o1, o2, o3, o4⟩ := of_decide_eq_true ho
      have e : fndA T m p 0 0 none = fnd T m p (m - 1) := by
        have := fndA_eq (T := T) (m := m) (p := p) p 0 (fun j _ => by rw [Nat.zero_add])
        rw [Nat.zero_add] at this
        rw [show m - 1 = p.length by omega]
        exact this
      rw [e, show (fun a => blkA T m f (fil p a (p.getD a 0 + 1))) = (fun a => blk T m f (fil p a (p.getD a 0 + 1))) from funext (fun a => ih _)]
def blA (T m : Nat) : List (List Nat) := (blkA T m 80 (List.replicate (m - 1) 1)).getD []
theorem blA_eq (T m : Nat) : bl T m = blA T m := by
  unfold bl blA
  rw [blkA_eq]
def memb (k : Nat) : List Nat → Bool
  | [] => false
  | y :: r => Nat.beq y k || memb k r
theorem memb_in {k : Nat} : ∀ L, memb k L = true → k ∈ L := by
  intro L
  induction L with
  | nil => intro h; cases h
  | cons y L ih =>
    intro h
    have h : (Nat.beq y k || memb k L) = true := h
    rw [Bool.or_eq_true] at h
    rcases h with h | h
    · rw [Nat.eq_of_beq_eq_true h]; exact List.mem_cons_self
    · exact List.mem_cons_of_mem _ (ih h)
def subL (B : List Nat) : List Nat → Bool
  | [] => true
  | k :: r => memb k B && subL B r
theorem subL_in {B : List Nat} : ∀ L, subL B L = true → ∀ k ∈ L, k ∈ B := by
  intro L
  induction L with
  | nil => intro _ k hk; cases hk
  | cons y L ih =>
    intro h k hk
    have h : (memb y B && subL B L) = true := h
    rw [Bool.and_eq_true] at h
    rcases List.mem_cons.1 hk with e | e
    · rw [e]; exact memb_in _ h.1
    · exact ih h.2 k e
def chkB (T m : Nat) : Bool := match blkA T m 80 (List.replicate (m - 1) 1) with
  | none => false
  | some r => subL (r.map (fun p => unL p + unN (T - sumL p))) (E3 18 T m)
def chkM (T : Nat) : Nat → Bool
  | 0 => true
  | m + 1 => chkB T (m + 1) && chkM T m
theorem chk_1 : chkM 1 1 = true := by decide +kernel
theorem chk_2 : chkM 2 2 = true := by decide +kernel
theorem chk_3 : chkM 3 3 = true := by decide +kernel
theorem chk_4 : chkM 4 4 = true := by decide +kernel
theorem chk_5 : chkM 5 5 = true := by decide +kernel
theorem chk_6 : chkM 6 6 = true := by decide +kernel
theorem chk_7 : chkM 7 7 = true := by decide +kernel
theorem chk_8 : chkM 8 8 = true := by decide +kernel
theorem chk_9 : chkM 9 9 = true := by decide +kernel
theorem chk_10 : chkM 10 10 = true := by decide +kernel
theorem chk_11 : chkM 11 11 = true := by decide +kernel
theorem chk_12 : chkM 12 12 = true := by decide +kernel
theorem chk_13 : chkM 13 13 = true := by decide +kernel
theorem chk_14 : chkM 14 14 = true := by decide +kernel
theorem chk_15 : chkM 15 15 = true := by decide +kernel
theorem chk_16 : chkM 16 16 = true := by decide +kernel
theorem chk_17 : chkM 17 17 = true := by decide +kernel
theorem chk_18 : chkM 18 18 = true := by decide +kernel
theorem chkM_at {T : Nat} : ∀ n, chkM T n = true → ∀ m, 1 ≤ m → m ≤ n → chkB T m = true := by
  intro n
  induction n with
  | zero => intro _ m h1 h2; omega
  | succ n ih =>
    intro h m h1 h2
    have h : (chkB T (n + 1) && chkM T n) = true := h
    rw [Bool.and_eq_true] at h
    by_cases c : m = n + 1
    · rw [c]; exact h.1
    · exact ih h.2 m h1 (by omega)
theorem chk_b (T : Nat) (hT : T < 19) (m : Nat) (h1 : 1 ≤ m) (h2 : m ≤ T) : chkB T m = true := by
  refine chkM_at T ?_ m h1 h2
  match T, hT, h1, h2 with
  | 0, _, h1, h2 => exact absurd h2 (by omega)
  | 1, _, _, _ => exact chk_1
  | 2, _, _, _ => exact chk_2
  | 3, _, _, _ => exact chk_3
  | 4, _, _, _ => exact chk_4
  | 5, _, _, _ => exact chk_5
  | 6, _, _, _ => exact chk_6
  | 7, _, _, _ => exact chk_7
  | 8, _, _, _ => exact chk_8
  | 9, _, _, _ => exact chk_9
  | 10, _, _, _ => exact chk_10
  | 11, _, _, _ => exact chk_11
  | 12, _, _, _ => exact chk_12
  | 13, _, _, _ => exact chk_13
  | 14, _, _, _ => exact chk_14
  | 15, _, _, _ => exact chk_15
  | 16, _, _, _ => exact chk_16
  | 17, _, _, _ => exact chk_17
  | 18, _, _, _ => exact chk_18
  | n + 19, h, _, _ => exact absurd h (by omega)
theorem chk_all (T : Nat) (hT : T < 19) (m : Nat) (hm : m < 19) (h1 : 1 ≤ m) (h2 : m ≤ T) : blk T m 80 (List.replicate (m - 1) 1) = some (bl T m) ∧ ∀ k ∈ E3 18 T m, k ∈ (bl T m).map (kk T m) := by
  have h := chk_b T hT m h1 h2
  unfold chkB at h
  cases hb : blkA T m 80 (List.replicate (m - 1) 1) with
  | none => rw [hb] at h; cases h
  | some r =>
    rw [hb] at h
    have h : subL (r.map (fun p => unL p + unN (T - sumL p))) (E3 18 T m) = true := h
    have e1 : blk T m 80 (List.replicate (m - 1) 1) = some r := by rw [← blkA_eq, hb]
    have e2 : bl T m = r := by unfold bl; rw [e1]; rfl
    rw [e2]
    refine ⟨e1, fun k hk => ?_⟩
    obtain ⟨q, q1, q2⟩ := List.mem_map.1 (subL_in _ h k hk)
    obtain ⟨o1, o2, o3, o4⟩ := of_decide_eq_true (blk_ok _ _ _ e1 q q1)
    refine List.mem_map.2 ⟨q, q1, ?_⟩
    rw [← q2]
    unfold kk
    rw [show m - 1 = q.length by omega, (sumL_eq q).1, (sumL_eq q).2]
theorem gd_mem : ∀ (r : List (List Nat)) (j : Nat), j < r.length → r.getD j [] ∈ r := by
  intro r
  induction r with
  | nil => intro j h; exact absurd h (Nat.not_lt_zero _)
  | cons y r ih =>
    intro j h
    cases j with
    | zero => exact List.mem_cons_self
    | succ j => exact List.mem_cons_of_mem _ (ih j (Nat.lt_of_succ_lt_succ h))
theorem mem_gd : ∀ (r : List (List Nat)) (q : List Nat), q ∈ r → ∃ j, j < r.length ∧ r.getD j [] = q := by
  intro r
  induction r with
  | nil => intro q h; cases h
  | cons y r ih =>
    intro q h
    rcases List.mem_cons.1 h with h | h
    · exact ⟨0, Nat.zero_lt_succ _, h.symm⟩
    · obtain ⟨j, h1, h2⟩ := ih q h
      exact ⟨j + 1, Nat.succ_lt_succ h1, h2⟩
def pcn (p : List Nat) : Nat → Nat → Nat
  | 0, _ => 0
  | n + 1, k => pcn p n k + one1 (p.getD n 0) k
def fsm (f : Nat → Nat) (p : List Nat) : Nat → Nat
  | 0 => 0
  | n + 1 => fsm f p n + f (p.getD n 0)
theorem wsm_zr (f : Nat → Nat) {c : Nat → Nat} : ∀ n, (∀ k, 1 ≤ k → k ≤ n → c k = 0) → wsm f c n = 0 := by
  intro n
  induction n with
  | zero => intro _; rfl
  | succ n ih =>
    intro h
    show wsm f c n + c (n + 1) * f (n + 1) = 0
    rw [ih (fun k a b => h k a (by omega)), h (n + 1) (by omega) (by omega), Nat.zero_mul]
theorem wsm_pcn (f : Nat → Nat) (p : List Nat) : ∀ n, (∀ j, j < n → 1 ≤ p.getD j 0 ∧ p.getD j 0 ≤ 18) → wsm f (pcn p n) 18 = fsm f p n := by
  intro n
  induction n with
  | zero => intro _; exact wsm_zr f 18 (fun _ _ _ => rfl)
  | succ n ih =>
    intro h
    rw [wsm_add f (c := pcn p (n + 1)) (a := pcn p n) (b := one1 (p.getD n 0)) 18 (fun _ _ _ => rfl), ih (fun j hj => h j (by omega)), wsm_one, if_pos (h n (by omega))]
    rfl
/-- the sum that a list of heaps is -/
theorem ok_sum {T m : Nat} {p : List Nat} (hT : T ≤ 18) (ho : okb T m p = true) : ∃ c, tot c 18 = T ∧ nhs c 18 = m ∧ keyN c = kk T m p := by
  obtain ⟨o1, o2, o3, o4⟩ := of_decide_eq_true ho
  have key : ∀ f, wsm f (fun k => pcn p (m - 1) k + one1 (T - psm p (m - 1)) k) 18 = fsm f p (m - 1) + f (T - psm p (m - 1)) := by
    intro f
    rw [wsm_add f (a := pcn p (m - 1)) (b := one1 (T - psm p (m - 1))) 18 (fun _ _ _ => rfl), wsm_pcn f p (m - 1) o4, wsm_one, if_pos (by omega)]
  have e1 : ∀ n, fsm (fun k => k) p n = psm p n := by
    intro n
    induction n with
    | zero => rfl
    | succ n ih => show fsm _ p n + _ = psm p n + _; rw [ih]
  have e2 : ∀ n, fsm (fun _ => 1) p n = n := by
    intro n
    induction n with
    | zero => rfl
    | succ n ih => show fsm _ p n + 1 = n + 1; rw [ih]
  have un1 : ∀ h, 1 ≤ h → U h = unN h := fun h hh => by unfold unN; rw [if_neg (by omega)]
  have e3 : ∀ n, n ≤ m - 1 → fsm U p n = ksm p n := by
    intro n
    induction n with
    | zero => intro _; rfl
    | succ n ih =>
      intro hn
      show fsm _ p n + U (p.getD n 0) = ksm p n + unN (p.getD n 0)
      rw [ih (by omega), un1 _ (o4 n (by omega)).1]
  refine ⟨fun k => pcn p (m - 1) k + one1 (T - psm p (m - 1)) k, ?_, ?_, ?_⟩
  · rw [tot_w, key, e1]; omega
  · rw [nhs_w, key, e2]; omega
  · unfold kk
    rw [keyN_eq, key, e3 _ (Nat.le_refl _), un1 _ (by omega)]
theorem KB_step {T m n : Nat} {K K' : Nat → Int64} (hT : T ≤ 18) (h1 : 1 ≤ m) (hm : m ≤ T) (hb : KB T m n K) (ha : AP n T m (bl T m) K K') : KB T (m - 1) (n + (bl T m).length) K' := by
  obtain ⟨b1, b2, b3⟩ := hb
  obtain ⟨a1, a2⟩ := ha
  obtain ⟨c1, c2⟩ := chk_all T (by omega) m (by omega) h1 hm
  have new : ∀ j, j < (bl T m).length → ∃ c, tot c 18 = T ∧ nhs c 18 = m ∧ K' (n + j) = lN (keyN c) := by
    intro j hj
    obtain ⟨c, e1, e2, e3⟩ := ok_sum hT (blk_ok _ _ _ c1 _ (gd_mem _ j hj))
    exact ⟨c, e1, e2, by rw [a2 j hj, e3]⟩
  have lvn : ∀ i c, n ≤ i → i < n + (bl T m).length → tot c 18 ≤ 18 → K' i = lN (keyN c) → tot c 18 = T ∧ nhs c 18 = m := by
    intro i c i1 i2 ht hk
    obtain ⟨c0, e1, e2, e3⟩ := new (i - n) (by omega)
    rw [show n + (i - n) = i by omega, hk] at e3
    have := key_lv ht (by omega) e3
    omega
  have lvo : ∀ i c, i < n → tot c 18 ≤ 18 → K' i = lN (keyN c) → Lv T m c := by
    intro i c i1 ht hk
    obtain ⟨c0, e1, e2, e3⟩ := b1 i i1
    rw [a1 i i1, e2] at hk
    have := key_lv e1 ht hk
    unfold Lv at e3 ⊢
    omega
  refine ⟨fun i hi => ?_, fun i j c c' hij hj ht ht' hk hk' => ?_, fun c ht hl => ?_⟩
  · by_cases w : i < n
    · obtain ⟨c, e1, e2, e3⟩ := b1 i w
      refine ⟨c, e1, (a1 i w).trans e2, ?_⟩
      unfold Lv at e3 ⊢
      omega
    · obtain ⟨c, e1, e2, e3⟩ := new (i - n) (by omega)
      rw [show n + (i - n) = i by omega] at e3
      refine ⟨c, by omega, e3, ?_⟩
      unfold Lv
      omega
  · by_cases w : j < n
    · rw [a1 i (by omega)] at hk
      rw [a1 j w] at hk'
      exact b2 i j c c' hij w ht ht' hk hk'
    · have h2 := lvn j c' (by omega) hj ht' hk'
      by_cases w2 : i < n
      · have := lvo i c w2 ht hk
        unfold Lv at this ⊢
        omega
      · have := lvn i c (by omega) (by omega) ht hk
        unfold Lv
        omega
  · by_cases w : Lv T m c
    · obtain ⟨i, i1, i2⟩ := b3 c ht w
      exact ⟨i, by omega, (a1 i i1).trans i2⟩
    · have hl : tot c 18 = T ∧ nhs c 18 = m := by
        unfold Lv at hl w
        omega
      have := E3_in c 18
      rw [hl.1, hl.2] at this
      obtain ⟨q, q1, q2⟩ := List.mem_map.1 (c2 _ this)
      obtain ⟨j, j1, j2⟩ := mem_gd _ q q1
      refine ⟨n + j, by omega, ?_⟩
      rw [a2 j j1, j2, q2, keyN_eq]
def rmM (T : Nat) : Nat → Nat
  | 0 => 0
  | m + 1 => rmM T m + (bl T (m + 1)).length
def rmT : Nat → Nat
  | 0 => 0
  | k + 1 => rmM (18 - k) (18 - k) + rmT k
def lnA (T m : Nat) : Nat := (blA T m).length
def rmMA (T : Nat) : Nat → Nat
  | 0 => 0
  | m + 1 => rmMA T m + lnA T (m + 1)
def rmTA : Nat → Nat
  | 0 => 0
  | k + 1 => rmMA (18 - k) (18 - k) + rmTA k
theorem rmM_eq (T : Nat) : ∀ m, rmM T m = rmMA T m := by
  intro m
  induction m with
  | zero => rfl
  | succ m ih =>
    show rmM T m + (bl T (m + 1)).length = rmMA T m + (blA T (m + 1)).length
    rw [ih, blA_eq]
theorem rmT_eq : ∀ k, rmT k = rmTA k := by
  intro k
  induction k with
  | zero => rfl
  | succ k ih =>
    show rmM (18 - k) (18 - k) + rmT k = rmMA (18 - k) (18 - k) + rmTA k
    rw [ih, rmM_eq]
theorem rmA_all : rmTA 18 = 1596 := by decide +kernel
theorem rm_all : rmT 18 = 1596 := by rw [rmT_eq]; exact rmA_all
theorem KB_next {T n : Nat} {K : Nat → Int64} (hT : 1 ≤ T) (h : KB T 0 n K) : KB (T + 1) (T + 1) n K := by
  obtain ⟨b1, b2, b3⟩ := h
  refine ⟨fun i hi => ?_, b2, fun c ht hl => b3 c ht ?_⟩
  · obtain ⟨c, e1, e2, e3⟩ := b1 i hi
    refine ⟨c, e1, e2, ?_⟩
    unfold Lv at e3 ⊢
    omega
  · have h1 := nhs_tot c 18
    have h2 := tot_nhs c 18
    unfold Lv at hl ⊢
    omega
theorem KB_1 {K : Nat → Int64} (h : K 0 = lN 0) : KB 1 1 1 K := by
  have z : ∀ c, tot c 18 = 0 → keyN c = 0 := by
    intro c hc
    rw [keyN_eq]
    refine wsm_zr U 18 (fun k k1 k2 => ?_)
    have h3 := cl18 (c := c) 18 k k1 k2
    have : c k * 1 ≤ c k * k := Nat.mul_le_mul_left _ k1
    omega
  refine ⟨fun i hi => ?_, fun i j c c' hij hj ht ht' hk hk' => ?_, fun c ht hl => ?_⟩
  · rw [show i = 0 by omega]
    have e : tot (fun _ => 0) 18 = 0 := by rw [tot_w]; exact wsm_zr _ 18 (fun _ _ _ => rfl)
    exact ⟨fun _ => 0, by omega, by rw [h, z _ e], Or.inl (by omega)⟩
  · rw [show i = 0 by omega, ← show j = 0 by omega, hk'] at hk
    have := key_lv ht' ht hk
    unfold Lv
    omega
  · have h1 := nhs_tot c 18
    unfold Lv at hl
    exact ⟨0, by omega, by rw [h, z c (by omega)]⟩
theorem know_m {d x l T : Nat} {σ : Nat → Nat → Int32} {τ : Nat → Nat → Int64} {Q : zR → Prop} (hT : T ≤ 18) (h1 : 1 ≤ T) (h43 : R43 (σ 43))
    (hq : ∀ n σ' t, AFs σ σ' → σ' 32 16 = nI n → HT n t (σ' 42) → KB (T + 1) (T + 1) n t → n + rmT (18 - T) = 1597 → zRn (d + 3) 154 (22, [.ref 32, .int (nI (T + 1)), zJ], [], (49, x, l, σ', zrowL τ 40 t, zrho)) Q) :
    ∀ m n σ' t, m ≤ T → AFs σ σ' → σ' 32 16 = nI n → HT n t (σ' 42) → KB T m n t → n + rmM T m + rmT (18 - T) = 1597 → zRn (d + 3) 154 (30, [.ref 32, .int (nI T), .int (nI m)], [], (49, x, l, σ', zrowL τ 40 t, zrho)) Q := by
  have hT0 : ¬ nI T = 0 := by
    intro q
    simp (disch := omega) only [zlit, nI_leI, nI_ltI, nI_eq, nI_clamp, nI_add, pk_mul, pk_sub, pk_div] at q
    omega
  intro m
  induction m with
  | zero =>
    intro n σ' t hm f h16 hH hK hr
    refine zv154_30 ⟨fun _ => ⟨fun _ => ?_, fun c => absurd (by decide) c⟩, fun c => absurd hT0 c⟩
    rw [nI_1]
    exact hq n σ' t f h16 hH (KB_next h1 hK) hr
  | succ m ih =>
    intro n σ' t hm f h16 hH hK hr
    have hr : n + (rmM T m + (bl T (m + 1)).length) + rmT (18 - T) = 1597 := hr
    have h43' : R43 (σ' 43) := by rw [f.1 43 (by decide) (by decide) (by decide)]; exact h43
    refine zv154_30 ⟨fun _ => ⟨fun c => ?_, fun _ => ?_⟩, fun c => absurd hT0 c⟩
    · simp (disch := omega) only [zlit, nI_leI, nI_ltI, nI_eq, nI_clamp, nI_add, pk_mul, pk_sub, pk_div] at c; omega
    · refine sp152 (d := d) hT (by omega) hm (chk_all T (by omega) (m + 1) (by omega) (by omega) hm).1 (n := n) (by omega) h43' h16 ?_ (fun σ2 t2 f2 g16 gH gA => zv154_49 ?_)
      · rw [zrowL_me]; exact hH
      · rw [zrowL_row, show nI (m + 1) + -1 = nI m from by rw [nI_iI, show (-1 : Int32) = iI (-1) from rfl, iI_add, nI_iI]; congr 1; omega]
        rw [zrowL_me] at gA
        have := KB_step hT (by omega) hm hK gA
        exact ih _ σ2 t2 (by omega) (f.trans f2) g16 gH this (by omega)
theorem know_T {d x l : Nat} {σ : Nat → Nat → Int32} {τ : Nat → Nat → Int64} {Q : zR → Prop} (h43 : R43 (σ 43))
    (hq : ∀ σ' t, AFs σ σ' → σ' 32 16 = nI 1597 → HT 1597 t (σ' 42) → KB 19 19 1597 t → zRn (d + 3) 154 (63, [.ref 32, .int (nI 0), zJ], [], (49, x, l, σ', zrowL τ 40 t, zrho)) Q) :
    ∀ k T n σ' t, T + k = 19 → 1 ≤ T → AFs σ σ' → σ' 32 16 = nI n → HT n t (σ' 42) → KB T T n t → n + rmT k = 1597 → zRn (d + 3) 154 (22, [.ref 32, .int (nI T), zJ], [], (49, x, l, σ', zrowL τ 40 t, zrho)) Q := by
  intro k
  induction k with
  | zero =>
    intro T n σ' t hk h1 f h16 hH hK hr
    have hT : T = 19 := by omega
    have hr : n + 0 = 1597 := hr
    have hn : n = 1597 := by omega
    subst hT
    subst hn
    exact zv154_22 ⟨fun _ => hq σ' t f h16 hH hK, fun c => absurd (by decide) c⟩
  | succ k ih =>
    intro T n σ' t hk h1 f h16 hH hK hr
    have e : 18 - k = T := by omega
    have hr : n + (rmM (18 - k) (18 - k) + rmT k) = 1597 := hr
    rw [e] at hr
    have e2 : 18 - T = k := by omega
    refine zv154_22 ⟨fun c => ?_, fun _ => ?_⟩
    · simp (disch := omega) only [zlit, nI_leI, nI_ltI, nI_eq, nI_clamp, nI_add, pk_mul, pk_sub, pk_div] at c; omega
    · have h43' : R43 (σ' 43) := by rw [f.1 43 (by decide) (by decide) (by decide)]; exact h43
      refine know_m (d := d) (σ := σ) (by omega) h1 h43 (fun n' σ2 t2 f2 g16 gH gK gr => ?_) T n σ' t (Nat.le_refl _) f h16 hH hK (by rw [e2]; omega)
      rw [e2] at gr
      exact ih (T + 1) n' σ2 t2 (by omega) (by omega) f2 g16 gH gK gr
/-- the fortunes of the first n sums of the list -/
def FM (u : zRu) (n : Nat) (K : Nat → Int64) (s : Nat → Int32) : Prop := ∀ i c, i < n → tot c 18 ≤ 18 → K i = lN (keyN c) → ∃ w : Bool, (w = true ↔ Wn u c) ∧ s i = bI w
theorem wfin_bd {u : zRu} {h : Nat} (hh : h ≤ 2000) {N : Nat} {p : zP} (w : wfin u h N p) : -2 ≤ p.1 ∧ p.1 ≤ 2000 := by
  cases N with
  | zero => exact w.2
  | succ N =>
    rcases w with w | w
    · exact w.2
    · exact wok w.2.1 hh
theorem sp153 {d x l : Nat} {σ : Nat → Nat → Int32} {τ : Nat → Nat → Int64} {Q : zR → Prop} {u : zRu} {c : Nat → Nat} {i : Nat} (hu : zRok u) (hr : RR u (σ 32) (σ 33) (σ 34) (σ 35)) (h43 : R43 (σ 43)) (hH : HT 1597 (τ 40) (σ 42)) (hK : KB 19 19 1597 (τ 40)) (hc : tot c 18 ≤ 18) (hKi : τ 40 i = lN (keyN c)) (hf : FM u i (τ 40) (σ 41))
    (hq : ∀ s (w : Bool), (w = true ↔ Wn u c) → zwf6 (σ 32) s → Q (.inl (some (.int (bI w))), (49, x, l, zrow σ 32 s, τ, zrho))) :
    zRn (d + 3) 153 (0, [.ref 32, .long (lN (keyN c)), zJ, zJ, zJ, zJ], [], (49, x, l, σ, τ, zrho)) Q := by
  have fin1 : ∀ s am h, (∃ h o, isMv u c h o ∧ ¬ Wn u (mv c h o)) → zwf6 (σ 32) s → zRn (d + 3) 153 (8, [.ref 32, .long (lN (keyN c)), zJ, .int am, .int 1, .int h], [], (49, x, l, zrow σ 32 s, τ, zrho)) Q := by
    intro s am h hw hs
    have : Wn u c := (Wn_eq hu c).2 (Or.inr hw)
    have := hq s true ⟨fun _ => this, fun _ => rfl⟩ hs
    exact zv153_8 ⟨fun _ => ⟨fun _ => this, fun c => absurd (by decide) c⟩, fun _ => ⟨fun _ => ⟨fun _ => this, fun c => absurd (by decide) c⟩, fun c => absurd (by decide) c⟩⟩
  have key : ∀ n h s (am : Bool), h + n = 19 → 1 ≤ h → zwf6 (σ 32) s → (am = true ↔ ∃ h' o, h' < h ∧ isMv u c h' o) → (∀ h' o, h' < h → isMv u c h' o → Wn u (mv c h' o)) →
      zRn (d + 3) 153 (8, [.ref 32, .long (lN (keyN c)), zJ, .int (bI am), .int 0, .int (nI h)], [], (49, x, l, zrow σ 32 s, τ, zrho)) Q := by
    intro n
    induction n with
    | zero =>
      intro h s am hn h1 hs ham hall
      have hn : h = 19 := by omega
      subst hn
      refine zv153_8 ⟨fun _ => ⟨fun c => absurd rfl c, fun _ => ⟨fun q => ?_, fun q => ?_⟩⟩, fun c => absurd (by decide) c⟩
      · rw [bI_0] at q
        have q : am = true := by simpa using q
        refine hq s false ⟨fun q => (by cases q), fun w => ?_⟩ hs
        obtain ⟨h', o, e1, e2⟩ := ham.1 q
        rcases (Wn_eq hu c).1 w with w | ⟨h2, o2, w1, w2⟩
        · exact absurd e2 (w h' o)
        · exact absurd (hall h2 o2 (by have := w1.2.1; omega) w1) w2
      · rw [bI_0] at q
        have q : am = false := by simpa using q
        refine hq s true ⟨fun _ => (Wn_eq hu c).2 (Or.inl (fun h' o e => ?_)), fun _ => rfl⟩ hs
        have := ham.2 ⟨h', o, by have := e.2.1; omega, e⟩
        rw [q] at this
        cases this
    | succ n ih =>
      intro h s am hn h1 hs ham hall
      refine zv153_8 ⟨fun c => ?_, fun _ => ⟨fun c => absurd rfl c, fun _ => ?_⟩⟩
      · simp (disch := omega) only [zlit, nI_leI, nI_ltI, nI_eq, nI_clamp, nI_add, pk_mul, pk_sub, pk_div] at c; omega
      · have hcb : c h ≤ 18 := by
          have h3 := cl18 (c := c) 18 h h1 (by omega)
          have : c h * 1 ≤ c h * h := Nat.mul_le_mul_left _ h1
          omega
        refine sp151 hc h1 (by omega) h43 (zv153_27 ⟨fun q => ?_, fun q => ?_⟩)
        · simp (disch := omega) only [zlit, nI_leI, nI_ltI, nI_eq, nI_clamp, nI_add, pk_mul, pk_sub, pk_div] at q
          rw [nI_1]
          refine ih (h + 1) s am (by omega) (by omega) hs ?_ ?_
          · rw [ham]
            refine ⟨fun ⟨h', o, e1, e2⟩ => ⟨h', o, by omega, e2⟩, fun ⟨h', o, e1, e2⟩ => ⟨h', o, ?_, e2⟩⟩
            by_cases w : h' = h
            · subst w; have := e2.2.2.1; omega
            · omega
          · intro h' o e1 e2
            refine hall h' o ?_ e2
            by_cases w : h' = h
            · subst w; have := e2.2.2.1; omega
            · omega
        · simp (disch := omega) only [zlit, nI_leI, nI_ltI, nI_eq, nI_clamp, nI_add, pk_mul, pk_sub, pk_div] at q
          have hh : h ≤ 2000 := by omega
          have hcu : U h ≤ keyN c ∧ True := ⟨by
            have : ∀ n, h ≤ n → c h * U h ≤ wsm U c n := by
              intro n
              induction n with
              | zero => intro q; omega
              | succ n ih =>
                intro q
                show c h * U h ≤ wsm U c n + c (n + 1) * U (n + 1)
                by_cases w : h = n + 1
                · rw [w]; omega
                · have := ih (by omega); omega
            have h5 := this 18 (by omega)
            have h6 : 1 * U h ≤ c h * U h := Nat.mul_le_mul_right _ (by omega)
            rw [keyN_eq]
            omega, trivial⟩
          obtain ⟨N, e, w⟩ := w_all u hh
          have inner : ∀ N p s S (am : Bool), zwf6 (σ 32) s → zat s h p → wfin u h N p → S ++ wls u h N p = opts u h → (∀ o ∈ S, Wn u (mv c h o)) → (am = true ↔ (∃ h' o, h' < h ∧ isMv u c h' o) ∨ S ≠ []) →
              zRn (d + 3) 153 (36, [.ref 32, .long (lN (keyN c)), zJ, .int (bI am), .int 0, .int (nI h)], [], (49, x, l, zrow σ 32 s, τ, zrho)) Q := by
            have over : ∀ s S (am : Bool), zwf6 (σ 32) s → S = opts u h → (∀ o ∈ S, Wn u (mv c h o)) → (am = true ↔ (∃ h' o, h' < h ∧ isMv u c h' o) ∨ S ≠ []) →
                zRn (d + 3) 153 (8, [.ref 32, .long (lN (keyN c)), zJ, .int (bI am), .int 0, .int (nI h + 1)], [], (49, x, l, zrow σ 32 s, τ, zrho)) Q := by
              intro s S am hs hS hW hA
              rw [nI_1]
              refine ih (h + 1) s am (by omega) (by omega) hs ?_ ?_
              · rw [hA]
                constructor
                · intro q2
                  rcases q2 with ⟨h', o, e1, e2⟩ | q2
                  · exact ⟨h', o, by omega, e2⟩
                  · cases hSS : S with
                    | nil => exact absurd hSS q2
                    | cons o S' => exact ⟨h, o, by omega, h1, by omega, by omega, by rw [← hS, hSS]; exact List.mem_cons_self⟩
                · intro ⟨h', o, e1, e2⟩
                  by_cases w : h' = h
                  · subst w
                    refine Or.inr (fun q3 => ?_)
                    have := e2.2.2.2
                    rw [← hS, q3] at this
                    cases this
                  · exact Or.inl ⟨h', o, by omega, e2⟩
              · intro h' o e1 e2
                by_cases w : h' = h
                · subst w
                  exact hW o (by rw [hS]; exact e2.2.2.2)
                · exact hall h' o (by omega) e2
            intro N
            induction N with
            | zero =>
              intro p s S am h1' h2 h3 h4 hW hA
              refine zv153_36 (sp122 h2 hh h3.2.1 h3.2.2 ?_)
              rw [h3.1]
              refine zv153_40 ⟨fun _ => over s S am h1' (by rw [← h4]; exact (List.append_nil _).symm) hW hA, fun c => absurd (by decide) c⟩
            | succ N ih2 =>
              intro p s S am h1' h2 h3 h4 hW hA
              rcases h3 with h3 | h3
              · refine zv153_36 (sp122 h2 hh h3.2.1 h3.2.2 ?_)
                rw [h3.1]
                have h5 : wls u h (N + 1) p = [] := by show (if _ then _ else _) = _; rw [if_pos h3.1]
                rw [h5, List.append_nil] at h4
                exact zv153_40 ⟨fun _ => over s S am h1' h4 hW hA, fun c => absurd (by decide) c⟩
              · obtain ⟨h5, h6, h7⟩ := h3
                have h8 : wls u h (N + 1) p = (if whr u h p = true then [(p.2.2.1, p.2.2.2.1, p.2.2.2.2.toNat)] else []) ++ wls u h N (adv u h p) := by show (if _ then _ else _) = _; rw [if_neg (by rw [h5]; decide)]
                rw [h8] at h4
                refine zv153_36 (sp122 h2 hh (wok h6 hh).1 (wok h6 hh).2 ?_)
                rw [h5]
                refine zv153_40 ⟨fun c => absurd rfl c, fun _ => ⟨fun c => absurd rfl c, fun _ => ?_⟩⟩
                refine sp123 hu (zwf6_RR h1' hr) h2 hh h6 (zv153_52 ⟨fun q2 => ?_, fun q2 => ?_⟩)
                · rw [bI_0] at q2
                  refine sp124 hu (zwf6_RR h1' hr) h2 hh h6 (fun s' e1 e2 => zv153_122 ?_)
                  rw [zrow_row]
                  rw [if_neg (by rw [q2]; decide), List.nil_append] at h4
                  exact ih2 _ _ S am (h1'.trans e1) e2 h7 h4 hW hA
                · rw [bI_0] at q2
                  have q2 : whr u h p = true := by simpa using q2
                  rw [if_pos q2] at h4
                  have h9 : (p.2.2.2.1 : Int) ≤ p.2.2.2.2 := by
                    unfold whr at q2
                    rw [Bool.and_eq_true] at q2
                    exact of_decide_eq_true q2.1
                  have ho : ((p.2.2.1, p.2.2.2.1, p.2.2.2.2.toNat) : zO) ∈ opts u h := by
                    rw [← h4]
                    exact List.mem_append_right _ (List.mem_append_left _ List.mem_cons_self)
                  have hob := opt_bd hu ho
                  have z9 : (zrow σ 32 s) 32 9 = nI p.2.2.1 := h2.2.2.2.1
                  have z10 : (zrow σ 32 s) 32 10 = nI p.2.2.2.1 := h2.2.2.2.2.1
                  have z11 : (zrow σ 32 s) 32 11 = nI p.2.2.2.2.toNat := by
                    show s 11 = _
                    rw [h2.2.2.2.2.2]
                    exact iI_nat (by omega)
                  have hmv : isMv u c h (p.2.2.1, p.2.2.2.1, p.2.2.2.2.toNat) := ⟨h1, by omega, by omega, ho⟩
                  have ekey := key_mv hu (c := c) h1 (show h ≤ 18 by omega) (by omega) ho
                  have htm := tot_mv hu (n := 18) (c := c) (by omega) h1 (by omega) ho
                  have hlv : Lv (tot c 18) (nhs c 18) (mv c h (p.2.2.1, p.2.2.2.1, p.2.2.2.2.toNat)) := lvl_mv hu (by omega) h1 (by omega) ho
                  have hun : unN h = U h := by unfold unN; rw [if_neg (by omega)]
                  dsimp only at hob ekey
                  refine sp150 (h := h) (by omega) h43 (zv153_73 ?_)
                  rw [z9, hun, lN_sub hcu.1]
                  refine sp150 (h := p.2.2.1) (by omega) h43 (zv153_82 ?_)
                  rw [z10, lN_add]
                  refine sp150 (h := p.2.2.2.1) (by omega) h43 (zv153_91 ?_)
                  rw [z11, lN_add]
                  refine sp150 (h := p.2.2.2.2.toNat) (by omega) h43 (zv153_100 ?_)
                  rw [lN_add, ekey.2]
                  obtain ⟨i', i1, i2⟩ := hK.2.2 (mv c h (p.2.2.1, p.2.2.2.1, p.2.2.2.2.toNat)) (by omega) (Or.inl (by omega))
                  rw [← i2]
                  refine sp148k (n := 1597) (by omega) hH i1 (fun q m q1 m1 q42 mK => zv153_104 ?_)
                  have hmi : m < i := by
                    apply Classical.byContradiction
                    intro hge
                    exact hK.2.1 i m c _ (by omega) m1 hc (by omega) hKi (mK.trans i2) hlv
                  obtain ⟨w2, w3, w4⟩ := hf m _ hmi (by omega) (mK.trans i2)
                  have e42 : (zrow σ 32 s) 42 ((nI q).toNatClampNeg) - 1 = nI m := by
                    rw [nI_clamp (by omega)]
                    have q42' : σ 42 q = nI (m + 1) := q42
                    show σ 42 q - 1 = nI m
                    rw [q42']
                    exact pk_sub (b := 1) (by omega)
                  have e41 : (zrow σ 32 s) 41 ((nI m).toNatClampNeg) = bI w2 := by
                    rw [nI_clamp (by omega)]
                    exact w4
                  rw [e42, e41]
                  refine ⟨vp_in_nI (by omega) (by decide), vp_in_nI (by omega) (by decide), fun q3 => ?_, fun q3 => ?_⟩
                  · rw [bI_0] at q3
                    have q3 : w2 = true := by simpa using q3
                    refine sp124 hu (zwf6_RR h1' hr) h2 hh h6 (fun s' e1 e2 => zv153_122 ?_)
                    rw [zrow_row]
                    refine ih2 _ _ (S ++ [(p.2.2.1, p.2.2.2.1, p.2.2.2.2.toNat)]) true (h1'.trans e1) e2 h7 (by rw [List.append_assoc]; exact h4) (fun o ho' => ?_) ⟨fun _ => Or.inr (fun q4 => by
                      have := congrArg List.length q4
                      rw [List.length_append] at this
                      have : S.length + 1 = 0 := this
                      omega), fun _ => rfl⟩
                    rcases List.mem_append.1 ho' with ho' | ho'
                    · exact hW o ho'
                    · rw [List.mem_singleton.1 ho']; exact w3.1 q3
                  · rw [bI_0] at q3
                    have q3 : w2 = false := by simpa using q3
                    refine sp124 hu (zwf6_RR h1' hr) h2 hh h6 (fun s' e1 e2 => zv153_122 ?_)
                    rw [zrow_row]
                    have lose : ∃ h o, isMv u c h o ∧ ¬ Wn u (mv c h o) := ⟨h, _, hmv, fun q4 => by rw [w3.2 q4] at q3; cases q3⟩
                    have bd := wfin_bd hh h7
                    refine zv153_36 (sp122 e2 hh bd.1 bd.2 (zv153_40 ⟨fun _ => fin1 s' _ _ lose (h1'.trans e1), fun _ => ⟨fun _ => fin1 s' _ _ lose (h1'.trans e1), fun c => absurd (by decide) c⟩⟩))
          refine sp120 (fun s' e1 e2 => ?_)
          rw [zrow_row]
          refine inner N _ s' [] am (hs.trans e1) e2 w (by rw [e]; rfl) (fun o ho => by cases ho) ?_
          rw [ham]
          exact ⟨Or.inl, fun q3 => q3.elim id (fun q4 => absurd rfl q4)⟩
  refine zv153_0 ?_
  have := key 18 1 (σ 32) false (by omega) (by omega) (zwf6.refl _) ⟨fun q => (by cases q), fun ⟨h', o, e1, e2⟩ => by have := e2.1; omega⟩ (fun h' o e1 e2 => by have := e2.1; omega)
  rwa [zrow_id] at this
/-- the reference's list of sums: not yet made, made, made with fortunes -/
def RFk (u : zRu) (s32 : Nat → Int32) (K : Nat → Int64) (s41 s42 : Nat → Int32) : Prop := s32 16 = nI 1597 ∧ HT 1597 K s42 ∧ KB 19 19 1597 K ∧ FM u 1597 K s41
def RF (u : zRu) (s32 : Nat → Int32) (K : Nat → Int64) (s41 s42 s43 : Nat → Int32) : Prop := R43 s43 ∧ ((s32 15 = 0 ∧ s32 16 = nI 0 ∧ HT 0 K s42) ∨ (s32 15 = 0 ∧ s32 16 = nI 1597 ∧ HT 1597 K s42 ∧ KB 19 19 1597 K) ∨ (s32 15 = 1 ∧ RFk u s32 K s41 s42))
def zwf8 (s t : Nat → Int32) : Prop := ∀ j, j ≠ 9 → j ≠ 10 → j ≠ 11 → j ≠ 29 → j ≠ 30 → j ≠ 31 → j ≠ 15 → j ≠ 16 → t j = s j
def KF (σ σ' : Nat → Nat → Int32) : Prop := (∀ b, b ≠ 32 → b ≠ 41 → b ≠ 42 → b ≠ 44 → σ' b = σ b) ∧ zwf8 (σ 32) (σ' 32)
theorem KF.refl (σ : Nat → Nat → Int32) : KF σ σ := ⟨fun _ _ _ _ _ => rfl, fun _ _ _ _ _ _ _ _ _ => rfl⟩
theorem know_w {d x l : Nat} {σ : Nat → Nat → Int32} {τ : Nat → Nat → Int64} {Q : zR → Prop} {u : zRu} (hu : zRok u) (hr : RR u (σ 32) (σ 33) (σ 34) (σ 35)) (h43 : R43 (σ 43)) (h16 : σ 32 16 = nI 1597) (hH : HT 1597 (τ 40) (σ 42)) (hK : KB 19 19 1597 (τ 40))
    (hq : ∀ s a, zwf6 (σ 32) s → FM u 1597 (τ 40) a → Q (.inl none, (49, x, l, zrow (zrow σ 41 a) 32 s, τ, zrho))) :
    zRn (d + 4) 154 (63, [.ref 32, .int (nI 0), zJ], [], (49, x, l, σ, τ, zrho)) Q := by
  have key : ∀ n i s a, i + n = 1597 → zwf6 (σ 32) s → FM u i (τ 40) a → zRn (d + 4) 154 (63, [.ref 32, .int (nI i), zJ], [], (49, x, l, zrow (zrow σ 41 a) 32 s, τ, zrho)) Q := by
    intro n
    induction n with
    | zero =>
      intro i s a hi hs hf
      have hi : i = 1597 := by omega
      subst hi
      have e16 : s 16 = nI 1597 := (hs 16 (by decide) (by decide) (by decide) (by decide) (by decide) (by decide)).trans h16
      refine zv154_63 ⟨fun _ => hq s a hs hf, fun c => ?_⟩
      rw [zrow_me, e16] at c
      exact absurd (Int32.le_refl _) c
    | succ n ih =>
      intro i s a hi hs hf
      have e16 : s 16 = nI 1597 := (hs 16 (by decide) (by decide) (by decide) (by decide) (by decide) (by decide)).trans h16
      obtain ⟨c, c1, c2, c3⟩ := hK.1 i (by omega)
      refine zv154_63 ⟨fun c => ?_, fun _ => ⟨vp_in_nI (by omega) (by decide), ?_⟩⟩
      · rw [zrow_me, e16] at c
        simp (disch := omega) only [zlit, nI_leI, nI_ltI, nI_eq, nI_clamp, nI_add, pk_mul, pk_sub, pk_div] at c; omega
      · rw [nI_clamp (by omega), c2]
        refine sp153 (d := d) (i := i) hu (zwf6_RR hs hr) h43 hH hK c1 c2 hf (fun s' w hw hs' => zv154_86 ?_)
        rw [nI_clamp (by omega), zrow_row, zup_row, nI_1]
        refine ⟨vp_in_nI (by omega) (by decide), bI_01 w, ?_⟩
        have e : zrow (zrow (zrow σ 41 a) 32 s') 41 (upd ((zrow (zrow σ 41 a) 32 s') 41) i (bI w)) = zrow (zrow σ 41 (upd a i (bI w))) 32 s' := by
          rw [zrow_sw _ _ _ (by omega), zrow_row]
          rfl
        rw [e]
        refine ih (i + 1) s' _ (by omega) (hs.trans hs') (fun j c' hj ht hk => ?_)
        by_cases e2 : j = i
        · subst e2
          refine ⟨w, ?_, upd_s rfl⟩
          rw [hw]
          exact Wn_cong (key_inj c1 ht (lN_inj (key_34 c1) (key_34 ht) (c2.symm.trans hk)))
        · rw [pk_un e2]
          exact hf j c' (by omega) ht hk
  have := key 1597 0 (σ 32) (σ 41) (by omega) (zwf6.refl _) (fun j c' hj => absurd hj (by omega))
  rwa [zrow_id, zrow_id] at this
theorem sp154 {d x l : Nat} {σ : Nat → Nat → Int32} {τ : Nat → Nat → Int64} {Q : zR → Prop} {u : zRu} (hu : zRok u) (hr : RR u (σ 32) (σ 33) (σ 34) (σ 35)) (hf : RF u (σ 32) (τ 40) (σ 41) (σ 42) (σ 43))
    (hq : ∀ σ' t, KF σ σ' → σ' 32 15 = 1 → RFk u (σ' 32) t (σ' 41) (σ' 42) → Q (.inl none, (49, x, l, σ', zrowL τ 40 t, zrho))) :
    zRn (d + 4) 154 (0, [.ref 32, zJ, zJ], [], (49, x, l, σ, τ, zrho)) Q := by
  obtain ⟨h43, hf⟩ := hf
  have up : ∀ j, j ≠ 15 → (zrow σ 32 (upd (σ 32) 15 1)) 32 j = σ 32 j := fun j e => by rw [zrow_me, pk_un e]
  have hr' : RR u ((zrow σ 32 (upd (σ 32) 15 1)) 32) (σ 33) (σ 34) (σ 35) := ⟨(up 1 (by decide)).trans hr.1, hr.2⟩
  rcases hf with ⟨a1, a2, a3⟩ | ⟨a1, a2, a3, a4⟩ | ⟨a1, a2⟩
  · refine zv154_0 ⟨fun _ => ⟨fun c => absurd a2 c, fun _ => ?_⟩, fun c => absurd a1 c⟩
    rw [zup_row]
    refine zv154_22 ⟨fun c => absurd c (by decide), fun _ => zv154_30 ⟨fun c => absurd rfl c, fun _ => ⟨fun c => absurd c (by decide), fun _ => ?_⟩⟩⟩
    refine sp152_0 (d := d + 1) (n := 0) (by omega) ((up 16 (by decide)).trans a2) a3 (fun s42 h42 => zv154_49 (zv154_30 ⟨fun c => absurd rfl c, fun _ => ⟨fun _ => ?_, fun c => absurd (by decide) c⟩⟩))
    refine know_T (d := d + 1) (σ := zrow (zrow (zrow σ 32 (upd (σ 32) 15 1)) 42 s42) 32 (upd ((zrow σ 32 (upd (σ 32) 15 1)) 32) 16 (nI (0 + 1)))) h43 (fun σ' t f g16 gH gK => ?_) 18 1 1 _ _ (by omega) (by omega) (AFs.refl _) (by rw [zrow_me, upd_s rfl]) h42 (KB_1 pk_uLs) (by rw [rm_all])
    refine know_w (d := d) (u := u) hu ?_ ?_ g16 ?_ ?_ (fun s a hs ha => ?_)
    · rw [f.1 33 (by decide) (by decide) (by decide), f.1 34 (by decide) (by decide) (by decide), f.1 35 (by decide) (by decide) (by decide)]
      refine ⟨(f.2 1 (by decide)).trans ?_, hr.2⟩
      rw [zrow_me, pk_un (by decide), zrow_me, pk_un (by decide)]
      exact hr.1
    · rw [f.1 43 (by decide) (by decide) (by decide)]; exact h43
    · rw [zrowL_me]; exact gH
    · rw [zrowL_me]; exact gK
    · rw [zrowL_me] at ha
      refine hq _ t ⟨fun b b1 b2 b3 b4 => ?_, fun j j1 j2 j3 j4 j5 j6 j7 j8 => ?_⟩ ?_ ⟨?_, ?_, gK, ?_⟩
      · rw [zrow_ne _ _ b1, zrow_ne _ _ b2, f.1 b b1 b3 b4, zrow_ne _ _ b1, zrow_ne _ _ b3, zrow_ne _ _ b1]
      · rw [zrow_me, hs j j1 j2 j3 j4 j5 j6, f.2 j j8, zrow_me, pk_un j8, zrow_me, pk_un j7]
      · rw [zrow_me, hs 15 (by decide) (by decide) (by decide) (by decide) (by decide) (by decide), f.2 15 (by decide), zrow_me, pk_un (by decide), zrow_me, upd_s rfl]
      · rw [zrow_me, hs 16 (by decide) (by decide) (by decide) (by decide) (by decide) (by decide)]
        exact g16
      · exact gH
      · exact ha
  · refine zv154_0 ⟨fun _ => ⟨fun _ => ?_, fun c => ?_⟩, fun c => absurd a1 c⟩
    · rw [zup_row]
      refine know_w (d := d) (u := u) hu hr' h43 ((up 16 (by decide)).trans a2) a3 a4 (fun s a hs ha => ?_)
      have := hq (zrow (zrow (zrow σ 32 (upd (σ 32) 15 1)) 41 a) 32 s) (τ 40) ⟨fun b b1 b2 b3 b4 => ?_, fun j j1 j2 j3 j4 j5 j6 j7 j8 => ?_⟩ ?_ ⟨?_, a3, a4, ha⟩
      · rwa [zrowL_id] at this
      · rw [zrow_ne _ _ b1, zrow_ne _ _ b2, zrow_ne _ _ b1]
      · rw [zrow_me, hs j j1 j2 j3 j4 j5 j6]; exact up j j7
      · rw [zrow_me, hs 15 (by decide) (by decide) (by decide) (by decide) (by decide) (by decide), zrow_me, upd_s rfl]
      · rw [zrow_me, hs 16 (by decide) (by decide) (by decide) (by decide) (by decide) (by decide)]
        exact (up 16 (by decide)).trans a2
    · rw [a2] at c
      exact absurd (by decide) c
  · refine zv154_0 ⟨fun c => ?_, fun _ => ?_⟩
    · rw [a1] at c
      exact absurd c (by decide)
    · have := hq σ (τ 40) (KF.refl σ) a1 a2
      rwa [zrowL_id] at this
theorem sp155 {d x l : Nat} {σ : Nat → Nat → Int32} {τ : Nat → Nat → Int64} {Q : zR → Prop} {u : zRu} {c : Nat → Nat} (hk : RFk u (σ 32) (τ 40) (σ 41) (σ 42)) (hc : tot c 18 ≤ 18)
    (hq : ∀ w : Bool, (w = true ↔ Wn u c) → Q (.inl (some (.int (bI w))), (49, x, l, σ, τ, zrho))) :
    zRn (d + 1) 155 (0, [.ref 32, .long (lN (keyN c)), zJ], [], (49, x, l, σ, τ, zrho)) Q := by
  obtain ⟨k1, k2, k3, k4⟩ := hk
  obtain ⟨i, i1, i2⟩ := k3.2.2 c hc (Or.inl (by omega))
  rw [← i2]
  refine zv155_0 (sp148k (n := 1597) (by omega) k2 i1 (fun q m q1 m1 q42 mK => zv155_13 ?_))
  obtain ⟨w, w1, w2⟩ := k4 m c m1 hc (mK.trans i2)
  have e42 : σ 42 ((nI q).toNatClampNeg) - 1 = nI m := by
    rw [nI_clamp (by omega), q42]
    exact pk_sub (b := 1) (by omega)
  rw [e42, nI_clamp (by omega), w2]
  exact ⟨vp_in_nI (by omega) (by decide), vp_in_nI (by omega) (by decide), bI_01 w, hq w w1⟩
def ksh (hp : Nat → Nat) : Nat → Nat
  | 0 => 0
  | k + 1 => ksh hp k + unN (hp k)
theorem key_ch {hp : Nat → Nat} : ∀ n, (∀ j, j < n → hp j ≤ 18) → keyN (ch hp n) = ksh hp n := by
  intro n
  induction n with
  | zero => intro _; rw [keyN_eq]; exact wsm_zr U 18 (fun _ _ _ => rfl)
  | succ n ih =>
    intro h
    have e := wsm_add U (c := ch hp (n + 1)) (a := ch hp n) (b := one1 (hp n)) 18 (fun _ _ _ => rfl)
    rw [wsm_one, unN_if (h n (by omega))] at e
    rw [keyN_eq, e, ← keyN_eq, ih (fun j hj => h j (by omega))]
    rfl
theorem sp156 {d x l : Nat} {σ : Nat → Nat → Int32} {τ : Nat → Nat → Int64} {Q : zR → Prop} {u : zRu} {hp : Nat → Nat} (hu : zRok u) (hr : RR u (σ 32) (σ 33) (σ 34) (σ 35)) (hf : RF u (σ 32) (τ 40) (σ 41) (σ 42) (σ 43)) (hh : ∀ k, k < 16 → σ 38 k = nI (hp k)) (hb : ∀ k, k < 16 → hp k ≤ 2000)
    (hq1 : zsum hp 16 ≤ 16 → ∀ (w : Bool) σ' t, (w = true ↔ Wn u (ch hp 16)) → KF (zrow σ 32 (upd (σ 32) 0 (nI 0))) σ' → σ' 32 15 = 1 → RFk u (σ' 32) t (σ' 41) (σ' 42) → Q (.inl (some (.int (bI w))), (49, x, l, σ', zrowL τ 40 t, zrho)))
    (hq0 : ¬ zsum hp 16 ≤ 16 → Q (.inl (some (.int (0))), (49, x, l, zrow σ 32 (upd (σ 32) 0 (nI 1)), τ, zrho))) :
    zRn (d + 5) 156 (0, [.ref 32, zJ, zJ, zJ, zJ], [], (49, x, l, σ, τ, zrho)) Q := by
  have hz : zsum hp 16 ≤ 16 * 2000 := zsum_le hb
  have zs : ∀ n, n ≤ 16 → zsum hp n ≤ n * 2000 := fun n hn => zsum_le (fun k hk => hb k (by omega))
  have up : ∀ j, j ≠ 0 → (zrow σ 32 (upd (σ 32) 0 0)) 32 j = σ 32 j := fun j e => by rw [zrow_me, pk_un e]
  have hr' : RR u ((zrow σ 32 (upd (σ 32) 0 0)) 32) (σ 33) (σ 34) (σ 35) := ⟨(up 1 (by decide)).trans hr.1, hr.2⟩
  have hf' : RF u ((zrow σ 32 (upd (σ 32) 0 0)) 32) (τ 40) (σ 41) (σ 42) (σ 43) := by
    unfold RF RFk at hf ⊢
    rw [up 15 (by decide), up 16 (by decide)]
    exact hf
  refine zv156_0 ?_
  rw [zup_row]
  have key : ∀ n k, k + n = 16 → zRn (d + 5) 156 (9, [.ref 32, .int (nI (zsum hp k)), .int (nI k), zJ, zJ], [], (49, x, l, zrow σ 32 (upd (σ 32) 0 0), τ, zrho)) Q := by
    intro n
    induction n with
    | zero =>
      intro k hk
      have hk : k = 16 := by omega
      subst hk
      refine zv156_9 ⟨fun _ => ⟨fun c => ?_, fun c => ?_⟩, fun c => absurd (by decide) c⟩
      · simp (disch := omega) only [zlit, nI_leI, nI_ltI, nI_eq, nI_clamp, nI_add, pk_mul, pk_sub, pk_div] at c
        have hb18 : ∀ j, j < 16 → hp j ≤ 18 := fun j hj => by have := zsum_ge (hp := hp) 16 j hj; omega
        have ht := tot_ch (b := 18) 16 hb18
        refine sp154 hu hr' hf' (fun σ' t f g15 gk => zv156_54 ?_)
        have h38 : σ' 38 = σ 38 := f.1 38 (by decide) (by decide) (by decide) (by decide)
        have h43 : R43 (σ' 43) := by rw [f.1 43 (by decide) (by decide) (by decide) (by decide)]; exact hf.1
        have loop : ∀ n k, k + n = 16 → zRn (d + 5) 156 (59, [.ref 32, zJ, .long (lN (ksh hp k)), zJ, .int (nI k)], [], (49, x, l, σ', zrowL τ 40 t, zrho)) Q := by
          intro n
          induction n with
          | zero =>
            intro k hk
            have hk : k = 16 := by omega
            subst hk
            refine zv156_59 ⟨fun _ => ?_, fun c => absurd (by decide) c⟩
            rw [← key_ch 16 hb18]
            refine sp155 (d := d + 3) (u := u) (by rw [zrowL_me]; exact gk) (by omega) (fun w hw => zv156_91 ⟨bI_01 w, ?_⟩)
            exact hq1 c w σ' t hw f g15 gk
          | succ n ih =>
            intro k hk
            refine zv156_59 ⟨fun c => ?_, fun _ => ⟨vp_in_nI (by omega) (by decide), ?_⟩⟩
            · simp (disch := omega) only [zlit, nI_leI, nI_ltI, nI_eq, nI_clamp, nI_add, pk_mul, pk_sub, pk_div] at c; omega
            · rw [nI_clamp (by omega), h38, hh k (by omega)]
              refine sp150 (hb18 k (by omega)) h43 (zv156_78 ?_)
              rw [lN_add, nI_1]
              exact ih (k + 1) (by omega)
        exact loop 16 0 (by omega)
      · simp (disch := omega) only [zlit, nI_leI, nI_ltI, nI_eq, nI_clamp, nI_add, pk_mul, pk_sub, pk_div] at c
        refine zv109_0 (zv156_41 ⟨fun _ => ?_, fun c => absurd (by decide) c⟩)
        rw [zup_row, zrow_row, zrow_me, show upd (upd (σ 32) 0 0) 0 1 = upd (σ 32) 0 (nI 1) from by
          funext j
          by_cases w : j = 0
          · rw [upd_s w, upd_s w]; rfl
          · rw [pk_un w, pk_un w, pk_un w]]
        exact hq0 c
    | succ n ih =>
      intro k hk
      have := zs k (by omega)
      refine zv156_9 ⟨fun c => ?_, fun _ => ⟨vp_in_nI (by omega) (by decide), ?_⟩⟩
      · simp (disch := omega) only [zlit, nI_leI, nI_ltI, nI_eq, nI_clamp, nI_add, pk_mul, pk_sub, pk_div] at c; omega
      · rw [nI_clamp (by omega)]
        show zRn _ _ (_, [_, .int (nI (zsum hp k) + σ 38 k), _, _, _], _, _) _
        rw [hh k (by omega), nI_add, nI_1]
        exact ih (k + 1) (by omega)
  exact key 16 0 (by omega)
