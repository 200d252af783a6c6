/-! the class: who wins when the last one to move loses -/
def smO (c : Nat → Nat) : Prop := smOk c ∧ c 17 = 0 ∧ c 18 = 0
def pkd (o : zO) : Nat := rt o 0 + 32 * rt o 1 + 1024 * rt o 2
def fo (u : zRu) (h : Nat) : Nat := zsum (fun j => (opts u j).length) h
def OT (u : zRu) (s20 s21 : Nat → Int32) : Prop := (∀ h, 1 ≤ h → h ≤ 17 → s20 h = nI (fo u h)) ∧ fo u 17 ≤ 900 ∧ ∀ h i o, 1 ≤ h → h ≤ 16 → (opts u h)[i]? = some o → s21 (fo u h + i) = nI (pkd o)
def Memo (u : zRu) (s19 : Nat → Int32) : Prop := ∀ c, smO c → s19 (rk c 16 18) = 0 ∨ (s19 (rk c 16 18) = 1 ∧ Wn u c) ∨ (s19 (rk c 16 18) = 2 ∧ ¬ Wn u c)
def P18 (s18 : Nat → Int32) : Prop := ∀ s y, s ≤ 18 → y ≤ 18 → s18 (y * 19 + s) = nI (Pt s y)
theorem z_inc (f : Nat → Int32) (i : Nat) (v : Int32) (k : Nat) : upd f i (f i + v) k = f k + (if k = i then v else 0) := by
  by_cases e : k = i
  · rw [e, pk_us, if_pos rfl]
  · rw [pk_un e, if_neg e]; simp
theorem z_dec (f : Nat → Int32) (i : Nat) (v : Int32) (k : Nat) : upd f i (f i - v) k = f k - (if k = i then v else 0) := by
  by_cases e : k = i
  · rw [e, pk_us, if_pos rfl]
  · rw [pk_un e, if_neg e]; simp
theorem pkd_0 {o : zO} (h0 : rt o 0 < 32) (h1 : rt o 1 < 32) (h2 : rt o 2 < 32) : nI (pkd o) &&& 31 = nI (rt o 0) ∧ (nI (pkd o) >>> ((5 : Int32) &&& 31)) &&& 31 = nI (rt o 1) ∧ (nI (pkd o) >>> ((10 : Int32) &&& 31)) &&& 31 = nI (rt o 2) := by
  unfold pkd
  refine ⟨?_, ?_, ?_⟩
  · rw [pk_andN (by omega) 5 (by decide)]; congr 1; omega
  · rw [pk_shrN (by omega) _ 5 (by decide), pk_andN (by omega) 5 (by decide)]; congr 1; omega
  · rw [pk_shrN (by omega) _ 10 (by decide), pk_andN (by omega) 5 (by decide)]; congr 1; omega
theorem sp46 {d x l : Nat} {σ : Nat → Nat → Int32} {τ : Nat → Nat → Int64} {Q : zR → Prop} {h : Nat} {o : zO} {v : Int32} (hh : h ≤ 16) (h0 : rt o 0 < 32) (h1 : rt o 1 < 32) (h2 : rt o 2 < 32)
    (hq : ∀ s, (∀ k, s k = σ 22 k - (if k = h then v else 0) + (if k = rt o 0 then v else 0) + (if k = rt o 1 then v else 0) + (if k = rt o 2 then v else 0)) → Q (.inl none, (49, x, l, zrow σ 22 s, τ, zrho))) :
    zRn d 46 (0, [.ref 17, .int (nI h), .int (nI (pkd o)), .int v], [], (49, x, l, σ, τ, zrho)) Q := by
  obtain ⟨e0, e1, e2⟩ := pkd_0 h0 h1 h2
  refine zv46_0 ?_
  rw [e0, e1, e2, nI_clamp (show h < 2 ^ 31 by omega), nI_clamp (show rt o 0 < 2 ^ 31 by omega), nI_clamp (show rt o 1 < 2 ^ 31 by omega), nI_clamp (show rt o 2 < 2 ^ 31 by omega)]
  refine ⟨vp_in_nI (by omega) (by decide), vp_in_nI (by omega) (by decide), vp_in_nI (by omega) (by decide), vp_in_nI (by omega) (by decide), vp_in_nI (by omega) (by decide), vp_in_nI (by omega) (by decide), vp_in_nI (by omega) (by decide), vp_in_nI (by omega) (by decide), ?_⟩
  simp only [zup_row, zrow_row, zrow_me]
  refine hq _ (fun k => ?_)
  rw [z_inc, z_inc, z_inc, z_dec]
theorem rt_cnt {o : zO} (h1 : o.1 ≤ o.2.1) (h2 : o.2.1 ≤ o.2.2) {k : Nat} (hk : 1 ≤ k) : one1 (rt o 0) k + one1 (rt o 1) k + one1 (rt o 2) k = one1 o.1 k + one1 o.2.1 k + one1 o.2.2 k := by
  obtain ⟨a, b, c⟩ := o
  dsimp only at h1 h2 ⊢
  have z : one1 0 k = 0 := by unfold one1; rw [if_neg (by omega)]
  by_cases ha : 0 < a
  · have := rt3 (a := a) (b := b) (c := c) ha (by omega) (by omega)
    rw [this.1, this.2.1, this.2.2]
  · have : a = 0 := by omega
    subst this
    by_cases hb : 0 < b
    · have := rt2 (b := b) (c := c) hb (by omega)
      rw [this.1, this.2.1, this.2.2, z]; omega
    · have : b = 0 := by omega
      subst this
      rw [rt1.1, rt1.2.1, rt1.2.2, z]; omega
theorem z_one (h k : Nat) : (if k = h then (1 : Int32) else 0) = nI (one1 h k) := by
  unfold one1
  split <;> rfl
/-- the heaps of a sum behind a move, and back -/
theorem chg_up {u : zRu} (hu : zRok u) {c : Nat → Nat} {h : Nat} {o : zO} (ho : o ∈ opts u h) (hc : 0 < c h) {k : Nat} (hk : 1 ≤ k) : nI (c k) - (if k = h then (1 : Int32) else 0) + (if k = rt o 0 then (1 : Int32) else 0) + (if k = rt o 1 then (1 : Int32) else 0) + (if k = rt o 2 then (1 : Int32) else 0) = nI (mv c h o k) := by
  have hb := opt_bd hu ho
  rw [z_one, z_one, z_one, z_one]
  have h1 : one1 h k ≤ c k := by
    unfold one1
    split
    · rename_i e; subst e; omega
    · omega
  rw [pk_sub h1, nI_add, nI_add, nI_add]
  congr 1
  unfold mv
  have := rt_cnt hb.2.2.2.1 hb.2.2.2.2.1 hk
  omega
theorem z_onem (h k : Nat) : (if k = h then (-1 : Int32) else 0) = 0 - nI (one1 h k) := by
  unfold one1
  split <;> rfl
theorem chg_dn {u : zRu} (hu : zRok u) {c : Nat → Nat} {h : Nat} {o : zO} (ho : o ∈ opts u h) (hc : 0 < c h) {k : Nat} (hk : 1 ≤ k) : nI (mv c h o k) - (if k = h then (-1 : Int32) else 0) + (if k = rt o 0 then (-1 : Int32) else 0) + (if k = rt o 1 then (-1 : Int32) else 0) + (if k = rt o 2 then (-1 : Int32) else 0) = nI (c k) := by
  have hb := opt_bd hu ho
  rw [z_onem, z_onem, z_onem, z_onem]
  have h1 : one1 h k ≤ c k := by
    unfold one1
    split
    · rename_i e; subst e; omega
    · omega
  have := rt_cnt hb.2.2.2.1 hb.2.2.2.2.1 hk
  simp only [nI_iI, show (0 : Int32) = iI 0 from rfl, iI_sub, iI_add]
  congr 1
  unfold mv
  omega
def L2 (σ : Nat → Nat → Int32) (a b : Nat → Int32) : Nat → Nat → Int32 := zrow (zrow σ 19 a) 22 b
theorem L2_22 (σ : Nat → Nat → Int32) (a b t : Nat → Int32) : zrow (L2 σ a b) 22 t = L2 σ a t := zrow_row _ _ _ _
theorem L2_19 (σ : Nat → Nat → Int32) (a b t : Nat → Int32) : zrow (L2 σ a b) 19 t = L2 σ t b := by
  unfold L2
  rw [zrow_sw _ _ _ (by decide), zrow_row]
theorem L2_id (σ : Nat → Nat → Int32) : L2 σ (σ 19) (σ 22) = σ := by
  unfold L2
  rw [show zrow σ 19 (σ 19) = σ from zrow_id σ 19, zrow_id]
theorem L2_L2 (σ : Nat → Nat → Int32) (a b c d : Nat → Int32) : L2 (L2 σ a b) c d = L2 σ c d := by
  show zrow (zrow (L2 σ a b) 19 c) 22 d = _
  rw [L2_19, L2_22]
theorem fo_S (u : zRu) (h : Nat) : fo u (h + 1) = fo u h + (opts u h).length := rfl
theorem fo_mono (u : zRu) : ∀ m h, fo u h ≤ fo u (h + m) := by
  intro m
  induction m with
  | zero => intro h; exact Nat.le_refl _
  | succ m ih => intro h; have := ih h; show fo u h ≤ fo u (h + m) + (opts u (h + m)).length; omega
theorem cl18 {c : Nat → Nat} : ∀ n k, 1 ≤ k → k ≤ n → c k * k ≤ tot c n := by
  intro n
  induction n with
  | zero => intro k h1 h2; omega
  | succ n ih =>
    intro k h1 h2
    have e : tot c (n + 1) = tot c n + c (n + 1) * (n + 1) := rfl
    by_cases q : k = n + 1
    · subst q; omega
    · have := ih k h1 (by omega); omega
theorem cl_le {c : Nat → Nat} (hc : smOk c) {k : Nat} (h1 : 1 ≤ k) (h2 : k ≤ 16) : c k ≤ 18 := by
  have h3 := cl18 (c := c) 16 k h1 h2
  have h4 : c k * 1 ≤ c k * k := Nat.mul_le_mul_left _ h1
  unfold smOk at hc
  omega
theorem sp44 {d x l : Nat} {σ : Nat → Nat → Int32} {τ : Nat → Nat → Int64} {Q : zR → Prop} {u : zRu} {c : Nat → Nat} (hc : smO c) (hot : OT u (σ 20) (σ 21)) (h22 : ∀ k, 1 ≤ k → k ≤ 16 → σ 22 k = nI (c k))
    (hq1 : (∃ h o, isMv u c h o) → Q (.inl (some (.int (1))), (49, x, l, σ, τ, zrho))) (hq0 : (∀ h o, ¬ isMv u c h o) → Q (.inl (some (.int (0))), (49, x, l, σ, τ, zrho))) :
    zRn d 44 (0, [.ref 17, zJ], [], (49, x, l, σ, τ, zrho)) Q := by
  have f17 := hot.2.1
  have key : ∀ m k, k + m = 16 → (∀ h o, h ≤ k → ¬ isMv u c h o) → zRn d 44 (2, [.ref 17, .int (nI (k + 1))], [], (49, x, l, σ, τ, zrho)) Q := by
    intro m
    induction m with
    | zero =>
      intro k hk hn
      refine zv44_2 ⟨fun _ => hq0 (fun h o hm => ?_), fun q => ?_⟩
      · by_cases e : h ≤ k
        · exact hn h o e hm
        · have h17 := hc.2.1
          have h18 := hc.2.2
          have e2 : h = 17 ∨ h = 18 := by have := hm.2.1; omega
          have := hm.2.2.1
          rcases e2 with e2 | e2 <;> subst e2 <;> omega
      · simp (disch := omega) only [zlit, nI_leI, nI_ltI, nI_eq, nI_clamp, nI_add, pk_mul, pk_sub, pk_div] at q; omega
    | succ m ih =>
      intro k hk hn
      have h1 := cl_le hc.1 (show 1 ≤ k + 1 by omega) (by omega)
      have m1 := fo_mono u (17 - (k + 2)) (k + 2)
      rw [show k + 2 + (17 - (k + 2)) = 17 by omega] at m1
      have e1 : fo u (k + 2) = fo u (k + 1) + (opts u (k + 1)).length := rfl
      have next : (∀ o, ¬ isMv u c (k + 1) o) → zRn d 44 (2, [.ref 17, .int (nI (k + 1) + 1)], [], (49, x, l, σ, τ, zrho)) Q := by
        intro hno
        rw [nI_1]
        refine ih (k + 1) (by omega) (fun h o hh => ?_)
        by_cases e : h = k + 1
        · subst e; exact hno o
        · exact hn h o (by omega)
      refine zv44_2 ⟨fun q => ?_, fun _ => ⟨vp_in_nI (by omega) (by decide), fun q => ?_, fun q => ⟨vp_in_nI (by omega) (by decide), ?_⟩⟩⟩
      · simp (disch := omega) only [zlit, nI_leI, nI_ltI, nI_eq, nI_clamp, nI_add, pk_mul, pk_sub, pk_div] at q; omega
      · rw [nI_clamp (by omega), h22 (k + 1) (by omega) (by omega)] at q
        simp (disch := omega) only [zlit, nI_leI, nI_ltI, nI_eq, nI_clamp, nI_add, pk_mul, pk_sub, pk_div] at q
        exact next (fun o hm => by have := hm.2.2.1; omega)
      · rw [nI_clamp (by omega), h22 (k + 1) (by omega) (by omega)] at q
        simp (disch := omega) only [zlit, nI_leI, nI_ltI, nI_eq, nI_clamp, nI_add, pk_mul, pk_sub, pk_div] at q
        rw [nI_1]
        refine ⟨vp_in_nI (by omega) (by decide), fun q2 => ?_, fun q2 => ?_⟩
        · rw [nI_clamp (by omega), nI_clamp (by omega), hot.1 _ (by omega) (by omega), hot.1 _ (by omega) (by omega), show k + 1 + 1 = k + 2 from rfl] at q2
          simp (disch := omega) only [nI_leI] at q2
          have := next (fun o hm => by
            have : (opts u (k + 1)).length = 0 := by omega
            rw [List.length_eq_zero_iff] at this
            have h5 := hm.2.2.2
            rw [this] at h5
            exact absurd h5 List.not_mem_nil)
          rw [nI_1] at this
          exact this
        · rw [nI_clamp (by omega), nI_clamp (by omega), hot.1 _ (by omega) (by omega), hot.1 _ (by omega) (by omega), show k + 1 + 1 = k + 2 from rfl] at q2
          simp (disch := omega) only [nI_leI] at q2
          obtain ⟨o, ho⟩ : ∃ o, o ∈ opts u (k + 1) := ⟨_, List.getElem_mem (show 0 < (opts u (k + 1)).length by omega)⟩
          exact hq1 ⟨k + 1, o, by omega, by omega, by omega, ho⟩
  exact zv44_0 (key 16 0 rfl (fun h o hh hm => by have := hm.1; omega))
theorem smO_mv {u : zRu} (hu : zRok u) {c : Nat → Nat} {h : Nat} {o : zO} (hc : smO c) (h1 : 1 ≤ h) (h2 : h ≤ 16) (h3 : 0 < c h) (ho : o ∈ opts u h) : smO (mv c h o) := by
  have hb := opt_bd hu ho
  have := tot_mv hu (n := 16) h2 h1 h3 ho
  refine ⟨?_, ?_, ?_⟩
  · have := hc.1; unfold smOk at this ⊢; omega
  · unfold mv one1
    rw [if_neg (by omega), if_neg (by omega), if_neg (by omega), if_neg (by omega), hc.2.1]
  · unfold mv one1
    rw [if_neg (by omega), if_neg (by omega), if_neg (by omega), if_neg (by omega), hc.2.2]
theorem sp43 {u : zRu} (hu : zRok u) : ∀ (n dp : Nat) (c : Nat → Nat) {d x l : Nat} {σ : Nat → Nat → Int32} {τ : Nat → Nat → Int64} {Q : zR → Prop}, ms c 16 ≤ n → n + dp ≤ 36 → smO c → P18 (σ 18) → OT u (σ 20) (σ 21) → Memo u (σ 19) → (∀ k, 1 ≤ k → k ≤ 16 → σ 22 k = nI (c k)) →
    (Wn u c → ∀ a b, Memo u a → (∀ k, 1 ≤ k → k ≤ 16 → b k = nI (c k)) → Q (.inl (some (.int (1))), (49, x, l, L2 σ a b, τ, zrho))) →
    (¬ Wn u c → ∀ a b, Memo u a → (∀ k, 1 ≤ k → k ≤ 16 → b k = nI (c k)) → Q (.inl (some (.int (0))), (49, x, l, L2 σ a b, τ, zrho))) →
    zRn (d + 2 * n + 3) 43 (0, [.ref 17, .int (nI dp), zJ], [], (49, x, l, σ, τ, zrho)) Q := by
  intro n
  induction n with
  | zero =>
    intro dp c d x l σ τ Q hms hdp hc h18 hot hme h22 hq1 hq0
    -- no counters: no move
    have hr : rk c 16 18 < 1597 := by
      have := rk_lt c 16 18 hc.1
      have := Pt_18
      omega
    have nomv : ∀ h o, ¬ isMv u c h o := by
      intro h o hm
      have h16 : h ≤ 16 := by
        by_cases e : h ≤ 16
        · exact e
        · have e2 : h = 17 ∨ h = 18 := by have := hm.2.1; omega
          have := hm.2.2.1
          have h17 := hc.2.1
          have h18 := hc.2.2
          rcases e2 with e2 | e2 <;> subst e2 <;> omega
      have := ms_mv hu (n := 16) h16 hm.1 hm.2.2.1 hm.2.2.2
      omega
    have hw : Wn u c := (Wn_eq hu c).mpr (Or.inl nomv)
    refine zv43_0 (sp47 hc.1 h18 h22 (zv43_4 ⟨fun q => ?_, fun _ => ⟨fun _ => ⟨vp_in_nI hr (by decide), ?_⟩, fun q => ?_⟩⟩))
    · simp (disch := omega) only [zlit, nI_leI, nI_ltI, nI_eq, nI_clamp, nI_add, pk_mul, pk_sub, pk_div] at q; omega
    · rw [nI_clamp (by omega)]
      refine ⟨fun q => ⟨vp_in_nI hr (by decide), fun q2 => ?_, fun q2 => ?_⟩, fun q => ?_⟩
      · rcases hme c hc with w | w | w
        · exact absurd w q
        · exact absurd w.1 q2
        · exact absurd hw w.2
      · have := hq1 hw (σ 19) (σ 22) hme h22
        rw [L2_id] at this
        exact this
      · refine sp44 hc hot h22 (fun ⟨h, o, hm⟩ => absurd hm (nomv h o)) (fun _ => zv43_38 ⟨fun _ => ⟨vp_in_nI hr (by decide), vp_in_nI hr (by decide), ?_⟩, fun q => absurd rfl q⟩)
        rw [nI_clamp (by omega), pk_us]
        refine ⟨fun q => absurd rfl q, fun _ => ?_⟩
        rw [zup_row]
        have := hq1 hw (upd (σ 19) (rk c 16 18) 1) (σ 22) (fun c' hc' => ?_) h22
        · unfold L2 at this
          rw [show zrow (zrow σ 19 (upd (σ 19) (rk c 16 18) 1)) 22 (σ 22) = zrow σ 19 (upd (σ 19) (rk c 16 18) 1) from by rw [zrow_sw _ _ _ (by decide), show zrow σ 22 (σ 22) = σ from zrow_id σ 22]] at this
          exact this
        · by_cases e : rk c' 16 18 = rk c 16 18
          · rw [e, pk_us]
            refine Or.inr (Or.inl ⟨rfl, (Wn_cong (fun k k1 k2 => ?_)).mp hw⟩)
            by_cases e2 : k ≤ 16
            · exact rk_inj 16 18 hc.1 hc'.1 e.symm k k1 e2
            · have e3 : k = 17 ∨ k = 18 := by omega
              rcases e3 with e3 | e3 <;> subst e3
              · rw [hc.2.1, hc'.2.1]
              · rw [hc.2.2, hc'.2.2]
          · rw [pk_un e]; exact hme c' hc'
    · simp (disch := omega) only [zlit, nI_leI, nI_ltI, nI_eq, nI_clamp, nI_add, pk_mul, pk_sub, pk_div] at q; omega
  | succ n ih =>
    intro dp c d x l σ τ Q hms hdp hc h18 hot hme h22 hq1 hq0
    have hr : rk c 16 18 < 1597 := by
      have := rk_lt c 16 18 hc.1
      have := Pt_18
      omega
    have h16 : ∀ h o, isMv u c h o → h ≤ 16 := by
      intro h o hm
      by_cases e : h ≤ 16
      · exact e
      · have e2 : h = 17 ∨ h = 18 := by have := hm.2.1; omega
        have := hm.2.2.1
        have h17 := hc.2.1
        have h18 := hc.2.2
        rcases e2 with e2 | e2 <;> subst e2 <;> omega
    have memo_up : ∀ a (v : Int32), Memo u a → ((v = 1 ∧ Wn u c) ∨ (v = 2 ∧ ¬ Wn u c)) → Memo u (upd a (rk c 16 18) v) := by
      intro a v ha hv c' hc'
      by_cases e : rk c' 16 18 = rk c 16 18
      · rw [e, pk_us]
        have hcg : Wn u c ↔ Wn u c' := Wn_cong (fun k k1 k2 => by
          by_cases e2 : k ≤ 16
          · exact rk_inj 16 18 hc.1 hc'.1 e.symm k k1 e2
          · have e3 : k = 17 ∨ k = 18 := by omega
            rcases e3 with e3 | e3 <;> subst e3
            · rw [hc.2.1, hc'.2.1]
            · rw [hc.2.2, hc'.2.2])
        rcases hv with hv | hv
        · exact Or.inr (Or.inl ⟨hv.1, hcg.mp hv.2⟩)
        · exact Or.inr (Or.inr ⟨hv.1, fun w => hv.2 (hcg.mpr w)⟩)
      · rw [pk_un e]; exact ha c' hc'
    have f17 := hot.2.1
    -- the loop over moves
    have good : ∀ (P : zR → Prop),
        (∀ a b, (∃ h o, isMv u c h o ∧ ¬ Wn u (mv c h o)) → Memo u a → (∀ k, 1 ≤ k → k ≤ 16 → b k = nI (c k)) → P (.inl (some (.int (1))), (49, x, l, L2 σ a b, τ, zrho))) →
        (∀ a b, (∀ h o, isMv u c h o → Wn u (mv c h o)) → Memo u a → (∀ k, 1 ≤ k → k ≤ 16 → b k = nI (c k)) → P (.inl (some (.int (0))), (49, x, l, L2 σ a b, τ, zrho))) →
        zRn (d + 2 * (n + 1) + 2) 45 (0, [.ref 17, .int (nI dp), zJ, zJ, zJ, zJ], [], (49, x, l, σ, τ, zrho)) P := by
      intro P p1 p0
      have outer : ∀ m k a b, k + m = 16 → Memo u a → (∀ k, 1 ≤ k → k ≤ 16 → b k = nI (c k)) → (∀ h o, h ≤ k → isMv u c h o → Wn u (mv c h o)) →
          zRn (d + 2 * (n + 1) + 2) 45 (2, [.ref 17, .int (nI dp), .int (nI (k + 1)), zJ, zJ, zJ], [], (49, x, l, L2 σ a b, τ, zrho)) P := by
        intro m
        induction m with
        | zero =>
          intro k a b hk ha hb hn
          refine zv45_2 ⟨fun _ => p0 a b (fun h o hm => hn h o (by have := h16 h o hm; omega) hm) ha hb, fun q => ?_⟩
          simp (disch := omega) only [zlit, nI_leI, nI_ltI, nI_eq, nI_clamp, nI_add, pk_mul, pk_sub, pk_div] at q; omega
        | succ m ihm =>
          intro k a b hk ha hb hn
          have hck := cl_le hc.1 (show 1 ≤ k + 1 by omega) (by omega)
          have m1 := fo_mono u (17 - (k + 2)) (k + 2)
          rw [show k + 2 + (17 - (k + 2)) = 17 by omega] at m1
          have e1 : fo u (k + 2) = fo u (k + 1) + (opts u (k + 1)).length := rfl
          have inner : 0 < c (k + 1) → ∀ m2 i a b, i + m2 = (opts u (k + 1)).length → Memo u a → (∀ k, 1 ≤ k → k ≤ 16 → b k = nI (c k)) → (∀ j o, j < i → (opts u (k + 1))[j]? = some o → Wn u (mv c (k + 1) o)) →
              zRn (d + 2 * (n + 1) + 2) 45 (38, [.ref 17, .int (nI dp), .int (nI (k + 1)), .int (nI (fo u (k + 2))), .int (nI (fo u (k + 1) + i)), zJ], [], (49, x, l, L2 σ a b, τ, zrho)) P := by
            intro hc0 m2
            induction m2 with
            | zero =>
              intro i a b hi ha hb hj
              refine zv45_38 ⟨fun _ => ?_, fun q => ?_⟩
              · rw [nI_1]
                refine ihm (k + 1) a b (by omega) ha hb (fun h o hh hm => ?_)
                by_cases e : h = k + 1
                · subst e
                  obtain ⟨j, hj2⟩ := List.getElem?_of_mem hm.2.2.2
                  have := (List.getElem?_eq_some_iff.mp hj2).1
                  exact hj j o (by omega) hj2
                · exact hn h o (by omega) hm
              · simp (disch := omega) only [nI_leI] at q
                omega
            | succ m2 ih2 =>
              intro i a b hi ha hb hj
              obtain ⟨o, ho⟩ : ∃ o, (opts u (k + 1))[i]? = some o := ⟨_, List.getElem?_eq_getElem (by omega)⟩
              have hom := List.mem_of_getElem? ho
              have hob := opt_bd hu hom
              have r0 := rt_le (w := 0) (b := 16) (show o.1 ≤ 16 by omega) (by omega) (by omega)
              have r1 := rt_le (w := 1) (b := 16) (show o.1 ≤ 16 by omega) (by omega) (by omega)
              have r2 := rt_le (w := 2) (b := 16) (show o.1 ≤ 16 by omega) (by omega) (by omega)
              have hrow : σ 21 ((nI (fo u (k + 1) + i)).toNatClampNeg) = nI (pkd o) := by
                rw [nI_clamp (by omega)]
                exact hot.2.2 (k + 1) i o (by omega) (by omega) ho
              refine zv45_38 ⟨fun q => ?_, fun _ => ⟨vp_in_nI (by omega) (by decide), ?_⟩⟩
              · simp (disch := omega) only [nI_leI] at q
                omega
              · show zRn (d + 2 * (n + 1) + 1) 46 (0, [.ref 17, .int (nI (k + 1)), .int (σ 21 ((nI (fo u (k + 1) + i)).toNatClampNeg)), .int 1], [], _) _
                rw [hrow]
                refine sp46 (by omega) (by omega) (by omega) (by omega) (fun b1 hb1 => zv45_57 ?_)
                rw [L2_22, nI_1]
                have hb2 : ∀ q, 1 ≤ q → q ≤ 16 → b1 q = nI (mv c (k + 1) o q) := by
                  intro q q1 q2
                  have := hb1 q
                  rw [this, show L2 σ a b 22 q = b q from rfl, hb q q1 q2]
                  exact chg_up hu hom hc0 q1
                have hmsl := ms_mv hu (c := c) (n := 16) (show k + 1 ≤ 16 by omega) (by omega) hc0 hom
                have back : ∀ (a2 b2 : Nat → Int32) (w : Int32), Memo u a2 → (∀ q, 1 ≤ q → q ≤ 16 → b2 q = nI (mv c (k + 1) o q)) →
                    (∀ b3, (∀ q, 1 ≤ q → q ≤ 16 → b3 q = nI (c q)) → zRn (d + 2 * (n + 1) + 2) 45 (79, [.ref 17, .int (nI dp), .int (nI (k + 1)), .int (nI (fo u (k + 2))), .int (nI (fo u (k + 1) + i)), .int w], [], (49, x, l, L2 σ a2 b3, τ, zrho)) P) →
                    zRn (d + 2 * (n + 1) + 2) 45 (64, [.ref 17, .int (nI dp), .int (nI (k + 1)), .int (nI (fo u (k + 2))), .int (nI (fo u (k + 1) + i)), zJ], [.int w], (49, x, l, L2 σ a2 b2, τ, zrho)) P := by
                  intro a2 b2 w ha2 hb3 hk2
                  refine zv45_64 ⟨vp_in_nI (by omega) (by decide), ?_⟩
                  show zRn (d + 2 * (n + 1) + 1) 46 (0, [.ref 17, .int (nI (k + 1)), .int (σ 21 ((nI (fo u (k + 1) + i)).toNatClampNeg)), .int (-1)], [], _) _
                  rw [hrow]
                  refine sp46 (by omega) (by omega) (by omega) (by omega) (fun b4 hb4 => ?_)
                  rw [L2_22]
                  refine hk2 b4 (fun q q1 q2 => ?_)
                  have := hb4 q
                  rw [this, show L2 σ a2 b2 22 q = b2 q from rfl, hb3 q q1 q2]
                  exact chg_dn hu hom hc0 q1
                have hd : d + 2 * (n + 1) + 1 = d + 2 * n + 3 := by omega
                rw [hd]
                refine ih (dp + 1) (mv c (k + 1) o) (by omega) (by omega) (smO_mv hu hc (by omega) (by omega) hc0 hom) h18 hot ha hb2 (fun hwn a2 b2 ha2 hb3 => ?_) (fun hwn a2 b2 ha2 hb3 => ?_)
                · rw [L2_L2]
                  refine back a2 b2 1 ha2 hb3 (fun b3 hb5 => zv45_79 ⟨fun _ => ?_, fun q => absurd (by decide) q⟩)
                  rw [nI_1]
                  refine ih2 (i + 1) a2 b3 (by omega) ha2 hb5 (fun j o2 hj2 ho2 => ?_)
                  by_cases e : j = i
                  · subst e
                    rw [ho] at ho2
                    cases ho2
                    exact hwn
                  · exact hj j o2 (by omega) ho2
                · rw [L2_L2]
                  refine back a2 b2 0 ha2 hb3 (fun b3 hb5 => zv45_79 ⟨fun q => absurd rfl q, fun _ => ?_⟩)
                  exact p1 a2 b3 ⟨k + 1, o, ⟨by omega, by omega, hc0, hom⟩, hwn⟩ ha2 hb5
          have s20a : (L2 σ a b) 20 (k + 1) = nI (fo u (k + 1)) := hot.1 _ (by omega) (by omega)
          have s20b : (L2 σ a b) 20 (k + 2) = nI (fo u (k + 2)) := hot.1 _ (by omega) (by omega)
          have s22a : (L2 σ a b) 22 (k + 1) = nI (c (k + 1)) := hb _ (by omega) (by omega)
          refine zv45_2 ⟨fun q => ?_, fun _ => ⟨vp_in_nI (by omega) (by decide), fun q => ⟨vp_in_nI (by omega) (by decide), ?_⟩, fun q => ?_⟩⟩
          · simp (disch := omega) only [zlit, nI_leI, nI_ltI, nI_eq, nI_clamp, nI_add, pk_mul, pk_sub, pk_div] at q; omega
          · rw [nI_clamp (by omega), s22a] at q
            simp (disch := omega) only [zlit, nI_leI, nI_ltI, nI_eq, nI_clamp, nI_add, pk_mul, pk_sub, pk_div] at q
            rw [nI_clamp (by omega), s20a]
            refine zv45_38 ⟨fun _ => ?_, fun q2 => ?_⟩
            · rw [nI_1]
              refine ihm (k + 1) a b (by omega) ha hb (fun h o hh hm => ?_)
              by_cases e : h = k + 1
              · subst e; have := hm.2.2.1; omega
              · exact hn h o (by omega) hm
            · simp (disch := omega) only [zlit, nI_leI, nI_ltI, nI_eq, nI_clamp, nI_add, pk_mul, pk_sub, pk_div] at q2; omega
          · rw [nI_clamp (by omega), s22a] at q
            simp (disch := omega) only [zlit, nI_leI, nI_ltI, nI_eq, nI_clamp, nI_add, pk_mul, pk_sub, pk_div] at q
            rw [nI_1, nI_clamp (by omega), nI_clamp (by omega), s20a, s20b]
            refine ⟨vp_in_nI (by omega) (by decide), vp_in_nI (by omega) (by decide), ?_⟩
            exact inner (by omega) (opts u (k + 1)).length 0 a b (by omega) ha hb (fun j o hj _ => by omega)
      have := outer 16 0 (σ 19) (σ 22) rfl hme h22 (fun h o hh hm => by have := hm.1; omega)
      rw [L2_id] at this
      exact zv45_0 this
    refine zv43_0 (sp47 hc.1 h18 h22 (zv43_4 ⟨fun q => ?_, fun _ => ⟨fun _ => ⟨vp_in_nI hr (by decide), ?_⟩, fun q => ?_⟩⟩))
    · simp (disch := omega) only [zlit, nI_leI, nI_ltI, nI_eq, nI_clamp, nI_add, pk_mul, pk_sub, pk_div] at q; omega
    · rw [nI_clamp (by omega)]
      refine ⟨fun q => ⟨vp_in_nI hr (by decide), fun q2 => ?_, fun q2 => ?_⟩, fun q => ?_⟩
      · rcases hme c hc with w | w | w
        · exact absurd w q
        · exact absurd w.1 q2
        · have := hq0 w.2 (σ 19) (σ 22) hme h22
          rw [L2_id] at this
          exact this
      · rcases hme c hc with w | w | w
        · exact absurd w q
        · have := hq1 w.2 (σ 19) (σ 22) hme h22
          rw [L2_id] at this
          exact this
        · exfalso
          apply q2
          rw [w.1]; decide
      · have wr : ∀ (a b : Nat → Int32) (v : Int32), v = 1 → Wn u c → Memo u a → (∀ k, 1 ≤ k → k ≤ 16 → b k = nI (c k)) → Q (.inl (some (.int (1))), (49, x, l, zrow (L2 σ a b) 19 (upd a (rk c 16 18) v), τ, zrho)) := by
          intro a b v hv hw ha hb
          rw [L2_19]
          exact hq1 hw _ b (memo_up a v ha (Or.inl ⟨hv, hw⟩)) hb
        refine sp44 hc hot h22 (fun hex => zv43_38 ⟨fun q => absurd q (by decide), fun _ => ?_⟩) (fun hno => zv43_38 ⟨fun _ => ⟨vp_in_nI hr (by decide), vp_in_nI hr (by decide), ?_⟩, fun q => absurd rfl q⟩)
        · refine good _ (fun a b hex2 ha hb => zv43_46 ⟨fun q => absurd q (by decide), fun _ => ⟨vp_in_nI hr (by decide), vp_in_nI hr (by decide), ?_⟩⟩) (fun a b hall ha hb => zv43_46 ⟨fun _ => ⟨vp_in_nI hr (by decide), vp_in_nI hr (by decide), ?_⟩, fun q => absurd rfl q⟩)
          · rw [nI_clamp (by omega), pk_us]
            refine ⟨fun q => absurd rfl q, fun _ => ?_⟩
            rw [zup_row]
            exact wr a b 1 rfl ((Wn_eq hu c).mpr (Or.inr hex2)) ha hb
          · rw [nI_clamp (by omega), pk_us]
            have hw : ¬ Wn u c := by
              intro w
              rcases (Wn_eq hu c).mp w with w | ⟨h, o, w1, w2⟩
              · obtain ⟨h, o, hm⟩ := hex; exact w h o hm
              · exact w2 (hall h o w1)
            refine ⟨fun _ => ?_, fun q => absurd (by decide) q⟩
            rw [zup_row, L2_19]
            exact hq0 hw _ b (memo_up a 2 ha (Or.inr ⟨rfl, hw⟩)) hb
        · rw [nI_clamp (by omega), pk_us]
          refine ⟨fun q => absurd rfl q, fun _ => ?_⟩
          rw [zup_row]
          have := wr (σ 19) (σ 22) 1 rfl ((Wn_eq hu c).mpr (Or.inl hno)) hme h22
          rw [L2_id] at this
          exact this
    · simp (disch := omega) only [zlit, nI_leI, nI_ltI, nI_eq, nI_clamp, nI_add, pk_mul, pk_sub, pk_div] at q; omega
