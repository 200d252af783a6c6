/-! the reference: sums as numbers -/
def shl : List Nat := [0, 0, 5, 9, 12, 15, 17, 19, 21, 23, 25, 26, 27, 28, 29, 30, 31, 32, 33, 34]
def sh (h : Nat) : Nat := shl.getD h 0
def wd (h : Nat) : Nat := sh (h + 1) - sh h
def U (h : Nat) : Nat := 2 ^ sh h
def keyN (c : Nat → Nat) : Nat := wsm U c 18
theorem keyN_eq (c : Nat → Nat) : keyN c = wsm U c 18 := rfl
theorem wsm_S (f c : Nat → Nat) (n : Nat) : wsm f c (n + 1) = wsm f c n + c (n + 1) * f (n + 1) := rfl
theorem U_eq (h : Nat) : U h = 2 ^ sh h := rfl
theorem sh_S : ∀ h, h < 18 → sh (h + 1) + wd (h + 1) = sh (h + 2) ∧ sh (h + 2) ≤ 34 := by decide +kernel
theorem wd_fit : ∀ h, h < 18 → 18 / (h + 1) < 2 ^ wd (h + 1) := by decide +kernel
theorem cnt_fit {c : Nat → Nat} (hc : tot c 18 ≤ 18) {h : Nat} (h1 : h < 18) : c (h + 1) < 2 ^ wd (h + 1) := by
  have h3 := cl18 (c := c) 18 (h + 1) (by omega) (by omega)
  have h4 : c (h + 1) ≤ 18 / (h + 1) := (Nat.le_div_iff_mul_le (by omega)).mpr (by omega)
  have := wd_fit h h1
  omega
theorem key_lt {c : Nat → Nat} (hc : tot c 18 ≤ 18) : ∀ h, h ≤ 18 → wsm U c h < 2 ^ sh (h + 1) := by
  intro h
  induction h with
  | zero => intro _; show 0 < 2 ^ 0; decide
  | succ h ih =>
    intro hh
    have h1 := ih (by omega)
    have h2 := cnt_fit hc (show h < 18 by omega)
    have h3 := (sh_S h (by omega)).1
    show wsm U c h + c (h + 1) * U (h + 1) < 2 ^ sh (h + 2)
    rw [← h3, Nat.pow_add, show U (h + 1) = 2 ^ sh (h + 1) from rfl]
    have h4 : (c (h + 1) + 1) * 2 ^ sh (h + 1) ≤ 2 ^ wd (h + 1) * 2 ^ sh (h + 1) := Nat.mul_le_mul_right _ h2
    rw [Nat.add_mul, Nat.one_mul, Nat.mul_comm (2 ^ wd (h + 1))] at h4
    omega
theorem key_tail {c : Nat → Nat} : ∀ m h, h + m = 18 → ∃ R, keyN c = wsm U c h + 2 ^ sh (h + 1) * R := by
  intro m
  induction m with
  | zero => intro h hh; rw [show h = 18 by omega]; exact ⟨0, by rw [Nat.mul_zero, Nat.add_zero]; exact keyN_eq c⟩
  | succ m ih =>
    intro h hh
    obtain ⟨R, hR⟩ := ih (h + 1) (by omega)
    have h3 := (sh_S h (by omega)).1
    refine ⟨c (h + 1) + 2 ^ wd (h + 1) * R, ?_⟩
    rw [hR, wsm_S, U_eq, show h + 1 + 1 = h + 2 from rfl, ← h3, Nat.pow_add, Nat.mul_add, ← Nat.mul_assoc, Nat.mul_comm (c (h + 1))]
    omega
theorem key_cnt {c : Nat → Nat} (hc : tot c 18 ≤ 18) {h : Nat} (h1 : 1 ≤ h) (h2 : h ≤ 18) : keyN c / 2 ^ sh h % 2 ^ wd h = c h := by
  obtain ⟨k, e⟩ : ∃ k, h = k + 1 := ⟨h - 1, by omega⟩
  subst e
  obtain ⟨R, hR⟩ := key_tail (c := c) (18 - (k + 1)) (k + 1) (by omega)
  have h3 := (sh_S k (by omega)).1
  have h4 := key_lt hc k (by omega)
  have h5 := cnt_fit hc (show k < 18 by omega)
  have e1 : keyN c = wsm U c k + 2 ^ sh (k + 1) * (c (k + 1) + 2 ^ wd (k + 1) * R) := by
    rw [hR, wsm_S, U_eq, show k + 1 + 1 = k + 2 from rfl, ← h3, Nat.pow_add, Nat.mul_add, ← Nat.mul_assoc, Nat.mul_comm (c (k + 1))]
    omega
  rw [e1, Nat.add_mul_div_left _ _ (Nat.two_pow_pos _), Nat.div_eq_of_lt h4, Nat.zero_add, Nat.add_mul_mod_self_left, Nat.mod_eq_of_lt h5]
theorem key_34 {c : Nat → Nat} (hc : tot c 18 ≤ 18) : keyN c < 2 ^ 34 := key_lt hc 18 (by omega)
/-- one number, one sum -/
theorem key_inj {c c' : Nat → Nat} (h1 : tot c 18 ≤ 18) (h2 : tot c' 18 ≤ 18) (e : keyN c = keyN c') : ∀ k, 1 ≤ k → k ≤ 18 → c k = c' k := by
  intro k k1 k2
  rw [← key_cnt h1 k1 k2, ← key_cnt h2 k1 k2, e]
def unN (h : Nat) : Nat := if h = 0 then 0 else U h
theorem z_u64 : ∀ n, n < 34 → (1 : Int64) <<< ((nI n).toInt64 &&& 63) = lN (2 ^ n) := by decide +kernel
def R43 (s43 : Nat → Int32) : Prop := ∀ h, h ≤ 18 → s43 h = nI (sh h)
theorem sh_34 : ∀ h, h ≤ 18 → sh h < 34 := by
  intro h hh
  exact (by decide +kernel : ∀ h, h < 19 → sh h < 34) h (by omega)
theorem sp150 {d x l : Nat} {σ : Nat → Nat → Int32} {τ : Nat → Nat → Int64} {Q : zR → Prop} {h : Nat} (hh : h ≤ 18) (h43 : R43 (σ 43)) (hq : Q (.inl (some (.long (lN (unN h)))), (49, x, l, σ, τ, zrho))) :
    zRn d 150 (0, [.ref 32, .int (nI h)], [], (49, x, l, σ, τ, zrho)) Q := by
  unfold unN at hq
  refine zv150_0 ⟨fun c => ⟨vp_in_nI (by omega) (by decide), ?_⟩, fun c => ?_⟩
  · simp (disch := omega) only [zlit, nI_leI, nI_ltI, nI_eq, nI_clamp, nI_add, pk_mul, pk_sub, pk_div] at c
    rw [if_neg c] at hq
    rw [nI_clamp (by omega), h43 h hh, z_u64 _ (sh_34 h hh)]
    exact hq
  · simp (disch := omega) only [zlit, nI_leI, nI_ltI, nI_eq, nI_clamp, nI_add, pk_mul, pk_sub, pk_div] at c
    rw [if_pos (by omega)] at hq
    exact hq
theorem l_shr {K n : Nat} (hK : K < 2 ^ 63) (hn : n < 64) : lN K >>> ((nI n).toInt64 &&& 63) = lN (K / 2 ^ n) := by
  apply Int64.toBitVec_inj.1
  rw [Int64.toBitVec_shiftRight]
  show ((lN K).toBitVec.sshiftRight (((nI n).toInt64 &&& 63).toBitVec.smod 64).toNat) = BitVec.ofNat 64 (K / 2 ^ n)
  rw [s64 n hn]
  have hm : (BitVec.ofNat 64 K).msb = false := by
    rw [BitVec.msb_eq_false_iff_two_mul_lt]
    rw [BitVec.toNat_ofNat, Nat.mod_eq_of_lt (by omega)]
    omega
  show ((BitVec.ofNat 64 K).sshiftRight n) = BitVec.ofNat 64 (K / 2 ^ n)
  rw [BitVec.sshiftRight_eq_of_msb_false hm]
  apply BitVec.eq_of_toNat_eq
  rw [BitVec.toNat_ushiftRight, BitVec.toNat_ofNat, BitVec.toNat_ofNat, Nat.mod_eq_of_lt (by omega), Nat.shiftRight_eq_div_pow, Nat.mod_eq_of_lt]
  exact Nat.lt_of_le_of_lt (Nat.div_le_self _ _) (by omega)
theorem z_mask : ∀ h, h < 18 → (((1 : Int32) <<< (nI (sh (h + 1)) - nI (sh h) &&& 31)) - 1).toBitVec.toNat = 2 ^ wd h - 1 := by decide +kernel
theorem wd_5 : ∀ h, h < 19 → wd h ≤ 5 := by decide +kernel
theorem nI_nat (K : Nat) : (nI K).toBitVec.toNat = K % 2 ^ 32 := rfl
theorem sp151 {d x l : Nat} {σ : Nat → Nat → Int32} {τ : Nat → Nat → Int64} {Q : zR → Prop} {h : Nat} {c : Nat → Nat} (hc : tot c 18 ≤ 18) (h1 : 1 ≤ h) (h2 : h ≤ 18) (h43 : R43 (σ 43)) (hq : Q (.inl (some (.int (nI (c h)))), (49, x, l, σ, τ, zrho))) :
    zRn d 151 (0, [.ref 32, .long (lN (keyN c)), zJ, .int (nI h), zJ], [], (49, x, l, σ, τ, zrho)) Q := by
  have hk := key_34 hc
  have hs := sh_34 h h2
  have e : ∀ m : Int32, m.toBitVec.toNat = 2 ^ wd h - 1 → (lN (keyN c) >>> ((σ 43 h).toInt64 &&& 63)).toInt32 &&& m = nI (c h) := by
    intro m hm
    have hw := wd_5 h (by omega)
    rw [h43 h h2, l_shr (by omega) (by omega), lN_i, pk_and _ (wd h) hm, nI_nat, Nat.mod_mod_of_dvd _ (Nat.pow_dvd_pow 2 (show wd h ≤ 32 by omega)), key_cnt hc h1 h2]
  refine zv151_0 ⟨fun q => ?_, fun q => ?_⟩
  · simp (disch := omega) only [zlit, nI_leI, nI_ltI, nI_eq, nI_clamp, nI_add, pk_mul, pk_sub, pk_div] at q
    rw [nI_1, nI_clamp (by omega), nI_clamp (by omega)]
    refine ⟨vp_in_nI (by omega) (by decide), vp_in_nI (by omega) (by decide), vp_in_nI (by omega) (by decide), ?_⟩
    rw [e _ (by rw [h43 h h2, h43 (h + 1) (by omega)]; exact z_mask h (by omega))]
    exact hq
  · simp (disch := omega) only [zlit, nI_leI, nI_ltI, nI_eq, nI_clamp, nI_add, pk_mul, pk_sub, pk_div] at q
    have hh : h = 18 := by omega
    rw [nI_clamp (by omega), e _ (by rw [hh]; decide)]
    exact ⟨vp_in_nI (by omega) (by decide), hq⟩
theorem unN_if {h : Nat} (hh : h ≤ 18) : (if 1 ≤ h ∧ h ≤ 18 then U h else 0) = unN h := by
  unfold unN
  by_cases c : h = 0
  · rw [if_pos c, if_neg (by omega)]
  · rw [if_neg c, if_pos (by omega)]
/-- the number of a sum behind a move -/
theorem key_mv {u : zRu} (hu : zRok u) {c : Nat → Nat} {h : Nat} {o : zO} (h1 : 1 ≤ h) (h2 : h ≤ 18) (h3 : 0 < c h) (ho : o ∈ opts u h) : U h ≤ keyN c ∧ keyN c - U h + unN o.1 + unN o.2.1 + unN o.2.2 = keyN (mv c h o) := by
  have hb := opt_bd hu ho
  have e := wsm_mv U (o := o) h1 h2 h3
  rw [unN_if (by omega), unN_if (by omega), unN_if (by omega)] at e
  have hle : U h ≤ keyN c := by
    have : ∀ n, h ≤ n → c h * U h ≤ wsm U c n := by
      intro n
      induction n with
      | zero => intro q; omega
      | succ n ih =>
        intro q
        show c h * U h ≤ wsm U c n + c (n + 1) * U (n + 1)
        by_cases w : h = n + 1
        · rw [w]; omega
        · have := ih (by omega); omega
    have h5 := this 18 h2
    have h6 : 1 * U h ≤ c h * U h := Nat.mul_le_mul_right _ h3
    rw [keyN_eq]
    omega
  refine ⟨hle, ?_⟩
  rw [keyN_eq] at hle ⊢
  rw [keyN_eq]
  omega
/-- where a search begins -/
def hsh (k : Int64) : Nat := ((k * 2654435761).toUInt64 >>> (((20 : Int32)).toInt64.toUInt64 &&& Int64.toUInt64 63)).toInt64.toBitVec.toNat % 4096
theorem l_and (x : Int64) : x &&& 4095 = lN (x.toBitVec.toNat % 4096) := by
  apply Int64.toBitVec_inj.1
  apply BitVec.eq_of_toNat_eq
  rw [Int64.toBitVec_and, BitVec.toNat_and]
  show x.toBitVec.toNat &&& 4095 = (BitVec.ofNat 64 (x.toBitVec.toNat % 4096)).toNat
  rw [BitVec.toNat_ofNat, Nat.mod_eq_of_lt (b := 2 ^ 64) (by omega)]
  exact Nat.and_two_pow_sub_one_eq_mod _ 12
theorem hsh_0 (k : Int64) : (((k * 2654435761).toUInt64 >>> (((20 : Int32)).toInt64.toUInt64 &&& Int64.toUInt64 63)).toInt64 &&& 4095).toInt32 = nI (hsh k) := by
  rw [l_and, lN_i]
  rfl
theorem hsh_lt (k : Int64) : hsh k < 4096 := Nat.mod_lt _ (by omega)
