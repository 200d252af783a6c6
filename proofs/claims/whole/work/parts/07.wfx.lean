theorem zand {a b : Bool} (h : a = true) (k : b = true) : (a && b) = true := by rw [h, k]; rfl
theorem zw_all : zall zchkK 10 zprog = true := (zand (zand (zand (zand (zand zw0 zw1) (zand zw2 zw3)) (zand (zand zw4 zw5) (zand zw6 zw7))) (zand (zand (zand zw8 zw9) (zand zw10 zw11)) (zand (zand zw12 zw13) (zand zw14 zw15)))) (zand (zand (zand (zand zw16 zw17) (zand zw18 zw19)) (zand (zand zw20 zw21) (zand zw22 zw23))) (zand (zand (zand zw24 zw25) (zand zw26 zw27)) (zand (zand zw28 zw29) (zand zw30 zw31)))))
theorem zwf {i pc : Nat} {e : zE} (h : zcode i pc = some e) : i < 191 ∧ pc < 2048 ∧ zchk i pc e = true := by
  unfold zcode at h
  cases hb : (Nat.blt i 191 && Nat.blt pc 2048) with
  | false => rw [hb] at h; cases h
  | true =>
    rw [hb] at h
    rw [Bool.and_eq_true] at hb
    have h1 : i < 191 := by have := hb.1; simpa [Nat.blt_eq] using this
    have h2 : pc < 2048 := by have := hb.2; simpa [Nat.blt_eq] using this
    have h3 := zall_get zw_all h
    have e1 : (2048 * i + pc) / 2048 = i := by omega
    have e2 : (2048 * i + pc) % 2048 = pc := by omega
    unfold zchkK at h3
    rw [e1, e2] at h3
    exact ⟨h1, h2, h3⟩
