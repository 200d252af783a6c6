theorem zstepV {d i pc npc j r2 k a : Nat} {v : Value} {L st as : List Value} {S : zS} {Q : zR → Prop} (hc : zcode i pc = some (.invokevirtual k, npc, j, r2, v)) (h1 : (Nat.ble r2 st.length && Nat.ble (st.drop r2).length 8) = true) (h2 : (st.take r2).reverse = .ref a :: as)
    (h3 : (zobj a S.1 (zow j) && Nat.ble (zlay (.ref a :: as)).length (zmx j)) = true) (h : zRn d j (0, zent j (.ref a :: as), [], S) (zret (d + 1) i pc npc L (st.drop r2) Q)) : zRn (d + 1) i (pc, L, st, S) Q := by
  refine zRn.step ?_
  simp only [zst, hc, zop, zloc, h1, h2, h3, cond_true]
  refine zRn.mono h (fun q hq => ?_)
  obtain ⟨r, S'⟩ := q
  cases r with
  | inl w => exact hq
  | inr c =>
    have hq : zhn (d + 1) i pc L Q c S' := hq
    unfold zhn at hq
    cases he : (zhd i).isEmpty with
    | true => rw [he] at hq; exact hq
    | false =>
      rw [he] at hq
      simp only [cond_false] at hq ⊢
      cases hz : zhand pc c (zhd i) with
      | none => rw [hz] at hq; exact hq
      | some h =>
        rw [hz] at hq
        simp only at hq ⊢
        split at hq
        · rename_i heq; rw [heq]; exact hq
        · rename_i heq; rw [heq]; exact hq
        · exact hq.elim
