/-! the component refuses a trouble -/
theorem trb_v (a : AB) (s : Int32) : trb a s = 0 ∨ trb a s = -2 ∨ trb a s = -3 ∨ trb a s = -4 := by
  unfold trb
  by_cases q : inN s 8
  · rw [if_pos q]
    by_cases q2 : 10 ≤ (aSh a (tn s)).1
    · rw [if_pos q2]; exact Or.inr (Or.inr (Or.inl rfl))
    · rw [if_neg q2]
      by_cases q3 : (aSh a (tn s)).1 = -1
      · rw [if_pos q3]; exact Or.inr (Or.inr (Or.inr rfl))
      · rw [if_neg q3]; exact Or.inl rfl
  · rw [if_neg q]; exact Or.inr (Or.inl rfl)
theorem trbP_v (a : AB) (s n : Int32) : trbP a s n = 0 ∨ trbP a s n = -2 ∨ trbP a s n = -3 ∨ trbP a s n = -4 := by
  unfold trbP
  by_cases q : inN n 41
  · rw [if_pos q]
    by_cases q2 : trb a s = 0
    · rw [if_pos q2]
      by_cases q3 : n ≤ nI (aSh a (tn s)).2.1
      · rw [if_pos q3]; exact Or.inl rfl
      · rw [if_neg q3]; exact Or.inr (Or.inl rfl)
    · rw [if_neg q2]; exact trb_v a s
  · rw [if_neg q]; exact Or.inr (Or.inl rfl)
section OT3
variable {a : AB} {M : Mm}
theorem C_refT (h : RC a M) {x : Int32} (hx : x = -2 ∨ x = -3 ∨ x = -4 ∨ x = -5) : OKC ((f_X7_refuse x M).bind fun q => some (q.1, q.2)) M (refA a x, x) := by
  rcases hx with rfl | rfl | rfl | rfl
  · rw [refA2]; exact C_bad h
  · rw [refA3]; exact C_oth h
  · rw [refA4]; exact C_nth h
  · rw [refA5]; exact C_stk h
theorem W_refA {x : Int32} (h : WB a) : WB (refA a x) := by
  unfold refA
  (repeat' split) <;> exact h
end OT3
