/-! what stays so: a person comes; the answers that change nothing -/
section OX
variable {a : AB}
theorem W_person (h : WB a) (k x l : Int32) : WB (oPerson a k x l).1 := by
  have h2 := h.1.1.n9
  have h1 := h.1.1.n
  unfold oPerson
  by_cases q : inN k 6
  · by_cases q2 : inN x 14
    · by_cases q3 : inN l 13
      · by_cases q4 : pN a.1 < 8
        · rw [if_pos q, if_pos q2, if_pos q3, if_pos q4]
          have dpow : 2 ^ dN a.1 ≤ 2 ^ 31 := Nat.pow_le_pow_right (by decide) (by have := h.1.1.d15; omega)
          have w1 : WF (uP a.1 (pN a.1) 0 k) := WF_uP h.1.1 fun _ => ⟨fun _ => sm_of (by decide) q, fun z => absurd z (by decide), fun z => absurd z (by decide), fun z => absurd z (by decide), fun z => absurd z (by decide)⟩
          have w2 : WF (uP (uP a.1 (pN a.1) 0 k) (pN a.1) 1 x) := WF_uP w1 fun _ => ⟨fun z => absurd z (by decide), fun _ => sm_of (by decide) q2, fun z => absurd z (by decide), fun z => absurd z (by decide), fun z => absurd z (by decide)⟩
          have w3 : WF (uP (uP (uP a.1 (pN a.1) 0 k) (pN a.1) 1 x) (pN a.1) 2 l) := WF_uP w2 fun _ => ⟨fun z => absurd z (by decide), fun z => absurd z (by decide), fun _ => sm_of (by decide) q3, fun z => absurd z (by decide), fun z => absurd z (by decide)⟩
          have w4 : WF (uP (uP (uP (uP a.1 (pN a.1) 0 k) (pN a.1) 1 x) (pN a.1) 2 l) (pN a.1) 3 0) := WF_uP w3 fun _ => ⟨fun z => absurd z (by decide), fun z => absurd z (by decide), fun z => absurd z (by decide), fun _ => ⟨sm0 (by decide) (by decide), fun _ => sm0 (Nat.pow_pos (by decide)) dpow⟩, fun z => absurd z (by decide)⟩
          have w5 : WF (uP (uP (uP (uP (uP a.1 (pN a.1) 0 k) (pN a.1) 1 x) (pN a.1) 2 l) (pN a.1) 3 0) (pN a.1) 4 0) := WF_uP w4 fun _ => ⟨fun z => absurd z (by decide), fun z => absurd z (by decide), fun z => absurd z (by decide), fun z => absurd z (by decide), fun _ => sm0 (by decide) (by decide)⟩
          have e3 : (uP (uP (uP (uP (uP a.1 (pN a.1) 0 k) (pN a.1) 1 x) (pN a.1) 2 l) (pN a.1) 3 0) (pN a.1) 4 0).2 (pN a.1) 3 = 0 := by rw [uP_off (Or.inr (by decide)), uP_on]
          have en : pN (sAdd a.1 k x l) = pN a.1 + 1 := by
            show tn (a.1.1 1 + 1) = _
            rw [h1, nI_1, tnn (by omega)]
          refine WB_setV h (v := sAdd a.1 k x l) ⟨h.1.1.1, ⟨?_, by rw [show tn ((sAdd a.1 k x l).1 1) = pN a.1 + 1 from en]; omega⟩, ⟨h.1.1.2.2.1.1, fun _ => ?_⟩, h.1.1.2.2.2.1, h.1.1.2.2.2.2.1, fun p hp => ?_⟩ (fun z => by omega) (by omega)
          · rw [show tn ((sAdd a.1 k x l).1 1) = pN a.1 + 1 from en]
            show a.1.1 1 + 1 = _
            rw [h1, nI_1]
          · rw [en]
            show tn (a.1.1 2) < _
            by_cases z : pN a.1 = 0
            · rw [h.2.1 z, z]; decide
            · have := h.1.1.2.2.1.2 (by omega)
              omega
          · have o := w5.2.2.2.2.2 p hp
            refine ⟨o.1, o.2.1, o.2.2.1, o.2.2.2.1, o.2.2.2.2.1, fun z => ?_⟩
            rw [en] at z
            by_cases e : p = pN a.1
            · subst e
              show sm ((uP (uP (uP (uP (uP a.1 (pN a.1) 0 k) (pN a.1) 1 x) (pN a.1) 2 l) (pN a.1) 3 0) (pN a.1) 4 0).2 (pN a.1) 3) _
              rw [e3]
              exact sm0 (Nat.pow_pos (by decide)) dpow
            · exact o.2.2.2.2.2 (show p < pN a.1 by omega)
        · rw [if_pos q, if_pos q2, if_pos q3, if_neg q4]; exact h
      · rw [if_pos q, if_pos q2, if_neg q3]; exact h
    · rw [if_pos q, if_neg q2]; exact h
  · rw [if_neg q]; exact h
theorem W_there (h : WB a) (d : Int32) : WB (oThere a d).1 := by unfold oThere; split <;> exact h
theorem W_with (h : WB a) (k : Int32) : WB (oWith a k).1 := by unfold oWith; split <;> exact h
theorem W_reach (h : WB a) (p : Int32) : WB (oReach a p).1 := by unfold oReach; split <;> exact h
theorem W_weeks (h : WB a) (p : Int32) : WB (oWeeks a p).1 := by unfold oWeeks; split <;> exact h
theorem W_worst (h : WB a) : WB (oWorst a).1 := by unfold oWorst; split <;> exact h
theorem W_drop (h : WB a) (w : Int32) : WB (oDrop a w).1 := by unfold oDrop; (repeat' split) <;> exact h
theorem W_withHost (h : WB a) (p : Int32) : WB (oWithHost a p).1 := by unfold oWithHost; split <;> exact h
theorem W_later (h : WB a) (p : Int32) : WB (oLater a p).1 := by unfold oLater; split <;> exact h
theorem W_known (h : WB a) (d t : Int32) : WB (oKnown a d t).1 := by unfold oKnown; (repeat' split) <;> exact h
theorem W_until (h : WB a) (d t : Int32) : WB (oUntil a d t).1 := by unfold oUntil; (repeat' split) <;> exact h
theorem W_odds (h : WB a) (p d t : Int32) : WB (oOdds a p d t).1 := by unfold oOdds; (repeat' split) <;> exact h
theorem W_offer (h : WB a) (p d t : Int32) : WB (oOffer a p d t).1 := by unfold oOffer; (repeat' split) <;> exact h
theorem W_never (h : WB a) (p d t : Int32) : WB (oNever a p d t).1 := by unfold oNever; (repeat' split) <;> exact h
theorem W_personOf (h : WB a) (p d : Int32) : WB (oPersonOf a p d).1 := by unfold oPersonOf; (repeat' split) <;> exact h
theorem W_says (h : WB a) (p d : Int32) : WB (oSays a p d).1 := by unfold oSays; (repeat' split) <;> exact h
theorem W_first (h : WB a) (p : Int32) : WB (oFirst a p).1 := by unfold oFirst; (repeat' split) <;> exact h
theorem W_most (h : WB a) (p d t : Int32) : WB (oMost a p d t).1 := by unfold oMost; (repeat' split) <;> exact h
end OX
