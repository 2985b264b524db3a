/-! the model's trouble of a plan -/
section OT2
variable {a : AB} {M : Mm}
theorem trb_0 (h : RM a M) (hW : WA a) {s : Nat} (hs : s < 8) (e : trb a (nI s) = 0) : inN (aSh a s).1 5 ∧ (aSh a s).2.1 ≤ 40 ∧ M.1 70 s = 1 ∧ M.1 71 s = (aSh a s).1 ∧ M.1 72 s = nI (aSh a s).2.1 ∧ ∀ i, i < 40 → M.2.1 (74 + s) i = (aSh a s).2.2 i := by
  have h2 := hW.1.n9
  unfold trb at e
  rw [if_pos ((inN_nI (by omega) (by decide)).mpr hs), tnn (by omega)] at e
  rcases triM (by omega) (hW.2.2.1 s hs) (h.2.2.1 s hs) with t | t | ⟨p, hp, t⟩
  · have f := e_facts t.1
    rw [if_neg f.2.1, if_pos t.1] at e
    exact absurd e (by decide)
  · exact t
  · have f := p_facts (show p < 8 by omega)
    rw [t.1, if_pos f.2.2.1] at e
    exact absurd e (by decide)
theorem M_trbP (h : RM a M) (hW : WA a) (s n : Int32) : (trbP a s n = 0 ∧ f_X8_noPlan 69 s n M = some (M, 0)) ∨ (trbP a s n ≠ 0 ∧ OKM (f_X8_noPlan 69 s n M) M (refA a (trbP a s n), trbP a s n)) := by
  have h2 := hW.1.n9
  unfold f_X8_noPlan
  rw [show f_X8_in s.toInt64 0 7 = _ from in_n s 7 7 rfl (by decide), show f_X8_in n.toInt64 0 40 = _ from in_n n 40 40 rfl (by decide)]
  by_cases q : inN s 8
  · by_cases q2 : inN n 41
    · have eP : trbP a s n = if trb a s = 0 then (if n ≤ nI (aSh a (tn s)).2.1 then 0 else -2) else trb a s := if_pos q2
      rw [eP]
      simp only [if_pos q, if_pos q2, Option.bind_some, i10, if_false]
      rcases M_trb h hW s with ⟨e0, e⟩ | ⟨e0, M2, e, hR, hF⟩
      · obtain ⟨s, hs, rfl⟩ := inN_k (by decide) q
        have t := trb_0 h hW hs e0
        have ks : ∀ {α : Type} (X : Option α), chk (nI s) 8 X = X := fun X => chk_ok hs (by decide)
        have es : (nI s).toNatClampNeg = s := tn_nI (by omega)
        rw [e, if_pos e0, tnn (show s < 2 ^ 31 by omega)]
        simp only [Option.bind_some, bi, i00, if_true, ks, es, Nat.reduceAdd, t.2.2.2.2.1]
        by_cases q3 : n ≤ nI (aSh a s).2.1
        · rw [if_pos q3, if_pos q3]; exact Or.inl ⟨rfl, rfl⟩
        · rw [if_neg q3, if_neg q3, refA2]; exact Or.inr ⟨by decide, M_bad h⟩
      · replace e : f_X8_noRow 69 s M = some (M2, trb a s) := e
        rw [e, if_neg e0]
        simp only [Option.bind_some, bi, if_neg e0]
        exact Or.inr ⟨e0, M2, rfl, hR, hF⟩
    · have eP : trbP a s n = -2 := if_neg q2
      rw [eP, refA2]
      simp only [if_pos q, if_neg q2, Option.bind_some, i10, if_false, if_true]
      exact Or.inr ⟨by decide, M_bad h⟩
  · have et : trb a s = -2 := if_neg q
    have eP : trbP a s n = -2 := by
      unfold trbP
      rw [et]
      by_cases q2 : inN n 41
      · rw [if_pos q2, if_neg (by decide)]
      · rw [if_neg q2]
    rw [eP, refA2]
    simp only [if_neg q, Option.bind_some, if_true]
    exact Or.inr ⟨by decide, M_bad h⟩
end OT2
