/-! the shelves: copy -/
theorem nI_sub_le {i l c : Nat} (hi : i < 2 ^ 31) (hl : l < 2 ^ 31) (hc : c < 2 ^ 31) : nI i ≤ nI l - nI c ↔ i + c ≤ l := by
  rw [Int32.le_iff_toInt_le, Int32.toInt_sub, nI_toInt hi, nI_toInt hl, nI_toInt hc, Int.bmod_eq_of_le (by omega) (by omega)]
  omega
def cpBody (a : AB) (s t : Nat) (i j n : Int32) : AB × Int32 := if n < 0 then bad a else if 0 ≤ i ∧ i ≤ nI (aSh a s).2.1 - n then (if 0 ≤ j ∧ j ≤ nI (aSh a t).2.1 - n then (setSh a t ((aSh a t).1, (aSh a t).2.1, va_cpy (aSh a s).2.2 (aSh a t).2.2 (tn i) (tn j) (tn n)), n) else bad a) else bad a
def oCopy (a : AB) (s t i j n : Int32) : AB × Int32 := if inN s 8 then (if inN t 8 then (if 10 ≤ (aSh a (tn s)).1 then oth a else if 10 ≤ (aSh a (tn t)).1 then oth a else if (aSh a (tn s)).1 = -1 then nth a else if (aSh a (tn t)).1 = -1 then nth a else if (aSh a (tn s)).1 = (aSh a (tn t)).1 then cpBody a (tn s) (tn t) i j n else oth a) else bad a) else bad a
section O6
variable {a : AB} {M : Mm}
theorem wJr_on {M : Mm} {o : Nat} {f : Nat → Int64} : (wJr M o f).2.1 o = f := if_pos rfl
theorem i00 : ((0 : Int32) = 0) = True := eq_true rfl
theorem X7_copy (h : RC a M) (hW : WA a) (s t i j n : Int32) : OKC (f_X7_copy s t i j n M) M (oCopy a s t i j n) := by
  have h2 := hW.1.n9
  unfold f_X7_copy oCopy
  rw [isShelf_ok, isShelf_ok]
  by_cases q : inN s 8
  · by_cases q1 : inN t 8
    · obtain ⟨s, hs, rfl⟩ := inN_k (by decide) q
      obtain ⟨t, ht, rfl⟩ := inN_k (by decide) q1
      have hS := h.2.2.1 s hs
      have hT := h.2.2.1 t ht
      simp (maxSteps := 4000000) (disch := omega) only [if_pos q, if_pos q1, Option.bind_some, i10, if_false, chk_ok, tn_nI, tnn, holdsP, hS.1, hS.2.1, hT.1, hT.2.1, i00, if_true]
      rcases hW.2.2.1 s hs with u | u | ⟨p, hp, u⟩
      · have f := e_facts u.1
        simp only [if_pos u.1, if_neg f.2.1, if_true]
        rcases hW.2.2.1 t ht with w | w | ⟨p, hp, w⟩
        · have g := e_facts w.1
          simp only [if_neg g.2.1, if_true]; exact C_nth h
        · have g := r_facts w.1
          simp only [if_neg g.2.1, if_true]; exact C_nth h
        · have g := p_facts (show p < 8 by omega)
          rw [w.1]
          simp only [if_pos g.2.2.1, i10, if_false]; exact C_oth h
      · have f := r_facts u.1
        have u40 := u.2
        simp only [if_neg f.1, if_neg f.2.1, if_true]
        rcases hW.2.2.1 t ht with w | w | ⟨p, hp, w⟩
        · have g := e_facts w.1
          simp only [if_pos w.1, if_neg g.2.1, if_true]; exact C_nth h
        · have g := r_facts w.1
          have w40 := w.2
          simp only [if_neg g.2.1, if_neg g.1, if_true]
          by_cases q2 : (aSh a s).1 = (aSh a t).1
          · simp only [if_pos q2]
            unfold cpBody
            by_cases q3 : n < 0
            · simp only [if_pos q3]; exact C_bad h
            · obtain ⟨c, hc, rfl⟩ : ∃ c, c < 2 ^ 31 ∧ n = nI c := ⟨tn n, by have := n.toNatClampNeg_lt; omega, (nI_tn (Int32.not_lt.mp q3)).symm⟩
              simp only [if_neg q3, within_ok, Option.bind_some]
              by_cases q4 : 0 ≤ i ∧ i ≤ nI (aSh a s).2.1 - nI c
              · by_cases q5 : 0 ≤ j ∧ j ≤ nI (aSh a t).2.1 - nI c
                · obtain ⟨i, hi, rfl⟩ : ∃ c, c < 2 ^ 31 ∧ i = nI c := ⟨tn i, by have := i.toNatClampNeg_lt; omega, (nI_tn q4.1).symm⟩
                  obtain ⟨j, hj, rfl⟩ : ∃ c, c < 2 ^ 31 ∧ j = nI c := ⟨tn j, by have := j.toNatClampNeg_lt; omega, (nI_tn q5.1).symm⟩
                  have l1 : i + c ≤ (aSh a s).2.1 := (nI_sub_le hi (by omega) hc).mp q4.2
                  have l2 : j + c ≤ (aSh a t).2.1 := (nI_sub_le hj (by omega) hc).mp q5.2
                  have l3 : ∀ {α : Type} (X : Option α), cpc (nI i) (nI j) (nI c) 40 40 X = X := fun X => by
                    unfold cpc
                    rw [if_neg]
                    rw [tn_nI hi, tn_nI hj, tn_nI hc]
                    rintro (z | z | z | z | z)
                    · exact Int32.not_lt.mpr q4.1 z
                    · exact Int32.not_lt.mpr q5.1 z
                    · exact q3 z
                    · omega
                    · omega
                  simp (disch := omega) only [if_pos q4, if_pos q5, i10, if_false, l3, bm, tn_nI, tnn]
                  refine OKC.sh h ht ⟨hT.1, hT.2.1, fun k hk => ?_⟩ ⟨fun x hx => ⟨rfl, if_neg (by omega)⟩, rfl⟩
                  rw [wJr_on]
                  show (if j ≤ k ∧ k < j + c then _ else _) = if j ≤ k ∧ k < j + c then _ else _
                  by_cases q6 : j ≤ k ∧ k < j + c
                  · rw [if_pos q6, if_pos q6]; exact hS.2.2 _ (by omega)
                  · rw [if_neg q6, if_neg q6]; exact hT.2.2 k hk
                · simp only [if_pos q4, if_neg q5, i10, if_false, if_true]; exact C_bad h
              · simp only [if_neg q4, if_true]; exact C_bad h
          · simp only [if_neg q2, i10, if_false]; exact C_oth h
        · have g := p_facts (show p < 8 by omega)
          rw [w.1]
          simp only [if_neg g.1, if_pos g.2.2.1, i10, if_false, ite_self]; exact C_oth h
      · have f := p_facts (show p < 8 by omega)
        rw [u.1]
        simp only [if_neg f.1, if_pos f.2.2.1, i10, if_false, ite_self]; exact C_oth h
    · simp only [if_pos q, if_neg q1, Option.bind_some, i10, if_false, if_true]; exact C_bad h
  · simp only [if_neg q, Option.bind_some, if_true]; exact C_bad h
end O6
