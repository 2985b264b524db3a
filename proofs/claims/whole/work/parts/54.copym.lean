/-! the model's copy -/
theorem M_cp1 {s i0 c : Nat} (t j0 : Int32) (hs : s < 8) (hc : i0 + c ≤ 40) (M : Mm) : ∃ M2, f_X8_copy_L191 69 (nI s) t (nI i0) j0 (nI c) 1000 0 M = some M2 ∧ M2.1 = M.1 ∧ (∀ k, k < c → M2.2.1 82 k = M.2.1 (74 + s) (i0 + k)) ∧ (∀ x, x ≠ 82 → M2.2.1 x = M.2.1 x) ∧ M2.2.2 = M.2.2 := by
  obtain ⟨r, e1, e2⟩ := loop_ex (fun n i (M9 : Mm) => f_X8_copy_L191 69 (nI s) t (nI i0) j0 (nI c) n (nI i) M9) c (fun i M9 => M9.1 = M.1 ∧ (∀ k, k < i → M9.2.1 82 k = M.2.1 (74 + s) (i0 + k)) ∧ (∀ x, x ≠ 82 → M9.2.1 x = M.2.1 x) ∧ M9.2.2 = M.2.2) (fun r => r.1 = M.1 ∧ (∀ k, k < c → r.2.1 82 k = M.2.1 (74 + s) (i0 + k)) ∧ (∀ x, x ≠ 82 → r.2.1 x = M.2.1 x) ∧ r.2.2 = M.2.2) (by
    intro n i M9 hi h
    refine Or.inr ⟨wJ M9 82 i (M9.2.1 (74 + s) (i0 + i)), ?_, h.1, fun j hj => ?_, fun x hx => (wJ_ne hx).trans (h.2.2.1 x hx), h.2.2.2⟩
    · show f_X8_copy_L191 69 (nI s) t (nI i0) j0 (nI c) (n + 1) (nI i) M9 = _
      rw [f_X8_copy_L191, nI_add]
      simp (disch := omega) only [nI_leF hi, chk_ok, bm, bi, nI_1, tn_nI, reduceIte, Nat.reduceAdd]
    · by_cases q : j = i
      · subst q; rw [wJ_on, h.2.2.1 _ (by omega)]
      · rw [wJ_off (Or.inr q)]; exact h.2.1 j (by omega)) (by
    intro n M9 h
    refine ⟨M9, ?_, h⟩
    show f_X8_copy_L191 69 (nI s) t (nI i0) j0 (nI c) (n + 1) (nI c) M9 = _
    rw [f_X8_copy_L191]
    exact if_pos (Int32.le_refl _)) 1000 0 M (by omega) (by omega) ⟨rfl, fun j hj => absurd hj (Nat.not_lt_zero j), fun _ _ => rfl, rfl⟩
  exact ⟨r, e1, e2⟩
theorem M_cp2 {t j0 c : Nat} (ht : t < 8) (hc : j0 + c ≤ 40) (M : Mm) : ∃ M2, f_X8_copy_L225 69 (nI t) (nI j0) (nI c) 1000 0 M = some M2 ∧ M2.1 = M.1 ∧ (∀ k, M2.2.1 (74 + t) k = if j0 ≤ k ∧ k < j0 + c then M.2.1 82 (k - j0) else M.2.1 (74 + t) k) ∧ (∀ x, x ≠ 74 + t → M2.2.1 x = M.2.1 x) ∧ M2.2.2 = M.2.2 := by
  obtain ⟨r, e1, e2⟩ := loop_ex (fun n i (M9 : Mm) => f_X8_copy_L225 69 (nI t) (nI j0) (nI c) n (nI i) M9) c (fun i M9 => M9.1 = M.1 ∧ (∀ k, M9.2.1 (74 + t) k = if j0 ≤ k ∧ k < j0 + i then M.2.1 82 (k - j0) else M.2.1 (74 + t) k) ∧ (∀ x, x ≠ 74 + t → M9.2.1 x = M.2.1 x) ∧ M9.2.2 = M.2.2) (fun r => r.1 = M.1 ∧ (∀ k, r.2.1 (74 + t) k = if j0 ≤ k ∧ k < j0 + c then M.2.1 82 (k - j0) else M.2.1 (74 + t) k) ∧ (∀ x, x ≠ 74 + t → r.2.1 x = M.2.1 x) ∧ r.2.2 = M.2.2) (by
    intro n i M9 hi h
    refine Or.inr ⟨wJ M9 (74 + t) (j0 + i) (M9.2.1 82 i), ?_, h.1, fun k => ?_, fun x hx => (wJ_ne hx).trans (h.2.2.1 x hx), h.2.2.2⟩
    · show f_X8_copy_L225 69 (nI t) (nI j0) (nI c) (n + 1) (nI i) M9 = _
      rw [f_X8_copy_L225, nI_add]
      simp (disch := omega) only [nI_leF hi, chk_ok, bm, bi, nI_1, tn_nI, reduceIte, Nat.reduceAdd]
    · by_cases q : k = j0 + i
      · subst q
        rw [wJ_on, if_pos (by omega), h.2.2.1 82 (by omega), Nat.add_sub_cancel_left]
      · rw [wJ_off (Or.inr q), h.2.1 k]
        by_cases q2 : j0 ≤ k ∧ k < j0 + i
        · rw [if_pos q2, if_pos (by omega)]
        · rw [if_neg q2, if_neg (by omega)]) (by
    intro n M9 h
    refine ⟨M9, ?_, h⟩
    show f_X8_copy_L225 69 (nI t) (nI j0) (nI c) (n + 1) (nI c) M9 = _
    rw [f_X8_copy_L225]
    exact if_pos (Int32.le_refl _)) 1000 0 M (by omega) (by omega) ⟨rfl, fun k => (if_neg (by omega)).symm, fun _ _ => rfl, rfl⟩
  exact ⟨r, e1, e2⟩
theorem cp_body (a : AB) (s t : Nat) {i j c : Nat} (hi : i < 2 ^ 31) (hj : j < 2 ^ 31) (hc : c < 2 ^ 31) (hs : (aSh a s).2.1 < 2 ^ 31) (ht : (aSh a t).2.1 < 2 ^ 31) : cpBody a s t (nI i) (nI j) (nI c) = if i + c ≤ (aSh a s).2.1 then (if j + c ≤ (aSh a t).2.1 then (setSh a t ((aSh a t).1, (aSh a t).2.1, va_cpy (aSh a s).2.2 (aSh a t).2.2 i j c), nI c) else bad a) else bad a := by
  unfold cpBody
  rw [if_neg (Int32.not_lt.mpr (nI_pos' hc)), tnn hi, tnn hj, tnn hc]
  have e1 : (0 ≤ nI i ∧ nI i ≤ nI (aSh a s).2.1 - nI c) ↔ i + c ≤ (aSh a s).2.1 := ⟨fun z => (nI_sub_le hi hs hc).mp z.2, fun z => ⟨nI_pos' hi, (nI_sub_le hi hs hc).mpr z⟩⟩
  have e2 : (0 ≤ nI j ∧ nI j ≤ nI (aSh a t).2.1 - nI c) ↔ j + c ≤ (aSh a t).2.1 := ⟨fun z => (nI_sub_le hj ht hc).mp z.2, fun z => ⟨nI_pos' hj, (nI_sub_le hj ht hc).mpr z⟩⟩
  simp only [e1, e2]
theorem nI_ltE {x y : Nat} (hx : x < 2 ^ 31) (hy : y < 2 ^ 31) : (nI x < nI y) = (x < y) := propext ⟨fun z => Nat.lt_of_not_le fun w => nI_nlt w hx z, fun z => nI_lt z hy⟩
theorem nI_subltE {i l c : Nat} (hi : i < 2 ^ 31) (hl : l < 2 ^ 31) (hc : c < 2 ^ 31) : (nI l - nI c < nI i) = (l < i + c) := propext ⟨fun z => Nat.lt_of_not_le fun w => Int32.not_lt.mpr ((nI_sub_le hi hl hc).mpr w) z, fun z => Int32.not_le.mp fun w => Nat.not_le.mpr z ((nI_sub_le hi hl hc).mp w)⟩
theorem i11 : ((1 : Int32) = 1) = True := eq_true rfl
theorem i22 : ((2 : Int32) = 2) = True := eq_true rfl
section O7
variable {a : AB} {M : Mm}
theorem M_cpB (h : RM a M) {s t : Nat} (hs : s < 8) (ht : t < 8) {i j c : Nat} (hi : i < 2 ^ 31) (hj : j < 2 ^ 31) (hc : c < 2 ^ 31)
    (u : inN (aSh a s).1 5 ∧ (aSh a s).2.1 ≤ 40 ∧ M.1 70 s = 1 ∧ M.1 71 s = (aSh a s).1 ∧ M.1 72 s = nI (aSh a s).2.1 ∧ ∀ i, i < 40 → M.2.1 (74 + s) i = (aSh a s).2.2 i)
    (w : inN (aSh a t).1 5 ∧ (aSh a t).2.1 ≤ 40 ∧ M.1 70 t = 1 ∧ M.1 71 t = (aSh a t).1 ∧ M.1 72 t = nI (aSh a t).2.1 ∧ ∀ i, i < 40 → M.2.1 (74 + t) i = (aSh a t).2.2 i)
    (h1 : i + c ≤ (aSh a s).2.1) (h2 : j + c ≤ (aSh a t).2.1) : OKM ((f_X8_copy_L191 69 (nI s) (nI t) (nI i) (nI j) (nI c) 1000 0 M).bind fun M81 => (f_X8_copy_L225 69 (nI t) (nI j) (nI c) 1000 0 M81).bind fun M84 => some (M84, nI c)) M (setSh a t ((aSh a t).1, (aSh a t).2.1, va_cpy (aSh a s).2.2 (aSh a t).2.2 i j c), nI c) := by
  have u40 := u.2.1
  have w40 := w.2.1
  obtain ⟨M2, a1, a2, a3, a4, a5⟩ := M_cp1 (s := s) (i0 := i) (c := c) (nI t) (nI j) hs (by omega) M
  obtain ⟨M3, b1, b2, b3, b4, b5⟩ := M_cp2 (t := t) (j0 := j) (c := c) ht (by omega) M2
  rw [a1, Option.bind_some, b1, Option.bind_some]
  refine OKM.sh h ht (Or.inr (Or.inl ⟨w.1, by rw [b2, a2]; exact w.2.2.1, by rw [b2, a2]; exact w.2.2.2.1, by rw [b2, a2]; exact w.2.2.2.2.1, fun k hk => ?_⟩)) ⟨fun x y _ => by rw [b2, a2], fun x x1 x2 => (b4 x x1).trans (a4 x x2), b5.trans a5⟩
  rw [b3]
  show _ = if j ≤ k ∧ k < j + c then (aSh a s).2.2 (i + (k - j)) else (aSh a t).2.2 k
  by_cases q6 : j ≤ k ∧ k < j + c
  · rw [if_pos q6, if_pos q6, a3 _ (by omega)]; exact u.2.2.2.2.2 _ (by omega)
  · rw [if_neg q6, if_neg q6, a4 _ (by omega)]; exact w.2.2.2.2.2 k hk
theorem X8_copy (h : RM a M) (hW : WA a) (s t i j n : Int32) : OKM (f_X8_copy 69 s t i j n M) M (oCopy a s t i j n) := by
  have h2 := hW.1.n9
  unfold f_X8_copy oCopy
  rw [show f_X8_in s.toInt64 0 7 = _ from in_n s 7 7 rfl (by decide), show f_X8_in t.toInt64 0 7 = _ from in_n t 7 7 rfl (by decide)]
  by_cases q : inN s 8
  · by_cases q1 : inN t 8
    · obtain ⟨s, hs, rfl⟩ := inN_k (by decide) q
      obtain ⟨t, ht, rfl⟩ := inN_k (by decide) q1
      have ks : ∀ {α : Type} (X : Option α), chk (nI s) 8 X = X := fun X => chk_ok hs (by decide)
      have kt : ∀ {α : Type} (X : Option α), chk (nI t) 8 X = X := fun X => chk_ok ht (by decide)
      have es : (nI s).toNatClampNeg = s := tn_nI (by omega)
      have et : (nI t).toNatClampNeg = t := tn_nI (by omega)
      simp only [if_pos q, if_pos q1, Option.bind_some, i10, if_false, ks, kt, es, et, Nat.reduceAdd]
      rcases triM (by omega) (hW.2.2.1 s hs) (h.2.2.1 s hs) with u | u | ⟨p, hp, u⟩
      · have f := e_facts u.1
        simp only [u.2.2, i02, i01, if_false, if_neg f.2.1, if_pos u.1, i00, if_true]
        rcases triM (by omega) (hW.2.2.1 t ht) (h.2.2.1 t ht) with w | w | ⟨p, hp, w⟩
        · have g := e_facts w.1
          simp only [w.2.2, i02, if_false, if_neg g.2.1]; exact M_nth h
        · have g := r_facts w.1
          simp only [w.2.2.1, i12, if_false, if_neg g.2.1]; exact M_nth h
        · have g := p_facts (show p < 8 by omega)
          rw [w.1]
          simp only [w.2.2.1, i22, if_true, if_pos g.2.2.1]; exact M_oth h
      · have f := r_facts u.1
        have u40 := u.2.1
        simp only [u.2.2.1, u.2.2.2.1, u.2.2.2.2.1, i12, i10, i11, if_false, if_true, if_neg f.2.1, if_neg f.1]
        rcases triM (by omega) (hW.2.2.1 t ht) (h.2.2.1 t ht) with w | w | ⟨p, hp, w⟩
        · have g := e_facts w.1
          simp only [w.2.2, i02, i01, i00, if_false, if_true, if_neg g.2.1, if_pos w.1]; exact M_nth h
        · have g := r_facts w.1
          have w40 := w.2.1
          simp only [w.2.2.1, w.2.2.2.1, w.2.2.2.2.1, i12, i10, i11, if_false, if_true, if_neg g.2.1, if_neg g.1]
          by_cases q2 : (aSh a s).1 = (aSh a t).1
          · simp only [if_pos q2]
            by_cases q3 : n < 0
            · unfold cpBody
              simp only [if_pos q3]; exact M_bad h
            · obtain ⟨c, hc, rfl⟩ : ∃ c, c < 2 ^ 31 ∧ n = nI c := ⟨tn n, by have := n.toNatClampNeg_lt; omega, (nI_tn (Int32.not_lt.mp q3)).symm⟩
              by_cases q4 : i < 0
              · unfold cpBody
                simp only [if_neg q3, if_pos q4]
                rw [if_neg (fun z => Int32.not_lt.mpr z.1 q4)]; exact M_bad h
              · by_cases q5 : j < 0
                · unfold cpBody
                  simp only [if_neg q3, if_neg q4, if_pos q5]
                  rw [if_neg (c := 0 ≤ j ∧ _) (fun z => Int32.not_lt.mpr z.1 q5), ite_self]; exact M_bad h
                · obtain ⟨i, hi, rfl⟩ : ∃ c, c < 2 ^ 31 ∧ i = nI c := ⟨tn i, by have := i.toNatClampNeg_lt; omega, (nI_tn (Int32.not_lt.mp q4)).symm⟩
                  obtain ⟨j, hj, rfl⟩ : ∃ c, c < 2 ^ 31 ∧ j = nI c := ⟨tn j, by have := j.toNatClampNeg_lt; omega, (nI_tn (Int32.not_lt.mp q5)).symm⟩
                  rw [cp_body a s t hi hj hc (by omega) (by omega)]
                  simp (disch := omega) only [if_neg q3, if_neg q4, if_neg q5, nI_ltE, nI_subltE, nI_sub_le]
                  by_cases l1 : i + c ≤ (aSh a s).2.1
                  · by_cases l2 : j + c ≤ (aSh a t).2.1
                    · rw [if_neg (by omega), if_neg (by omega), if_neg (by omega), if_pos l2, if_pos l1, if_pos l2]
                      exact M_cpB h hs ht hi hj hc u w l1 l2
                    · rw [if_pos l1, if_neg l2, if_neg l2]
                      simp only [ite_self]; exact M_bad h
                  · rw [if_neg l1, if_pos (c := (aSh a s).2.1 < i + c) (by omega)]
                    simp only [ite_self]; exact M_bad h
          · simp only [if_neg q2]; exact M_oth h
        · have g := p_facts (show p < 8 by omega)
          rw [w.1]
          simp only [w.2.2.1, i22, if_true, if_pos g.2.2.1]; exact M_oth h
      · have f := p_facts (show p < 8 by omega)
        rw [u.1]
        simp only [u.2.2.1, i22, if_true, if_pos f.2.2.1]; exact M_oth h
    · simp only [if_pos q, if_neg q1, Option.bind_some, i10, if_false, if_true]; exact M_bad h
  · simp only [if_neg q, Option.bind_some, if_true]; exact M_bad h
end O7
