/-! years -/
def sYear (v : CV) : CV := if (sFil v).1 3 ≤ sHow (sFil v) (nI (sBest (sFil v))) then sDine (sFil v) (nI (sBest (sFil v))) else sFil v
def sYears (n : Nat) (v : CV) : CV := iter (fun _ w => sYear w) n v
def yrs (n : Nat) (v : CV) : Nat := cnt (fun i => decide ((sFil (sYears i v)).1 3 ≤ sHow (sFil (sYears i v)) (nI (sBest (sFil (sYears i v)))))) n
def oYears (a : AB) (n : Int32) : AB × Int32 := if 1 ≤ n ∧ n ≤ 50 then (if pN a.1 = 0 then stk a else (setV a (sYears (tn n) a.1), nI (yrs (tn n) a.1))) else bad a
theorem sFil_k {v : CV} (h : WF v) {k : Nat} (hk : k ≠ 6) : (sFil v).1 k = v.1 k := ((Alike.rf h).gp (pN v)).2 k hk
theorem sYear_WF {v : CV} (h : WF v) : WF (sYear v) := by
  unfold sYear
  split
  · exact sDine_WF (sFil_WF h) _
  · exact sFil_WF h
theorem sYear_pN {v : CV} (h : WF v) : pN (sYear v) = pN v := by
  unfold sYear
  split
  · rw [sDine_pN, sFil_pN h]
  · exact sFil_pN h
theorem sYear_H0 {v : CV} (h : WF v) (h0 : H0 v) : H0 (sYear v) := by
  have hf : H0 (sFil v) := fun z => by
    rw [sFil_pN h] at z
    rw [sFil_k h (by decide)]; exact h0 z
  unfold sYear
  split
  · exact sDine_H0 hf _
  · exact hf
theorem sYears_WF {v : CV} (h : WF v) : ∀ n, WF (sYears n v) := by
  intro n
  induction n with
  | zero => exact h
  | succ n ih => exact sYear_WF ih
theorem sYears_pN {v : CV} (h : WF v) : ∀ n, pN (sYears n v) = pN v := by
  intro n
  induction n with
  | zero => rfl
  | succ n ih => exact (sYear_pN (sYears_WF h n)).trans ih
theorem sYears_H0 {v : CV} (h : WF v) (h0 : H0 v) : ∀ n, H0 (sYears n v) := by
  intro n
  induction n with
  | zero => exact h0
  | succ n ih => exact sYear_H0 (sYears_WF h n) ih
theorem sYear_5 {v : CV} (h : WF v) : (sYear v).1 5 = v.1 5 + (if decide ((sFil v).1 3 ≤ sHow (sFil v) (nI (sBest (sFil v)))) = true then 1 else 0) := by
  unfold sYear
  by_cases q : (sFil v).1 3 ≤ sHow (sFil v) (nI (sBest (sFil v)))
  · rw [if_pos q, if_pos (decide_eq_true q)]
    show (uS _ 5 ((sFil v).1 5 + 1)).1 5 = _
    rw [uS_on, sFil_k h (by decide)]
  · rw [if_neg q, if_neg (fun z => q (of_decide_eq_true z)), sFil_k h (by decide), Int32.add_zero]
theorem sYears_5 {v : CV} (h : WF v) : ∀ n, (sYears n v).1 5 = v.1 5 + nI (yrs n v) := by
  intro n
  induction n with
  | zero => show v.1 5 = v.1 5 + 0; rw [Int32.add_zero]
  | succ n ih =>
    rw [show sYears (n + 1) v = sYear (sYears n v) from rfl, sYear_5 (sYears_WF h n), ih, Int32.add_assoc]
    congr 1
    show nI (yrs n v) + _ = nI (yrs n v + _)
    split
    · exact nI_1 _
    · exact Int32.add_zero _
section OY
variable {a : AB} {M : Mm}
theorem year_k {x : Int32} (q : 1 ≤ x ∧ x ≤ 50) : ∃ k, 1 ≤ k ∧ k < 51 ∧ x = nI k := by
  obtain ⟨k, hk, rfl⟩ := (inN_iff (n := 51) (by decide)).mp ⟨Int32.le_trans (by decide) q.1, (le_nI (n := 50) (by decide)).mp q.2⟩
  have k1 : 1 ≤ k := Nat.le_of_not_lt fun z => Int32.not_le.mpr (nI_lt (b := 1) z (by decide)) q.1
  exact ⟨k, k1, hk, rfl⟩
theorem C_year (h : RC a M) (hW : WF a.1) (x2 : Int32) {i m : Nat} (hi : i < m) (hm : m < 51) : ∃ M2, (∀ n, f_X7_years_L44 (nI m) x2 (n + 1) (nI i) M = f_X7_years_L44 (nI m) x2 n (nI (i + 1)) M2) ∧ RC (setV a (sYear a.1)) M2 ∧ FrC M M2 := by
  obtain ⟨Ma, a1, a2, a3⟩ := C_fill h.1 hW
  have wa := sFil_WF hW
  have ha := RC_setV h a2 a3
  obtain ⟨Mb, b1, b2, b3⟩ := C_reckon a2 wa
  have hb := ha.fr b3 (by omega)
  have vb : VC 1 (sFil a.1) Mb := hb.1
  have e3 : Mb.1 1 3 = (sFil a.1).1 3 := vb.1 3 (by decide)
  have fb : FrC M Mb := (a3.wide (by omega) (by omega)).tr (b3.wide (by omega) (by omega))
  by_cases q : (sFil a.1).1 3 ≤ sHow (sFil a.1) (nI (sBest (sFil a.1)))
  · obtain ⟨Mc, c1, c2, c3⟩ := C_dinner vb wa (nI (sBest (sFil a.1)))
    refine ⟨Mc, fun n => ?_, ?_, fb.tr (c3.wide (by omega) (by omega))⟩
    · rw [f_X7_years_L44, if_neg (nI_ge hi (by omega)), a1, Option.bind_some, b1, Option.bind_some, C_bestAll wa b2, Option.bind_some]
      show ((f_X1_howManyOn 1 (nI (sBest (sFil a.1))) Mb).bind _) = _
      rw [C_howManyOn vb wa, Option.bind_some, e3, if_neg (i32_nlt.mpr q)]
      show ((f_X1_dinnerOn 1 (nI (sBest (sFil a.1))) Mb).bind _) = _
      rw [c1]
      simp only [Option.bind_some, bi, nI_1]
    · unfold sYear
      rw [if_pos q]
      exact RC_setV (a := setV a (sFil a.1)) (v := sDine (sFil a.1) (nI (sBest (sFil a.1)))) hb c2 c3
  · refine ⟨Mb, fun n => ?_, ?_, fb⟩
    · rw [f_X7_years_L44, if_neg (nI_ge hi (by omega)), a1, Option.bind_some, b1, Option.bind_some, C_bestAll wa b2, Option.bind_some]
      show ((f_X1_howManyOn 1 (nI (sBest (sFil a.1))) Mb).bind _) = _
      rw [C_howManyOn vb wa, Option.bind_some, e3, if_pos (i32_nle.mp q)]
      simp only [bi, nI_1]
    · unfold sYear
      rw [if_neg q]
      exact hb
theorem M_year (h : RM a M) (hW : WF a.1) {i m : Nat} (hi : i < m) (hm : m < 51) (x : Nat) : ∃ M2, (∀ n, f_X8_years_L37 69 (nI m) (n + 1) (nI x) (nI i) M = f_X8_years_L37 69 (nI m) n (nI (x + (if decide ((sFil a.1).1 3 ≤ sHow (sFil a.1) (nI (sBest (sFil a.1)))) = true then 1 else 0))) (nI (i + 1)) M2) ∧ RM (setV a (sYear a.1)) M2 ∧ FrM M M2 ∧ M2.2.2 = M.2.2 := by
  obtain ⟨Ma, a1, a2, a3⟩ := M_fill h.1 hW
  have wa := sFil_WF hW
  have ha := RM_setV h a2 a3
  obtain ⟨Mb, b1, b2, b3⟩ := M_best0 a2 wa
  have hb := ha.sc b3
  have vb : VM 69 (sFil a.1) Mb := hb.1
  have fb : FrM M Mb := a3.m.tr b3.fr
  have kb : Mb.2.2 = M.2.2 := by rw [b3.2.2, a3.2]
  by_cases q : (sFil a.1).1 3 ≤ sHow (sFil a.1) (nI (sBest (sFil a.1)))
  · obtain ⟨Mc, c1, c2, c3⟩ := M_dinner vb wa (nI (sBest (sFil a.1)))
    refine ⟨Mc, fun n => ?_, ?_, fb.tr c3.m, by rw [c3.2]; exact kb⟩
    · rw [f_X8_years_L37, if_neg (nI_ge hi (by omega)), a1, Option.bind_some, b1, Option.bind_some]
      simp only [bi]
      rw [M_mayDine vb wa, if_pos q, Option.bind_some, if_neg (show ¬ ((1 : Int32) = 0) by decide), c1, Option.bind_some, if_pos (decide_eq_true q), nI_1, nI_1]
    · unfold sYear
      rw [if_pos q]
      exact RM_setV (a := setV a (sFil a.1)) (v := sDine (sFil a.1) (nI (sBest (sFil a.1)))) hb c2 c3
  · refine ⟨Mb, fun n => ?_, ?_, fb, kb⟩
    · rw [f_X8_years_L37, if_neg (nI_ge hi (by omega)), a1, Option.bind_some, b1, Option.bind_some]
      simp only [bi]
      rw [M_mayDine vb wa, if_neg q, Option.bind_some, if_pos rfl, if_neg (fun z => q (of_decide_eq_true z)), nI_1, Nat.add_zero x]
    · unfold sYear
      rw [if_neg q]
      exact hb
theorem X7_years (h : RC a M) (hW : WA a) (n : Int32) : OKC (f_X7_years n M) M (oYears a n) := by
  unfold f_X7_years oYears
  rw [within_ok, h.1.1 1 (by decide)]
  simp only [n0 hW.1]
  by_cases q : 1 ≤ n ∧ n ≤ 50
  · by_cases q2 : pN a.1 = 0
    · simp only [if_pos q, if_pos q2, Option.bind_some, i10, if_false]; exact C_stk h
    · obtain ⟨m, m1, m2, rfl⟩ := year_k q
      obtain ⟨r, e1, e2⟩ := loop_ex (fun n i (M9 : Mm) => f_X7_years_L44 (nI m) (M.1 1 5) n (nI i) M9) m (fun i M9 => RC (setV a (sYears i a.1)) M9 ∧ FrC M M9) (fun r => RC (setV a (sYears m a.1)) r ∧ FrC M r) (by
        intro n i M9 hi h
        obtain ⟨M2, c1, c2, c3⟩ := C_year h.1 (sYears_WF hW.1 i) (M.1 1 5) hi m2
        exact Or.inr ⟨M2, c1 n, c2, h.2.tr c3⟩) (by
        intro n M9 h
        refine ⟨M9, ?_, h⟩
        show f_X7_years_L44 (nI m) (M.1 1 5) (n + 1) (nI m) M9 = _
        rw [f_X7_years_L44, if_pos (Int32.le_refl _)]) 1000 0 M (by omega) (by omega) ⟨h, Fr.rf⟩
      simp only [if_pos q, if_neg q2, Option.bind_some, i10, if_false, bi]
      rw [show f_X7_years_L44 (nI m) (M.1 1 5) 1000 0 M = some r from e1, Option.bind_some, tnn (show m < 2 ^ 31 by omega)]
      have e5 : r.1 1 5 - M.1 1 5 = nI (yrs m a.1) := by
        have a1 : r.1 1 5 = (sYears m a.1).1 5 := e2.1.1.1 5 (by decide)
        have a2 : M.1 1 5 = a.1.1 5 := h.1.1 5 (by decide)
        rw [a1, a2, sYears_5 hW.1, Int32.add_comm, Int32.add_sub_cancel]
      rw [e5]
      exact ⟨r, rfl, e2.1, e2.2⟩
  · simp only [if_neg q, Option.bind_some, if_true]; exact C_bad h
theorem X8_years (h : RM a M) (hW : WA a) (n : Int32) : OKM (f_X8_years 69 n M) M (oYears a n) := by
  unfold f_X8_years oYears
  rw [show f_X8_in n.toInt64 1 50 = _ from in_ok32 n 1 50, h.1.n]
  simp only [n0 hW.1]
  by_cases q : 1 ≤ n ∧ n ≤ 50
  · by_cases q2 : pN a.1 = 0
    · simp only [if_pos q, if_pos q2, Option.bind_some, i10, if_false]; exact M_stk h
    · obtain ⟨m, m1, m2, rfl⟩ := year_k q
      obtain ⟨r, e1, e2⟩ := loop_ex (fun n i (s : Int32 × Mm) => f_X8_years_L37 69 (nI m) n s.1 (nI i) s.2) m (fun i s => s.1 = nI (yrs i a.1) ∧ RM (setV a (sYears i a.1)) s.2 ∧ FrM M s.2 ∧ s.2.2.2 = M.2.2) (fun r => r.1 = nI (yrs m a.1) ∧ RM (setV a (sYears m a.1)) r.2 ∧ FrM M r.2 ∧ r.2.2.2 = M.2.2) (by
        intro n i s hi h
        obtain ⟨s1, M9⟩ := s
        obtain ⟨g1, g2, g3, g4⟩ := h
        have g1 : s1 = nI (yrs i a.1) := g1
        subst g1
        obtain ⟨M2, c1, c2, c3, c4⟩ := M_year g2 (sYears_WF hW.1 i) hi m2 (yrs i a.1)
        exact Or.inr ⟨(_, M2), c1 n, rfl, c2, g3.tr c3, c4.trans g4⟩) (by
        intro n s h
        refine ⟨s, ?_, h⟩
        show f_X8_years_L37 69 (nI m) (n + 1) s.1 (nI m) s.2 = _
        rw [f_X8_years_L37, if_pos (Int32.le_refl _)]) 1000 0 (0, M) (by omega) (by omega) ⟨rfl, h, FrM.rf, rfl⟩
      simp only [if_pos q, if_neg q2, Option.bind_some, i10, if_false]
      rw [show f_X8_years_L37 69 (nI m) 1000 0 0 M = some r from e1, tnn (show m < 2 ^ 31 by omega), ← e2.1]
      exact ⟨r.2, rfl, e2.2⟩
  · simp only [if_neg q, Option.bind_some, if_true]; exact M_bad h
theorem W_years (h : WB a) (n : Int32) : WB (oYears a n).1 := by
  unfold oYears
  by_cases q : 1 ≤ n ∧ n ≤ 50
  · by_cases q2 : pN a.1 = 0
    · rw [if_pos q, if_pos q2]; exact h
    · rw [if_pos q, if_neg q2]
      exact WB_setV h (sYears_WF h.1.1 _) (sYears_H0 h.1.1 h.2.1 _) (by rw [sYears_pN h.1.1]; exact Nat.le_refl _)
  · rw [if_neg q]; exact h
end OY
