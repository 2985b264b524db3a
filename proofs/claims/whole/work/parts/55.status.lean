/-! status -/
def sOutAll (v : CV) : Int32 := iter (fun p (x : Int32) => x + v.2 p 4) (pN v) 0
def sUsed (a : AB) : Int32 := iter (fun s (x : Int32) => if (aSh a s).1 = -1 then x else x + 1) 8 0
def oStatus (a : AB) (x : Int32) : Int32 := if x = 0 then a.1.1 1 else if x = 1 then a.1.1 0 else if x = 2 then a.1.1 2 else if x = 3 then a.1.1 3 else if x = 4 then a.1.1 4 else if x = 5 then a.1.1 5 else if x = 6 then sOutAll a.1 else if x = 7 then nI (aT a).1 else if x = 8 then a.1.1 6 else if x = 9 then sUsed a else if 12 ≤ x ∧ x ≤ 16 then aR a (tn (x - 12)) else -1
theorem st_16 {x : Int32} (h : 12 ≤ x ∧ x ≤ 16) : ∃ j, j < 5 ∧ x = nI (12 + j) := by
  obtain ⟨k, hk, rfl⟩ := (inN_iff (n := 17) (by decide)).mp ⟨Int32.le_trans (by decide) h.1, (le_nI (n := 16) (by decide)).mp h.2⟩
  have h2 : 12 ≤ k := by
    refine Nat.le_of_not_lt fun z => ?_
    exact Int32.not_le.mpr (nI_lt (b := 12) z (by decide)) h.1
  exact ⟨k - 12, by omega, by rw [show 12 + (k - 12) = k by omega]⟩
theorem st_f {j : Nat} (h : j < 5) : nI (12 + j) - 12 = nI j ∧ nI (12 + j) - 10 = nI (2 + j) := by
  have : ∀ q : Fin 5, nI (12 + q.1) - 12 = nI q.1 ∧ nI (12 + q.1) - 10 = nI (2 + q.1) := by decide
  exact this ⟨j, h⟩
section O8
variable {a : AB} {M : Mm}
theorem C_outAll {c : Nat} {v : CV} (hV : VC c v M) (hW : WF v) : f_X1_outTogether c M = some (sOutAll v) := by
  have h1 := hW.n
  have h2 := hW.n9
  have e : M.1 c 1 = nI (pN v) := (hV.1 1 (by decide)).trans h1
  have r := loop_run0 (fun n i (x : Int32) => f_X1_outTogether_L4 c M n x (nI i)) (pN v) (fun p (x : Int32) => x + v.2 p 4) id 0 (by
    intro n i x hi
    show f_X1_outTogether_L4 c M (n + 1) x (nI i) = _
    rw [f_X1_outTogether_L4, e, if_neg (nI_ge hi (by omega)), chk_ok (by omega) (by decide), tn_nI (by omega), hV.2 i 4 (by omega) (by decide)]
    simp only [bi, nI_1]) (by
    intro n x
    show f_X1_outTogether_L4 c M (n + 1) x (nI (pN v)) = _
    rw [f_X1_outTogether_L4, e, if_pos (Int32.le_refl _)]; rfl) 1000 (by omega)
  unfold f_X1_outTogether
  rw [show f_X1_outTogether_L4 c M 1000 0 0 = _ from r]; rfl
theorem M_outAll {b : Nat} {v : CV} (hV : VM b v M) (hW : WF v) : (f_X8_status_L82 b M 1000 0 0) = some (sOutAll v) := by
  have h1 := hW.n
  have h2 := hW.n9
  have e : M.1 b 10 = nI (pN v) := hV.n.trans h1
  have r := loop_run0 (fun n i (x : Int32) => f_X8_status_L82 b M n x (nI i)) (pN v) (fun p (x : Int32) => x + v.2 p 4) id 0 (by
    intro n i x hi
    show f_X8_status_L82 b M (n + 1) x (nI i) = _
    rw [f_X8_status_L82, e, if_neg (nI_ge hi (by omega)), chk_ok (by omega) (by decide), tn_nI (by omega), hV.p4 (by omega)]
    simp only [bi, nI_1]) (by
    intro n x
    show f_X8_status_L82 b M (n + 1) x (nI (pN v)) = _
    rw [f_X8_status_L82, e, if_pos (Int32.le_refl _)]; rfl) 1000 (by omega)
  exact r
theorem C_used (h : RC a M) : f_X7_shelvesInUse M = some (sUsed a) := by
  have r := loop_run0 (fun n i (x : Int32) => f_X7_shelvesInUse_L4 M n x (nI i)) 8 (fun s (x : Int32) => if (aSh a s).1 = -1 then x else x + 1) id 0 (by
    intro n i x hi
    show f_X7_shelvesInUse_L4 M (n + 1) x (nI i) = f_X7_shelvesInUse_L4 M n (if (aSh a i).1 = -1 then x else x + 1) (nI (i + 1))
    rw [f_X7_shelvesInUse_L4, if_neg (show ¬ (8 : Int32) ≤ nI i from nI_ge (b := 8) hi (by decide)), chk_ok hi (by decide), tn_nI (by omega), (h.2.2.1 i hi).1]
    by_cases q : (aSh a i).1 = -1
    · simp only [if_pos q, bi, nI_1]
    · simp only [if_neg q, bi, nI_1]) (by
    intro n x
    show f_X7_shelvesInUse_L4 M (n + 1) x (nI 8) = _
    rw [f_X7_shelvesInUse_L4]
    exact if_pos (Int32.le_refl _)) 1000 (by omega)
  unfold f_X7_shelvesInUse
  rw [show f_X7_shelvesInUse_L4 M 1000 0 0 = _ from r]; rfl
theorem M_used (h : RM a M) (hW : WA a) : f_X8_status_L119 69 M 1000 0 0 = some (sUsed a) := by
  have h2 := hW.1.n9
  have r := loop_run0 (fun n i (x : Int32) => f_X8_status_L119 69 M n x (nI i)) 8 (fun s (x : Int32) => if (aSh a s).1 = -1 then x else x + 1) id 0 (by
    intro n i x hi
    show f_X8_status_L119 69 M (n + 1) x (nI i) = f_X8_status_L119 69 M n (if (aSh a i).1 = -1 then x else x + 1) (nI (i + 1))
    rw [f_X8_status_L119, if_neg (show ¬ (8 : Int32) ≤ nI i from nI_ge (b := 8) hi (by decide)), chk_ok hi (by decide), tn_nI (by omega)]
    simp only [Nat.reduceAdd]
    rcases triM (by omega) (hW.2.2.1 i hi) (h.2.2.1 i hi) with t | t | ⟨p, hp, t⟩
    · simp only [t.2.2, i00, if_true, if_pos t.1, bi, nI_1, Int32.add_zero]
    · simp only [t.2.2.1, i10, if_false, if_neg (r_facts t.1).1, bi, nI_1]
    · rw [t.1]
      simp only [t.2.2.1, i20, if_false, if_neg (p_facts (show p < 8 by omega)).1, bi, nI_1]) (by
    intro n x
    show f_X8_status_L119 69 M (n + 1) x (nI 8) = _
    rw [f_X8_status_L119]
    exact if_pos (Int32.le_refl _)) 1000 (by omega)
  exact r
theorem X7_status (h : RC a M) (hW : WA a) (x : Int32) : f_X7_status x M = some (oStatus a x) := by
  unfold f_X7_status oStatus
  rw [C_outAll h.1 hW.1, C_used h, h.1.1 0 (by decide), h.1.1 1 (by decide), h.1.1 2 (by decide), h.1.1 3 (by decide), h.1.1 4 (by decide), h.1.1 5 (by decide), h.1.1 6 (by decide), h.2.2.2.1.1]
  simp only [Option.bind_some, apply_ite some, within_ok]
  by_cases q : 12 ≤ x ∧ x ≤ 16
  · obtain ⟨j, hj, rfl⟩ := st_16 q
    rw [if_pos q, if_pos q]
    simp only [Option.bind_some, i10, if_false, (st_f hj).1]
    rw [chk_ok hj (by decide), tn_nI (by omega), tnn (by omega), h.2.2.2.2 j hj]
  · rw [if_neg q, if_neg q]
    simp only [Option.bind_some, i00, if_true]
theorem X8_status (h : RM a M) (hW : WA a) (x : Int32) : f_X8_status 69 x M = some (oStatus a x) := by
  unfold f_X8_status oStatus
  rw [M_outAll h.1 hW.1, M_used h hW, h.1.n, h.1.d, h.1.di, h.1.se, h.2.2.2.1.1]
  simp only [Option.bind_some, apply_ite some]
  by_cases e0 : x = 0
  · rw [if_pos e0, if_pos e0]
  by_cases e1 : x = 1
  · rw [if_neg e0, if_pos e1, if_neg e0, if_pos e1]
  by_cases e2 : x = 2
  · rw [if_neg e0, if_neg e1, if_pos e2, if_neg e0, if_neg e1, if_pos e2]
    subst e2
    rw [show (2 : Int32) - 2 = nI 0 from rfl, chk_ok (by decide) (by decide), tn_nI (by decide), h.1.ho]
  by_cases e3 : x = 3
  · rw [if_neg e0, if_neg e1, if_neg e2, if_pos e3, if_neg e0, if_neg e1, if_neg e2, if_pos e3]
    subst e3
    rw [show (3 : Int32) - 2 = nI 1 from rfl, chk_ok (by decide) (by decide), tn_nI (by decide), h.1.le]
  by_cases e4 : x = 4
  · rw [if_neg e0, if_neg e1, if_neg e2, if_neg e3, if_pos e4, if_neg e0, if_neg e1, if_neg e2, if_neg e3, if_pos e4]
    subst e4
    rw [show (4 : Int32) - 2 = nI 2 from rfl, chk_ok (by decide) (by decide), tn_nI (by decide), h.1.lo]
  simp only [if_neg e0, if_neg e1, if_neg e2, if_neg e3, if_neg e4]
  rw [show f_X8_in x.toInt64 12 16 = _ from in_ok32 x 12 16]
  by_cases q : 12 ≤ x ∧ x ≤ 16
  · obtain ⟨j, hj, rfl⟩ := st_16 q
    rw [if_pos q, if_pos q]
    simp only [Option.bind_some, i10, if_false, (st_f hj).1, (st_f hj).2]
    rw [chk_ok (by omega) (by decide), tn_nI (by omega), tnn (by omega), h.2.2.2.2 j hj]
  · rw [if_neg q, if_neg q]
    simp only [Option.bind_some, i00, if_true]
end O8
