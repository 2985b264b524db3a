/-! the shelves: row, set, show, says -/
theorem fill_ok (o : Nat) (M : Mm) : ∃ M2, f_J7_fill_d0a16 40 o 0 M = some M2 ∧ M2.1 = M.1 ∧ (∀ i, i < 40 → M2.2.1 o i = 0) ∧ (∀ x, x ≠ o → M2.2.1 x = M.2.1 x) ∧ M2.2.2 = M.2.2 := by
  obtain ⟨r, e1, e2⟩ := loop_ex (fun n i (M9 : Mm) => f_J7_fill_d0a16_L6 40 o 0 (nI 40) n (nI i) M9) 40 (fun i M9 => M9.1 = M.1 ∧ (∀ j, j < i → M9.2.1 o j = 0) ∧ (∀ x, x ≠ o → M9.2.1 x = M.2.1 x) ∧ M9.2.2 = M.2.2) (fun r => r.1 = M.1 ∧ (∀ j, j < 40 → r.2.1 o j = 0) ∧ (∀ x, x ≠ o → r.2.1 x = M.2.1 x) ∧ r.2.2 = M.2.2) (by
    intro n i M9 hi h
    refine Or.inr ⟨wJ M9 o i 0, ?_, h.1, fun j hj => ?_, fun x hx => (wJ_ne hx).trans (h.2.2.1 x hx), h.2.2.2⟩
    · show f_J7_fill_d0a16_L6 40 o 0 (nI 40) (n + 1) (nI i) M9 = _
      rw [f_J7_fill_d0a16_L6]
      simp (disch := omega) only [nI_leF hi, chk_ok, bm, bi, nI_1, tn_nI, reduceIte]
    · by_cases q : j = i
      · subst q; exact wJ_on
      · rw [wJ_off (Or.inr q)]; exact h.2.1 j (by omega)) (by
    intro n M9 h
    refine ⟨M9, ?_, h⟩
    show f_J7_fill_d0a16_L6 40 o 0 (nI 40) (n + 1) (nI 40) M9 = _
    rw [f_J7_fill_d0a16_L6]
    simp (disch := omega) only [nI_leT (Nat.le_refl _), reduceIte]) 1000 0 M (by omega) (by omega) ⟨rfl, fun j hj => absurd hj (Nat.not_lt_zero j), fun _ _ => rfl, rfl⟩
  unfold f_J7_fill_d0a16
  simp only [bi]
  rw [show f_J7_fill_d0a16_L6 40 o 0 (Int32.ofNat 40) 1000 0 M = some r from e1]
  exact ⟨r, rfl, e2⟩
theorem M_rowL {k : Nat} (hk : k < 8) (M : Mm) : ∃ M2, f_X8_row_L67 69 (nI k) 1000 0 M = some M2 ∧ M2.1 = M.1 ∧ (∀ i, i < 40 → M2.2.1 (74 + k) i = 0) ∧ (∀ x, x ≠ 74 + k → M2.2.1 x = M.2.1 x) ∧ M2.2.2 = M.2.2 := by
  obtain ⟨r, e1, e2⟩ := loop_ex (fun n i (M9 : Mm) => f_X8_row_L67 69 (nI k) n (nI i) M9) 40 (fun i M9 => M9.1 = M.1 ∧ (∀ j, j < i → M9.2.1 (74 + k) j = 0) ∧ (∀ x, x ≠ 74 + k → M9.2.1 x = M.2.1 x) ∧ M9.2.2 = M.2.2) (fun r => r.1 = M.1 ∧ (∀ j, j < 40 → r.2.1 (74 + k) j = 0) ∧ (∀ x, x ≠ 74 + k → r.2.1 x = M.2.1 x) ∧ r.2.2 = M.2.2) (by
    intro n i M9 hi h
    refine Or.inr ⟨wJ M9 (74 + k) i 0, ?_, h.1, fun j hj => ?_, fun x hx => (wJ_ne hx).trans (h.2.2.1 x hx), h.2.2.2⟩
    · show f_X8_row_L67 69 (nI k) (n + 1) (nI i) M9 = _
      rw [f_X8_row_L67, if_neg (show ¬ (40 : Int32) ≤ nI i from nI_ge (b := 40) hi (by decide))]
      simp (disch := omega) only [chk_ok, bm, bi, nI_1, tn_nI, reduceIte, Nat.reduceAdd]
    · by_cases q : j = i
      · subst q; exact wJ_on
      · rw [wJ_off (Or.inr q)]; exact h.2.1 j (by omega)) (by
    intro n M9 h
    refine ⟨M9, ?_, h⟩
    show f_X8_row_L67 69 (nI k) (n + 1) (nI 40) M9 = _
    rw [f_X8_row_L67]
    exact if_pos (Int32.le_refl _)) 1000 0 M (by omega) (by omega) ⟨rfl, fun j hj => absurd hj (Nat.not_lt_zero j), fun _ _ => rfl, rfl⟩
  exact ⟨r, e1, e2⟩
theorem holdsP (o : Nat) (M : Mm) : f_X4_holdsPerson o M = some (if 10 ≤ M.1 o 0 then 1 else 0) := by
  unfold f_X4_holdsPerson
  by_cases q : M.1 o 0 < 10
  · rw [if_pos q, if_neg (fun z => Int32.not_lt.mpr z q)]
  · rw [if_neg q, if_pos (Int32.not_lt.mp q)]
theorem nn2 : ((-2 : Int32) = 0) = False := eq_false (by decide)
theorem nn3 : ((-3 : Int32) = 0) = False := eq_false (by decide)
theorem nn4 : ((-4 : Int32) = 0) = False := eq_false (by decide)
section O5
variable {a : AB} {M : Mm}
theorem X7_row (h : RC a M) (s k n : Int32) : OKC (f_X7_row s k n M) M (oRow a s k n) := by
  unfold f_X7_row oRow
  rw [isShelf_ok, wi_n k 4 4 rfl (by decide), wi_n n 40 40 rfl (by decide)]
  by_cases q : inN s 8
  · by_cases q2 : inN k 5
    · by_cases q3 : inN n 41
      · obtain ⟨s, hs, rfl⟩ := inN_k (by decide) q
        obtain ⟨n, hn, rfl⟩ := inN_k (by decide) q3
        obtain ⟨M2, e1, e2, e3, e4, e5⟩ := fill_ok (53 + 2 * s + 1) (wI (wI M (53 + 2 * s) 0 k) (53 + 2 * s) 1 (nI n))
        unfold f_X4_holdRow
        simp (disch := omega) only [if_pos q, if_pos q2, if_pos q3, Option.bind_some, i10, if_false, chk_ok, tn_nI, tnn, bm, e1]
        refine OKC.sh h hs ⟨by rw [e2, wI_off (by omega), wI_on], by rw [e2, wI_on], fun i hi => e3 i hi⟩ (((Fr.wI (by omega) (by omega)).tr (Fr.wI (by omega) (by omega))).tr ⟨fun x hx => ⟨by rw [e2], e4 x (by omega)⟩, e5⟩)
      · simp only [if_pos q, if_pos q2, if_neg q3, Option.bind_some, i10, if_false, if_true]; exact C_bad h
    · simp only [if_pos q, if_neg q2, Option.bind_some, i10, if_false, if_true]; exact C_bad h
  · simp only [if_neg q, Option.bind_some, if_true]; exact C_bad h
theorem X8_row (h : RM a M) (s k n : Int32) : OKM (f_X8_row 69 s k n M) M (oRow a s k n) := by
  unfold f_X8_row oRow
  rw [show f_X8_in s.toInt64 0 7 = _ from in_n s 7 7 rfl (by decide), show f_X8_in k.toInt64 0 4 = _ from in_n k 4 4 rfl (by decide), show f_X8_in n.toInt64 0 40 = _ from in_n n 40 40 rfl (by decide)]
  by_cases q : inN s 8
  · by_cases q2 : inN k 5
    · by_cases q3 : inN n 41
      · obtain ⟨s, hs, rfl⟩ := inN_k (by decide) q
        obtain ⟨n, hn, rfl⟩ := inN_k (by decide) q3
        obtain ⟨M2, e1, e2, e3, e4, e5⟩ := M_rowL hs (wI (wI (wI M 70 s 1) 71 s k) 72 s (nI n))
        simp (disch := omega) only [if_pos q, if_pos q2, if_pos q3, Option.bind_some, i10, if_false, chk_ok, tn_nI, tnn, bm, Nat.reduceAdd, e1]
        refine OKM.sh h hs (Or.inr (Or.inl ⟨q2, ?_, ?_, ?_, e3⟩)) ((((FrS.wI (by omega)).tr (FrS.wI (by omega))).tr (FrS.wI (by omega))).tr ⟨fun x y _ => by rw [e2], fun x h1 _ => e4 x h1, e5⟩)
        · rw [e2, wI_off (by omega), wI_off (by omega), wI_on]
        · rw [e2, wI_off (by omega), wI_on]
        · rw [e2, wI_on]
      · simp only [if_pos q, if_pos q2, if_neg q3, Option.bind_some, i10, if_false, if_true]; exact M_bad h
    · simp only [if_pos q, if_neg q2, Option.bind_some, i10, if_false, if_true]; exact M_bad h
  · simp only [if_neg q, Option.bind_some, if_true]; exact M_bad h
theorem X7_set (h : RC a M) (hW : WA a) (s i : Int32) (x : Int64) : OKC (f_X7_set s i x M) M (oSet a s i x) := by
  have h2 := hW.1.n9
  unfold f_X7_set f_X7_troubleOfRow oSet
  rw [isShelf_ok]
  by_cases q : inN s 8
  · obtain ⟨s, hs, rfl⟩ := inN_k (by decide) q
    have hS := h.2.2.1 s hs
    simp (disch := omega) only [if_pos q, Option.bind_some, i10, if_false, chk_ok, tn_nI, tnn, holdsP, hS.1, hS.2.1]
    rcases hW.2.2.1 s hs with t | t | ⟨p, hp, t⟩
    · have f := e_facts t.1
      simp only [if_neg f.2.1, if_pos t.1, if_true, Option.bind_some, nn4, if_false]
      exact C_nth h
    · have f := r_facts t.1
      have h40 := t.2
      simp (disch := omega) only [if_neg f.2.1, if_neg f.1, if_true, Option.bind_some, wi_p]
      by_cases q2 : inN i (aSh a s).2.1
      · unfold f_X4_put
        rw [hS.2.1, wi_p i (by omega), low_ok, hS.1]
        obtain ⟨i, hi, rfl⟩ := inN_k (by omega) q2
        simp (disch := omega) only [if_pos q2, Option.bind_some, i10, if_false, chk_ok, tn_nI, tnn, bm]
        refine OKC.sh h hs ⟨hS.1, hS.2.1, fun j hj => ?_⟩ (Fr.wJ (by omega) (by omega))
        show _ = upN _ i _ j
        by_cases q4 : j = i
        · subst q4; rw [wJ_on, upN_eq]
        · rw [wJ_off (Or.inr q4), upN_ne _ _ q4]; exact hS.2.2 j hj
      · simp only [if_neg q2, if_true]; exact C_bad h
    · have f := p_facts (show p < 8 by omega)
      rw [t.1]
      simp only [if_pos f.2.2.1, i10, if_false, Option.bind_some, nn3]
      exact C_oth h
  · simp only [if_neg q, Option.bind_some, if_true, nn2, if_false]; exact C_bad h
theorem X8_set (h : RM a M) (hW : WA a) (s i : Int32) (x : Int64) : OKM (f_X8_set 69 s i x M) M (oSet a s i x) := by
  have h2 := hW.1.n9
  unfold f_X8_set f_X8_noRow oSet
  rw [show f_X8_in s.toInt64 0 7 = _ from in_n s 7 7 rfl (by decide)]
  by_cases q : inN s 8
  · obtain ⟨s, hs, rfl⟩ := inN_k (by decide) q
    simp (disch := omega) only [if_pos q, Option.bind_some, i10, if_false, chk_ok, tn_nI, tnn, Nat.reduceAdd]
    rcases triM (by omega) (hW.2.2.1 s hs) (h.2.2.1 s hs) with t | t | ⟨p, hp, t⟩
    · have f := e_facts t.1
      simp only [t.2.2, i02, if_false, if_true, if_neg f.2.1, if_pos t.1, M_refuse (M := M) (k := 2) (x := -4) (by decide) (by decide), Option.bind_some, bi, nn4]
      exact M_nth h
    · have f := r_facts t.1
      have h40 := t.2.1
      simp (disch := omega) only [t.2.2.1, i12, i10, if_false, Option.bind_some, bi, if_true, if_neg f.2.1, if_neg f.1, t.2.2.2.2.1, in_p, t.2.2.2.1, fit_ok]
      by_cases q2 : inN i (aSh a s).2.1
      · obtain ⟨i, hi, rfl⟩ := inN_k (by omega) q2
        simp (disch := omega) only [if_pos q2, Option.bind_some, i10, if_false, chk_ok, tn_nI, tnn, bm]
        refine OKM.sh h hs (Or.inr (Or.inl ⟨t.1, t.2.2.1, t.2.2.2.1, t.2.2.2.2.1, fun j hj => ?_⟩)) (FrS.wJ (by omega))
        show _ = upN _ i _ j
        by_cases q4 : j = i
        · subst q4; rw [wJ_on, upN_eq]
        · rw [wJ_off (Or.inr q4), upN_ne _ _ q4]; exact t.2.2.2.2.2 j hj
      · simp only [if_neg q2, if_true]; exact M_bad h
    · have f := p_facts (show p < 8 by omega)
      rw [t.1]
      simp only [t.2.2.1, if_true, if_pos f.2.2.1, M_refuse (M := M) (k := 1) (x := -3) (by decide) (by decide), Option.bind_some, bi, nn3, if_false]
      exact M_oth h
  · simp only [if_neg q, Option.bind_some, if_true, M_refuse (M := M) (k := 0) (x := -2) (by decide) (by decide), bi, nn2, if_false]
    exact M_bad h
theorem X7_show (h : RC a M) (hW : WA a) (s p : Int32) : OKC (f_X7_show s p M) M (oShow a s p) := by
  have h2 := hW.1.n9
  unfold f_X7_show oShow
  rw [isShelf_ok, C_hasPerson h.1 hW.1]
  by_cases q : inN s 8
  · obtain ⟨s, hs, rfl⟩ := inN_k (by decide) q
    have hS := h.2.2.1 s hs
    by_cases q2 : p = -1
    · unfold f_X4_holdNothing
      simp (disch := omega) only [if_pos q, if_pos q2, Option.bind_some, i10, if_false, chk_ok, tn_nI, tnn, bm]
      exact OKC.sh h hs ⟨by rw [wI_off (by omega), wI_on], wI_on, hS.2.2⟩ ((Fr.wI (by omega) (by omega)).tr (Fr.wI (by omega) (by omega)))
    · by_cases q3 : inN p (pN a.1)
      · unfold f_X4_holdPerson
        simp (disch := omega) only [if_pos q, if_neg q2, if_pos q3, Option.bind_some, i10, if_false, chk_ok, tn_nI, tnn, bm]
        exact OKC.sh h hs ⟨by rw [wI_off (by omega), wI_on], wI_on, hS.2.2⟩ ((Fr.wI (by omega) (by omega)).tr (Fr.wI (by omega) (by omega)))
      · simp only [if_pos q, if_neg q2, if_neg q3, Option.bind_some, i10, if_false, if_true]; exact C_bad h
  · simp only [if_neg q, Option.bind_some, if_true]; exact C_bad h
theorem X8_show (h : RM a M) (hW : WA a) (s p : Int32) : OKM (f_X8_show 69 s p M) M (oShow a s p) := by
  have h2 := hW.1.n9
  unfold f_X8_show oShow
  rw [show f_X8_in s.toInt64 0 7 = _ from in_n s 7 7 rfl (by decide), M_isOne h.1 hW.1]
  by_cases q : inN s 8
  · obtain ⟨s, hs, rfl⟩ := inN_k (by decide) q
    by_cases q2 : p = -1
    · simp (disch := omega) only [if_pos q, if_pos q2, Option.bind_some, i10, if_false, chk_ok, tn_nI, tnn, bm, Nat.reduceAdd]
      exact OKM.sh h hs (Or.inl ⟨rfl, by rw [wI_off (by omega), wI_on]⟩) ((FrS.wI (by omega)).tr (FrS.wI (by omega)))
    · by_cases q3 : inN p (pN a.1)
      · simp (disch := omega) only [if_pos q, if_neg q2, if_pos q3, Option.bind_some, i10, if_false, chk_ok, tn_nI, tnn, bm, Nat.reduceAdd]
        obtain ⟨p, hp, rfl⟩ := inN_k (by omega) q3
        exact OKM.sh h hs (Or.inr (Or.inr ⟨p, by omega, (p_facts (show p < 8 by omega)).2.2.2.2.2, by rw [wI_off (by omega), wI_on], wI_on⟩)) ((FrS.wI (by omega)).tr (FrS.wI (by omega)))
      · simp only [if_pos q, if_neg q2, if_neg q3, Option.bind_some, i10, if_false, if_true]; exact M_bad h
  · simp only [if_neg q, Option.bind_some, if_true]; exact M_bad h
theorem C_words {p : Nat} (h : VC 1 a.1 M) (hp : p < 8) (k : Int32) : f_X2_wordsAs (3 + p) k M = some (wordV a.1 p k) := by
  have e : ∀ j, j < 5 → M.1 (3 + p) j = a.1.2 p j := fun j hj => h.2 p j hp hj
  unfold f_X2_wordsAs wordV
  simp only [bc_ok, Option.bind_some, apply_ite some, e 1 (by decide), e 2 (by decide), e 3 (by decide)]
theorem X7_says (h : RC a M) (hW : WA a) (s k : Int32) : OKC (f_X7_says s k M) M (oSays a s k) := by
  have h2 := hW.1.n9
  unfold f_X7_says oSays
  rw [isShelf_ok, isKind_ok]
  by_cases q : inN s 8
  · by_cases q1 : inN k 6
    · obtain ⟨s, hs, rfl⟩ := inN_k (by decide) q
      have hS := h.2.2.1 s hs
      unfold f_X4_personHeld
      simp (disch := omega) only [if_pos q, if_pos q1, Option.bind_some, i10, if_false, chk_ok, tn_nI, tnn, holdsP, hS.1]
      rcases hW.2.2.1 s hs with t | t | ⟨p, hp, t⟩
      · simp only [if_pos t.1]; exact C_nth h
      · have f := r_facts t.1
        simp only [if_neg f.1, if_neg f.2.1, if_true, Option.bind_some, C_hasPerson h.1 hW.1]
        have n1 : ¬ inN (-1) (pN a.1) := fun z => absurd z.1 (by decide)
        rw [if_neg n1, if_pos t.1]
        simp only [if_true]; exact C_oth h
      · have f := p_facts (show p < 8 by omega)
        have ip : inN (nI p) (pN a.1) := (inN_nI (by omega) (by omega)).mpr hp
        rw [t.1]
        have e0 : M.1 (3 + p) 0 = a.1.2 p 0 := h.1.2 p 0 (by omega) (by decide)
        simp (disch := omega) only [if_neg f.1, if_neg f.2.1, if_pos f.2.2.1, i10, if_false, Option.bind_some, f.2.2.2.2.1, C_hasPerson h.1 hW.1, if_pos ip, chk_ok, tn_nI, tnn, C_ofKind, e0, C_words h.1]
        by_cases q3 : kindV (a.1.2 p 0) k
        · simp only [if_pos q3, i10, if_false]; exact okC h
        · simp only [if_neg q3, if_true]; exact C_oth h
    · simp only [if_pos q, if_neg q1, Option.bind_some, i10, if_false, if_true]; exact C_bad h
  · simp only [if_neg q, Option.bind_some, if_true]; exact C_bad h
theorem X8_says (h : RM a M) (hW : WA a) (s k : Int32) : OKM (f_X8_says 69 s k M) M (oSays a s k) := by
  have h2 := hW.1.n9
  unfold f_X8_says oSays
  rw [show f_X8_in s.toInt64 0 7 = _ from in_n s 7 7 rfl (by decide), show f_X8_in k.toInt64 0 5 = _ from in_n k 5 5 rfl (by decide)]
  by_cases q : inN s 8
  · by_cases q1 : inN k 6
    · obtain ⟨s, hs, rfl⟩ := inN_k (by decide) q
      simp (maxSteps := 4000000) (disch := omega) only [if_pos q, if_pos q1, Option.bind_some, i10, if_false, chk_ok, tn_nI, tnn, Nat.reduceAdd]
      rcases triM (by omega) (hW.2.2.1 s hs) (h.2.2.1 s hs) with t | t | ⟨p, hp, t⟩
      · simp only [t.2.2, i01, i02, if_false, if_true, if_pos t.1]; exact M_nth h
      · have f := r_facts t.1
        simp only [t.2.2.1, if_true, if_neg f.1, if_pos t.1]; exact M_oth h
      · have f := p_facts (show p < 8 by omega)
        have e0 : M.1 86 p = a.1.2 p 0 := h.1.p0 (by omega)
        have e1 : M.1 87 p = a.1.2 p 1 := h.1.p1 (by omega)
        have e2 : M.1 88 p = a.1.2 p 2 := h.1.p2 (by omega)
        have e3 : M.1 89 p = a.1.2 p 3 := h.1.p3 (by omega)
        have b3 : f_X8_bits (a.1.2 p 3) = some (bc (a.1.2 p 3)) := bits_ok ((hW.1.2.2.2.2.2 p (by omega)).2.2.2.1)
        rw [t.1]
        simp (disch := omega) only [t.2.2.1, t.2.2.2, i20, i21, if_false, if_true, if_neg f.1, if_neg f.2.1, f.2.2.2.2.1, Option.bind_some, chk_ok, tn_nI, tnn, M_under, e0, e1, e2, e3, b3, bi]
        by_cases q3 : kindV (a.1.2 p 0) k
        · simp only [if_pos q3, i10, if_false]
          unfold wordV
          by_cases k0 : k = 0
          · simp only [if_pos k0]; exact okM h
          by_cases k1 : k = 1
          · simp only [if_neg k0, if_pos k1]; exact okM h
          by_cases k3 : k = 3
          · have k2 : ¬ k = 2 := by rw [k3]; decide
            simp only [if_neg k0, if_neg k1, if_neg k2, if_pos k3]; exact okM h
          by_cases k2 : k = 2
          · simp only [if_neg k0, if_neg k1, if_neg k3, if_pos k2]; exact okM h
          · simp only [if_neg k0, if_neg k1, if_neg k3, if_neg k2]; exact okM h
        · simp only [if_neg q3, if_true]; exact M_oth h
    · simp only [if_pos q, if_neg q1, Option.bind_some, i10, if_false, if_true]; exact M_bad h
  · simp only [if_neg q, Option.bind_some, if_true]; exact M_bad h
end O5
