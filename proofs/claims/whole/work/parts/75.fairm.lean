/-! the model's fair -/
def SF (k : Nat) (s : Option (Nat × Rw)) (M : Mm) : Prop := M.1 69 35 = s.elim (-1) (fun o => nI (o.1 / 1000)) ∧ (∀ o, s = some o → o.1 < 100000) ∧ ∀ o, s = some o → M.1 69 36 = nI (o.1 % 1000) ∧ ∀ i, i < k → M.1 105 i = nI (gt9 o.2 i)
def IV9 (v : CV) (k n : Nat) (r : Rw) (M0 : Mm) (s : Option (Nat × Rw)) (M : Mm) : Prop := VM 69 v M ∧ ScM M0 M ∧ SF k s M ∧ ∀ i, i < n → M.1 104 i = nI (gt9 r i)
theorem M_copied {nA o0 o1 : Nat} (hA : nA < 1000) (ho : o0 ≠ o1) (M : Mm) : ∃ M2, f_X8_copied nA o0 o1 M = some M2 ∧ (∀ i, i < nA → M2.1 o1 i = M.1 o0 i) ∧ (∀ x, x ≠ o1 → M2.1 x = M.1 x) ∧ M2.2 = M.2 := by
  obtain ⟨r, e1, e2⟩ := loop_ex (fun n i (M9 : Mm) => f_X8_copied_L2 nA o0 o1 n (nI i) M9) nA (fun i M9 => (∀ j, j < i → M9.1 o1 j = M.1 o0 j) ∧ (∀ x, x ≠ o1 → M9.1 x = M.1 x) ∧ M9.2 = M.2) (fun r => (∀ i, i < nA → r.1 o1 i = M.1 o0 i) ∧ (∀ x, x ≠ o1 → r.1 x = M.1 x) ∧ r.2 = M.2) (by
    intro n i M9 hi h
    refine Or.inr ⟨wI M9 o1 i (M9.1 o0 i), ?_, fun j hj => ?_, fun x hx => (wI_ne hx).trans (h.2.1 x hx), h.2.2⟩
    · show f_X8_copied_L2 nA o0 o1 (n + 1) (nI i) M9 = _
      rw [f_X8_copied_L2, if_neg (show ¬ Int32.ofNat nA ≤ nI i from nI_ge hi (by omega)), chk_ok hi (by omega), chk_ok hi (by omega), tn_nI (by omega)]
      simp only [bm, bi, nI_1]
    · by_cases q : j = i
      · subst q; rw [wI_on, h.2.1 o0 ho]
      · rw [wI_off (Or.inr q)]; exact h.1 j (by omega)) (by
    intro n M9 h
    refine ⟨M9, ?_, h⟩
    show f_X8_copied_L2 nA o0 o1 (n + 1) (nI nA) M9 = _
    rw [f_X8_copied_L2]
    exact if_pos (Int32.le_refl _)) 1000 0 M (by omega) (by omega) ⟨fun j hj => absurd hj (Nat.not_lt_zero j), fun _ _ => rfl, rfl⟩
  unfold f_X8_copied
  rw [show f_X8_copied_L2 nA o0 o1 1000 0 M = some r from e1]
  exact ⟨r, rfl, e2⟩
section MF9
variable {v : CV} {M : Mm}
theorem M_miss1 {k : Nat} (hV : VM 69 v M) (hW : WF v) (h3 : k ≤ 3) (r : Rw) (hT : ∀ i, i < k → M.1 104 i = nI (gt9 r i)) {p : Nat} (hp : p < pN v) (x4 x5 : Int32) : f_X8_seekFair1_L35 69 (nI k) x4 x5 (nI p) M 1000 (v.2 p 4) 0 = some (nI (outN9 v k p r)) := by
  have n9 := hW.n9
  have o := out_N hW (p := p) (by omega)
  obtain ⟨rr, e1, e2⟩ := loop_ex (fun n i (s : Int32) => f_X8_seekFair1_L35 69 (nI k) x4 x5 (nI p) M n s (nI i)) k (fun i s => s = nI (min 99 (tn (v.2 p 4) + miss9 v p r i))) (fun s => s = nI (outN9 v k p r)) (by
    intro n i s hi h
    have h : s = nI (min 99 (tn (v.2 p 4) + miss9 v p r i)) := h
    subst h
    refine Or.inr ⟨nI (min 99 (tn (v.2 p 4) + miss9 v p r (i + 1))), ?_, rfl⟩
    have e1 : M.1 (69 + 35) i = nI (gt9 r i) := hT i hi
    have em : miss9 v p r (i + 1) = miss9 v p r i + (if decide (¬ hb (v.2 p 3) (nI (gt9 r i))) = true then 1 else 0) := rfl
    show f_X8_seekFair1_L35 69 (nI k) x4 x5 (nI p) M (n + 1) _ (nI i) = f_X8_seekFair1_L35 69 (nI k) x4 x5 (nI p) M n (nI (min 99 (tn (v.2 p 4) + miss9 v p r (i + 1)))) (nI (i + 1))
    rw [f_X8_seekFair1_L35, if_neg (nI_ge hi (by omega)), chk_ok (show i < 3 by omega) (by decide), tn_nI (show i < 2 ^ 31 by omega), e1, M_isFree hV (by omega), Option.bind_some, em]
    have e99 : nI (min 99 (tn (v.2 p 4) + miss9 v p r i)) = 99 ↔ min 99 (tn (v.2 p 4) + miss9 v p r i) = 99 := nI_eq (b := 99) (by omega) (by decide)
    by_cases q : hb (v.2 p 3) (nI (gt9 r i))
    · rw [if_pos q, if_neg (show ¬ ((1 : Int32) = 0) by decide), if_neg (fun z => absurd q (of_decide_eq_true z)), Nat.add_zero (miss9 v p r i)]
      simp only [bi, nI_1, Int32.add_zero]
    · rw [if_neg q, if_pos rfl, if_pos (decide_eq_true q)]
      by_cases q2 : min 99 (tn (v.2 p 4) + miss9 v p r i) = 99
      · rw [if_pos (e99.mpr q2), show min 99 (tn (v.2 p 4) + (miss9 v p r i + 1)) = min 99 (tn (v.2 p 4) + miss9 v p r i) by omega]
        simp only [bi, nI_1, Int32.add_zero]
      · rw [if_neg (fun z => q2 (e99.mp z)), show min 99 (tn (v.2 p 4) + (miss9 v p r i + 1)) = min 99 (tn (v.2 p 4) + miss9 v p r i) + 1 by omega]
        simp only [bi, nI_1]) (by
    intro n s h
    refine ⟨s, ?_, h⟩
    show f_X8_seekFair1_L35 69 (nI k) x4 x5 (nI p) M (n + 1) s (nI k) = _
    rw [f_X8_seekFair1_L35, if_pos (Int32.le_refl _)]) 1000 0 (v.2 p 4) (by omega) (by omega) (by
      show v.2 p 4 = nI (min 99 (tn (v.2 p 4) + 0))
      rw [show min 99 (tn (v.2 p 4) + 0) = tn (v.2 p 4) by omega]; exact o.1)
  rw [show f_X8_seekFair1_L35 69 (nI k) x4 x5 (nI p) M 1000 (v.2 p 4) 0 = some rr from e1, e2]
theorem M_fv1 {k : Nat} (hV : VM 69 v M) (hW : WF v) (h3 : k ≤ 3) (r : Rw) (hT : ∀ i, i < k → M.1 104 i = nI (gt9 r i)) : f_X8_seekFair1_L14 69 (nI k) M 1000 0 0 0 = some (nI (fvN v k r (pN v)).1, nI (fvN v k r (pN v)).2) := by
  have n9 := hW.n9
  have e0 : M.1 69 10 = nI (pN v) := hV.n.trans hW.n
  obtain ⟨rr, e1, e2⟩ := loop_ex (fun n i (s : Int32 × Int32) => f_X8_seekFair1_L14 69 (nI k) M n s.1 s.2 (nI i)) (pN v) (fun i s => s = (nI (fvN v k r i).1, nI (fvN v k r i).2)) (fun s => s = (nI (fvN v k r (pN v)).1, nI (fvN v k r (pN v)).2)) (by
    intro n i s hi h
    have h : s = (nI (fvN v k r i).1, nI (fvN v k r i).2) := h
    subst h
    refine Or.inr ⟨_, ?_, rfl⟩
    have b := fvN_b v k r i
    have ol : outN9 v k i r ≤ 99 := Nat.min_le_left _ _
    have e4 : M.1 (69 + 21) i = v.2 i 4 := hV.p4 (by omega)
    show f_X8_seekFair1_L14 69 (nI k) M (n + 1) (nI (fvN v k r i).1) (nI (fvN v k r i).2) (nI i) = f_X8_seekFair1_L14 69 (nI k) M n (nI (max (fvN v k r i).1 (outN9 v k i r))) (nI ((fvN v k r i).2 + outN9 v k i r)) (nI (i + 1))
    rw [f_X8_seekFair1_L14, e0, if_neg (nI_ge hi (by omega)), chk_ok (show i < 8 by omega) (by decide), tn_nI (by omega), e4]
    simp only [bi]
    rw [M_miss1 hV hW h3 r hT hi, Option.bind_some, nI_add, nI_1]
    by_cases q : outN9 v k i r ≤ (fvN v k r i).1
    · rw [if_pos (nI_le q (by omega)), Nat.max_eq_left q]
    · rw [if_neg (nI_ge (by omega) (by omega)), Nat.max_eq_right (by omega)]) (by
    intro n s h
    refine ⟨s, ?_, h⟩
    show f_X8_seekFair1_L14 69 (nI k) M (n + 1) s.1 s.2 (nI (pN v)) = _
    rw [f_X8_seekFair1_L14, e0, if_pos (Int32.le_refl _)]) 1000 0 (0, 0) (by omega) (by omega) rfl
  rw [show f_X8_seekFair1_L14 69 (nI k) M 1000 0 0 0 = some rr from e1, e2]
theorem M_leaf1 {k : Nat} (hV : VM 69 v M) (hW : WF v) (h3 : k ≤ 3) (r : Rw) (hT : ∀ i, i < k → M.1 104 i = nI (gt9 r i)) {s : Option (Nat × Rw)} (hS : SF k s M) (x3 : Int32) : ∃ M2, f_X8_seekFair1 69 (nI k) (nI k) x3 M = some M2 ∧ SF k (vis btF (fvV v k) s r) M2 ∧ M2.1 104 = M.1 104 ∧ ScM M M2 := by
  have n9 := hW.n9
  have b := fvN_b v k r (pN v)
  have vb := fvV_b v k r
  have ve : fvV v k r = (fvN v k r (pN v)).1 * 1000 + (fvN v k r (pN v)).2 := if_pos n9
  have ef := M_fv1 hV hW h3 r hT
  generalize hg1 : (fvN v k r (pN v)).1 = g1 at b ve ef
  generalize hg2 : (fvN v k r (pN v)).2 = g2 at b ve ef
  obtain ⟨Mc, c1, c2, c3, c4⟩ := M_copied (nA := 3) (o0 := 104) (o1 := 105) (by decide) (by decide) (wI (wI M 69 35 (nI g1)) 69 36 (nI g2))
  have set : (∀ o, s = some o → btF (fvV v k r) o.1 = true) → SF k (vis btF (fvV v k) s r) Mc ∧ Mc.1 104 = M.1 104 ∧ ScM M Mc := by
    intro hb9
    rw [vis_pos hb9]
    refine ⟨⟨?_, fun o ho => by cases ho; exact vb, fun o ho => ?_⟩, ?_, ⟨fun x y hn => ?_, fun x _ => by rw [c4]; rfl, by rw [c4]; rfl⟩⟩
    · rw [c3 69 (by decide), wI_off (by omega), wI_on]
      show nI g1 = nI (fvV v k r / 1000)
      rw [ve, show (g1 * 1000 + g2) / 1000 = g1 by omega]
    · cases ho
      refine ⟨?_, fun i hi => ?_⟩
      · rw [c3 69 (by decide), wI_on]
        show nI g2 = nI (fvV v k r % 1000)
        rw [ve, show (g1 * 1000 + g2) % 1000 = g2 by omega]
      · rw [c2 i (by omega), wI_ne (by decide), wI_ne (by decide)]; exact hT i hi
    · rw [c3 104 (by decide), wI_ne (by decide), wI_ne (by decide)]
    · have n1 : x ≠ 105 := fun z => hn (by unfold scrM; omega)
      rw [c3 x n1, wI_off (by
        by_cases z : x = 69
        · refine Or.inr fun w => hn ?_
          unfold scrM; omega
        · exact Or.inl z), wI_off (by
        by_cases z : x = 69
        · refine Or.inr fun w => hn ?_
          unfold scrM; omega
        · exact Or.inl z)]
  unfold f_X8_seekFair1
  rw [if_pos rfl, ef]
  simp only [ob2, Option.bind_some, bm, Nat.reduceAdd]
  cases s with
  | none =>
    have e35 : M.1 69 35 = -1 := hS.1
    rw [e35, if_pos rfl, c1]
    exact ⟨Mc, rfl, set (fun o ho => by cases ho)⟩
  | some o =>
    have ob := hS.2.1 o rfl
    have e35 : M.1 69 35 = nI (o.1 / 1000) := hS.1
    have e36 : M.1 69 36 = nI (o.1 % 1000) := (hS.2.2 o rfl).1
    rw [e35, e36, if_neg (nI_nm1 (by omega)), c1]
    by_cases q1 : g1 < o.1 / 1000
    · rw [if_pos (nI_lt q1 (by omega))]
      exact ⟨Mc, rfl, set (fun o2 ho => by cases ho; exact decide_eq_true (by omega))⟩
    · rw [if_neg (nI_nlt (by omega) (by omega))]
      have keep : ¬ fvV v k r < o.1 → vis btF (fvV v k) (some o) r = some o := fun z => if_neg (by rw [decide_eq_true_eq]; exact z)
      by_cases q2 : g1 = o.1 / 1000
      · rw [if_pos (by rw [q2])]
        by_cases q3 : o.1 % 1000 ≤ g2
        · rw [if_pos (nI_le q3 (by omega)), keep (by omega)]
          exact ⟨M, rfl, hS, rfl, ScM.rf⟩
        · rw [if_neg (nI_ge (by omega) (by omega))]
          exact ⟨Mc, rfl, set (fun o2 ho => by cases ho; exact decide_eq_true (by omega))⟩
      · rw [if_neg (fun z => q2 ((nI_eq (by omega) (by omega)).mp z)), keep (by omega)]
        exact ⟨M, rfl, hS, rfl, ScM.rf⟩
theorem M_miss2 {k : Nat} (hV : VM 69 v M) (hW : WF v) (h3 : k ≤ 3) (r : Rw) (hT : ∀ i, i < k → M.1 104 i = nI (gt9 r i)) {p : Nat} (hp : p < pN v) (x4 x5 : Int32) : f_X8_seekFair2_L35 69 (nI k) x4 x5 (nI p) M 1000 (v.2 p 4) 0 = some (nI (outN9 v k p r)) := by
  have n9 := hW.n9
  have o := out_N hW (p := p) (by omega)
  obtain ⟨rr, e1, e2⟩ := loop_ex (fun n i (s : Int32) => f_X8_seekFair2_L35 69 (nI k) x4 x5 (nI p) M n s (nI i)) k (fun i s => s = nI (min 99 (tn (v.2 p 4) + miss9 v p r i))) (fun s => s = nI (outN9 v k p r)) (by
    intro n i s hi h
    have h : s = nI (min 99 (tn (v.2 p 4) + miss9 v p r i)) := h
    subst h
    refine Or.inr ⟨nI (min 99 (tn (v.2 p 4) + miss9 v p r (i + 1))), ?_, rfl⟩
    have e1 : M.1 (69 + 35) i = nI (gt9 r i) := hT i hi
    have em : miss9 v p r (i + 1) = miss9 v p r i + (if decide (¬ hb (v.2 p 3) (nI (gt9 r i))) = true then 1 else 0) := rfl
    show f_X8_seekFair2_L35 69 (nI k) x4 x5 (nI p) M (n + 1) _ (nI i) = f_X8_seekFair2_L35 69 (nI k) x4 x5 (nI p) M n (nI (min 99 (tn (v.2 p 4) + miss9 v p r (i + 1)))) (nI (i + 1))
    rw [f_X8_seekFair2_L35, if_neg (nI_ge hi (by omega)), chk_ok (show i < 3 by omega) (by decide), tn_nI (show i < 2 ^ 31 by omega), e1, M_isFree hV (by omega), Option.bind_some, em]
    have e99 : nI (min 99 (tn (v.2 p 4) + miss9 v p r i)) = 99 ↔ min 99 (tn (v.2 p 4) + miss9 v p r i) = 99 := nI_eq (b := 99) (by omega) (by decide)
    by_cases q : hb (v.2 p 3) (nI (gt9 r i))
    · rw [if_pos q, if_neg (show ¬ ((1 : Int32) = 0) by decide), if_neg (fun z => absurd q (of_decide_eq_true z)), Nat.add_zero (miss9 v p r i)]
      simp only [bi, nI_1, Int32.add_zero]
    · rw [if_neg q, if_pos rfl, if_pos (decide_eq_true q)]
      by_cases q2 : min 99 (tn (v.2 p 4) + miss9 v p r i) = 99
      · rw [if_pos (e99.mpr q2), show min 99 (tn (v.2 p 4) + (miss9 v p r i + 1)) = min 99 (tn (v.2 p 4) + miss9 v p r i) by omega]
        simp only [bi, nI_1, Int32.add_zero]
      · rw [if_neg (fun z => q2 (e99.mp z)), show min 99 (tn (v.2 p 4) + (miss9 v p r i + 1)) = min 99 (tn (v.2 p 4) + miss9 v p r i) + 1 by omega]
        simp only [bi, nI_1]) (by
    intro n s h
    refine ⟨s, ?_, h⟩
    show f_X8_seekFair2_L35 69 (nI k) x4 x5 (nI p) M (n + 1) s (nI k) = _
    rw [f_X8_seekFair2_L35, if_pos (Int32.le_refl _)]) 1000 0 (v.2 p 4) (by omega) (by omega) (by
      show v.2 p 4 = nI (min 99 (tn (v.2 p 4) + 0))
      rw [show min 99 (tn (v.2 p 4) + 0) = tn (v.2 p 4) by omega]; exact o.1)
  rw [show f_X8_seekFair2_L35 69 (nI k) x4 x5 (nI p) M 1000 (v.2 p 4) 0 = some rr from e1, e2]
theorem M_fv2 {k : Nat} (hV : VM 69 v M) (hW : WF v) (h3 : k ≤ 3) (r : Rw) (hT : ∀ i, i < k → M.1 104 i = nI (gt9 r i)) : f_X8_seekFair2_L14 69 (nI k) M 1000 0 0 0 = some (nI (fvN v k r (pN v)).1, nI (fvN v k r (pN v)).2) := by
  have n9 := hW.n9
  have e0 : M.1 69 10 = nI (pN v) := hV.n.trans hW.n
  obtain ⟨rr, e1, e2⟩ := loop_ex (fun n i (s : Int32 × Int32) => f_X8_seekFair2_L14 69 (nI k) M n s.1 s.2 (nI i)) (pN v) (fun i s => s = (nI (fvN v k r i).1, nI (fvN v k r i).2)) (fun s => s = (nI (fvN v k r (pN v)).1, nI (fvN v k r (pN v)).2)) (by
    intro n i s hi h
    have h : s = (nI (fvN v k r i).1, nI (fvN v k r i).2) := h
    subst h
    refine Or.inr ⟨_, ?_, rfl⟩
    have b := fvN_b v k r i
    have ol : outN9 v k i r ≤ 99 := Nat.min_le_left _ _
    have e4 : M.1 (69 + 21) i = v.2 i 4 := hV.p4 (by omega)
    show f_X8_seekFair2_L14 69 (nI k) M (n + 1) (nI (fvN v k r i).1) (nI (fvN v k r i).2) (nI i) = f_X8_seekFair2_L14 69 (nI k) M n (nI (max (fvN v k r i).1 (outN9 v k i r))) (nI ((fvN v k r i).2 + outN9 v k i r)) (nI (i + 1))
    rw [f_X8_seekFair2_L14, e0, if_neg (nI_ge hi (by omega)), chk_ok (show i < 8 by omega) (by decide), tn_nI (by omega), e4]
    simp only [bi]
    rw [M_miss2 hV hW h3 r hT hi, Option.bind_some, nI_add, nI_1]
    by_cases q : outN9 v k i r ≤ (fvN v k r i).1
    · rw [if_pos (nI_le q (by omega)), Nat.max_eq_left q]
    · rw [if_neg (nI_ge (by omega) (by omega)), Nat.max_eq_right (by omega)]) (by
    intro n s h
    refine ⟨s, ?_, h⟩
    show f_X8_seekFair2_L14 69 (nI k) M (n + 1) s.1 s.2 (nI (pN v)) = _
    rw [f_X8_seekFair2_L14, e0, if_pos (Int32.le_refl _)]) 1000 0 (0, 0) (by omega) (by omega) rfl
  rw [show f_X8_seekFair2_L14 69 (nI k) M 1000 0 0 0 = some rr from e1, e2]
theorem M_leaf2 {k : Nat} (hV : VM 69 v M) (hW : WF v) (h3 : k ≤ 3) (r : Rw) (hT : ∀ i, i < k → M.1 104 i = nI (gt9 r i)) {s : Option (Nat × Rw)} (hS : SF k s M) (x3 : Int32) : ∃ M2, f_X8_seekFair2 69 (nI k) (nI k) x3 M = some M2 ∧ SF k (vis btF (fvV v k) s r) M2 ∧ M2.1 104 = M.1 104 ∧ ScM M M2 := by
  have n9 := hW.n9
  have b := fvN_b v k r (pN v)
  have vb := fvV_b v k r
  have ve : fvV v k r = (fvN v k r (pN v)).1 * 1000 + (fvN v k r (pN v)).2 := if_pos n9
  have ef := M_fv2 hV hW h3 r hT
  generalize hg1 : (fvN v k r (pN v)).1 = g1 at b ve ef
  generalize hg2 : (fvN v k r (pN v)).2 = g2 at b ve ef
  obtain ⟨Mc, c1, c2, c3, c4⟩ := M_copied (nA := 3) (o0 := 104) (o1 := 105) (by decide) (by decide) (wI (wI M 69 35 (nI g1)) 69 36 (nI g2))
  have set : (∀ o, s = some o → btF (fvV v k r) o.1 = true) → SF k (vis btF (fvV v k) s r) Mc ∧ Mc.1 104 = M.1 104 ∧ ScM M Mc := by
    intro hb9
    rw [vis_pos hb9]
    refine ⟨⟨?_, fun o ho => by cases ho; exact vb, fun o ho => ?_⟩, ?_, ⟨fun x y hn => ?_, fun x _ => by rw [c4]; rfl, by rw [c4]; rfl⟩⟩
    · rw [c3 69 (by decide), wI_off (by omega), wI_on]
      show nI g1 = nI (fvV v k r / 1000)
      rw [ve, show (g1 * 1000 + g2) / 1000 = g1 by omega]
    · cases ho
      refine ⟨?_, fun i hi => ?_⟩
      · rw [c3 69 (by decide), wI_on]
        show nI g2 = nI (fvV v k r % 1000)
        rw [ve, show (g1 * 1000 + g2) % 1000 = g2 by omega]
      · rw [c2 i (by omega), wI_ne (by decide), wI_ne (by decide)]; exact hT i hi
    · rw [c3 104 (by decide), wI_ne (by decide), wI_ne (by decide)]
    · have n1 : x ≠ 105 := fun z => hn (by unfold scrM; omega)
      rw [c3 x n1, wI_off (by
        by_cases z : x = 69
        · refine Or.inr fun w => hn ?_
          unfold scrM; omega
        · exact Or.inl z), wI_off (by
        by_cases z : x = 69
        · refine Or.inr fun w => hn ?_
          unfold scrM; omega
        · exact Or.inl z)]
  unfold f_X8_seekFair2
  rw [if_pos rfl, ef]
  simp only [ob2, Option.bind_some, bm, Nat.reduceAdd]
  cases s with
  | none =>
    have e35 : M.1 69 35 = -1 := hS.1
    rw [e35, if_pos rfl, c1]
    exact ⟨Mc, rfl, set (fun o ho => by cases ho)⟩
  | some o =>
    have ob := hS.2.1 o rfl
    have e35 : M.1 69 35 = nI (o.1 / 1000) := hS.1
    have e36 : M.1 69 36 = nI (o.1 % 1000) := (hS.2.2 o rfl).1
    rw [e35, e36, if_neg (nI_nm1 (by omega)), c1]
    by_cases q1 : g1 < o.1 / 1000
    · rw [if_pos (nI_lt q1 (by omega))]
      exact ⟨Mc, rfl, set (fun o2 ho => by cases ho; exact decide_eq_true (by omega))⟩
    · rw [if_neg (nI_nlt (by omega) (by omega))]
      have keep : ¬ fvV v k r < o.1 → vis btF (fvV v k) (some o) r = some o := fun z => if_neg (by rw [decide_eq_true_eq]; exact z)
      by_cases q2 : g1 = o.1 / 1000
      · rw [if_pos (by rw [q2])]
        by_cases q3 : o.1 % 1000 ≤ g2
        · rw [if_pos (nI_le q3 (by omega)), keep (by omega)]
          exact ⟨M, rfl, hS, rfl, ScM.rf⟩
        · rw [if_neg (nI_ge (by omega) (by omega))]
          exact ⟨Mc, rfl, set (fun o2 ho => by cases ho; exact decide_eq_true (by omega))⟩
      · rw [if_neg (fun z => q2 ((nI_eq (by omega) (by omega)).mp z)), keep (by omega)]
        exact ⟨M, rfl, hS, rfl, ScM.rf⟩
theorem M_miss3 {k : Nat} (hV : VM 69 v M) (hW : WF v) (h3 : k ≤ 3) (r : Rw) (hT : ∀ i, i < k → M.1 104 i = nI (gt9 r i)) {p : Nat} (hp : p < pN v) (x4 x5 : Int32) : f_X8_seekFair3_L35 69 (nI k) x4 x5 (nI p) M 1000 (v.2 p 4) 0 = some (nI (outN9 v k p r)) := by
  have n9 := hW.n9
  have o := out_N hW (p := p) (by omega)
  obtain ⟨rr, e1, e2⟩ := loop_ex (fun n i (s : Int32) => f_X8_seekFair3_L35 69 (nI k) x4 x5 (nI p) M n s (nI i)) k (fun i s => s = nI (min 99 (tn (v.2 p 4) + miss9 v p r i))) (fun s => s = nI (outN9 v k p r)) (by
    intro n i s hi h
    have h : s = nI (min 99 (tn (v.2 p 4) + miss9 v p r i)) := h
    subst h
    refine Or.inr ⟨nI (min 99 (tn (v.2 p 4) + miss9 v p r (i + 1))), ?_, rfl⟩
    have e1 : M.1 (69 + 35) i = nI (gt9 r i) := hT i hi
    have em : miss9 v p r (i + 1) = miss9 v p r i + (if decide (¬ hb (v.2 p 3) (nI (gt9 r i))) = true then 1 else 0) := rfl
    show f_X8_seekFair3_L35 69 (nI k) x4 x5 (nI p) M (n + 1) _ (nI i) = f_X8_seekFair3_L35 69 (nI k) x4 x5 (nI p) M n (nI (min 99 (tn (v.2 p 4) + miss9 v p r (i + 1)))) (nI (i + 1))
    rw [f_X8_seekFair3_L35, if_neg (nI_ge hi (by omega)), chk_ok (show i < 3 by omega) (by decide), tn_nI (show i < 2 ^ 31 by omega), e1, M_isFree hV (by omega), Option.bind_some, em]
    have e99 : nI (min 99 (tn (v.2 p 4) + miss9 v p r i)) = 99 ↔ min 99 (tn (v.2 p 4) + miss9 v p r i) = 99 := nI_eq (b := 99) (by omega) (by decide)
    by_cases q : hb (v.2 p 3) (nI (gt9 r i))
    · rw [if_pos q, if_neg (show ¬ ((1 : Int32) = 0) by decide), if_neg (fun z => absurd q (of_decide_eq_true z)), Nat.add_zero (miss9 v p r i)]
      simp only [bi, nI_1, Int32.add_zero]
    · rw [if_neg q, if_pos rfl, if_pos (decide_eq_true q)]
      by_cases q2 : min 99 (tn (v.2 p 4) + miss9 v p r i) = 99
      · rw [if_pos (e99.mpr q2), show min 99 (tn (v.2 p 4) + (miss9 v p r i + 1)) = min 99 (tn (v.2 p 4) + miss9 v p r i) by omega]
        simp only [bi, nI_1, Int32.add_zero]
      · rw [if_neg (fun z => q2 (e99.mp z)), show min 99 (tn (v.2 p 4) + (miss9 v p r i + 1)) = min 99 (tn (v.2 p 4) + miss9 v p r i) + 1 by omega]
        simp only [bi, nI_1]) (by
    intro n s h
    refine ⟨s, ?_, h⟩
    show f_X8_seekFair3_L35 69 (nI k) x4 x5 (nI p) M (n + 1) s (nI k) = _
    rw [f_X8_seekFair3_L35, if_pos (Int32.le_refl _)]) 1000 0 (v.2 p 4) (by omega) (by omega) (by
      show v.2 p 4 = nI (min 99 (tn (v.2 p 4) + 0))
      rw [show min 99 (tn (v.2 p 4) + 0) = tn (v.2 p 4) by omega]; exact o.1)
  rw [show f_X8_seekFair3_L35 69 (nI k) x4 x5 (nI p) M 1000 (v.2 p 4) 0 = some rr from e1, e2]
theorem M_fv3 {k : Nat} (hV : VM 69 v M) (hW : WF v) (h3 : k ≤ 3) (r : Rw) (hT : ∀ i, i < k → M.1 104 i = nI (gt9 r i)) : f_X8_seekFair3_L14 69 (nI k) M 1000 0 0 0 = some (nI (fvN v k r (pN v)).1, nI (fvN v k r (pN v)).2) := by
  have n9 := hW.n9
  have e0 : M.1 69 10 = nI (pN v) := hV.n.trans hW.n
  obtain ⟨rr, e1, e2⟩ := loop_ex (fun n i (s : Int32 × Int32) => f_X8_seekFair3_L14 69 (nI k) M n s.1 s.2 (nI i)) (pN v) (fun i s => s = (nI (fvN v k r i).1, nI (fvN v k r i).2)) (fun s => s = (nI (fvN v k r (pN v)).1, nI (fvN v k r (pN v)).2)) (by
    intro n i s hi h
    have h : s = (nI (fvN v k r i).1, nI (fvN v k r i).2) := h
    subst h
    refine Or.inr ⟨_, ?_, rfl⟩
    have b := fvN_b v k r i
    have ol : outN9 v k i r ≤ 99 := Nat.min_le_left _ _
    have e4 : M.1 (69 + 21) i = v.2 i 4 := hV.p4 (by omega)
    show f_X8_seekFair3_L14 69 (nI k) M (n + 1) (nI (fvN v k r i).1) (nI (fvN v k r i).2) (nI i) = f_X8_seekFair3_L14 69 (nI k) M n (nI (max (fvN v k r i).1 (outN9 v k i r))) (nI ((fvN v k r i).2 + outN9 v k i r)) (nI (i + 1))
    rw [f_X8_seekFair3_L14, e0, if_neg (nI_ge hi (by omega)), chk_ok (show i < 8 by omega) (by decide), tn_nI (by omega), e4]
    simp only [bi]
    rw [M_miss3 hV hW h3 r hT hi, Option.bind_some, nI_add, nI_1]
    by_cases q : outN9 v k i r ≤ (fvN v k r i).1
    · rw [if_pos (nI_le q (by omega)), Nat.max_eq_left q]
    · rw [if_neg (nI_ge (by omega) (by omega)), Nat.max_eq_right (by omega)]) (by
    intro n s h
    refine ⟨s, ?_, h⟩
    show f_X8_seekFair3_L14 69 (nI k) M (n + 1) s.1 s.2 (nI (pN v)) = _
    rw [f_X8_seekFair3_L14, e0, if_pos (Int32.le_refl _)]) 1000 0 (0, 0) (by omega) (by omega) rfl
  rw [show f_X8_seekFair3_L14 69 (nI k) M 1000 0 0 0 = some rr from e1, e2]
theorem M_leaf3 {k : Nat} (hV : VM 69 v M) (hW : WF v) (h3 : k ≤ 3) (r : Rw) (hT : ∀ i, i < k → M.1 104 i = nI (gt9 r i)) {s : Option (Nat × Rw)} (hS : SF k s M) (x3 : Int32) : ∃ M2, f_X8_seekFair3 69 (nI k) (nI k) x3 M = some M2 ∧ SF k (vis btF (fvV v k) s r) M2 ∧ M2.1 104 = M.1 104 ∧ ScM M M2 := by
  have n9 := hW.n9
  have b := fvN_b v k r (pN v)
  have vb := fvV_b v k r
  have ve : fvV v k r = (fvN v k r (pN v)).1 * 1000 + (fvN v k r (pN v)).2 := if_pos n9
  have ef := M_fv3 hV hW h3 r hT
  generalize hg1 : (fvN v k r (pN v)).1 = g1 at b ve ef
  generalize hg2 : (fvN v k r (pN v)).2 = g2 at b ve ef
  obtain ⟨Mc, c1, c2, c3, c4⟩ := M_copied (nA := 3) (o0 := 104) (o1 := 105) (by decide) (by decide) (wI (wI M 69 35 (nI g1)) 69 36 (nI g2))
  have set : (∀ o, s = some o → btF (fvV v k r) o.1 = true) → SF k (vis btF (fvV v k) s r) Mc ∧ Mc.1 104 = M.1 104 ∧ ScM M Mc := by
    intro hb9
    rw [vis_pos hb9]
    refine ⟨⟨?_, fun o ho => by cases ho; exact vb, fun o ho => ?_⟩, ?_, ⟨fun x y hn => ?_, fun x _ => by rw [c4]; rfl, by rw [c4]; rfl⟩⟩
    · rw [c3 69 (by decide), wI_off (by omega), wI_on]
      show nI g1 = nI (fvV v k r / 1000)
      rw [ve, show (g1 * 1000 + g2) / 1000 = g1 by omega]
    · cases ho
      refine ⟨?_, fun i hi => ?_⟩
      · rw [c3 69 (by decide), wI_on]
        show nI g2 = nI (fvV v k r % 1000)
        rw [ve, show (g1 * 1000 + g2) % 1000 = g2 by omega]
      · rw [c2 i (by omega), wI_ne (by decide), wI_ne (by decide)]; exact hT i hi
    · rw [c3 104 (by decide), wI_ne (by decide), wI_ne (by decide)]
    · have n1 : x ≠ 105 := fun z => hn (by unfold scrM; omega)
      rw [c3 x n1, wI_off (by
        by_cases z : x = 69
        · refine Or.inr fun w => hn ?_
          unfold scrM; omega
        · exact Or.inl z), wI_off (by
        by_cases z : x = 69
        · refine Or.inr fun w => hn ?_
          unfold scrM; omega
        · exact Or.inl z)]
  unfold f_X8_seekFair3
  rw [if_pos rfl, ef]
  simp only [ob2, Option.bind_some, bm, Nat.reduceAdd]
  cases s with
  | none =>
    have e35 : M.1 69 35 = -1 := hS.1
    rw [e35, if_pos rfl, c1]
    exact ⟨Mc, rfl, set (fun o ho => by cases ho)⟩
  | some o =>
    have ob := hS.2.1 o rfl
    have e35 : M.1 69 35 = nI (o.1 / 1000) := hS.1
    have e36 : M.1 69 36 = nI (o.1 % 1000) := (hS.2.2 o rfl).1
    rw [e35, e36, if_neg (nI_nm1 (by omega)), c1]
    by_cases q1 : g1 < o.1 / 1000
    · rw [if_pos (nI_lt q1 (by omega))]
      exact ⟨Mc, rfl, set (fun o2 ho => by cases ho; exact decide_eq_true (by omega))⟩
    · rw [if_neg (nI_nlt (by omega) (by omega))]
      have keep : ¬ fvV v k r < o.1 → vis btF (fvV v k) (some o) r = some o := fun z => if_neg (by rw [decide_eq_true_eq]; exact z)
      by_cases q2 : g1 = o.1 / 1000
      · rw [if_pos (by rw [q2])]
        by_cases q3 : o.1 % 1000 ≤ g2
        · rw [if_pos (nI_le q3 (by omega)), keep (by omega)]
          exact ⟨M, rfl, hS, rfl, ScM.rf⟩
        · rw [if_neg (nI_ge (by omega) (by omega))]
          exact ⟨Mc, rfl, set (fun o2 ho => by cases ho; exact decide_eq_true (by omega))⟩
      · rw [if_neg (fun z => q2 ((nI_eq (by omega) (by omega)).mp z)), keep (by omega)]
        exact ⟨M, rfl, hS, rfl, ScM.rf⟩
theorem M_lp4 {k n lo : Nat} {M0 : Mm} {r : Rw} (h : Option (Nat × Rw) → Nat → Option (Nat × Rw)) (hW : WF v) (hn : n < 3) (hk : k ≤ 3) (hnk : n ≠ k) (hlo : lo ≤ dN v)
    (hY : ∀ (e : Nat) (s : Option (Nat × Rw)) (M : Mm), lo ≤ e → e < dN v → IV9 v k n r M0 s M → ∃ M2, f_X8_seekFair3 69 (nI (n + 1)) (nI k) (nI (e + 1)) (wI M 104 n (nI e)) = some M2 ∧ IV9 v k n r M0 (h s e) M2)
    {s : Option (Nat × Rw)} (hI : IV9 v k n r M0 s M) : ∃ M2, f_X8_seekFair4 69 (nI n) (nI k) (nI lo) M = some M2 ∧ IV9 v k n r M0 ((List.range (dN v - lo)).foldl (fun s j => h s (lo + j)) s) M2 := by
  have d15 := hW.d15
  obtain ⟨M2, e1, e2⟩ := loop_ex (fun f i (M9 : Mm) => f_X8_seekFair4_L171 69 (nI n) (nI k) f (nI (lo + i)) M9) (dN v - lo) (fun i M9 => IV9 v k n r M0 ((List.range i).foldl (fun s j => h s (lo + j)) s) M9) (fun M9 => IV9 v k n r M0 ((List.range (dN v - lo)).foldl (fun s j => h s (lo + j)) s) M9) (by
    intro f i M9 hi h9
    have e0 : M9.1 69 9 = nI (dN v) := h9.1.d.trans hW.d
    obtain ⟨M2, a1, a2⟩ := hY (lo + i) _ M9 (by omega) (by omega) h9
    refine Or.inr ⟨M2, ?_, by rw [fr_s]; exact a2⟩
    show f_X8_seekFair4_L171 69 (nI n) (nI k) (f + 1) (nI (lo + i)) M9 = f_X8_seekFair4_L171 69 (nI n) (nI k) f (nI (lo + i + 1)) M2
    rw [f_X8_seekFair4_L171, e0, if_neg (nI_ge (show lo + i < dN v by omega) (by omega)), chk_ok (show n < 3 by omega) (by decide), tn_nI (show n < 2 ^ 31 by omega)]
    simp only [bm, bi, nI_1, Nat.reduceAdd, a1, Option.bind_some]) (by
    intro f M9 h9
    refine ⟨M9, ?_, h9⟩
    have e0 : M9.1 69 9 = nI (dN v) := h9.1.d.trans hW.d
    show f_X8_seekFair4_L171 69 (nI n) (nI k) (f + 1) (nI (lo + (dN v - lo))) M9 = _
    rw [f_X8_seekFair4_L171, e0, if_pos (nI_le (by omega) (by omega))]) 1000 0 M (by omega) (by omega) hI
  refine ⟨M2, ?_, e2⟩
  unfold f_X8_seekFair4
  rw [if_neg (fun z => hnk ((nI_eq (by omega) (by omega)).mp z)), show f_X8_seekFair4_L171 69 (nI n) (nI k) 1000 (nI lo) M = some M2 from e1]; rfl
theorem M_lp3 {k n lo : Nat} {M0 : Mm} {r : Rw} (h : Option (Nat × Rw) → Nat → Option (Nat × Rw)) (hW : WF v) (hn : n < 3) (hk : k ≤ 3) (hnk : n ≠ k) (hlo : lo ≤ dN v)
    (hY : ∀ (e : Nat) (s : Option (Nat × Rw)) (M : Mm), lo ≤ e → e < dN v → IV9 v k n r M0 s M → ∃ M2, f_X8_seekFair2 69 (nI (n + 1)) (nI k) (nI (e + 1)) (wI M 104 n (nI e)) = some M2 ∧ IV9 v k n r M0 (h s e) M2)
    {s : Option (Nat × Rw)} (hI : IV9 v k n r M0 s M) : ∃ M2, f_X8_seekFair3 69 (nI n) (nI k) (nI lo) M = some M2 ∧ IV9 v k n r M0 ((List.range (dN v - lo)).foldl (fun s j => h s (lo + j)) s) M2 := by
  have d15 := hW.d15
  obtain ⟨M2, e1, e2⟩ := loop_ex (fun f i (M9 : Mm) => f_X8_seekFair3_L171 69 (nI n) (nI k) f (nI (lo + i)) M9) (dN v - lo) (fun i M9 => IV9 v k n r M0 ((List.range i).foldl (fun s j => h s (lo + j)) s) M9) (fun M9 => IV9 v k n r M0 ((List.range (dN v - lo)).foldl (fun s j => h s (lo + j)) s) M9) (by
    intro f i M9 hi h9
    have e0 : M9.1 69 9 = nI (dN v) := h9.1.d.trans hW.d
    obtain ⟨M2, a1, a2⟩ := hY (lo + i) _ M9 (by omega) (by omega) h9
    refine Or.inr ⟨M2, ?_, by rw [fr_s]; exact a2⟩
    show f_X8_seekFair3_L171 69 (nI n) (nI k) (f + 1) (nI (lo + i)) M9 = f_X8_seekFair3_L171 69 (nI n) (nI k) f (nI (lo + i + 1)) M2
    rw [f_X8_seekFair3_L171, e0, if_neg (nI_ge (show lo + i < dN v by omega) (by omega)), chk_ok (show n < 3 by omega) (by decide), tn_nI (show n < 2 ^ 31 by omega)]
    simp only [bm, bi, nI_1, Nat.reduceAdd, a1, Option.bind_some]) (by
    intro f M9 h9
    refine ⟨M9, ?_, h9⟩
    have e0 : M9.1 69 9 = nI (dN v) := h9.1.d.trans hW.d
    show f_X8_seekFair3_L171 69 (nI n) (nI k) (f + 1) (nI (lo + (dN v - lo))) M9 = _
    rw [f_X8_seekFair3_L171, e0, if_pos (nI_le (by omega) (by omega))]) 1000 0 M (by omega) (by omega) hI
  refine ⟨M2, ?_, e2⟩
  unfold f_X8_seekFair3
  rw [if_neg (fun z => hnk ((nI_eq (by omega) (by omega)).mp z)), show f_X8_seekFair3_L171 69 (nI n) (nI k) 1000 (nI lo) M = some M2 from e1]; rfl
theorem M_lp2 {k n lo : Nat} {M0 : Mm} {r : Rw} (h : Option (Nat × Rw) → Nat → Option (Nat × Rw)) (hW : WF v) (hn : n < 3) (hk : k ≤ 3) (hnk : n ≠ k) (hlo : lo ≤ dN v)
    (hY : ∀ (e : Nat) (s : Option (Nat × Rw)) (M : Mm), lo ≤ e → e < dN v → IV9 v k n r M0 s M → ∃ M2, f_X8_seekFair1 69 (nI (n + 1)) (nI k) (nI (e + 1)) (wI M 104 n (nI e)) = some M2 ∧ IV9 v k n r M0 (h s e) M2)
    {s : Option (Nat × Rw)} (hI : IV9 v k n r M0 s M) : ∃ M2, f_X8_seekFair2 69 (nI n) (nI k) (nI lo) M = some M2 ∧ IV9 v k n r M0 ((List.range (dN v - lo)).foldl (fun s j => h s (lo + j)) s) M2 := by
  have d15 := hW.d15
  obtain ⟨M2, e1, e2⟩ := loop_ex (fun f i (M9 : Mm) => f_X8_seekFair2_L171 69 (nI n) (nI k) f (nI (lo + i)) M9) (dN v - lo) (fun i M9 => IV9 v k n r M0 ((List.range i).foldl (fun s j => h s (lo + j)) s) M9) (fun M9 => IV9 v k n r M0 ((List.range (dN v - lo)).foldl (fun s j => h s (lo + j)) s) M9) (by
    intro f i M9 hi h9
    have e0 : M9.1 69 9 = nI (dN v) := h9.1.d.trans hW.d
    obtain ⟨M2, a1, a2⟩ := hY (lo + i) _ M9 (by omega) (by omega) h9
    refine Or.inr ⟨M2, ?_, by rw [fr_s]; exact a2⟩
    show f_X8_seekFair2_L171 69 (nI n) (nI k) (f + 1) (nI (lo + i)) M9 = f_X8_seekFair2_L171 69 (nI n) (nI k) f (nI (lo + i + 1)) M2
    rw [f_X8_seekFair2_L171, e0, if_neg (nI_ge (show lo + i < dN v by omega) (by omega)), chk_ok (show n < 3 by omega) (by decide), tn_nI (show n < 2 ^ 31 by omega)]
    simp only [bm, bi, nI_1, Nat.reduceAdd, a1, Option.bind_some]) (by
    intro f M9 h9
    refine ⟨M9, ?_, h9⟩
    have e0 : M9.1 69 9 = nI (dN v) := h9.1.d.trans hW.d
    show f_X8_seekFair2_L171 69 (nI n) (nI k) (f + 1) (nI (lo + (dN v - lo))) M9 = _
    rw [f_X8_seekFair2_L171, e0, if_pos (nI_le (by omega) (by omega))]) 1000 0 M (by omega) (by omega) hI
  refine ⟨M2, ?_, e2⟩
  unfold f_X8_seekFair2
  rw [if_neg (fun z => hnk ((nI_eq (by omega) (by omega)).mp z)), show f_X8_seekFair2_L171 69 (nI n) (nI k) 1000 (nI lo) M = some M2 from e1]; rfl
/-- writing the next place keeps the rest -/
theorem IV9.put {k n e : Nat} {r : Rw} {M0 : Mm} {s : Option (Nat × Rw)} (h : IV9 v k n r M0 s M) : VM 69 v (wI M 104 n (nI e)) ∧ ScM M0 (wI M 104 n (nI e)) ∧ SF k s (wI M 104 n (nI e)) ∧ (∀ i, i < n → (wI M 104 n (nI e)).1 104 i = nI (gt9 r i)) ∧ (wI M 104 n (nI e)).1 104 n = nI e := by
  have hs : ScM M (wI M 104 n (nI e)) := ScM.wI (by unfold scrM; omega)
  refine ⟨h.1.sc hs, h.2.1.tr hs, ⟨by rw [wI_ne (by decide)]; exact h.2.2.1.1, h.2.2.1.2.1, fun o ho => ⟨by rw [wI_ne (by decide)]; exact (h.2.2.1.2.2 o ho).1, fun i hi => by rw [wI_ne (by decide)]; exact (h.2.2.1.2.2 o ho).2 i hi⟩⟩, fun i hi => by rw [wI_off (by omega)]; exact h.2.2.2 i hi, wI_on⟩
theorem M_fair1 (hW : WF v) {M0 : Mm} (hk : 1 ≤ dN v) (hI : IV9 v 1 0 (0, 0, 0) M0 none M) : ∃ M2, f_X8_seekFair4 69 0 1 0 M = some M2 ∧ SF 1 (some (bestF v 1)) M2 ∧ ScM M0 M2 := by
  obtain ⟨M2, e1, e2⟩ := M_lp4 (k := 1) (n := 0) (lo := 0) (r := (0, 0, 0)) (fun s c => vis btF (fvV v 1) s (c, 0, 0)) hW (by decide) (by decide) (by decide) (Nat.zero_le _) (by
    intro e s M _ he h
    obtain ⟨p1, p2, p3, p4, p5⟩ := h.put (e := e)
    obtain ⟨M2, a1, a2, a3, a4⟩ := M_leaf3 p1 hW (k := 1) (by decide) (e, 0, 0) (fun i hi => by
      have : i = 0 := by omega
      subst this; exact p5) p3 (nI (e + 1))
    exact ⟨M2, a1, p1.sc a4, p2.tr a4, a2, fun i hi => absurd hi (Nat.not_lt_zero i)⟩) hI
  refine ⟨M2, e1, ?_, e2.2.1⟩
  have eb : (List.range (dN v - 0)).foldl (fun s j => vis btF (fvV v 1) s (0 + j, 0, 0)) none = some (bestF v 1) := by
    rw [← bestF_e (by decide) (by decide) hk hW.d15]
    show _ = ((List.range (dN v)).map (fun c => (c, 0, 0))).foldl (vis btF (fvV v 1)) none
    rw [List.foldl_map, Nat.sub_zero]
    simp only [Nat.zero_add]
  rw [← eb]; exact e2.2.2.1
theorem M_fair2 (hW : WF v) {M0 : Mm} (hk : 2 ≤ dN v) (hI : IV9 v 2 0 (0, 0, 0) M0 none M) : ∃ M2, f_X8_seekFair4 69 0 2 0 M = some M2 ∧ SF 2 (some (bestF v 2)) M2 ∧ ScM M0 M2 := by
  obtain ⟨M2, e1, e2⟩ := M_lp4 (k := 2) (n := 0) (lo := 0) (r := (0, 0, 0)) (fun s c => (List.range (dN v - (c + 1))).foldl (fun s j => vis btF (fvV v 2) s (c, c + 1 + j, 0)) s) hW (by decide) (by decide) (by decide) (Nat.zero_le _) (by
    intro c s M _ hc h
    obtain ⟨p1, p2, p3, p4, p5⟩ := h.put (e := c)
    obtain ⟨M2, a1, a2⟩ := M_lp3 (k := 2) (n := 1) (lo := c + 1) (r := (c, 0, 0)) (fun s d => vis btF (fvV v 2) s (c, d, 0)) hW (by decide) (by decide) (by decide) (by omega) (by
      intro e s M _ he h
      obtain ⟨p1, p2, p3, p4, p5⟩ := h.put (e := e)
      obtain ⟨M2, a1, a2, a3, a4⟩ := M_leaf2 p1 hW (k := 2) (by decide) (c, e, 0) (fun i hi => by
        rcases (show i = 0 ∨ i = 1 by omega) with z | z
        · subst z; exact p4 0 (by decide)
        · subst z; exact p5) p3 (nI (e + 1))
      exact ⟨M2, a1, p1.sc a4, p2.tr a4, a2, fun i hi => by rw [a3]; exact p4 i hi⟩) ⟨p1, p2, p3, fun i hi => by
        have : i = 0 := by omega
        subst this; exact p5⟩
    exact ⟨M2, a1, a2.1, a2.2.1, a2.2.2.1, fun i hi => absurd hi (Nat.not_lt_zero i)⟩) hI
  refine ⟨M2, e1, ?_, e2.2.1⟩
  have eb : (List.range (dN v - 0)).foldl (fun s j => (List.range (dN v - (0 + j + 1))).foldl (fun s j2 => vis btF (fvV v 2) s (0 + j, 0 + j + 1 + j2, 0)) s) none = some (bestF v 2) := by
    rw [← bestF_e (by decide) (by decide) hk hW.d15]
    show _ = ((List.range (dN v)).flatMap (rD2 (dN v))).foldl (vis btF (fvV v 2)) none
    rw [List.foldl_flatMap, Nat.sub_zero]
    unfold rD2
    simp only [Nat.zero_add, List.foldl_map]
  rw [← eb]; exact e2.2.2.1
theorem M_fair3 (hW : WF v) {M0 : Mm} (hk : 3 ≤ dN v) (hI : IV9 v 3 0 (0, 0, 0) M0 none M) : ∃ M2, f_X8_seekFair4 69 0 3 0 M = some M2 ∧ SF 3 (some (bestF v 3)) M2 ∧ ScM M0 M2 := by
  obtain ⟨M2, e1, e2⟩ := M_lp4 (k := 3) (n := 0) (lo := 0) (r := (0, 0, 0)) (fun s c => (List.range (dN v - (c + 1))).foldl (fun s j => (List.range (dN v - (c + 1 + j + 1))).foldl (fun s j2 => vis btF (fvV v 3) s (c, c + 1 + j, c + 1 + j + 1 + j2)) s) s) hW (by decide) (by decide) (by decide) (Nat.zero_le _) (by
    intro c s M _ hc h
    obtain ⟨p1, p2, p3, p4, p5⟩ := h.put (e := c)
    obtain ⟨M2, a1, a2⟩ := M_lp3 (k := 3) (n := 1) (lo := c + 1) (r := (c, 0, 0)) (fun s d => (List.range (dN v - (d + 1))).foldl (fun s j2 => vis btF (fvV v 3) s (c, d, d + 1 + j2)) s) hW (by decide) (by decide) (by decide) (by omega) (by
      intro d s M _ hd h
      obtain ⟨p1, p2, p3, p4, p5⟩ := h.put (e := d)
      obtain ⟨M2, a1, a2⟩ := M_lp2 (k := 3) (n := 2) (lo := d + 1) (r := (c, d, 0)) (fun s e => vis btF (fvV v 3) s (c, d, e)) hW (by decide) (by decide) (by decide) (by omega) (by
        intro e s M _ he h
        obtain ⟨p1, p2, p3, p4, p5⟩ := h.put (e := e)
        obtain ⟨M2, a1, a2, a3, a4⟩ := M_leaf1 p1 hW (k := 3) (by decide) (c, d, e) (fun i hi => by
          rcases (show i = 0 ∨ i = 1 ∨ i = 2 by omega) with z | z | z
          · subst z; exact p4 0 (by decide)
          · subst z; exact p4 1 (by decide)
          · subst z; exact p5) p3 (nI (e + 1))
        exact ⟨M2, a1, p1.sc a4, p2.tr a4, a2, fun i hi => by rw [a3]; exact p4 i hi⟩) ⟨p1, p2, p3, fun i hi => by
          rcases (show i = 0 ∨ i = 1 by omega) with z | z
          · subst z; exact p4 0 (by decide)
          · subst z; exact p5⟩
      exact ⟨M2, a1, a2.1, a2.2.1, a2.2.2.1, fun i hi => by
        have : i = 0 := by omega
        subst this; exact a2.2.2.2 0 (by decide)⟩) ⟨p1, p2, p3, fun i hi => by
        have : i = 0 := by omega
        subst this; exact p5⟩
    exact ⟨M2, a1, a2.1, a2.2.1, a2.2.2.1, fun i hi => absurd hi (Nat.not_lt_zero i)⟩) hI
  refine ⟨M2, e1, ?_, e2.2.1⟩
  have eb : (List.range (dN v - 0)).foldl (fun s j => (List.range (dN v - (0 + j + 1))).foldl (fun s j2 => (List.range (dN v - (0 + j + 1 + j2 + 1))).foldl (fun s j3 => vis btF (fvV v 3) s (0 + j, 0 + j + 1 + j2, 0 + j + 1 + j2 + 1 + j3)) s) s) none = some (bestF v 3) := by
    rw [← bestF_e (by decide) (by decide) hk hW.d15]
    show _ = ((List.range (dN v)).flatMap (rD (dN v))).foldl (vis btF (fvV v 3)) none
    rw [List.foldl_flatMap, Nat.sub_zero]
    unfold rD rE
    simp only [Nat.zero_add, List.foldl_map, List.foldl_flatMap]
  rw [← eb]; exact e2.2.2.1
theorem M_fairs (hV : VM 69 v M) (hW : WF v) {k : Nat} (h1 : 1 ≤ k) (h3 : k ≤ 3) (hk : k ≤ dN v) : ∃ M2, f_X8_seekFair4 69 0 (nI k) 0 (wI M 69 35 (-1)) = some M2 ∧ SF k (some (bestF v k)) M2 ∧ ScM M M2 := by
  have hs : ScM M (wI M 69 35 (-1)) := ScM.wI (by unfold scrM; omega)
  have hI : IV9 v k 0 (0, 0, 0) M none (wI M 69 35 (-1)) := ⟨hV.sc hs, hs, ⟨wI_on, fun o ho => (by cases ho), fun o ho => by cases ho⟩, fun i hi => absurd hi (Nat.not_lt_zero i)⟩
  rcases (show k = 1 ∨ k = 2 ∨ k = 3 by omega) with z | z | z
  · subst z; exact M_fair1 hW hk hI
  · subst z; exact M_fair2 hW hk hI
  · subst z; exact M_fair3 hW hk hI
end MF9
theorem X8_fair {a : AB} {M : Mm} (h : RM a M) (hW : WA a) (k i : Int32) : OKM (f_X8_fair 69 k i M) M (oFair a k i) := by
  have d15 := hW.1.d15
  unfold f_X8_fair oFair
  rw [show f_X8_in k.toInt64 1 3 = _ from in_ok32 k 1 3, show f_X8_in i.toInt64 (-1) ((k - 1).toInt64) = _ from in_ok32 i (-1) (k - 1), h.1.d, hW.1.d, h.1.n]
  simp only [n0 hW.1]
  by_cases q : 1 ≤ k ∧ k ≤ 3
  · obtain ⟨k, h1, h3, rfl⟩ := k13 q
    by_cases q1 : -1 ≤ i ∧ i ≤ nI k - 1
    · rw [tnn (show k < 2 ^ 31 by omega)]
      by_cases q2 : dN a.1 < k
      · simp only [if_pos q, if_pos q1, if_pos q2, Option.bind_some, i10, if_false]
        rw [if_pos (nI_lt q2 (by omega))]; exact M_stk h
      · simp only [if_pos q, if_pos q1, if_neg q2, Option.bind_some, i10, if_false]
        rw [if_neg (nI_nlt (show k ≤ dN a.1 by omega) (by omega))]
        by_cases q4 : pN a.1 = 0
        · rw [if_pos q4, if_pos q4]; exact M_stk h
        · obtain ⟨M2, e, hS, hF⟩ := M_fairs h.1 hW.1 h1 h3 (by omega)
          rw [if_neg q4, if_neg q4]
          simp only [bm]
          rw [e, Option.bind_some]
          unfold ansF
          rcases in_place (by omega) q1 with q3 | ⟨j, hj, q3⟩
          · rw [if_pos q3, if_pos q3, hS.1]; exact okMt h hF
          · have s2 : M2.1 (69 + 36) j = nI (gt9 (bestF a.1 k).2 j) := (hS.2.2 _ rfl).2 j hj
            subst q3
            rw [if_neg (nI_nm1 (by omega)), if_neg (nI_nm1 (by omega)), chk_ok (show j < 3 by omega) (by decide), tn_nI (by omega), s2, tnn (by omega)]
            exact okMt h hF
    · simp only [if_pos q, if_neg q1, Option.bind_some, i10, if_false, if_true]; exact M_bad h
  · simp only [if_neg q, Option.bind_some, if_true]; exact M_bad h
