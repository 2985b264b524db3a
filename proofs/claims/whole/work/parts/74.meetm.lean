/-! the model's two and three -/
theorem fr_s {σ : Type} (h : σ → Nat → σ) (n : Nat) (s : σ) : (List.range (n + 1)).foldl h s = h ((List.range n).foldl h s) n := by
  rw [List.range_succ, List.foldl_append]; rfl
def S2 (s : Option (Nat × Rw)) (x : Int32) (M : Mm) : Prop := x = s.elim (-1) (fun o => nI o.1) ∧ (∀ o, s = some o → o.1 < 100000) ∧ ∀ o, s = some o → M.1 69 31 = nI o.2.1 ∧ M.1 69 32 = nI o.2.2.1
def S3 (s : Option (Nat × Rw)) (x : Int32) (M : Mm) : Prop := x = s.elim (-1) (fun o => nI o.1) ∧ (∀ o, s = some o → o.1 < 100000) ∧ ∀ o, s = some o → ∀ i, i < 3 → M.1 105 i = nI (gt9 o.2 i)
theorem or_sm {v : CV} (hW : WF v) (d e : Int32) : sm (sThere v d ||| sThere v e) 16384 := (sm_or (k := 8) (by decide) (sThere_sm hW d) (sThere_sm hW e)).mono (by decide)
theorem or3_sm {v : CV} (hW : WF v) (c d e : Int32) : sm ((sThere v c ||| sThere v d) ||| sThere v e) 16384 := (sm_or (k := 8) (by decide) (sm_or (k := 8) (by decide) (sThere_sm hW c) (sThere_sm hW d)) (sThere_sm hW e)).mono (by decide)
theorem M_val2 {v : CV} (hW : WF v) (c d : Nat) : f_X8_bits (sThere v (nI c) ||| sThere v (nI d)) = some (nI (mvW v 2 (c, d, 0))) := by
  rw [bits_ok (or_sm hW _ _), ← mvW_e hW]
  show some (bc (sThere v (nI c) ||| sThere v (nI d))) = some (bc ((0 ||| sThere v (nI c)) ||| sThere v (nI d)))
  rw [Int32.zero_or]
theorem M_val3 {v : CV} (hW : WF v) (c d e : Nat) : f_X8_bits ((sThere v (nI c) ||| sThere v (nI d)) ||| sThere v (nI e)) = some (nI (mvW v 3 (c, d, e))) := by
  rw [bits_ok (or3_sm hW _ _ _), ← mvW_e hW]
  show some (bc ((sThere v (nI c) ||| sThere v (nI d)) ||| sThere v (nI e))) = some (bc (((0 ||| sThere v (nI c)) ||| sThere v (nI d)) ||| sThere v (nI e)))
  rw [Int32.zero_or]
theorem vis_pos {bt : Nat → Nat → Bool} {val : Rw → Nat} {s : Option (Nat × Rw)} {r : Rw} (h : ∀ o, s = some o → bt (val r) o.1 = true) : vis bt val s r = some (val r, r) := by
  unfold vis
  cases s with
  | none => rfl
  | some o => exact if_pos (h o rfl)
theorem le_elim {s : Option (Nat × Rw)} {a : Nat} (ha : a < 100000) (hs : ∀ o, s = some o → o.1 < 100000) : (nI a ≤ s.elim (-1) (fun o => nI o.1)) ↔ ∃ o, s = some o ∧ a ≤ o.1 := by
  cases s with
  | none =>
    refine ⟨fun z => ?_, fun ⟨o, ho, _⟩ => by cases ho⟩
    have h1 : (0 : Int32) ≤ nI a := nI_pos' (by omega)
    exact absurd (Int32.le_trans h1 z) (by decide)
  | some o =>
    have := hs o rfl
    refine (nI_leI (by omega) (by omega)).trans ⟨fun z => ⟨o, rfl, z⟩, fun ⟨o2, ho, z⟩ => by cases ho; exact z⟩
section MT9
variable {v : CV} {M : Mm}
theorem M_two1 (hV : VM 69 v M) (hW : WF v) {c e : Nat} (he : e < dN v) {s : Option (Nat × Rw)} {x : Int32} (hS : S2 s x M) : ∃ x2 M2, (∀ n, f_X8_findTwo_L16 69 (nI c) (n + 1) x (nI e) M = f_X8_findTwo_L16 69 (nI c) n x2 (nI (e + 1)) M2) ∧ S2 (vis btM (mvW v 2) s (c, e, 0)) x2 M2 ∧ ScM M M2 := by
  have d15 := hW.d15
  have e0 : M.1 69 9 = nI (dN v) := hV.d.trans hW.d
  have vb := mvV_b v 2 (c, e, 0)
  replace vb : mvW v 2 (c, e, 0) < 100000 := vb
  have le := le_elim vb hS.2.1
  rw [← hS.1] at le
  have un : ∀ n, f_X8_findTwo_L16 69 (nI c) (n + 1) x (nI e) M = if nI (mvW v 2 (c, e, 0)) ≤ x then f_X8_findTwo_L16 69 (nI c) n x (nI (e + 1)) M else f_X8_findTwo_L16 69 (nI c) n (nI (mvW v 2 (c, e, 0))) (nI (e + 1)) (wI (wI M 69 31 (nI c)) 69 32 (nI e)) := by
    intro n
    rw [f_X8_findTwo_L16, e0, if_neg (nI_ge he (by omega)), M_thereOn hV hW, M_thereOn hV hW, Option.bind_some, Option.bind_some, M_val2 hW, Option.bind_some]
    simp only [bi, bm, nI_1]
  by_cases q : nI (mvW v 2 (c, e, 0)) ≤ x
  · obtain ⟨o, ho, hl⟩ := le.mp q
    refine ⟨x, M, fun n => by rw [un, if_pos q], ?_, ScM.rf⟩
    have ev : vis btM (mvW v 2) s (c, e, 0) = s := by
      rw [ho]; exact if_neg (by rw [decide_eq_true_eq]; omega)
    rw [ev]; exact hS
  · have ev : vis btM (mvW v 2) s (c, e, 0) = some (mvW v 2 (c, e, 0), (c, e, 0)) := vis_pos fun o ho => decide_eq_true (Nat.lt_of_not_le fun z => q (le.mpr ⟨o, ho, z⟩))
    refine ⟨nI (mvW v 2 (c, e, 0)), wI (wI M 69 31 (nI c)) 69 32 (nI e), fun n => by rw [un, if_neg q], ?_, (ScM.wI (by unfold scrM; omega)).tr (ScM.wI (by unfold scrM; omega))⟩
    rw [ev]
    exact ⟨rfl, fun o ho => by cases ho; exact vb, fun o ho => by cases ho; exact ⟨by rw [wI_off (by omega), wI_on], wI_on⟩⟩
def h2f (v : CV) (c : Nat) (s : Option (Nat × Rw)) : Option (Nat × Rw) := (List.range (dN v - (c + 1))).foldl (fun s j => vis btM (mvW v 2) s (c, c + 1 + j, 0)) s
theorem M_two2 (hV : VM 69 v M) (hW : WF v) {c : Nat} (hc : c < dN v) {s : Option (Nat × Rw)} {x : Int32} (hS : S2 s x M) : ∃ x2 M2, f_X8_findTwo_L16 69 (nI c) 1000 x (nI (c + 1)) M = some (x2, M2) ∧ S2 (h2f v c s) x2 M2 ∧ ScM M M2 := by
  have d15 := hW.d15
  obtain ⟨r, e1, e2⟩ := loop_ex (fun n i (t : Int32 × Mm) => f_X8_findTwo_L16 69 (nI c) n t.1 (nI (c + 1 + i)) t.2) (dN v - (c + 1)) (fun i t => S2 ((List.range i).foldl (fun s j => vis btM (mvW v 2) s (c, c + 1 + j, 0)) s) t.1 t.2 ∧ ScM M t.2) (fun r => S2 (h2f v c s) r.1 r.2 ∧ ScM M r.2) (by
    intro n i t hi h
    obtain ⟨x2, M2, a1, a2, a3⟩ := M_two1 (hV.sc h.2) hW (c := c) (e := c + 1 + i) (by omega) h.1
    exact Or.inr ⟨(x2, M2), a1 n, by rw [fr_s]; exact a2, h.2.tr a3⟩) (by
    intro n t h
    refine ⟨t, ?_, h⟩
    have e0 : t.2.1 69 9 = nI (dN v) := (hV.sc h.2).d.trans hW.d
    show f_X8_findTwo_L16 69 (nI c) (n + 1) t.1 (nI (c + 1 + (dN v - (c + 1)))) t.2 = _
    rw [f_X8_findTwo_L16, e0, if_pos (nI_le (by omega) (by omega))]) 1000 0 (x, M) (by omega) (by omega) ⟨hS, ScM.rf⟩
  exact ⟨r.1, r.2, e1, e2⟩
theorem M_two3 (hV : VM 69 v M) (hW : WF v) (hk : 2 ≤ dN v) : ∃ M2, f_X8_findTwo 69 M = some (M2, nI (bestM v 2).1) ∧ S2 (some (bestM v 2)) (nI (bestM v 2).1) M2 ∧ ScM M M2 := by
  have d15 := hW.d15
  obtain ⟨r, e1, e2⟩ := loop_ex (fun n i (t : Int32 × Mm) => f_X8_findTwo_L4 69 n t.1 (nI i) t.2) (dN v) (fun i t => S2 ((List.range i).foldl (fun s c => h2f v c s) none) t.1 t.2 ∧ ScM M t.2) (fun r => S2 ((List.range (dN v)).foldl (fun s c => h2f v c s) none) r.1 r.2 ∧ ScM M r.2) (by
    intro n i t hi h
    have e0 : t.2.1 69 9 = nI (dN v) := (hV.sc h.2).d.trans hW.d
    obtain ⟨x2, M2, a1, a2, a3⟩ := M_two2 (hV.sc h.2) hW (c := i) hi h.1
    refine Or.inr ⟨(x2, M2), ?_, by rw [fr_s]; exact a2, h.2.tr a3⟩
    show f_X8_findTwo_L4 69 (n + 1) t.1 (nI i) t.2 = f_X8_findTwo_L4 69 n x2 (nI (i + 1)) M2
    rw [f_X8_findTwo_L4, e0, if_neg (nI_ge hi (by omega))]
    simp only [bi, nI_1]
    rw [a1]; rfl) (by
    intro n t h
    refine ⟨t, ?_, h⟩
    have e0 : t.2.1 69 9 = nI (dN v) := (hV.sc h.2).d.trans hW.d
    show f_X8_findTwo_L4 69 (n + 1) t.1 (nI (dN v)) t.2 = _
    rw [f_X8_findTwo_L4, e0, if_pos (Int32.le_refl _)]) 1000 0 (-1, M) (by omega) (by omega) ⟨⟨rfl, fun o ho => (by cases ho), fun o ho => by cases ho⟩, ScM.rf⟩
  have eb : (List.range (dN v)).foldl (fun s c => h2f v c s) none = some (bestM v 2) := by
    rw [← bestM_e (by decide) (by decide) hk d15]
    show _ = ((List.range (dN v)).flatMap (rD2 (dN v))).foldl (vis btM (mvW v 2)) none
    rw [List.foldl_flatMap]
    unfold h2f rD2
    simp only [List.foldl_map]
  rw [eb] at e2
  have ex : r.1 = nI (bestM v 2).1 := e2.1.1
  refine ⟨r.2, ?_, by rw [← ex]; exact e2.1, e2.2⟩
  unfold f_X8_findTwo
  rw [show f_X8_findTwo_L4 69 1000 (-1) 0 M = some r from e1, ← ex]; rfl
theorem M_thr1 (hV : VM 69 v M) (hW : WF v) {c d e : Nat} (he : e < dN v) {s : Option (Nat × Rw)} {x : Int32} (hS : S3 s x M) (x1 : Int32) : ∃ x2 M2, (∀ n, f_X8_three_L68 69 x1 (nI c) (nI d) (n + 1) x (nI e) M = f_X8_three_L68 69 x1 (nI c) (nI d) n x2 (nI (e + 1)) M2) ∧ S3 (vis btM (mvW v 3) s (c, d, e)) x2 M2 ∧ ScM M M2 := by
  have d15 := hW.d15
  have e0 : M.1 69 9 = nI (dN v) := hV.d.trans hW.d
  have vb := mvV_b v 3 (c, d, e)
  replace vb : mvW v 3 (c, d, e) < 100000 := vb
  have le := le_elim vb hS.2.1
  rw [← hS.1] at le
  have un : ∀ n, f_X8_three_L68 69 x1 (nI c) (nI d) (n + 1) x (nI e) M = if nI (mvW v 3 (c, d, e)) ≤ x then f_X8_three_L68 69 x1 (nI c) (nI d) n x (nI (e + 1)) M else f_X8_three_L68 69 x1 (nI c) (nI d) n (nI (mvW v 3 (c, d, e))) (nI (e + 1)) (wI (wI (wI M 105 0 (nI c)) 105 1 (nI d)) 105 2 (nI e)) := by
    intro n
    rw [f_X8_three_L68, e0, if_neg (nI_ge he (by omega)), M_thereOn hV hW, M_thereOn hV hW, M_thereOn hV hW, Option.bind_some, Option.bind_some, Option.bind_some, M_val3 hW, Option.bind_some]
    simp only [bi, bm, nI_1, Nat.reduceAdd]
  by_cases q : nI (mvW v 3 (c, d, e)) ≤ x
  · obtain ⟨o, ho, hl⟩ := le.mp q
    refine ⟨x, M, fun n => by rw [un, if_pos q], ?_, ScM.rf⟩
    have ev : vis btM (mvW v 3) s (c, d, e) = s := by
      rw [ho]; exact if_neg (by rw [decide_eq_true_eq]; omega)
    rw [ev]; exact hS
  · have ev : vis btM (mvW v 3) s (c, d, e) = some (mvW v 3 (c, d, e), (c, d, e)) := vis_pos fun o ho => decide_eq_true (Nat.lt_of_not_le fun z => q (le.mpr ⟨o, ho, z⟩))
    refine ⟨nI (mvW v 3 (c, d, e)), wI (wI (wI M 105 0 (nI c)) 105 1 (nI d)) 105 2 (nI e), fun n => by rw [un, if_neg q], ?_, ((ScM.wI (by unfold scrM; omega)).tr (ScM.wI (by unfold scrM; omega))).tr (ScM.wI (by unfold scrM; omega))⟩
    rw [ev]
    refine ⟨rfl, fun o ho => by cases ho; exact vb, fun o ho i hi => ?_⟩
    cases ho
    rcases (show i = 0 ∨ i = 1 ∨ i = 2 by omega) with z | z | z
    · subst z; rw [wI_off (by omega), wI_off (by omega), wI_on]; rfl
    · subst z; rw [wI_off (by omega), wI_on]; rfl
    · subst z; rw [wI_on]; rfl
def h3f (v : CV) (c d : Nat) (s : Option (Nat × Rw)) : Option (Nat × Rw) := (List.range (dN v - (d + 1))).foldl (fun s j => vis btM (mvW v 3) s (c, d, d + 1 + j)) s
def h3g (v : CV) (c : Nat) (s : Option (Nat × Rw)) : Option (Nat × Rw) := (List.range (dN v - (c + 1))).foldl (fun s j => h3f v c (c + 1 + j) s) s
theorem M_thr2 (hV : VM 69 v M) (hW : WF v) {c d : Nat} (hc : d < dN v) {s : Option (Nat × Rw)} {x : Int32} (hS : S3 s x M) (x1 : Int32) : ∃ x2 M2, f_X8_three_L68 69 x1 (nI c) (nI d) 1000 x (nI (d + 1)) M = some (x2, M2) ∧ S3 (h3f v c d s) x2 M2 ∧ ScM M M2 := by
  have d15 := hW.d15
  obtain ⟨r, e1, e2⟩ := loop_ex (fun n i (t : Int32 × Mm) => f_X8_three_L68 69 x1 (nI c) (nI d) n t.1 (nI (d + 1 + i)) t.2) (dN v - (d + 1)) (fun i t => S3 ((List.range i).foldl (fun s j => vis btM (mvW v 3) s (c, d, d + 1 + j)) s) t.1 t.2 ∧ ScM M t.2) (fun r => S3 (h3f v c d s) r.1 r.2 ∧ ScM M r.2) (by
    intro n i t hi h
    obtain ⟨x2, M2, a1, a2, a3⟩ := M_thr1 (hV.sc h.2) hW (c := c) (d := d) (e := d + 1 + i) (by omega) h.1 x1
    exact Or.inr ⟨(x2, M2), a1 n, by rw [fr_s]; exact a2, h.2.tr a3⟩) (by
    intro n t h
    refine ⟨t, ?_, h⟩
    have e0 : t.2.1 69 9 = nI (dN v) := (hV.sc h.2).d.trans hW.d
    show f_X8_three_L68 69 x1 (nI c) (nI d) (n + 1) t.1 (nI (d + 1 + (dN v - (d + 1)))) t.2 = _
    rw [f_X8_three_L68, e0, if_pos (nI_le (by omega) (by omega))]) 1000 0 (x, M) (by omega) (by omega) ⟨hS, ScM.rf⟩
  exact ⟨r.1, r.2, e1, e2⟩
theorem M_thr3 (hV : VM 69 v M) (hW : WF v) {c : Nat} (hc : c < dN v) {s : Option (Nat × Rw)} {x : Int32} (hS : S3 s x M) (x1 : Int32) : ∃ x2 M2, f_X8_three_L53 69 x1 (nI c) 1000 x (nI (c + 1)) M = some (x2, M2) ∧ S3 (h3g v c s) x2 M2 ∧ ScM M M2 := by
  have d15 := hW.d15
  obtain ⟨r, e1, e2⟩ := loop_ex (fun n i (t : Int32 × Mm) => f_X8_three_L53 69 x1 (nI c) n t.1 (nI (c + 1 + i)) t.2) (dN v - (c + 1)) (fun i t => S3 ((List.range i).foldl (fun s j => h3f v c (c + 1 + j) s) s) t.1 t.2 ∧ ScM M t.2) (fun r => S3 (h3g v c s) r.1 r.2 ∧ ScM M r.2) (by
    intro n i t hi h
    have e0 : t.2.1 69 9 = nI (dN v) := (hV.sc h.2).d.trans hW.d
    obtain ⟨x2, M2, a1, a2, a3⟩ := M_thr2 (hV.sc h.2) hW (c := c) (d := c + 1 + i) (by omega) h.1 x1
    refine Or.inr ⟨(x2, M2), ?_, by rw [fr_s]; exact a2, h.2.tr a3⟩
    show f_X8_three_L53 69 x1 (nI c) (n + 1) t.1 (nI (c + 1 + i)) t.2 = f_X8_three_L53 69 x1 (nI c) n x2 (nI (c + 1 + i + 1)) M2
    rw [f_X8_three_L53, e0, if_neg (nI_ge (show c + 1 + i < dN v by omega) (by omega))]
    simp only [bi, nI_1]
    rw [a1]; rfl) (by
    intro n t h
    refine ⟨t, ?_, h⟩
    have e0 : t.2.1 69 9 = nI (dN v) := (hV.sc h.2).d.trans hW.d
    show f_X8_three_L53 69 x1 (nI c) (n + 1) t.1 (nI (c + 1 + (dN v - (c + 1)))) t.2 = _
    rw [f_X8_three_L53, e0, if_pos (nI_le (by omega) (by omega))]) 1000 0 (x, M) (by omega) (by omega) ⟨hS, ScM.rf⟩
  exact ⟨r.1, r.2, e1, e2⟩
theorem M_thr4 (hV : VM 69 v M) (hW : WF v) (hk : 3 ≤ dN v) (x1 : Int32) : ∃ M2, f_X8_three_L40 69 x1 1000 (-1) 0 M = some (nI (bestM v 3).1, M2) ∧ S3 (some (bestM v 3)) (nI (bestM v 3).1) M2 ∧ ScM M M2 := by
  have d15 := hW.d15
  obtain ⟨r, e1, e2⟩ := loop_ex (fun n i (t : Int32 × Mm) => f_X8_three_L40 69 x1 n t.1 (nI i) t.2) (dN v) (fun i t => S3 ((List.range i).foldl (fun s c => h3g v c s) none) t.1 t.2 ∧ ScM M t.2) (fun r => S3 ((List.range (dN v)).foldl (fun s c => h3g v c s) none) r.1 r.2 ∧ ScM M r.2) (by
    intro n i t hi h
    have e0 : t.2.1 69 9 = nI (dN v) := (hV.sc h.2).d.trans hW.d
    obtain ⟨x2, M2, a1, a2, a3⟩ := M_thr3 (hV.sc h.2) hW (c := i) hi h.1 x1
    refine Or.inr ⟨(x2, M2), ?_, by rw [fr_s]; exact a2, h.2.tr a3⟩
    show f_X8_three_L40 69 x1 (n + 1) t.1 (nI i) t.2 = f_X8_three_L40 69 x1 n x2 (nI (i + 1)) M2
    rw [f_X8_three_L40, e0, if_neg (nI_ge hi (by omega))]
    simp only [bi, nI_1]
    rw [a1]; rfl) (by
    intro n t h
    refine ⟨t, ?_, h⟩
    have e0 : t.2.1 69 9 = nI (dN v) := (hV.sc h.2).d.trans hW.d
    show f_X8_three_L40 69 x1 (n + 1) t.1 (nI (dN v)) t.2 = _
    rw [f_X8_three_L40, e0, if_pos (Int32.le_refl _)]) 1000 0 (-1, M) (by omega) (by omega) ⟨⟨rfl, fun o ho => (by cases ho), fun o ho => by cases ho⟩, ScM.rf⟩
  have eb : (List.range (dN v)).foldl (fun s c => h3g v c s) none = some (bestM v 3) := by
    rw [← bestM_e (by decide) (by decide) hk d15]
    show _ = ((List.range (dN v)).flatMap (rD (dN v))).foldl (vis btM (mvW v 3)) none
    rw [List.foldl_flatMap]
    unfold h3g h3f rD rE
    simp only [List.foldl_map, List.foldl_flatMap]
  rw [eb] at e2
  have ex : r.1 = nI (bestM v 3).1 := e2.1.1
  refine ⟨r.2, ?_, by rw [← ex]; exact e2.1, e2.2⟩
  rw [show f_X8_three_L40 69 x1 1000 (-1) 0 M = some r from e1, ← ex]
end MT9
section OT9
variable {a : AB} {M : Mm}
theorem X8_two (h : RM a M) (hW : WA a) (i : Int32) : OKM (f_X8_two 69 i M) M (oMeet a 2 i) := by
  have d15 := hW.1.d15
  unfold f_X8_two oMeet
  rw [show f_X8_in i.toInt64 (-1) 1 = _ from in_ok32 i (-1) 1, h.1.d, hW.1.d]
  rw [show nI 2 - 1 = (1 : Int32) by decide]
  by_cases q : -1 ≤ i ∧ i ≤ 1
  · simp only [if_pos q, Option.bind_some, i10, if_false]
    by_cases q2 : dN a.1 < 2
    · rw [if_neg (show ¬ (2 : Int32) ≤ nI (dN a.1) from nI_ge (b := 2) q2 (by decide)), if_pos q2]; exact M_stk h
    · rw [if_pos (show (2 : Int32) ≤ nI (dN a.1) from nI_le (a := 2) (by omega) (by omega)), if_neg q2]
      obtain ⟨M2, e, hS, hF⟩ := M_two3 h.1 hW.1 (by omega)
      rw [e, Option.bind_some]
      simp only [bi]
      unfold ansM
      rcases in_place (n := 2) (by decide) q with q3 | ⟨j, hj, q3⟩
      · rw [if_pos q3, if_pos q3]; exact okMt h hF
      · have s2 := hS.2.2 _ rfl
        subst q3
        rw [if_neg (nI_nm1 (by omega)), if_neg (nI_nm1 (by omega)), tnn (by omega)]
        rcases (show j = 0 ∨ j = 1 by omega) with z | z
        · subst z; rw [if_pos (show nI 0 = 0 from rfl), s2.1]; exact okMt h hF
        · subst z; rw [if_neg (show ¬ nI 1 = 0 by decide), s2.2]; exact okMt h hF
  · simp only [if_neg q, Option.bind_some, if_true]; exact M_bad h
theorem X8_three (h : RM a M) (hW : WA a) (i : Int32) : OKM (f_X8_three 69 i M) M (oMeet a 3 i) := by
  have d15 := hW.1.d15
  unfold f_X8_three oMeet
  rw [show f_X8_in i.toInt64 (-1) 2 = _ from in_ok32 i (-1) 2, h.1.d, hW.1.d]
  rw [show nI 3 - 1 = (2 : Int32) by decide]
  by_cases q : -1 ≤ i ∧ i ≤ 2
  · simp only [if_pos q, Option.bind_some, i10, if_false]
    by_cases q2 : dN a.1 < 3
    · rw [if_neg (show ¬ (3 : Int32) ≤ nI (dN a.1) from nI_ge (b := 3) q2 (by decide)), if_pos q2]; exact M_stk h
    · rw [if_pos (show (3 : Int32) ≤ nI (dN a.1) from nI_le (a := 3) (by omega) (by omega)), if_neg q2]
      obtain ⟨M2, e, hS, hF⟩ := M_thr4 h.1 hW.1 (by omega) i
      rw [e]
      simp only [ob2, Option.bind_some]
      unfold ansM
      rcases in_place (n := 3) (by decide) q with q3 | ⟨j, hj, q3⟩
      · rw [if_pos q3, if_pos q3]; exact okMt h hF
      · have s2 : M2.1 (69 + 36) j = nI (gt9 (bestM a.1 3).2 j) := hS.2.2 _ rfl j hj
        subst q3
        rw [if_neg (nI_nm1 (by omega)), if_neg (nI_nm1 (by omega)), chk_ok (show j < 3 by omega) (by decide), tn_nI (by omega), tnn (by omega), s2]
        exact okMt h hF
  · simp only [if_neg q, Option.bind_some, if_true]; exact M_bad h
end OT9
