/-! dine -/
def outV (d : Int32) (f o : Int32) : Int32 := if hb f d then o else imin 99 (o + 1)
def gDine (d : Int32) (p : Nat) (w : CV) : CV := uP w p 4 (outV d (w.2 p 3) (w.2 p 4))
def sDine (v : CV) (d : Int32) : CV := uS (iter (gDine d) (pN v) v) 5 (v.1 5 + 1)
def oDine (a : AB) (d : Int32) : AB × Int32 := if inN d (dN a.1) then (if a.1.1 3 ≤ sHow a.1 d then (setV a (sDine a.1 d), sHow (sDine a.1 d) d) else stk a) else bad a
theorem uP_same (v : CV) (p k : Nat) : uP v p k (v.2 p k) = v := by
  unfold uP
  refine Prod.ext rfl (funext fun q => funext fun j => ?_)
  show (if q = p ∧ j = k then v.2 p k else v.2 q j) = v.2 q j
  by_cases e : q = p ∧ j = k
  · rw [if_pos e, e.1, e.2]
  · rw [if_neg e]
theorem gDine_1 (d : Int32) (v : CV) : ∀ k, (iter (gDine d) k v).1 = v.1 := by
  intro k
  induction k with
  | zero => rfl
  | succ k ih => exact ih
theorem imin_sm {o : Int32} (h : sm o 100) : sm (imin 99 (o + 1)) 100 ∧ imin 99 (o + 1) = if o = 99 then o else o + 1 := by
  obtain ⟨h1, h2⟩ := h
  rw [h1, nI_1]
  have e9 : (nI (tn o) = 99) = (tn o = 99) := propext (by rw [show (99 : Int32) = nI 99 from rfl, nI_eq (by omega) (by decide)])
  unfold imin
  by_cases q : tn o + 1 < 99
  · rw [if_pos (show nI (tn o + 1) < 99 from nI_lt (b := 99) q (by decide))]
    simp only [e9]
    rw [if_neg (by omega)]
    exact ⟨sm_nI (by omega) (by decide), rfl⟩
  · rw [if_neg (show ¬ nI (tn o + 1) < 99 from nI_nlt (b := 99) (by omega) (by omega))]
    simp only [e9]
    refine ⟨sm_nI (k := 99) (by decide) (by decide), ?_⟩
    by_cases q2 : tn o = 99
    · rw [if_pos q2, q2]; rfl
    · rw [if_neg q2, show tn o + 1 = 99 by omega]; rfl
theorem outV_sm {d f o : Int32} (h : sm o 100) : sm (outV d f o) 100 := by
  unfold outV
  by_cases q : hb f d
  · rw [if_pos q]; exact h
  · rw [if_neg q]; exact (imin_sm h).1
theorem gDine_WF {v : CV} (hW : WF v) (d : Int32) : ∀ k, WF (iter (gDine d) k v) := by
  intro k
  induction k with
  | zero => exact hW
  | succ k ih =>
    refine WF_uP ih fun hk => ⟨fun z => absurd z (by decide), fun z => absurd z (by decide), fun z => absurd z (by decide), fun z => absurd z (by decide), fun _ => outV_sm (ih.2.2.2.2.2 k hk).2.2.2.2.1⟩
theorem sDine_WF {v : CV} (hW : WF v) (d : Int32) : WF (sDine v d) := by
  have h := gDine_WF hW d (pN v)
  exact ⟨h.1, h.2.1, h.2.2.1, h.2.2.2.1, h.2.2.2.2.1, h.2.2.2.2.2⟩
theorem sDine_pN (v : CV) (d : Int32) : pN (sDine v d) = pN v := by
  show tn ((iter (gDine d) (pN v) v).1 1) = tn (v.1 1)
  rw [gDine_1]
theorem sDine_H0 {v : CV} (h : H0 v) (d : Int32) : H0 (sDine v d) := by
  intro z
  rw [sDine_pN] at z
  show (iter (gDine d) (pN v) v).1 2 = 0
  rw [gDine_1]; exact h z
section OD1
variable {a : AB} {M : Mm}
theorem C_dinner {c : Nat} {v : CV} (hV : VC c v M) (hW : WF v) (d : Int32) : ∃ M2, f_X1_dinnerOn c d M = some M2 ∧ VC c (sDine v d) M2 ∧ Fr c (c + 10) M M2 := by
  have h1 := hW.n
  have h2 := hW.n9
  obtain ⟨r, e1, e2, e3⟩ := loop_ex (fun n i (M9 : Mm) => f_X1_dinnerOn_L2 c d n (nI i) M9) (pN v) (fun i M9 => VC c (iter (gDine d) i v) M9 ∧ Fr c (c + 10) M M9) (fun r => VC c (iter (gDine d) (pN v) v) r ∧ Fr c (c + 10) M r) (by
    intro n i M9 hi h
    obtain ⟨hv, hf⟩ := h
    have e3 : M9.1 c 1 = nI (pN v) := by rw [hv.1 1 (by decide), gDine_1]; exact h1
    have k8 : ∀ {α : Type} (X : Option α), chk (nI i) 8 X = X := fun X => chk_ok (by omega) (by decide)
    have ti : (nI i).toNatClampNeg = i := tn_nI (by omega)
    have f3 : M9.1 (c + 2 + i) 3 = (iter (gDine d) i v).2 i 3 := hv.2 i 3 (by omega) (by decide)
    have f4 : M9.1 (c + 2 + i) 4 = (iter (gDine d) i v).2 i 4 := hv.2 i 4 (by omega) (by decide)
    show _ ∨ ∃ s2, f_X1_dinnerOn_L2 c d (n + 1) (nI i) M9 = f_X1_dinnerOn_L2 c d n (nI (i + 1)) s2 ∧ _
    rw [f_X1_dinnerOn_L2, e3, if_neg (nI_ge hi (by omega))]
    simp only [k8, ti, isFree_ok, f3, Option.bind_some, f_X2_outAfter, f4, bi, bm, nI_1]
    by_cases q : hb ((iter (gDine d) i v).2 i 3) d
    · refine Or.inr ⟨M9, by simp only [if_pos q, i10, if_false], ?_, hf⟩
      show VC c (uP _ i 4 (outV d _ _)) M9
      unfold outV
      rw [if_pos q, uP_same]; exact hv
    · refine Or.inr ⟨wI M9 (c + 2 + i) 4 (imin 99 ((iter (gDine d) i v).2 i 4 + 1)), by simp only [if_neg q, if_true], ?_, hf.tr (Fr.wI (by omega) (by omega))⟩
      show VC c (uP _ i 4 (outV d _ _)) _
      unfold outV
      rw [if_neg q]; exact hv.uP i 4 _) (by
    intro n M9 h
    refine ⟨M9, ?_, h⟩
    have e3 : M9.1 c 1 = nI (pN v) := by rw [h.1.1 1 (by decide), gDine_1]; exact h1
    show f_X1_dinnerOn_L2 c d (n + 1) (nI (pN v)) M9 = _
    rw [f_X1_dinnerOn_L2, e3, if_pos (Int32.le_refl _)]) 1000 0 M (by omega) (by omega) ⟨hV, Fr.rf⟩
  unfold f_X1_dinnerOn
  rw [show f_X1_dinnerOn_L2 c d 1000 0 M = some r from e1, Option.bind_some]
  have e5 : r.1 c 5 = v.1 5 := by rw [e2.1 5 (by decide), gDine_1]
  simp only [bm, e5]
  exact ⟨_, rfl, e2.uS 5 _, e3.tr (Fr.wI (by omega) (by omega))⟩
theorem M_dinner {b : Nat} {v : CV} (hV : VM b v M) (hW : WF v) (d : Int32) : ∃ M2, f_X8_dines b d M = some M2 ∧ VM b (sDine v d) M2 ∧ FrV b M M2 := by
  have h1 := hW.n
  have h2 := hW.n9
  obtain ⟨r, e1, e2, e3⟩ := loop_ex (fun n i (M9 : Mm) => f_X8_dines_L2 b d n (nI i) M9) (pN v) (fun i M9 => VM b (iter (gDine d) i v) M9 ∧ FrV b M M9) (fun r => VM b (iter (gDine d) (pN v) v) r ∧ FrV b M r) (by
    intro n i M9 hi h
    obtain ⟨hv, hf⟩ := h
    have e3 : M9.1 b 10 = nI (pN v) := by rw [hv.n, gDine_1]; exact h1
    have k8 : ∀ {α : Type} (X : Option α), chk (nI i) 8 X = X := fun X => chk_ok (by omega) (by decide)
    have ti : (nI i).toNatClampNeg = i := tn_nI (by omega)
    have f4 : M9.1 (b + 21) i = (iter (gDine d) i v).2 i 4 := hv.p4 (by omega)
    have o4 := (gDine_WF hW d i).2.2.2.2.2 i (by omega)
    have o5 := (imin_sm o4.2.2.2.2.1).2
    refine Or.inr ⟨wI M9 (b + 21) i (outV d ((iter (gDine d) i v).2 i 3) ((iter (gDine d) i v).2 i 4)), ?_, hv.u4 i _, hf.tr (FrV.wI (by unfold stV; omega))⟩
    show f_X8_dines_L2 b d (n + 1) (nI i) M9 = f_X8_dines_L2 b d n (nI (i + 1)) _
    rw [f_X8_dines_L2, e3, if_neg (nI_ge hi (by omega)), M_isFree hv (by omega)]
    simp only [k8, ti, Option.bind_some, f4, bi, bm, nI_1, Int32.add_zero]
    unfold outV
    by_cases q : hb ((iter (gDine d) i v).2 i 3) d
    · simp only [if_pos q, i10, if_false]
    · rw [o5]
      simp only [if_neg q, if_true]
      by_cases q2 : (iter (gDine d) i v).2 i 4 = 99
      · simp only [if_pos q2]
      · simp only [if_neg q2]) (by
    intro n M9 h
    refine ⟨M9, ?_, h⟩
    have e3 : M9.1 b 10 = nI (pN v) := by rw [h.1.n, gDine_1]; exact h1
    show f_X8_dines_L2 b d (n + 1) (nI (pN v)) M9 = _
    rw [f_X8_dines_L2, e3, if_pos (Int32.le_refl _)]) 1000 0 M (by omega) (by omega) ⟨hV, FrV.rf⟩
  unfold f_X8_dines
  rw [show f_X8_dines_L2 b d 1000 0 M = some r from e1, Option.bind_some]
  have e5 : r.1 b 17 = v.1 5 := by rw [e2.di, gDine_1]
  simp only [bm, e5]
  exact ⟨_, rfl, e2.s5 _, e3.tr (FrV.wI (by unfold stV; omega))⟩
theorem X7_dine (h : RC a M) (hW : WA a) (d : Int32) : OKC (f_X7_dine d M) M (oDine a d) := by
  unfold f_X7_dine oDine
  rw [C_hasDay h.1 hW.1, C_howManyOn h.1 hW.1, h.1.1 3 (by decide)]
  by_cases q : inN d (dN a.1)
  · by_cases q2 : a.1.1 3 ≤ sHow a.1 d
    · obtain ⟨M2, e, hv, hf⟩ := C_dinner h.1 hW.1 d
      simp only [if_pos q, if_pos q2, Option.bind_some, i10, if_false, e, C_howManyOn hv (sDine_WF hW.1 d)]
      exact OKC.v h hv (hf.wide (by omega) (by omega))
    · simp only [if_pos q, if_neg q2, Option.bind_some, i10, if_false]; exact C_stk h
  · simp only [if_neg q, Option.bind_some, if_true]; exact C_bad h
theorem X8_dine (h : RM a M) (hW : WA a) (d : Int32) : OKM (f_X8_dine 69 d M) M (oDine a d) := by
  unfold f_X8_dine oDine
  rw [M_isDay h.1 hW.1, M_mayDine h.1 hW.1]
  by_cases q : inN d (dN a.1)
  · by_cases q2 : a.1.1 3 ≤ sHow a.1 d
    · obtain ⟨M2, e, hv, hf⟩ := M_dinner h.1 hW.1 d
      simp only [if_pos q, if_pos q2, Option.bind_some, i10, if_false, e, M_thereOn hv (sDine_WF hW.1 d), M_how hv (sDine_WF hW.1 d)]
      exact OKM.v h hv hf
    · simp only [if_pos q, if_neg q2, Option.bind_some, i10, if_false, if_true]; exact M_stk h
  · simp only [if_neg q, Option.bind_some, if_true]; exact M_bad h
theorem W_dine (h : WB a) (d : Int32) : WB (oDine a d).1 := by
  unfold oDine
  by_cases q : inN d (dN a.1)
  · by_cases q2 : a.1.1 3 ≤ sHow a.1 d
    · rw [if_pos q, if_pos q2]
      exact WB_setV h (sDine_WF h.1.1 d) (sDine_H0 h.2.1 d) (by rw [sDine_pN]; exact Nat.le_refl _)
    · rw [if_pos q, if_neg q2]; exact h
  · rw [if_neg q]; exact h
end OD1
