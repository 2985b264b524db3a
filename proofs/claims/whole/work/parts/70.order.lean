/-! order: the days by their counts; the places of part 56 serve, of a circle made of them -/
abbrev cw (v : CV) (d : Nat) : Nat := tn (cntN v (pN v) d)
def kw9 (v : CV) : CV := (fun _ => v.1 0, fun d _ => nI (100 - cw v d))
theorem tick_sm (f a k : Int32) (y : Nat → Int32) (fv d : Nat) : sm (tickV f a k y fv d) 3 := by
  have t0 : sm (0 : Int32) 3 := ⟨by decide, by decide⟩
  have t1 : sm (1 : Int32) 3 := ⟨by decide, by decide⟩
  have t2 : sm (2 : Int32) 3 := ⟨by decide, by decide⟩
  unfold tickV
  (repeat' split) <;> first | exact t0 | exact t1 | exact t2
theorem cntN_sm (v : CV) (d : Nat) : ∀ p, p ≤ 8 → sm (cntN v p d) (2 * p + 1) := by
  intro p
  induction p with
  | zero => intro _; exact sm0 (by decide) (by decide)
  | succ p ih =>
    intro hp
    have h := ih (by omega)
    have t : sm (tkN v p d) 3 := tick_sm _ _ _ _ _ _
    have e : cntN v (p + 1) d = nI (tn (cntN v p d) + tn (tkN v p d)) := by
      rw [cntN_s, ← nI_add, ← h.1, ← t.1]
    have h2 := h.2
    have t2 := t.2
    rw [e]
    exact sm_nI (by omega) (by omega)
theorem cw_e {v : CV} (hW : WF v) (d : Nat) : cntN v (pN v) d = nI (cw v d) ∧ cw v d < 17 := by
  have n9 := hW.n9
  have h := (cntN_sm v d (pN v) (by omega)).mono (show 2 * pN v + 1 ≤ 17 by omega)
  exact h
theorem kw_n (v : CV) : pN (kw9 v) = dN v := rfl
theorem kw_l {v : CV} (hW : WF v) (d : Nat) : lk (kw9 v) d = 100 - cw v d := tnn (by omega)
theorem kw_x {v : CV} (hW : WF v) (q p : Nat) : lx (kw9 v) q p ↔ (cw v p < cw v q ∨ (cw v q = cw v p ∧ q < p)) := by
  have h1 := (cw_e hW q).2
  have h2 := (cw_e hW p).2
  unfold lx
  rw [kw_l hW, kw_l hW]
  omega
def oOrder (a : AB) (i : Int32) : AB × Int32 := if inN i (dN a.1) then (a, nI (ordN (kw9 a.1) (tn i))) else bad a
def mskD (v : CV) (k : Nat) (x : Int32) : Prop := ∃ m, m < 2 ^ 14 ∧ x = nI m ∧ ∀ j, j < dN v → (m.testBit j = true ↔ rnk (kw9 v) j < k)
theorem mskD_step {v : CV} {k : Nat} {x : Int32} (h2 : dN v < 15) (hk : k < dN v) (h : mskD v k x) : mskD v (k + 1) (x ||| (1 <<< (nI (ordN (kw9 v) k) &&& 31))) := by
  obtain ⟨m, hm, rfl, hb⟩ := h
  obtain ⟨o1, o2, o3⟩ := ordN_ok (v := kw9 v) (k := k) hk
  rw [kw_n] at o1
  refine ⟨m ||| 2 ^ ordN (kw9 v) k, Nat.or_lt_two_pow hm (Nat.pow_lt_pow_right (by decide) (by omega)), by rw [bit_d (by omega), nI_or], fun j hj => ?_⟩
  rw [Nat.testBit_or, Nat.testBit_two_pow, Bool.or_eq_true, hb j hj, decide_eq_true_eq]
  constructor
  · rintro (z | z)
    · omega
    · subst z; omega
  · intro z
    by_cases q : rnk (kw9 v) j < k
    · exact Or.inl q
    · exact Or.inr (rnk_inj (v := kw9 v) o1 hj (by omega))
/-- the first of the greatest among some -/
theorem bAm_first {Q : Nat → Bool} {f : Nat → Int32} : ∀ k, (bAm Q f k = none ∧ ∀ q, q < k → Q q = false) ∨ ∃ z, z < k ∧ bAm Q f k = some z ∧ Q z = true ∧ ∀ q, q < k → Q q = true → f q ≤ f z ∧ (f q = f z → z ≤ q) := by
  intro k
  induction k with
  | zero => exact Or.inl ⟨rfl, fun q hq => absurd hq (Nat.not_lt_zero q)⟩
  | succ k ih =>
    rw [bAm_s]
    unfold bst
    by_cases q1 : Q k = true
    · rw [if_pos q1]
      rcases ih with ⟨h1, h2⟩ | ⟨z, h1, h2, h3, h4⟩
      · rw [h1]
        refine Or.inr ⟨k, by omega, rfl, q1, fun q hq hq2 => ?_⟩
        by_cases e : q = k
        · subst e; exact ⟨Int32.le_refl _, fun _ => Nat.le_refl _⟩
        · rw [h2 q (by omega)] at hq2; cases hq2
      · rw [h2]
        show _ ∨ ∃ z2, z2 < k + 1 ∧ (if f z < f k then some k else some z) = some z2 ∧ _
        by_cases q2 : f z < f k
        · rw [if_pos q2]
          refine Or.inr ⟨k, by omega, rfl, q1, fun q hq hq2 => ?_⟩
          by_cases e : q = k
          · subst e; exact ⟨Int32.le_refl _, fun _ => Nat.le_refl _⟩
          · have h5 := (h4 q (by omega) hq2).1
            exact ⟨Int32.le_trans h5 (Int32.le_of_lt q2), fun y => by rw [y] at h5; exact absurd h5 (i32_nle.mpr q2)⟩
        · rw [if_neg q2]
          refine Or.inr ⟨z, by omega, rfl, h3, fun q hq hq2 => ?_⟩
          by_cases e : q = k
          · subst e; exact ⟨i32_nlt.mp q2, fun _ => by omega⟩
          · exact h4 q (by omega) hq2
    · rw [if_neg q1]
      rcases ih with ⟨h1, h2⟩ | ⟨z, h1, h2, h3, h4⟩
      · refine Or.inl ⟨h1, fun q hq => ?_⟩
        by_cases e : q = k
        · subst e
          cases h5 : Q q with
          | true => exact absurd h5 q1
          | false => rfl
        · exact h2 q (by omega)
      · refine Or.inr ⟨z, by omega, h2, h3, fun q hq hq2 => ?_⟩
        by_cases e : q = k
        · subst e; exact absurd hq2 q1
        · exact h4 q (by omega) hq2
theorem bAm_ord {v : CV} (hW : WF v) {k : Nat} (hk : k < dN v) {Q : Nat → Bool} (hQ : ∀ j, j < dN v → (Q j = true ↔ k ≤ rnk (kw9 v) j)) : bAm Q (cntN v (pN v)) (dN v) = some (ordN (kw9 v) k) := by
  obtain ⟨o1, o2, o3⟩ := ordN_ok (v := kw9 v) (k := k) hk
  rw [kw_n] at o1
  rcases bAm_first (Q := Q) (f := cntN v (pN v)) (dN v) with ⟨h1, h2⟩ | ⟨z, h1, h2, h3, h4⟩
  · have := (hQ _ o1).mpr (by omega)
    rw [h2 _ o1] at this; cases this
  · rw [h2]
    congr 1
    by_cases e : z = ordN (kw9 v) k
    · exact e
    · exfalso
      have h5 := h4 _ o1 ((hQ _ o1).mpr (by omega))
      have h6 := (hQ z h1).mp h3
      have e1 := cw_e hW z
      have e2 := cw_e hW (ordN (kw9 v) k)
      rw [e1.1, e2.1, nI_eq (by omega) (by omega), nI_leI (by omega) (by omega)] at h5
      have h7 : lx (kw9 v) z (ordN (kw9 v) k) := (kw_x hW _ _).mpr (by omega)
      have h8 := rnk_lt (v := kw9 v) (q := z) (p := ordN (kw9 v) k) h1 h7
      omega
section OR1
variable {v : CV} {M : Mm}
theorem C_rankD {p : Nat} (hW : WF v) (hT : TKC v (pN v) M) (hp : p < dN v) : f_X6_howManyBefore 21 (nI p) M = some (nI (rnk (kw9 v) p)) := by
  have d15 := hW.d15
  have kp : ∀ {α : Type} (X : Option α), chk (nI p) 14 X = X := fun X => chk_ok (by omega) (by decide)
  have tp : (nI p).toNatClampNeg = p := tn_nI (by omega)
  have cp : M.1 31 p = nI (cw v p) := (hT.2.2.2 p hp).trans (cw_e hW p).1
  have bp := (cw_e hW p).2
  obtain ⟨r, e1, e2⟩ := loop_ex (fun n i (s : Int32) => f_X6_howManyBefore_L4 21 (nI p) M n s (nI i)) (dN v) (fun i s => s = nI (cnt (fun q => decide (lx (kw9 v) q p)) i)) (fun r => r = nI (rnk (kw9 v) p)) (by
    intro n i s hi h
    have h : s = nI (cnt (fun q => decide (lx (kw9 v) q p)) i) := h
    subst h
    refine Or.inr ⟨nI (cnt (fun q => decide (lx (kw9 v) q p)) (i + 1)), ?_, rfl⟩
    show f_X6_howManyBefore_L4 21 (nI p) M (n + 1) _ (nI i) = _
    have ki : ∀ {α : Type} (X : Option α), chk (nI i) 14 X = X := fun X => chk_ok (by omega) (by decide)
    have ti : (nI i).toNatClampNeg = i := tn_nI (by omega)
    have ci : M.1 31 i = nI (cw v i) := (hT.2.2.2 i hi).trans (cw_e hW i).1
    have b9 := (cw_e hW i).2
    rw [f_X6_howManyBefore_L4, hT.1, if_neg (nI_ge hi (by omega))]
    rw [show cnt (fun q => decide (lx (kw9 v) q p)) (i + 1) = cnt (fun q => decide (lx (kw9 v) q p)) i + (if decide (lx (kw9 v) i p) = true then 1 else 0) from rfl]
    simp only [kp, ki, tp, ti, Nat.reduceAdd, cp, ci, bi, nI_1, decide_eq_true_eq, kw_x hW, nI_ltE (show cw v p < 2 ^ 31 by omega) (show cw v i < 2 ^ 31 by omega), nI_eq (show cw v i < 2 ^ 31 by omega) (show cw v p < 2 ^ 31 by omega)]
    by_cases q1 : cw v p < cw v i
    · rw [if_pos q1, if_pos (Or.inl q1)]
    · rw [if_neg q1]
      by_cases q2 : cw v i = cw v p
      · rw [if_pos q2]
        by_cases q3 : p ≤ i
        · rw [if_pos (nI_le q3 (by omega)), if_neg (by omega)]; rfl
        · rw [if_neg (nI_ge (by omega) (by omega)), if_pos (by omega)]
      · rw [if_neg q2, if_neg (by omega)]; rfl) (by
    intro n s h
    refine ⟨_, ?_, h⟩
    show f_X6_howManyBefore_L4 21 (nI p) M (n + 1) _ (nI (dN v)) = _
    rw [f_X6_howManyBefore_L4, hT.1, if_pos (Int32.le_refl _)]) 1000 0 0 (by omega) (by omega) rfl
  unfold f_X6_howManyBefore
  rw [show f_X6_howManyBefore_L4 21 (nI p) M 1000 0 0 = some r from e1, e2]; rfl
theorem C_atPlace {k : Nat} (hW : WF v) (hT : TKC v (pN v) M) (hk : k < dN v) : f_X6_dayAtPlace 21 (nI k) M = some (nI (ordN (kw9 v) k)) := by
  have d15 := hW.d15
  have r := loop_fst (fun p => decide (rnk (kw9 v) p = k)) (fun n i => f_X6_dayAtPlace_L2 21 (nI k) M n (nI i)) (dN v) () nI (by
    intro n i hi
    show f_X6_dayAtPlace_L2 21 (nI k) M (n + 1) (nI i) = _
    rw [f_X6_dayAtPlace_L2, hT.1, if_neg (nI_ge hi (by omega)), C_rankD hW hT hi]
    have hr := rnk_n (v := kw9 v) (p := i) hi
    rw [kw_n] at hr
    simp only [Option.bind_some, nI_eq (show rnk (kw9 v) i < 2 ^ 31 by omega) (show k < 2 ^ 31 by omega), decide_eq_true_eq, bi, nI_1]) (by
    intro n
    show f_X6_dayAtPlace_L2 21 (nI k) M (n + 1) (nI (dN v)) = _
    rw [f_X6_dayAtPlace_L2, hT.1, if_pos (Int32.le_refl _)]) 1000 0 (by omega) (by omega)
  unfold f_X6_dayAtPlace
  rw [show f_X6_dayAtPlace_L2 21 (nI k) M 1000 0 = _ from r, obS_elim, show fstO (fun p => decide (rnk (kw9 v) p = k)) (dN v - 0) 0 = ordO (kw9 v) k from rfl, (ordN_ok (v := kw9 v) (k := k) hk).2.2]
  rfl
theorem M_orderB {k : Nat} {x : Int32} (hV : VM 69 v M) (hW : WF v) (hT : TKM v (pN v) M) (hk : k < dN v) (hm : mskD v k x) (x1 x4 : Int32) : f_X8_order_L42 69 x1 x x4 M 1000 (-1) 0 = some (nI (ordN (kw9 v) k)) := by
  have d15 := hW.d15
  have e0 : M.1 69 9 = nI (dN v) := hV.d.trans hW.d
  obtain ⟨m, m14, rfl, mb⟩ := hm
  have m31 : m < 2 ^ 31 := by omega
  have hQ : ∀ j, j < dN v → ((fun j => decide (k ≤ rnk (kw9 v) j)) j = true ↔ k ≤ rnk (kw9 v) j) := fun j hj => by simp only [decide_eq_true_eq]
  have hbs : ∀ j, j < dN v → (hb (nI m) (nI j) ↔ ¬ k ≤ rnk (kw9 v) j) := fun j hj => (hb_nI m31 (by omega)).trans ((mb j hj).trans (by omega))
  have key := bAm_ord hW hk hQ
  obtain ⟨r, e1, e2⟩ := loop_ex (fun n i (s : Int32) => f_X8_order_L42 69 x1 (nI m) x4 M n s (nI i)) (dN v) (fun i s => s = plc (bAm (fun j => decide (k ≤ rnk (kw9 v) j)) (cntN v (pN v)) i)) (fun r => r = plc (bAm (fun j => decide (k ≤ rnk (kw9 v) j)) (cntN v (pN v)) (dN v))) (by
    intro n i s hi h
    refine Or.inr ⟨_, ?_, rfl⟩
    have h : s = plc (bAm (fun j => decide (k ≤ rnk (kw9 v) j)) (cntN v (pN v)) i) := h
    subst h
    show f_X8_order_L42 69 x1 (nI m) x4 M (n + 1) (plc (bAm (fun j => decide (k ≤ rnk (kw9 v) j)) (cntN v (pN v)) i)) (nI i) = f_X8_order_L42 69 x1 (nI m) x4 M n (plc (bst (fun j => decide (k ≤ rnk (kw9 v) j)) (cntN v (pN v)) i (bAm (fun j => decide (k ≤ rnk (kw9 v) j)) (cntN v (pN v)) i))) (nI (i + 1))
    have hl := bAm_lt (fun j => decide (k ≤ rnk (kw9 v) j)) (cntN v (pN v)) i
    generalize bAm (fun j => decide (k ≤ rnk (kw9 v) j)) (cntN v (pN v)) i = o at hl
    have ci := M_countOf hV hW hT hi
    rw [f_X8_order_L42, e0, if_neg (nI_ge hi (by omega))]
    unfold bst
    by_cases q : k ≤ rnk (kw9 v) i
    · have nb : (nI m >>> (nI i &&& 31)) &&& 1 = 0 := (bit_cases _ _).resolve_right (fun z => (hbs i hi).mp z q)
      rw [if_pos nb, if_neg (show ¬ ((1 : Int32) = 0) by decide), if_pos (decide_eq_true q)]
      cases o with
      | none => rw [if_pos (show plc none = -1 from rfl)]; simp only [bi, nI_1]; rfl
      | some j =>
        have hj := hl j rfl
        have cj := M_countOf hV hW hT (show j < dN v by omega)
        rw [plc_some, if_neg (nI_nm1 (by omega)), ci, cj]
        simp only [Option.bind_some, bi, nI_1, Option.elim_some]
        by_cases q2 : cntN v (pN v) j < cntN v (pN v) i
        · rw [if_neg (i32_nle.mpr q2), if_pos q2]; rfl
        · rw [if_pos (i32_nlt.mp q2), if_neg q2]; rfl
    · have nb : ¬ ((nI m >>> (nI i &&& 31)) &&& 1 = 0) := by rw [show (nI m >>> (nI i &&& 31)) &&& 1 = 1 from (hbs i hi).mpr q]; decide
      rw [if_neg nb, if_pos rfl, if_neg (fun z => q (of_decide_eq_true z))]
      simp only [bi, nI_1]) (by
    intro n s h
    refine ⟨s, ?_, h⟩
    show f_X8_order_L42 69 x1 (nI m) x4 M (n + 1) s (nI (dN v)) = some s
    rw [f_X8_order_L42, e0, if_pos (Int32.le_refl _)]) 1000 0 (-1) (by omega) (by omega) rfl
  rw [show f_X8_order_L42 69 x1 (nI m) x4 M 1000 (-1) 0 = some r from e1, e2, key]; rfl
theorem M_orderL {k : Nat} (hV : VM 69 v M) (hW : WF v) (hT : TKM v (pN v) M) (hk : k < dN v) : f_X8_order_L31 69 (nI k) M 1000 0 (-1) 0 = some (nI (ordN (kw9 v) k)) := by
  have d15 := hW.d15
  obtain ⟨r, e1, e2⟩ := loop_ex (fun n i (s : Int32 × Int32) => f_X8_order_L31 69 (nI k) M n s.1 s.2 (nI i)) (k + 1) (fun i s => mskD v i s.1 ∧ (1 ≤ i → s.2 = nI (ordN (kw9 v) (i - 1)))) (fun r => r = nI (ordN (kw9 v) k)) (by
    intro n i s hi h
    obtain ⟨h1, h2⟩ := h
    refine Or.inr ⟨(s.1 ||| (1 <<< (nI (ordN (kw9 v) i) &&& 31)), nI (ordN (kw9 v) i)), ?_, mskD_step d15 (by omega) h1, fun _ => by rw [Nat.add_sub_cancel]⟩
    show f_X8_order_L31 69 (nI k) M (n + 1) s.1 s.2 (nI i) = f_X8_order_L31 69 (nI k) M n (s.1 ||| (1 <<< (nI (ordN (kw9 v) i) &&& 31))) (nI (ordN (kw9 v) i)) (nI (i + 1))
    rw [f_X8_order_L31, if_neg (nI_nlt (a := k) (b := i) (by omega) (by omega)), M_orderB hV hW hT (show i < dN v by omega) h1]
    simp only [Option.bind_some, bi, nI_1]) (by
    intro n s h
    refine ⟨s.2, ?_, by rw [h.2 (by omega), Nat.add_sub_cancel]⟩
    show f_X8_order_L31 69 (nI k) M (n + 1) s.1 s.2 (nI (k + 1)) = _
    rw [f_X8_order_L31, if_pos (nI_lt (by omega) (by omega))]) 1000 0 (0, -1) (by omega) (by omega) ⟨⟨0, by decide, rfl, fun j hj => by rw [Nat.zero_testBit]; exact ⟨fun z => Bool.noConfusion z, fun z => absurd z (Nat.not_lt_zero _)⟩⟩, fun z => absurd z (by decide)⟩
  rw [show f_X8_order_L31 69 (nI k) M 1000 0 (-1) 0 = some r from e1, e2]
end OR1
section OR2
variable {a : AB} {M : Mm}
theorem X7_order (h : RC a M) (hW : WA a) (i : Int32) : OKC (f_X7_order i M) M (oOrder a i) := by
  have d15 := hW.1.d15
  unfold f_X7_order oOrder
  rw [C_hasDay h.1 hW.1]
  by_cases q : inN i (dN a.1)
  · obtain ⟨M2, e, t, hF⟩ := C_reckon h.1 hW.1
    obtain ⟨i, hi, rfl⟩ := inN_k (by omega) q
    simp only [if_pos q, Option.bind_some, i10, if_false, e, C_atPlace hW.1 t hi, tnn (show i < 2 ^ 31 by omega)]
    exact okCt h hF
  · simp only [if_neg q, Option.bind_some, if_true]; exact C_bad h
theorem X8_order (h : RM a M) (hW : WA a) (i : Int32) : OKM (f_X8_order 69 i M) M (oOrder a i) := by
  have d15 := hW.1.d15
  unfold f_X8_order oOrder
  rw [M_isDay h.1 hW.1]
  by_cases q : inN i (dN a.1)
  · obtain ⟨M2, e, t, hF⟩ := M_find h.1 hW.1
    obtain ⟨i, hi, rfl⟩ := inN_k (by omega) q
    simp only [if_pos q, Option.bind_some, i10, if_false, e, M_orderL (h.1.sc hF) hW.1 t hi, tnn (show i < 2 ^ 31 by omega)]
    exact okMt h hF
  · simp only [if_neg q, Option.bind_some, if_true]; exact M_bad h
theorem W_order (h : WB a) (i : Int32) : WB (oOrder a i).1 := by unfold oOrder; split <;> exact h
end OR2
