/-! days, people, the tape -/
abbrev mask (x : Int32) : Int32 := (1 <<< (x &&& 31)) - 1
def gDays (x : Int32) (p : Nat) (w : CV) : CV := uP w p 3 (w.2 p 3 &&& mask x)
def sDaysAre (v : CV) (x : Int32) : CV := iter (gDays x) (pN v) (uS v 0 x)
def sAdd (v : CV) (k a l : Int32) : CV := uS (uP (uP (uP (uP (uP v (pN v) 0 k) (pN v) 1 a) (pN v) 2 l) (pN v) 3 0) (pN v) 4 0) 1 (v.1 1 + 1)
def oDays (a : AB) (x : Int32) : AB × Int32 := if 1 ≤ x ∧ x ≤ 14 then (setV a (sDaysAre a.1 x), a.1.1 0) else bad a
def oPerson (a : AB) (k x l : Int32) : AB × Int32 := if inN k 6 then (if inN x 14 then (if inN l 13 then (if pN a.1 < 8 then (setV a (sAdd a.1 k x l), nI (pN a.1)) else ful a) else bad a) else bad a) else bad a
def oFeed (a : AB) (x : Int32) : AB × Int32 := if inN x 256 then (if (aT a).1 < 250 then (setT a ((aT a).1 + 1, upN (aT a).2 (aT a).1 x), nI ((aT a).1 + 1)) else ful a) else bad a
def oWipe (a : AB) : AB × Int32 := (setT a (0, (aT a).2), nI (aT a).1)
theorem gDays_1 (x : Int32) (v : CV) : ∀ k, (iter (gDays x) k v).1 = v.1 := by
  intro k
  induction k with
  | zero => rfl
  | succ k ih => exact ih
theorem gDays_ge (x : Int32) (v : CV) : ∀ k p, k ≤ p → (iter (gDays x) k v).2 p = v.2 p := by
  intro k
  induction k with
  | zero => intro p _; rfl
  | succ k ih =>
    intro p hp
    funext j
    show (uP (iter (gDays x) k v) k 3 _).2 p j = v.2 p j
    rw [uP_off (Or.inl (by omega)), ih p (by omega)]
section O3
variable {a : AB} {M : Mm}
theorem C_changeDays {c : Nat} {v : CV} (hV : VC c v M) (hW : WF v) (x : Int32) : ∃ M2, f_X1_changeDays c x M = some M2 ∧ VC c (sDaysAre v x) M2 ∧ Fr c (c + 10) M M2 := by
  have h1 := hW.n
  have h2 := hW.n9
  obtain ⟨r, e1, e2⟩ := loop_ex (fun n i (M9 : Mm) => f_X1_changeDays_L7 c n (nI i) M9) (pN v) (fun i M9 => VC c (iter (gDays x) i (uS v 0 x)) M9 ∧ Fr c (c + 10) M M9) (fun r => VC c (sDaysAre v x) r ∧ Fr c (c + 10) M r) (by
    intro n i M9 hi h
    obtain ⟨hv, hf⟩ := h
    refine Or.inr ⟨wI M9 (c + 2 + i) 3 ((iter (gDays x) i (uS v 0 x)).2 i 3 &&& mask x), ?_, hv.uP i 3 _, hf.tr (Fr.wI (by omega) (by omega))⟩
    have e3 : M9.1 c 1 = nI (pN v) := by rw [hv.1 1 (by decide), gDays_1]; exact h1
    have e4 : M9.1 c 0 = x := by rw [hv.1 0 (by decide), gDays_1]; rfl
    show f_X1_changeDays_L7 c (n + 1) (nI i) M9 = _
    rw [f_X1_changeDays_L7, e3, f_X1_allDays, e4]
    simp (disch := omega) only [nI_leF hi, chk_ok, Option.bind_some, bm, bi, nI_1, tn_nI, reduceIte, hv.2]) (by
    intro n M9 h
    refine ⟨M9, ?_, h⟩
    have e3 : M9.1 c 1 = nI (pN v) := by rw [h.1.1 1 (by decide), gDays_1]; exact h1
    show f_X1_changeDays_L7 c (n + 1) (nI (pN v)) M9 = _
    rw [f_X1_changeDays_L7, e3]
    simp (disch := omega) only [nI_leT (Nat.le_refl _), reduceIte]) 1000 0 (wI M c 0 x) (by omega) (by omega) ⟨hV.uS 0 x, Fr.wI (by omega) (by omega)⟩
  unfold f_X1_changeDays
  simp only [bm]
  rw [show f_X1_changeDays_L7 c 1000 0 (wI M c 0 x) = some r from e1]
  exact ⟨r, rfl, e2⟩
theorem M_daysAre {b : Nat} {v : CV} (hV : VM b v M) (hW : WF v) (x : Int32) : ∃ M2, f_X8_daysAre b x M = some M2 ∧ VM b (sDaysAre v x) M2 ∧ FrV b M M2 := by
  have h1 := hW.n
  have h2 := hW.n9
  obtain ⟨r, e1, e2⟩ := loop_ex (fun n i (M9 : Mm) => f_X8_daysAre_L7 b x n (nI i) M9) (pN v) (fun i M9 => VM b (iter (gDays x) i (uS v 0 x)) M9 ∧ FrV b M M9) (fun r => VM b (sDaysAre v x) r ∧ FrV b M r) (by
    intro n i M9 hi h
    obtain ⟨hv, hf⟩ := h
    refine Or.inr ⟨wI M9 (b + 20) i ((iter (gDays x) i (uS v 0 x)).2 i 3 &&& mask x), ?_, hv.u3 i _, hf.tr (FrV.wI (by unfold stV; omega))⟩
    have e3 : M9.1 b 10 = nI (pN v) := by rw [hv.n, gDays_1]; exact h1
    show f_X8_daysAre_L7 b x (n + 1) (nI i) M9 = _
    rw [f_X8_daysAre_L7, e3]
    simp (disch := omega) only [nI_leF hi, chk_ok, Option.bind_some, bm, bi, nI_1, tn_nI, reduceIte, hv.p3]) (by
    intro n M9 h
    refine ⟨M9, ?_, h⟩
    have e3 : M9.1 b 10 = nI (pN v) := by rw [h.1.n, gDays_1]; exact h1
    show f_X8_daysAre_L7 b x (n + 1) (nI (pN v)) M9 = _
    rw [f_X8_daysAre_L7, e3]
    simp (disch := omega) only [nI_leT (Nat.le_refl _), reduceIte]) 1000 0 (wI M b 9 x) (by omega) (by omega) ⟨hV.s0 x, FrV.wI (by unfold stV; omega)⟩
  unfold f_X8_daysAre
  simp only [bm]
  rw [show f_X8_daysAre_L7 b x 1000 0 (wI M b 9 x) = some r from e1]
  exact ⟨r, rfl, e2⟩
theorem X7_days (h : RC a M) (hW : WA a) (x : Int32) : OKC (f_X7_days x M) M (oDays a x) := by
  unfold f_X7_days oDays
  rw [within_ok]
  by_cases q : 1 ≤ x ∧ x ≤ 14
  · obtain ⟨M2, e, hv, hf⟩ := C_changeDays h.1 hW.1 x
    simp only [if_pos q, Option.bind_some, i10, if_false, bi, e]
    rw [h.1.1 0 (by decide)]
    exact OKC.v h hv (hf.wide (by omega) (by omega))
  · simp only [if_neg q, Option.bind_some, if_true]; exact C_bad h
theorem X8_days (h : RM a M) (hW : WA a) (x : Int32) : OKM (f_X8_days 69 x M) M (oDays a x) := by
  unfold f_X8_days oDays
  rw [show f_X8_in x.toInt64 1 14 = _ from in_ok32 x 1 14]
  by_cases q : 1 ≤ x ∧ x ≤ 14
  · obtain ⟨M2, e, hv, hf⟩ := M_daysAre h.1 hW.1 x
    simp only [if_pos q, Option.bind_some, i10, if_false, bi, e]
    rw [h.1.d]
    exact OKM.v h hv hf
  · simp only [if_neg q, Option.bind_some, if_true]; exact M_bad h
theorem C_isFull {c : Nat} {v : CV} (hV : VC c v M) (hW : WF v) : f_X1_isFull c M = some (if pN v < 8 then 0 else 1) := by
  have h2 := hW.n9
  unfold f_X1_isFull
  rw [hV.1 1 (by decide), hW.n]
  by_cases q : pN v < 8
  · rw [if_pos q, if_pos (show nI (pN v) < 8 from nI_lt (b := 8) q (by decide))]
  · rw [if_neg q, if_neg (show ¬ nI (pN v) < 8 from nI_nlt (b := 8) (by omega) (by omega))]
theorem C_takeIn {c : Nat} {v : CV} (hV : VC c v M) (hW : WF v) (hn : pN v < 8) (k x l : Int32) : ∃ M2, f_X1_takeIn c k x l M = some (M2, nI (pN v)) ∧ VC c (sAdd v k x l) M2 ∧ Fr c (c + 10) M M2 := by
  have h1 := hW.n
  have e : M.1 c 1 = nI (pN v) := (hV.1 1 (by decide)).trans h1
  have hq : c + 2 + pN v ≠ c := by omega
  refine ⟨wI (wI (wI (wI (wI (wI M (c + 2 + pN v) 0 k) (c + 2 + pN v) 1 x) (c + 2 + pN v) 2 l) (c + 2 + pN v) 3 0) (c + 2 + pN v) 4 0) c 1 (v.1 1 + 1), ?_, (((((hV.uP (pN v) 0 k).uP (pN v) 1 x).uP (pN v) 2 l).uP (pN v) 3 0).uP (pN v) 4 0).uS 1 _, ?_⟩
  · unfold f_X1_takeIn
    rw [C_isFull hV hW, if_pos hn, e]
    simp (disch := omega) only [Option.bind_some, if_true, chk_ok, tn_nI, f_X2_begin, bm, wI_on, wI_off (Or.inl (Ne.symm hq)), e, h1]
    rw [nI_1, nI_pred]
  · exact (((((Fr.wI (by omega) (by omega)).tr (Fr.wI (by omega) (by omega))).tr (Fr.wI (by omega) (by omega))).tr (Fr.wI (by omega) (by omega))).tr (Fr.wI (by omega) (by omega))).tr (Fr.wI (by omega) (by omega))
theorem M_addPerson {b : Nat} {v : CV} (hV : VM b v M) (hW : WF v) (hn : pN v < 8) (k x l : Int32) : ∃ M2, f_X8_addPerson b k x l M = some M2 ∧ VM b (sAdd v k x l) M2 ∧ FrV b M M2 := by
  have h1 := hW.n
  have e : M.1 b 10 = nI (pN v) := hV.n.trans h1
  refine ⟨wI (wI (wI (wI (wI (wI M (b + 17) (pN v) k) (b + 18) (pN v) x) (b + 19) (pN v) l) (b + 20) (pN v) 0) (b + 21) (pN v) 0) b 10 (v.1 1 + 1), ?_, (((((hV.u0 (pN v) k).u1 (pN v) x).u2 (pN v) l).u3 (pN v) 0).u4 (pN v) 0).s1 _, ?_⟩
  · unfold f_X8_addPerson
    rw [e]
    simp (disch := omega) only [chk_ok, tn_nI, bm, wI_off, e, h1]
  · exact (((((FrV.wI (by unfold stV; omega)).tr (FrV.wI (by unfold stV; omega))).tr (FrV.wI (by unfold stV; omega))).tr (FrV.wI (by unfold stV; omega))).tr (FrV.wI (by unfold stV; omega))).tr (FrV.wI (by unfold stV; omega))
theorem X7_person (h : RC a M) (hW : WA a) (k x l : Int32) : OKC (f_X7_person k x l M) M (oPerson a k x l) := by
  unfold f_X7_person oPerson
  rw [isKind_ok, wi_n x 13 13 rfl (by decide), wi_13, C_isFull h.1 hW.1]
  by_cases q : inN k 6
  · by_cases q2 : inN x 14
    · by_cases q3 : inN l 13
      · by_cases q4 : pN a.1 < 8
        · obtain ⟨M2, e, hv, hf⟩ := C_takeIn h.1 hW.1 q4 k x l
          simp only [if_pos q, if_pos q2, if_pos q3, if_pos q4, Option.bind_some, i10, if_false, if_true, e]
          exact OKC.v h hv (hf.wide (by omega) (by omega))
        · simp only [if_pos q, if_pos q2, if_pos q3, if_neg q4, Option.bind_some, i10, if_false]; exact C_ful h
      · simp only [if_pos q, if_pos q2, if_neg q3, Option.bind_some, i10, if_false, if_true]; exact C_bad h
    · simp only [if_pos q, if_neg q2, Option.bind_some, i10, if_false, if_true]; exact C_bad h
  · simp only [if_neg q, Option.bind_some, if_true]; exact C_bad h
theorem X8_person (h : RM a M) (hW : WA a) (k x l : Int32) : OKM (f_X8_person 69 k x l M) M (oPerson a k x l) := by
  have h2 := hW.1.n9
  unfold f_X8_person oPerson
  rw [show f_X8_in k.toInt64 0 5 = _ from in_n k 5 5 rfl (by decide), show f_X8_in x.toInt64 0 13 = _ from in_n x 13 13 rfl (by decide), in0_13, h.1.n, hW.1.n]
  by_cases q : inN k 6
  · by_cases q2 : inN x 14
    · by_cases q3 : inN l 13
      · by_cases q4 : pN a.1 < 8
        · obtain ⟨M2, e, hv, hf⟩ := M_addPerson h.1 hW.1 q4 k x l
          have e8 : ¬ nI (pN a.1) = 8 := by rw [show (8 : Int32) = nI 8 from rfl, nI_eq (by omega) (by decide)]; omega
          simp only [if_pos q, if_pos q2, if_pos q3, if_pos q4, Option.bind_some, i10, if_false, if_neg e8, e, hv.n]
          have e9 : (sAdd a.1 k x l).1 1 - 1 = nI (pN a.1) := by
            show a.1.1 1 + 1 - 1 = _
            rw [hW.1.n, nI_1, nI_pred]
          rw [e9]
          exact OKM.v h hv hf
        · have e8 : nI (pN a.1) = 8 := by rw [show pN a.1 = 8 by omega]; rfl
          simp only [if_pos q, if_pos q2, if_pos q3, if_neg q4, Option.bind_some, i10, if_false, if_pos e8]; exact M_ful h
      · simp only [if_pos q, if_pos q2, if_neg q3, Option.bind_some, i10, if_false, if_true]; exact M_bad h
    · simp only [if_pos q, if_neg q2, Option.bind_some, i10, if_false, if_true]; exact M_bad h
  · simp only [if_neg q, Option.bind_some, if_true]; exact M_bad h
/-! the tape -/
theorem RC_setT {M2 : Mm} {t : Nat × (Nat → Int32)} (h : RC a M) (hT : TC t M2) (hF : Fr 38 40 M M2) : RC (setT a t) M2 := by
  obtain ⟨hv, hk, hs, ht, hr⟩ := h
  refine ⟨hv.fr hF (by omega), ⟨fun q => ?_, fun w q => ⟨?_, (hk.2 w q).2.fr hF (by omega)⟩⟩, fun s h8 => ⟨?_, ?_, fun i hi => ?_⟩, hT, fun i hi => ?_⟩
  · rw [hF.i (by omega)]; exact hk.1 q
  · rw [hF.i (by omega)]; exact (hk.2 w q).1
  · rw [hF.i (by omega)]; exact (hs s h8).1
  · rw [hF.i (by omega)]; exact (hs s h8).2.1
  · rw [hF.j (by omega)]; exact (hs s h8).2.2 i hi
  · rw [hF.i (by omega)]; exact hr i hi
theorem RM_setT {M2 : Mm} {t : Nat × (Nat → Int32)} (h : RM a M) (hT : TM t M2) (hF : ∀ x y, ¬ (x = 69 ∧ y = 7) → x ≠ 84 → M2.1 x y = M.1 x y) (hF2 : M2.2 = M.2) : RM (setT a t) M2 := by
  obtain ⟨hv, hk, hs, ht, hr⟩ := h
  have e : ∀ x, x ≠ 69 → x ≠ 84 → M2.1 x = M.1 x := fun x h1 h2 => funext fun y => hF x y (by omega) h2
  refine ⟨hv.eqs (fun y hy => hF 69 y (by omega) (by omega)) (fun x h1 h2 => e x (by omega) (by omega)), ⟨fun q => by rw [hF2]; exact hk.1 q, fun w q => ?_⟩, fun s h8 => ?_, hT, fun i hi => ?_⟩
  · rw [hF2]
    obtain ⟨k1, k2, k3⟩ := hk.2 w q
    exact ⟨k1, k2, k3.eqs (fun y hy => by rw [e _ (by omega) (by omega)]) (fun x h1 h2 => e x (by omega) (by omega))⟩
  · unfold SM
    rw [e 70 (by omega) (by omega), e 71 (by omega) (by omega), e 72 (by omega) (by omega), e 83 (by omega) (by omega), hF2]
    exact hs s h8
  · rw [e _ (by omega) (by omega)]; exact hr i hi
theorem X7_wipe (h : RC a M) : OKC (f_X7_wipe M) M (oWipe a) := by
  unfold f_X7_wipe oWipe
  simp only [bi, bm]
  rw [h.2.2.2.1.1]
  refine ⟨_, rfl, RC_setT h ⟨wI_on, fun i hi => absurd hi (Nat.not_lt_zero i)⟩ (Fr.wI (by omega) (by omega)), Fr.wI (by omega) (by omega)⟩
theorem X8_wipe (h : RM a M) : OKM (f_X8_wipe 69 M) M (oWipe a) := by
  unfold f_X8_wipe oWipe
  simp only [bi, bm]
  rw [h.2.2.2.1.1]
  refine ⟨_, rfl, RM_setT h ⟨wI_on, fun i hi => absurd hi (Nat.not_lt_zero i)⟩ (fun x y h1 h2 => wI_off (by omega)) rfl, FrM.wI (by omega), rfl⟩
theorem TC_push {t : Nat × (Nat → Int32)} (h : TC t M) (x : Int32) : TC (t.1 + 1, upN t.2 t.1 x) (wI (wI M 39 t.1 x) 38 1 (nI (t.1 + 1))) := by
  refine ⟨wI_on, fun i hi => ?_⟩
  have hi : i < t.1 + 1 := hi
  show (wI (wI M 39 t.1 x) 38 1 (nI (t.1 + 1))).1 39 i = upN t.2 t.1 x i
  rw [wI_off (by omega)]
  by_cases q : i = t.1
  · subst q; rw [wI_on, upN_eq]
  · rw [wI_off (by omega), upN_ne _ _ q]; exact h.2 i (by omega)
theorem TM_push {t : Nat × (Nat → Int32)} (h : TM t M) (x : Int32) : TM (t.1 + 1, upN t.2 t.1 x) (wI (wI M 69 7 (nI (t.1 + 1))) 84 t.1 x) := by
  refine ⟨by rw [wI_off (by omega), wI_on], fun i hi => ?_⟩
  have hi : i < t.1 + 1 := hi
  show (wI (wI M 69 7 (nI (t.1 + 1))) 84 t.1 x).1 84 i = upN t.2 t.1 x i
  by_cases q : i = t.1
  · subst q; rw [wI_on, upN_eq]
  · rw [wI_off (by omega), wI_off (by omega), upN_ne _ _ q]; exact h.2 i (by omega)
theorem X7_feed (h : RC a M) (hW : WA a) (x : Int32) : OKC (f_X7_feed x M) M (oFeed a x) := by
  have h250 := hW.2.2.2.1
  have e := h.2.2.2.1.1
  unfold f_X7_feed oFeed
  rw [wi_n x 255 255 rfl (by decide)]
  by_cases q : inN x 256
  · simp only [if_pos q, Option.bind_some, i10, if_false]
    unfold f_X5_takes
    rw [e]
    by_cases q2 : (aT a).1 < 250
    · rw [if_pos (show nI (aT a).1 < 250 from nI_lt (b := 250) q2 (by decide)), if_pos q2]
      have e2 : (wI M 39 (aT a).1 x).1 38 1 = nI (aT a).1 := by rw [wI_off (by omega)]; exact e
      simp (disch := omega) only [chk_ok, tn_nI, bm, Option.bind_some, i10, if_false, e2, wI_on, nI_1]
      exact ⟨_, rfl, RC_setT h (TC_push h.2.2.2.1 x) ((Fr.wI (by omega) (by omega)).tr (Fr.wI (by omega) (by omega))), (Fr.wI (by omega) (by omega)).tr (Fr.wI (by omega) (by omega))⟩
    · rw [if_neg (show ¬ nI (aT a).1 < 250 from nI_nlt (b := 250) (by omega) (by omega)), if_neg q2]
      simp only [Option.bind_some, if_true]
      exact C_ful h
  · simp only [if_neg q, Option.bind_some, if_true]; exact C_bad h
theorem X8_feed (h : RM a M) (hW : WA a) (x : Int32) : OKM (f_X8_feed 69 x M) M (oFeed a x) := by
  have h250 := hW.2.2.2.1
  have e := h.2.2.2.1.1
  unfold f_X8_feed oFeed
  rw [show f_X8_in x.toInt64 0 255 = _ from in_n x 255 255 rfl (by decide), e]
  by_cases q : inN x 256
  · simp only [if_pos q, Option.bind_some, i10, if_false]
    by_cases q2 : (aT a).1 < 250
    · have e8 : ¬ nI (aT a).1 = 250 := by rw [show (250 : Int32) = nI 250 from rfl, nI_eq (by omega) (by decide)]; omega
      rw [if_neg e8, if_pos q2]
      simp (disch := omega) only [chk_ok, tn_nI, bm, nI_1]
      refine ⟨_, ?_, RM_setT h (TM_push h.2.2.2.1 x) (fun x y h1 h2 => by rw [wI_off (by omega), wI_off (by omega)]) rfl, (FrM.wI (by omega)).tr (FrM.wI (by omega)), rfl⟩
      rw [wI_off (by omega), wI_on]
    · have e8 : nI (aT a).1 = 250 := by rw [show (aT a).1 = 250 by omega]; rfl
      rw [if_pos e8, if_neg q2]; exact M_ful h
  · simp only [if_neg q, Option.bind_some, if_true]; exact M_bad h
end O3
