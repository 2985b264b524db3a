/-! calls that change nothing but refusals -/
def oThere (a : AB) (d : Int32) : AB × Int32 := if inN d (dN a.1) then (a, sThere a.1 d) else bad a
def oWith (a : AB) (k : Int32) : AB × Int32 := if inN k 9 then (a, sWith a.1 k) else bad a
def oReach (a : AB) (p : Int32) : AB × Int32 := if inN p (pN a.1) then (a, sShare a.1 (tn p)) else bad a
def oWeeks (a : AB) (r : Int32) : AB × Int32 := if inN r 7 then (a, sWeek a.1 (tn r)) else bad a
def sWorst (v : CV) : Nat := amax (fun p => v.2 p 4) (pN v)
def oWorst (a : AB) : AB × Int32 := if pN a.1 = 0 then stk a else (a, nI (sWorst a.1))
def sDrop (v : CV) : Nat := amax (sButN v) (pN v)
def oDrop (a : AB) (w : Int32) : AB × Int32 := if inN w 2 then (if pN a.1 = 0 then stk a else (a, if w = 0 then nI (sDrop a.1) else sButN a.1 (sDrop a.1))) else bad a
def oWithHost (a : AB) (p : Int32) : AB × Int32 := if inN p (pN a.1) then (a, plc (fstO (fun j => decide (hb (a.1.2 (tn p) 3 &&& a.1.2 (tn (a.1.1 2)) 3) (nI j))) (dN a.1) 0)) else bad a
def oLater (a : AB) (d : Int32) : AB × Int32 := if inN d (dN a.1) then (a, plc (fstO (fun j => decide (a.1.1 3 ≤ sHow a.1 (nI j))) (dN a.1 - tn d) (tn d))) else bad a
def oKnown (a : AB) (d t : Int32) : AB × Int32 := if inN d (dN a.1) then (if inN t 100 then (a, sKn a.1 d (tn t)) else bad a) else bad a
def oUntil (a : AB) (d x : Int32) : AB × Int32 := if inN d (dN a.1) then (if 0 ≤ x ∧ x ≤ 1000000 then (a, plc (fstO (pUntil a.1 (tn d) x) 100 0)) else bad a) else bad a
def oOdds (a : AB) (p d k : Int32) : AB × Int32 := if 1 ≤ p ∧ p ≤ 99 then (if 1 ≤ d ∧ d ≤ 99 then (if inN k 13 then (a, nI (oddsN (tn p) (tn d) (tn k))) else bad a) else bad a) else bad a
def oOffer (a : AB) (p k x : Int32) : AB × Int32 := if 1 ≤ p ∧ p ≤ 99 then (if inN k 13 then (if 0 ≤ x ∧ x ≤ 1000000 then (a, plc (fstO (pOffer (tn p) (tn k) x) 99 1)) else bad a) else bad a) else bad a
def oNever (a : AB) (d k x : Int32) : AB × Int32 := if 1 ≤ d ∧ d ≤ 99 then (if inN k 13 then (if 0 ≤ x ∧ x ≤ 1000000 then (a, plc (fstO (pNever (tn d) (tn k) x) 99 1)) else bad a) else bad a) else bad a
def oPersonOf (a : AB) (p w : Int32) : AB × Int32 := if inN p (pN a.1) then (if w = 0 then (a, a.1.2 (tn p) 0) else if w = 1 then (a, a.1.2 (tn p) 1) else if w = 2 then (a, a.1.2 (tn p) 2) else if w = 3 then (a, a.1.2 (tn p) 3) else if w = 4 then (a, a.1.2 (tn p) 4) else bad a) else bad a
theorem lt_13 {k : Int32} : (0 ≤ k ∧ k ≤ 12) = inN k 13 := lt7 k 12 12 rfl (by decide)
theorem tnn {k : Nat} (h : k < 2 ^ 31) : tn (nI k) = k := tn_nI h
theorem hundred {x : Int32} (h : 1 ≤ x ∧ x ≤ 99) : ∃ k, 1 ≤ k ∧ k < 100 ∧ x = nI k := by
  obtain ⟨k, hk, rfl⟩ := (inN_iff (n := 100) (by decide)).mp ⟨Int32.le_trans (by decide) h.1, (le_nI (n := 99) (by decide)).mp h.2⟩
  refine ⟨k, ?_, hk, rfl⟩
  have h1 := h.1
  rw [show (1 : Int32) = nI 1 from rfl, nI_leI (by decide) (by omega)] at h1
  exact h1
theorem isHundred_ok (x : Int32) : f_X8_isHundred x = some (if 1 ≤ x ∧ x ≤ 99 then 1 else 0) := by
  unfold f_X8_isHundred
  rw [show f_X8_in x.toInt64 1 99 = _ from in_ok32 x 1 99]
  simp only [Option.bind_some, chb_ok]
theorem inN_k {x : Int32} {n : Nat} (hn : n < 2 ^ 31) (h : inN x n) : ∃ k, k < n ∧ x = nI k := (inN_iff hn).mp h
theorem wi_n (x k : Int32) (n : Nat) (h : nI n = k) (hn : n + 1 < 2 ^ 31) : f_X7_within x 0 k = some (if inN x (n + 1) then 1 else 0) := by
  rw [within_ok]
  simp only [lt7 x n k h hn]
theorem in_n (x k : Int32) (n : Nat) (h : nI n = k) (hn : n + 1 < 2 ^ 31) : f_X8_in x.toInt64 0 k.toInt64 = some (if inN x (n + 1) then 1 else 0) := by
  rw [in_0]
  simp only [lt7 x n k h hn]
theorem in0_13 (k : Int32) : f_X8_in k.toInt64 0 12 = some (if inN k 13 then 1 else 0) := by
  rw [show f_X8_in k.toInt64 0 12 = _ from in_n k 12 12 rfl (by decide)]
theorem in0_M (x : Int32) : f_X8_in x.toInt64 0 1000000 = some (if 0 ≤ x ∧ x ≤ 1000000 then 1 else 0) := in_0 x 1000000
theorem in0_100 (x : Int32) : f_X8_in x.toInt64 0 99 = some (if inN x 100 then 1 else 0) := by
  rw [show f_X8_in x.toInt64 0 99 = _ from in_0 x 99]
  simp only [lt7 x 99 99 rfl (by decide)]
theorem wi_100 (x : Int32) : f_X7_within x 0 99 = some (if inN x 100 then 1 else 0) := by
  rw [within_ok]
  simp only [lt7 x 99 99 rfl (by decide)]
theorem wi_13 (x : Int32) : f_X7_within x 0 12 = some (if inN x 13 then 1 else 0) := by
  rw [within_ok]
  simp only [lt_13]
section O1
variable {a : AB} {M : Mm}
theorem X7_there (h : RC a M) (hW : WA a) (d : Int32) : OKC (f_X7_there d M) M (oThere a d) := by
  unfold f_X7_there oThere
  rw [C_hasDay h.1 hW.1]
  by_cases q : inN d (dN a.1)
  · simp only [if_pos q, Option.bind_some, i10, if_false, C_thereOn h.1 hW.1]; exact okC h
  · simp only [if_neg q, Option.bind_some, if_true]; exact C_bad h
theorem X8_there (h : RM a M) (hW : WA a) (d : Int32) : OKM (f_X8_there 69 d M) M (oThere a d) := by
  unfold f_X8_there oThere
  rw [M_isDay h.1 hW.1]
  by_cases q : inN d (dN a.1)
  · simp only [if_pos q, Option.bind_some, i10, if_false, M_thereOn h.1 hW.1]; exact okM h
  · simp only [if_neg q, Option.bind_some, if_true]; exact M_bad h
theorem X7_all (h : RC a M) (hW : WA a) : f_X7_all M = some (sAllBut a.1 (-1)) := by
  unfold f_X7_all
  rw [C_daysOfAllBut h.1 hW.1]; rfl
theorem X8_all (h : RM a M) (hW : WA a) : f_X8_all 69 M = some (sAllBut a.1 (-1)) := by
  unfold f_X8_all
  rw [M_allBut h.1 hW.1]; rfl
theorem X7_with (h : RC a M) (hW : WA a) (k : Int32) : OKC (f_X7_with k M) M (oWith a k) := by
  unfold f_X7_with oWith
  rw [wi_n k 8 8 rfl (by decide)]
  by_cases q : inN k 9
  · simp only [if_pos q, Option.bind_some, i10, if_false, C_daysWithAtLeast h.1 hW.1]; exact okC h
  · simp only [if_neg q, Option.bind_some, if_true]; exact C_bad h
theorem X8_with (h : RM a M) (hW : WA a) (k : Int32) : OKM (f_X8_with 69 k M) M (oWith a k) := by
  unfold f_X8_with oWith
  rw [show f_X8_in k.toInt64 0 8 = _ from in_n k 8 8 rfl (by decide)]
  by_cases q : inN k 9
  · simp only [if_pos q, Option.bind_some, i10, if_false, M_daysWith h.1 hW.1]; exact okM h
  · simp only [if_neg q, Option.bind_some, if_true]; exact M_bad h
theorem X7_reach (h : RC a M) (hW : WA a) (p : Int32) : OKC (f_X7_reach p M) M (oReach a p) := by
  have h2 := hW.1.n9
  unfold f_X7_reach oReach
  rw [C_hasPerson h.1 hW.1]
  by_cases q : inN p (pN a.1)
  · obtain ⟨k, hk, rfl⟩ := inN_k (by omega) q
    simp (disch := omega) only [if_pos q, Option.bind_some, i10, if_false, C_howManyShare h.1 hW.1, tn_nI]; exact okC h
  · simp only [if_neg q, Option.bind_some, if_true]; exact C_bad h
theorem X8_reach (h : RM a M) (hW : WA a) (p : Int32) : OKM (f_X8_reach 69 p M) M (oReach a p) := by
  have h2 := hW.1.n9
  unfold f_X8_reach oReach
  rw [M_isOne h.1 hW.1]
  by_cases q : inN p (pN a.1)
  · obtain ⟨k, hk, rfl⟩ := inN_k (by omega) q
    simp (disch := omega) only [if_pos q, Option.bind_some, i10, if_false, M_reachOf h.1 hW.1, tn_nI]; exact okM h
  · simp only [if_neg q, Option.bind_some, if_true]; exact M_bad h
theorem X7_weeks (h : RC a M) (hW : WA a) (r : Int32) : OKC (f_X7_weeks r M) M (oWeeks a r) := by
  unfold f_X7_weeks oWeeks
  rw [wi_n r 6 6 rfl (by decide)]
  by_cases q : inN r 7
  · obtain ⟨k, hk, rfl⟩ := inN_k (by decide) q
    simp (disch := omega) only [if_pos q, Option.bind_some, i10, if_false, C_week h.1 hW.1 hk, tn_nI]; exact okC h
  · simp only [if_neg q, Option.bind_some, if_true]; exact C_bad h
theorem X8_weeks (h : RM a M) (hW : WA a) (r : Int32) : OKM (f_X8_weeks 69 r M) M (oWeeks a r) := by
  unfold f_X8_weeks oWeeks
  rw [show f_X8_in r.toInt64 0 6 = _ from in_n r 6 6 rfl (by decide)]
  by_cases q : inN r 7
  · obtain ⟨k, hk, rfl⟩ := inN_k (by decide) q
    simp (disch := omega) only [if_pos q, Option.bind_some, i10, if_false, M_week_weeks h.1 hW.1 hk, tn_nI]; exact okM h
  · simp only [if_neg q, Option.bind_some, if_true]; exact M_bad h
theorem n0 {v : CV} (hW : WF v) : (v.1 1 = 0) = (pN v = 0) := by
  have h2 := hW.n9
  rw [hW.n, show (0 : Int32) = nI 0 from rfl, nI_eq (by omega) (by decide)]
theorem X7_worst (h : RC a M) (hW : WA a) : OKC (f_X7_worst M) M (oWorst a) := by
  unfold f_X7_worst oWorst
  rw [h.1.1 1 (by decide)]
  simp only [n0 hW.1]
  by_cases q : pN a.1 = 0
  · rw [if_pos q, if_pos q]; exact C_stk h
  · rw [if_neg q, if_neg q, C_worstL h.1 hW.1 (by omega)]; exact okC h
theorem X8_worst (h : RM a M) (hW : WA a) : OKM (f_X8_worst 69 M) M (oWorst a) := by
  unfold f_X8_worst oWorst
  rw [h.1.n]
  simp only [n0 hW.1]
  by_cases q : pN a.1 = 0
  · rw [if_pos q, if_pos q]; exact M_stk h
  · rw [if_neg q, if_neg q, M_worstOf h.1 hW.1 (by omega)]; exact okM h
theorem X7_drop (h : RC a M) (hW : WA a) (w : Int32) : OKC (f_X7_drop w M) M (oDrop a w) := by
  unfold f_X7_drop oDrop
  rw [wi_n w 1 1 rfl (by decide), h.1.1 1 (by decide)]
  simp only [n0 hW.1]
  by_cases q : inN w 2
  · simp only [if_pos q, Option.bind_some, i10, if_false]
    by_cases q2 : pN a.1 = 0
    · rw [if_pos q2, if_pos q2]; exact C_stk h
    · rw [if_neg q2, if_neg q2, C_dropL h.1 hW.1 w (by omega)]
      by_cases q3 : w = 0
      · simp only [ob2, Option.bind_some, if_pos q3]; exact okC h
      · simp only [ob2, Option.bind_some, if_neg q3]; exact okC h
  · simp only [if_neg q, Option.bind_some, if_true]; exact C_bad h
theorem X8_drop (h : RM a M) (hW : WA a) (w : Int32) : OKM (f_X8_drop 69 w M) M (oDrop a w) := by
  unfold f_X8_drop oDrop
  rw [show f_X8_in w.toInt64 0 1 = _ from in_n w 1 1 rfl (by decide), h.1.n]
  simp only [n0 hW.1]
  by_cases q : inN w 2
  · simp only [if_pos q, Option.bind_some, i10, if_false]
    by_cases q2 : pN a.1 = 0
    · rw [if_pos q2, if_pos q2]; exact M_stk h
    · rw [if_neg q2, if_neg q2, M_dropL h.1 hW.1 w (by omega)]
      by_cases q3 : w = 0
      · simp only [Option.bind_some, if_pos q3]; exact okM h
      · simp only [Option.bind_some, if_neg q3, M_allBut h.1 hW.1, bits_ok (sAllBut_sm hW.1 _)]; exact okM h
  · simp only [if_neg q, Option.bind_some, if_true]; exact M_bad h
theorem X7_withHost (h : RC a M) (hW : WA a) (p : Int32) : OKC (f_X7_withHost p M) M (oWithHost a p) := by
  have h2 := hW.1.n9
  have h4 := hW.1.d15
  have hh := hW.1.2.2.1
  unfold f_X7_withHost oWithHost
  rw [C_hasPerson h.1 hW.1, C_hasPerson h.1 hW.1, h.1.1 2 (by decide)]
  by_cases q : inN p (pN a.1)
  · obtain ⟨k, hk, rfl⟩ := inN_k (by omega) q
    have e := hh.1.1
    have hk2 : tn (a.1.1 2) < pN a.1 := hh.2 (by omega)
    have q2 : inN (a.1.1 2) (pN a.1) := (inN_iff (by omega)).mpr ⟨_, hk2, e⟩
    simp only [if_pos q, if_pos q2, Option.bind_some, i10, if_false]
    have hs : sm (a.1.2 k 3 &&& a.1.2 (tn (a.1.1 2)) 3) (2 ^ dN a.1) := by
      have h5 : 2 ^ dN a.1 ≤ 2 ^ 14 := Nat.pow_le_pow_right (by decide) (by omega)
      exact sm_and (by omega) ((hW.1.2.2.2.2.2 k (by omega)).2.2.2.2.2 hk) (hW.1.f (by omega))
    rw [e]
    simp (disch := omega) only [chk_ok, tn_nI, VC3 h.1]
    rw [show (0 : Int32) = nI 0 from rfl, C_firstBit _ (Nat.zero_le _), fst14 (by omega) (Nat.zero_le _) hs]
    exact okC h
  · simp only [if_neg q, Option.bind_some, if_true]; exact C_bad h
theorem X8_withHost (h : RM a M) (hW : WA a) (p : Int32) : OKM (f_X8_withHost 69 p M) M (oWithHost a p) := by
  have h2 := hW.1.n9
  have hh := hW.1.2.2.1
  unfold f_X8_withHost oWithHost
  rw [M_isOne h.1 hW.1]
  by_cases q : inN p (pN a.1)
  · obtain ⟨k, hk, rfl⟩ := inN_k (by omega) q
    have e := hh.1.1
    have hk2 : tn (a.1.1 2) < pN a.1 := hh.2 (by omega)
    simp only [if_pos q, Option.bind_some, i10, if_false]
    rw [h.1.ho, e]
    simp (disch := omega) only [chk_ok, tn_nI, h.1.p3, bi, M_withHostL hW.1 h.1, obS_elim]
    cases fstO (fun j => decide (hb (a.1.2 k 3 &&& a.1.2 (tn (a.1.1 2)) 3) (nI j))) (dN a.1) 0
    · exact okM h
    · exact okM h
  · simp only [if_neg q, Option.bind_some, if_true]; exact M_bad h
theorem X7_later (h : RC a M) (hW : WA a) (d : Int32) : OKC (f_X7_later d M) M (oLater a d) := by
  have h4 := hW.1.d15
  unfold f_X7_later oLater
  rw [C_hasDay h.1 hW.1, h.1.1 3 (by decide)]
  by_cases q : inN d (dN a.1)
  · obtain ⟨k, hk, rfl⟩ := inN_k (by omega) q
    simp only [if_pos q, Option.bind_some, i10, if_false, C_daysWithAtLeast h.1 hW.1]
    rw [C_firstBit _ (by omega), fst14 (d := dN a.1) (by omega) (by omega) (by rw [sWith_mk]; exact mkS_sm _ (by omega)), fstO_congr (P2 := fun j => decide (a.1.1 3 ≤ sHow a.1 (nI j))) _ _ (fun j h5 h6 => by
      rw [decide_eq_decide, hb_with hW.1 (by omega)]
      exact ⟨fun z => z.2, fun z => ⟨by omega, z⟩⟩), tnn (by omega)]
    exact okC h
  · simp only [if_neg q, Option.bind_some, if_true]; exact C_bad h
theorem X8_later (h : RM a M) (hW : WA a) (d : Int32) : OKM (f_X8_later 69 d M) M (oLater a d) := by
  have h4 := hW.1.d15
  unfold f_X8_later oLater
  rw [M_isDay h.1 hW.1]
  by_cases q : inN d (dN a.1)
  · obtain ⟨k, hk, rfl⟩ := inN_k (by omega) q
    simp only [if_pos q, Option.bind_some, i10, if_false]
    rw [M_laterL hW.1 h.1 (by omega), obS_elim, tnn (by omega)]
    cases fstO (fun j => decide (a.1.1 3 ≤ sHow a.1 (nI j))) (dN a.1 - k) k
    · exact okM h
    · exact okM h
  · simp only [if_neg q, Option.bind_some, if_true]; exact M_bad h
theorem X7_known (h : RC a M) (hW : WA a) (d t : Int32) : OKC (f_X7_known d t M) M (oKnown a d t) := by
  unfold f_X7_known oKnown
  rw [C_hasDay h.1 hW.1, wi_100]
  by_cases q : inN d (dN a.1)
  · by_cases q2 : inN t 100
    · obtain ⟨k, hk, rfl⟩ := inN_k (by decide) q2
      simp (disch := omega) only [if_pos q, if_pos q2, Option.bind_some, i10, if_false, C_oddsToday h.1 hW.1, C_knownL h.1 hW.1 hk, tn_nI]
      exact okC h
    · simp only [if_pos q, if_neg q2, Option.bind_some, i10, if_false, if_true]; exact C_bad h
  · simp only [if_neg q, Option.bind_some, if_true]; exact C_bad h
theorem X8_known (h : RM a M) (hW : WA a) (d t : Int32) : OKM (f_X8_known 69 d t M) M (oKnown a d t) := by
  have h4 := hW.1.d15
  unfold oKnown
  by_cases q : inN d (dN a.1)
  · by_cases q2 : inN t 100
    · obtain ⟨k, hk, rfl⟩ := inN_k (by decide) q2
      obtain ⟨j, hj, rfl⟩ := inN_k (by omega) q
      rw [M_known h.1 hW.1 hj hk, if_pos q, if_pos q2, tnn (by omega)]
      exact okM h
    · unfold f_X8_known
      rw [M_isDay h.1 hW.1, in0_100]
      simp only [if_pos q, if_neg q2, Option.bind_some, i10, if_false, if_true]; exact M_bad h
  · unfold f_X8_known
    rw [M_isDay h.1 hW.1]
    simp only [if_neg q, Option.bind_some, if_true]; exact M_bad h
theorem X7_until (h : RC a M) (hW : WA a) (d x : Int32) : OKC (f_X7_until d x M) M (oUntil a d x) := by
  have h4 := hW.1.d15
  unfold f_X7_until oUntil
  rw [C_hasDay h.1 hW.1, within_ok]
  by_cases q : inN d (dN a.1)
  · obtain ⟨k, hk, rfl⟩ := inN_k (by omega) q
    by_cases q2 : 0 ≤ x ∧ x ≤ 1000000
    · simp (disch := omega) only [if_pos q, if_pos q2, Option.bind_some, i10, if_false, C_oddsToday h.1 hW.1, C_untilL h.1 hW.1, tn_nI, obS_elim]
      cases fstO (pUntil a.1 k x) 100 0
      · exact okC h
      · exact okC h
    · simp only [if_pos q, if_neg q2, Option.bind_some, i10, if_false, if_true]; exact C_bad h
  · simp only [if_neg q, Option.bind_some, if_true]; exact C_bad h
theorem X8_until (h : RM a M) (hW : WA a) (d x : Int32) : OKM (f_X8_until 69 d x M) M (oUntil a d x) := by
  have h4 := hW.1.d15
  unfold f_X8_until oUntil
  rw [M_isDay h.1 hW.1, in0_M]
  by_cases q : inN d (dN a.1)
  · obtain ⟨k, hk, rfl⟩ := inN_k (by omega) q
    by_cases q2 : 0 ≤ x ∧ x ≤ 1000000
    · simp (disch := omega) only [if_pos q, if_pos q2, Option.bind_some, i10, if_false, M_untilL h.1 hW.1 hk, tn_nI, obS_elim]
      cases fstO (pUntil a.1 k x) 100 0
      · exact okM h
      · exact okM h
    · simp only [if_pos q, if_neg q2, Option.bind_some, i10, if_false, if_true]; exact M_bad h
  · simp only [if_neg q, Option.bind_some, if_true]; exact M_bad h
theorem X7_odds (h : RC a M) (p d k : Int32) : OKC (f_X7_odds p d k M) M (oOdds a p d k) := by
  unfold f_X7_odds oOdds
  rw [within_ok, within_ok, wi_13]
  by_cases q : 1 ≤ p ∧ p ≤ 99
  · by_cases q2 : 1 ≤ d ∧ d ≤ 99
    · by_cases q3 : inN k 13
      · simp only [if_pos q, if_pos q2, if_pos q3, Option.bind_some, i10, if_false]
        obtain ⟨p, hp, hp2, rfl⟩ := hundred q
        obtain ⟨d, hd, hd2, rfl⟩ := hundred q2
        obtain ⟨k, hk, rfl⟩ := inN_k (by decide) q3
        rw [oneDay_ok (by omega) (by omega), Option.bind_some, oddsOfDays_ok (oneN_le (by omega) _) (by omega), tnn (by omega), tnn (by omega), tnn (by omega)]
        exact okC h
      · simp only [if_pos q, if_pos q2, if_neg q3, Option.bind_some, i10, if_false, if_true]; exact C_bad h
    · simp only [if_pos q, if_neg q2, Option.bind_some, i10, if_false, if_true]; exact C_bad h
  · simp only [if_neg q, Option.bind_some, if_true]; exact C_bad h
theorem X8_odds (h : RM a M) (p d k : Int32) : OKM (f_X8_odds 69 p d k M) M (oOdds a p d k) := by
  unfold f_X8_odds oOdds
  rw [isHundred_ok, isHundred_ok, in0_13]
  by_cases q : 1 ≤ p ∧ p ≤ 99
  · by_cases q2 : 1 ≤ d ∧ d ≤ 99
    · by_cases q3 : inN k 13
      · simp only [if_pos q, if_pos q2, if_pos q3, Option.bind_some, i10, if_false]
        obtain ⟨p, hp, hp2, rfl⟩ := hundred q
        obtain ⟨d, hd, hd2, rfl⟩ := hundred q2
        obtain ⟨k, hk, rfl⟩ := inN_k (by decide) q3
        rw [oddsOf_ok (by omega) (by omega) (by omega), tnn (by omega), tnn (by omega), tnn (by omega)]
        exact okM h
      · simp only [if_pos q, if_pos q2, if_neg q3, Option.bind_some, i10, if_false, if_true]; exact M_bad h
    · simp only [if_pos q, if_neg q2, Option.bind_some, i10, if_false, if_true]; exact M_bad h
  · simp only [if_neg q, Option.bind_some, if_true]; exact M_bad h
theorem X7_offer (h : RC a M) (p k x : Int32) : OKC (f_X7_offer p k x M) M (oOffer a p k x) := by
  unfold f_X7_offer oOffer
  rw [within_ok, wi_13, within_ok]
  by_cases q : 1 ≤ p ∧ p ≤ 99
  · by_cases q2 : inN k 13
    · by_cases q3 : 0 ≤ x ∧ x ≤ 1000000
      · simp only [if_pos q, if_pos q2, if_pos q3, Option.bind_some, i10, if_false]
        obtain ⟨p, hp, hp2, rfl⟩ := hundred q
        obtain ⟨k, hk, rfl⟩ := inN_k (by decide) q2
        rw [oneDay_ok (by omega) (by omega), Option.bind_some, C_offerL (by omega), obS_elim, tnn (by omega), tnn (by omega)]
        cases fstO (pOffer p k x) 99 1
        · exact okC h
        · exact okC h
      · simp only [if_pos q, if_pos q2, if_neg q3, Option.bind_some, i10, if_false, if_true]; exact C_bad h
    · simp only [if_pos q, if_neg q2, Option.bind_some, i10, if_false, if_true]; exact C_bad h
  · simp only [if_neg q, Option.bind_some, if_true]; exact C_bad h
theorem X8_offer (h : RM a M) (p k x : Int32) : OKM (f_X8_offer 69 p k x M) M (oOffer a p k x) := by
  unfold f_X8_offer oOffer
  rw [isHundred_ok, in0_13, in0_M]
  by_cases q : 1 ≤ p ∧ p ≤ 99
  · by_cases q2 : inN k 13
    · by_cases q3 : 0 ≤ x ∧ x ≤ 1000000
      · simp only [if_pos q, if_pos q2, if_pos q3, Option.bind_some, i10, if_false]
        obtain ⟨p, hp, hp2, rfl⟩ := hundred q
        obtain ⟨k, hk, rfl⟩ := inN_k (by decide) q2
        rw [M_offerL (by omega) (by omega), obS_elim, tnn (by omega), tnn (by omega)]
        cases fstO (pOffer p k x) 99 1
        · exact okM h
        · exact okM h
      · simp only [if_pos q, if_pos q2, if_neg q3, Option.bind_some, i10, if_false, if_true]; exact M_bad h
    · simp only [if_pos q, if_neg q2, Option.bind_some, i10, if_false, if_true]; exact M_bad h
  · simp only [if_neg q, Option.bind_some, if_true]; exact M_bad h
theorem X7_never (h : RC a M) (d k x : Int32) : OKC (f_X7_never d k x M) M (oNever a d k x) := by
  unfold f_X7_never oNever
  rw [within_ok, wi_13, within_ok]
  by_cases q : 1 ≤ d ∧ d ≤ 99
  · by_cases q2 : inN k 13
    · by_cases q3 : 0 ≤ x ∧ x ≤ 1000000
      · simp only [if_pos q, if_pos q2, if_pos q3, Option.bind_some, i10, if_false]
        obtain ⟨d, hd, hd2, rfl⟩ := hundred q
        obtain ⟨k, hk, rfl⟩ := inN_k (by decide) q2
        rw [C_neverL (by omega) (by omega), obS_elim, tnn (by omega), tnn (by omega)]
        cases fstO (pNever d k x) 99 1
        · exact okC h
        · exact okC h
      · simp only [if_pos q, if_pos q2, if_neg q3, Option.bind_some, i10, if_false, if_true]; exact C_bad h
    · simp only [if_pos q, if_neg q2, Option.bind_some, i10, if_false, if_true]; exact C_bad h
  · simp only [if_neg q, Option.bind_some, if_true]; exact C_bad h
theorem X8_never (h : RM a M) (d k x : Int32) : OKM (f_X8_never 69 d k x M) M (oNever a d k x) := by
  unfold f_X8_never oNever
  rw [isHundred_ok, in0_13, in0_M]
  by_cases q : 1 ≤ d ∧ d ≤ 99
  · by_cases q2 : inN k 13
    · by_cases q3 : 0 ≤ x ∧ x ≤ 1000000
      · simp only [if_pos q, if_pos q2, if_pos q3, Option.bind_some, i10, if_false]
        obtain ⟨d, hd, hd2, rfl⟩ := hundred q
        obtain ⟨k, hk, rfl⟩ := inN_k (by decide) q2
        rw [M_neverL (by omega) (by omega), obS_elim, tnn (by omega), tnn (by omega)]
        cases fstO (pNever d k x) 99 1
        · exact okM h
        · exact okM h
      · simp only [if_pos q, if_pos q2, if_neg q3, Option.bind_some, i10, if_false, if_true]; exact M_bad h
    · simp only [if_pos q, if_neg q2, Option.bind_some, i10, if_false, if_true]; exact M_bad h
  · simp only [if_neg q, Option.bind_some, if_true]; exact M_bad h
end O1
