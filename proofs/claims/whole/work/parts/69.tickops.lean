/-! what is asked of the ticks -/
def bst (Q : Nat → Bool) (f : Nat → Int32) (i : Nat) (s : Option Nat) : Option Nat := if Q i = true then s.elim (some i) (fun j => if f j < f i then some i else some j) else s
def bAm (Q : Nat → Bool) (f : Nat → Int32) (k : Nat) : Option Nat := iter (bst Q f) k none
theorem bAm_s (Q : Nat → Bool) (f : Nat → Int32) (k : Nat) : bAm Q f (k + 1) = bst Q f k (bAm Q f k) := rfl
theorem bAm_lt (Q : Nat → Bool) (f : Nat → Int32) : ∀ k j, bAm Q f k = some j → j < k := by
  intro k
  induction k with
  | zero => intro j h; cases h
  | succ k ih =>
    intro j h
    rw [bAm_s] at h
    unfold bst at h
    by_cases q : Q k = true
    · rw [if_pos q] at h
      cases e : bAm Q f k with
      | none => rw [e] at h; cases h; omega
      | some z =>
        rw [e] at h
        have := ih z e
        have h : (if f z < f k then some k else some z) = some j := h
        by_cases q2 : f z < f k
        · rw [if_pos q2] at h; cases h; omega
        · rw [if_neg q2] at h; cases h; omega
    · rw [if_neg q] at h
      have := ih j h
      omega
theorem bAm_all (f : Nat → Int32) : ∀ k, 1 ≤ k → bAm (fun _ => true) f k = some (amax f k) := by
  intro k
  induction k with
  | zero => intro h; omega
  | succ k ih =>
    intro _
    rw [bAm_s]
    by_cases q : k = 0
    · subst q; rfl
    · rw [ih (by omega), amax_s (by omega)]
      show (if f (amax f k) < f k then some k else some (amax f k)) = _
      split <;> rfl
theorem plc_some (j : Nat) : plc (some j) = nI j := rfl
theorem nI_nm1 {j : Nat} (h : j < 2 ^ 31) : ¬ nI j = -1 := fun w => by
  have w2 := nI_pos' (n := j) h
  rw [w] at w2
  exact absurd w2 (by decide)
theorem pw14 {d : Nat} (h : d < 15) : 2 ^ d ≤ 16384 := Nat.le_trans (Nat.pow_le_pow_right (by decide) (show d ≤ 14 by omega)) (by decide)
def sYes (v : CV) (p : Nat) : Int32 := mkS (fun d => decide (tkN v p d = 2)) (dN v)
def sQuiet (v : CV) : Int32 := sDays v &&& (iter (fun p (s : Int32) => s ||| sYes v p) (pN v) 0 ^^^ (-1))
def sVotes (v : CV) (d : Nat) (t : Int32) : Int32 := iter (fun p (s : Int32) => if tkN v p d = t then s + 1 else s) (pN v) 0
def sBest (v : CV) : Nat := amax (cntN v (pN v)) (dN v)
def sHeld (v : CV) (p : Nat) (w : Int32) : Int32 := nI (cnt (fun d => decide (tkN v p d = 2 ∧ (w = 1 → d ≠ sBest v))) (dN v))
def sWout (v : CV) (p : Nat) : Nat := amax (fun d => cntN v (pN v) d - tkN v p d) (dN v)
def oTick (a : AB) (p d : Int32) : AB × Int32 := if inN p (pN a.1) then (if inN d (dN a.1) then (a, tkN a.1 (tn p) (tn d)) else bad a) else bad a
def oCount (a : AB) (d : Int32) : AB × Int32 := if inN d (dN a.1) then (a, cntN a.1 (pN a.1) (tn d)) else bad a
def oBest (a : AB) (w : Int32) : AB × Int32 := if inN w 2 then (if pN a.1 = 0 then stk a else if w = 0 then (a, nI (sBest a.1)) else (a, plc (bAm (fun d => decide (tkN a.1 (tn (a.1.1 2)) d = 2)) (cntN a.1 (pN a.1)) (dN a.1)))) else bad a
def oHeld (a : AB) (p w : Int32) : AB × Int32 := if inN p (pN a.1) then (if inN w 2 then (a, sHeld a.1 (tn p) w) else bad a) else bad a
def oQuiet (a : AB) : AB × Int32 := (a, sQuiet a.1)
def oAgree (a : AB) (p q : Int32) : AB × Int32 := if inN p (pN a.1) then (if inN q (pN a.1) then (if p = q then bad a else (a, sYes a.1 (tn p) &&& sYes a.1 (tn q))) else bad a) else bad a
def oVotes (a : AB) (d t : Int32) : AB × Int32 := if inN d (dN a.1) then (if inN t 3 then (a, sVotes a.1 (tn d) t) else bad a) else bad a
def oWithout (a : AB) (p : Int32) : AB × Int32 := if inN p (pN a.1) then (a, nI (sWout a.1 (tn p))) else bad a
theorem nor_and (x y z : Int32) : x &&& ((y ||| z) ^^^ (-1)) = (x &&& (y ^^^ (-1))) &&& (z ^^^ (-1)) := by
  apply Int32.toBitVec_inj.mp
  simp only [Int32.toBitVec_and, Int32.toBitVec_xor, Int32.toBitVec_or]
  have e : (-1 : Int32).toBitVec = BitVec.allOnes 32 := by decide
  rw [e]
  apply BitVec.eq_of_getLsbD_eq
  intro i hi
  simp only [BitVec.getLsbD_and, BitVec.getLsbD_xor, BitVec.getLsbD_or, BitVec.getLsbD_allOnes, hi, decide_true]
  cases x.toBitVec.getLsbD i <;> cases y.toBitVec.getLsbD i <;> cases z.toBitVec.getLsbD i <;> rfl
theorem x00 (x : Int32) : x &&& (0 ^^^ (-1)) = x := by
  rw [show ((0 : Int32) ^^^ (-1)) = -1 by decide]
  apply Int32.toBitVec_inj.mp
  simp only [Int32.toBitVec_and]
  have e : (-1 : Int32).toBitVec = BitVec.allOnes 32 := by decide
  rw [e, BitVec.and_allOnes]
theorem quiet_eq (s0 : Int32) (f : Nat → Int32) : ∀ k, iter (fun p (s : Int32) => s &&& (f p ^^^ (-1))) k s0 = s0 &&& (iter (fun p (s : Int32) => s ||| f p) k 0 ^^^ (-1)) := by
  intro k
  induction k with
  | zero => exact (x00 s0).symm
  | succ k ih =>
    show iter (fun p (s : Int32) => s &&& (f p ^^^ (-1))) k s0 &&& (f k ^^^ (-1)) = s0 &&& ((iter (fun p (s : Int32) => s ||| f p) k 0 ||| f k) ^^^ (-1))
    rw [ih, nor_and]
section TO1
variable {v : CV} {M : Mm}
theorem VC.ticks (h : VC 1 v M) {M2 : Mm} (hF : Fr 21 33 M M2) : VC 1 v M2 := h.fr hF (by omega)
theorem C_yes {K p : Nat} (hW : WF v) (hT : TKC v K M) (hp : p < K) (hK : K ≤ 8) : f_X6_daysWithYes 21 (nI p) M = some (sYes v p) := by
  have d15 := hW.d15
  have k8 : ∀ {α : Type} (X : Option α), chk (nI p) 8 X = X := fun X => chk_ok (by omega) (by decide)
  have tp : (nI p).toNatClampNeg = p := tn_nI (by omega)
  have r := loop_run0 (fun n i (s : Int32) => f_X6_daysWithYes_L4 21 (nI p) M n s (nI i)) (dN v) (fun d b => if decide (tkN v p d = 2) = true then b ||| (1 <<< (nI d &&& 31)) else b) id 0 (by
    intro n i s hi
    have e := hT.2.1 p hp i hi
    have ki : ∀ {α : Type} (X : Option α), chk (nI i) 14 X = X := fun X => chk_ok (by omega) (by decide)
    have ti : (nI i).toNatClampNeg = i := tn_nI (by omega)
    show f_X6_daysWithYes_L4 21 (nI p) M (n + 1) s (nI i) = f_X6_daysWithYes_L4 21 (nI p) M n (if decide (tkN v p i = 2) = true then s ||| (1 <<< (nI i &&& 31)) else s) (nI (i + 1))
    rw [f_X6_daysWithYes_L4, hT.1, if_neg (nI_ge hi (by omega))]
    simp only [k8, ki, tp, ti, Nat.reduceAdd, e, bi, nI_1, decide_eq_true_eq]
    by_cases q : tkN v p i = 2
    · simp only [if_pos q]
    · simp only [if_neg q]) (by
    intro n s
    show f_X6_daysWithYes_L4 21 (nI p) M (n + 1) s (nI (dN v)) = some s
    rw [f_X6_daysWithYes_L4, hT.1, if_pos (Int32.le_refl _)]) 1000 (by omega)
  unfold f_X6_daysWithYes
  rw [show f_X6_daysWithYes_L4 21 (nI p) M 1000 0 0 = _ from r]; rfl
theorem M_yes {K p : Nat} (hV : VM 69 v M) (hW : WF v) (hT : TKM v K M) (hp : p < K) (hK : K ≤ 8) : f_X8_yesDays 69 (nI p) M = some (sYes v p) := by
  have d15 := hW.d15
  have e0 : M.1 69 9 = nI (dN v) := hV.d.trans hW.d
  have k8 : ∀ {α : Type} (X : Option α), chk (nI p) 8 X = X := fun X => chk_ok (by omega) (by decide)
  have tp : (nI p).toNatClampNeg = p := tn_nI (by omega)
  have r := loop_run0 (fun n i (s : Int32) => f_X8_yesDays_L4 69 (nI p) M n s (nI i)) (dN v) (fun d b => if decide (tkN v p d = 2) = true then b ||| (1 <<< (nI d &&& 31)) else b) id 0 (by
    intro n i s hi
    have e := hT.1 p hp i hi
    have ki : ∀ {α : Type} (X : Option α), chk (nI i) 14 X = X := fun X => chk_ok (by omega) (by decide)
    have ti : (nI i).toNatClampNeg = i := tn_nI (by omega)
    show f_X8_yesDays_L4 69 (nI p) M (n + 1) s (nI i) = f_X8_yesDays_L4 69 (nI p) M n (if decide (tkN v p i = 2) = true then s ||| (1 <<< (nI i &&& 31)) else s) (nI (i + 1))
    rw [f_X8_yesDays_L4, e0, if_neg (nI_ge hi (by omega))]
    simp only [k8, ki, tp, ti, Nat.reduceAdd, e, bi, nI_1, decide_eq_true_eq, Int32.or_zero]
    by_cases q : tkN v p i = 2
    · simp only [if_pos q]
    · simp only [if_neg q]) (by
    intro n s
    show f_X8_yesDays_L4 69 (nI p) M (n + 1) s (nI (dN v)) = some s
    rw [f_X8_yesDays_L4, e0, if_pos (Int32.le_refl _)]) 1000 (by omega)
  unfold f_X8_yesDays
  rw [show f_X8_yesDays_L4 69 (nI p) M 1000 0 0 = _ from r]; rfl
theorem C_bestAll {K : Nat} (hW : WF v) (hT : TKC v K M) : f_X6_bestOfAll 21 M = some (nI (amax (cntN v K) (dN v))) := by
  unfold f_X6_bestOfAll
  rw [show f_X6_dayOfMost 21 (21 + 10) M = _ from C_favour (A := 31) hT.1 hW.d1 hW.d15 hT.2.2.2]; rfl
theorem M_countOf {d : Nat} (hV : VM 69 v M) (hW : WF v) (hT : TKM v (pN v) M) (hd : d < dN v) : f_X8_countOf 69 (nI d) M = some (cntN v (pN v) d) := by
  have n9 := hW.n9
  have d15 := hW.d15
  have e0 : M.1 69 10 = nI (pN v) := hV.n.trans hW.n
  have kd : ∀ {α : Type} (X : Option α), chk (nI d) 14 X = X := fun X => chk_ok (by omega) (by decide)
  have td : (nI d).toNatClampNeg = d := tn_nI (by omega)
  have r := loop_run0 (fun n i (s : Int32) => f_X8_countOf_L4 69 (nI d) M n s (nI i)) (pN v) (fun q (s : Int32) => s + tkN v q d) id 0 (by
    intro n i s hi
    have e := hT.1 i hi d hd
    have ki : ∀ {α : Type} (X : Option α), chk (nI i) 8 X = X := fun X => chk_ok (by omega) (by decide)
    have ti : (nI i).toNatClampNeg = i := tn_nI (by omega)
    show f_X8_countOf_L4 69 (nI d) M (n + 1) s (nI i) = f_X8_countOf_L4 69 (nI d) M n (s + tkN v i d) (nI (i + 1))
    rw [f_X8_countOf_L4, e0, if_neg (nI_ge hi (by omega))]
    simp only [kd, ki, td, ti, Nat.reduceAdd, e, bi, nI_1]) (by
    intro n s
    show f_X8_countOf_L4 69 (nI d) M (n + 1) s (nI (pN v)) = some s
    rw [f_X8_countOf_L4, e0, if_pos (Int32.le_refl _)]) 1000 (by omega)
  unfold f_X8_countOf
  rw [show f_X8_countOf_L4 69 (nI d) M 1000 0 0 = _ from r]; rfl
theorem C_among {K : Nat} {x : Int32} {Q : Nat → Bool} (hW : WF v) (hT : TKC v K M) (hx : ∀ d, d < dN v → (hb x (nI d) ↔ Q d = true)) : f_X6_bestAmong 21 x M = some (plc (bAm Q (cntN v K) (dN v))) := by
  have d15 := hW.d15
  obtain ⟨r, e1, e2⟩ := loop_ex (fun n i (s : Int32) => f_X6_bestAmong_L4 21 x M n s (nI i)) (dN v) (fun i s => s = plc (bAm Q (cntN v K) i)) (fun r => r = plc (bAm Q (cntN v K) (dN v))) (by
    intro n i s hi h
    refine Or.inr ⟨_, ?_, rfl⟩
    have h : s = plc (bAm Q (cntN v K) i) := h
    subst h
    have ki : ∀ {α : Type} (X : Option α), chk (nI i) 14 X = X := fun X => chk_ok (by omega) (by decide)
    have ti : (nI i).toNatClampNeg = i := tn_nI (by omega)
    have ci : M.1 31 i = cntN v K i := hT.2.2.2 i hi
    show f_X6_bestAmong_L4 21 x M (n + 1) (plc (bAm Q (cntN v K) i)) (nI i) = f_X6_bestAmong_L4 21 x M n (plc (bst Q (cntN v K) i (bAm Q (cntN v K) i))) (nI (i + 1))
    have hl := bAm_lt Q (cntN v K) i
    generalize bAm Q (cntN v K) i = o at hl
    rw [f_X6_bestAmong_L4, hT.1, if_neg (nI_ge hi (by omega)), hasBit_ok, Option.bind_some]
    unfold bst
    by_cases q : Q i = true
    · rw [if_pos ((hx i hi).mpr q), if_pos q, if_neg (by decide)]
      cases o with
      | none => rw [if_pos (show plc none = -1 from rfl)]; simp only [bi, nI_1]; rfl
      | some j =>
        have hj := hl j rfl
        have cj : M.1 31 j = cntN v K j := hT.2.2.2 j (by omega)
        have kj : ∀ {α : Type} (X : Option α), chk (nI j) 14 X = X := fun X => chk_ok (by omega) (by decide)
        have tj : (nI j).toNatClampNeg = j := tn_nI (by omega)
        rw [plc_some, if_neg (nI_nm1 (by omega))]
        simp only [ki, kj, ti, tj, Nat.reduceAdd, ci, cj, bi, nI_1, Option.elim_some]
        by_cases q2 : cntN v K j < cntN v K i
        · rw [if_neg (i32_nle.mpr q2), if_pos q2]; rfl
        · rw [if_pos (i32_nlt.mp q2), if_neg q2]; rfl
    · rw [if_neg (fun z => q ((hx i hi).mp z)), if_neg q]; simp only [if_true, bi, nI_1]) (by
    intro n s h
    refine ⟨s, ?_, h⟩
    show f_X6_bestAmong_L4 21 x M (n + 1) s (nI (dN v)) = some s
    rw [f_X6_bestAmong_L4, hT.1, if_pos (Int32.le_refl _)]) 1000 0 (-1) (by omega) (by omega) rfl
  unfold f_X6_bestAmong
  rw [show f_X6_bestAmong_L4 21 x M 1000 (-1) 0 = some r from e1, e2]; rfl
theorem M_bestDay (hV : VM 69 v M) (hW : WF v) (x : Int32) (hn : 1 ≤ pN v ∨ x = 0) : ∃ M2, f_X8_bestDay 69 x M = some (M2, plc (bAm (fun d => decide (x = 0 ∨ tkN v (tn (v.1 2)) d = 2)) (cntN v (pN v)) (dN v))) ∧ TKM v (pN v) M2 ∧ ScM M M2 := by
  have d15 := hW.d15
  have n9 := hW.n9
  obtain ⟨Ma, a1, a2, a3⟩ := M_find hV hW
  have hv := hV.sc a3
  have e0 : Ma.1 69 9 = nI (dN v) := hv.d.trans hW.d
  have eh : Ma.1 91 0 = v.1 2 := hv.ho
  obtain ⟨r, e1, e2⟩ := loop_ex (fun n i (s : Int32) => f_X8_bestDay_L12 69 x Ma n s (nI i)) (dN v) (fun i s => s = plc (bAm (fun d => decide (x = 0 ∨ tkN v (tn (v.1 2)) d = 2)) (cntN v (pN v)) i)) (fun r => r = plc (bAm (fun d => decide (x = 0 ∨ tkN v (tn (v.1 2)) d = 2)) (cntN v (pN v)) (dN v))) (by
    intro n i s hi h
    refine Or.inr ⟨_, ?_, rfl⟩
    have h : s = plc (bAm (fun d => decide (x = 0 ∨ tkN v (tn (v.1 2)) d = 2)) (cntN v (pN v)) i) := h
    subst h
    show f_X8_bestDay_L12 69 x Ma (n + 1) (plc (bAm (fun d => decide (x = 0 ∨ tkN v (tn (v.1 2)) d = 2)) (cntN v (pN v)) i)) (nI i) = f_X8_bestDay_L12 69 x Ma n (plc (bst (fun d => decide (x = 0 ∨ tkN v (tn (v.1 2)) d = 2)) (cntN v (pN v)) i (bAm (fun d => decide (x = 0 ∨ tkN v (tn (v.1 2)) d = 2)) (cntN v (pN v)) i))) (nI (i + 1))
    have hl := bAm_lt (fun d => decide (x = 0 ∨ tkN v (tn (v.1 2)) d = 2)) (cntN v (pN v)) i
    generalize bAm (fun d => decide (x = 0 ∨ tkN v (tn (v.1 2)) d = 2)) (cntN v (pN v)) i = o at hl
    have ki : ∀ {α : Type} (X : Option α), chk (nI i) 14 X = X := fun X => chk_ok (by omega) (by decide)
    have ti : (nI i).toNatClampNeg = i := tn_nI (by omega)
    have ci := M_countOf hv hW a2 hi
    have core : (if plc o = -1 then (bi (nI i + 1) fun v21 => f_X8_bestDay_L12 69 x Ma n (nI i) v21) else ((f_X8_countOf 69 (nI i) Ma).bind fun q22 => (f_X8_countOf 69 (plc o) Ma).bind fun q24 => if q22 ≤ q24 then (bi (nI i + 1) fun v26 => f_X8_bestDay_L12 69 x Ma n (plc o) v26) else (bi (nI i + 1) fun v27 => f_X8_bestDay_L12 69 x Ma n (nI i) v27))) = f_X8_bestDay_L12 69 x Ma n (plc (o.elim (some i) (fun j => if cntN v (pN v) j < cntN v (pN v) i then some i else some j))) (nI (i + 1)) := by
      cases o with
      | none => rw [if_pos (show plc none = -1 from rfl)]; simp only [bi, nI_1]; rfl
      | some j =>
        have hj := hl j rfl
        have cj := M_countOf hv hW a2 (show j < dN v by omega)
        rw [plc_some, if_neg (nI_nm1 (by omega)), ci, cj]
        simp only [Option.bind_some, bi, nI_1, Option.elim_some]
        by_cases q2 : cntN v (pN v) j < cntN v (pN v) i
        · rw [if_neg (i32_nle.mpr q2), if_pos q2]; rfl
        · rw [if_pos (i32_nlt.mp q2), if_neg q2]; rfl
    rw [f_X8_bestDay_L12, e0, if_neg (nI_ge hi (by omega))]
    unfold bst
    by_cases q0 : x = 0
    · rw [if_pos q0, if_neg (show ¬ ((1 : Int32) = 0) by decide), if_pos (decide_eq_true (Or.inl q0))]
      exact core
    · have hp := hW.2.2.1.2 (by rcases hn with h | h; exact h; exact absurd h q0)
      have hs := hW.2.2.1.1
      have th := hs.1
      have k8 : ∀ {α : Type} (X : Option α), chk (nI (tn (v.1 2))) 8 X = X := fun X => chk_ok (by omega) (by decide)
      have tt : (nI (tn (v.1 2))).toNatClampNeg = tn (v.1 2) := tn_nI (by omega)
      have ty := a2.1 _ hp i hi
      rw [if_neg q0]
      simp only [Nat.reduceAdd, eh]
      rw [show chk (v.1 2) 8 = chk (nI (tn (v.1 2))) 8 from congrArg (fun z => chk z 8) th, k8, ki, ti]
      rw [show (v.1 2).toNatClampNeg = tn (v.1 2) from rfl, ty]
      by_cases q1 : tkN v (tn (v.1 2)) i = 2
      · rw [if_pos q1, if_neg (show ¬ ((1 : Int32) = 0) by decide), if_pos (decide_eq_true (Or.inr q1))]
        exact core
      · rw [if_neg q1, if_pos trivial, if_neg (fun z => (of_decide_eq_true z).elim q0 q1)]
        simp only [bi, nI_1]) (by
    intro n s h
    refine ⟨s, ?_, h⟩
    show f_X8_bestDay_L12 69 x Ma (n + 1) s (nI (dN v)) = some s
    rw [f_X8_bestDay_L12, e0, if_pos (Int32.le_refl _)]) 1000 0 (-1) (by omega) (by omega) rfl
  refine ⟨Ma, ?_, a2, a3⟩
  unfold f_X8_bestDay
  rw [a1, Option.bind_some, show f_X8_bestDay_L12 69 x Ma 1000 (-1) 0 = some r from e1, e2]; rfl
theorem M_best0 (hV : VM 69 v M) (hW : WF v) : ∃ M2, f_X8_bestDay 69 0 M = some (M2, nI (sBest v)) ∧ TKM v (pN v) M2 ∧ ScM M M2 := by
  obtain ⟨M2, e, h⟩ := M_bestDay hV hW 0 (Or.inr rfl)
  have e2 : (fun d => decide ((0 : Int32) = 0 ∨ tkN v (tn (v.1 2)) d = 2)) = fun _ => true := funext fun d => decide_eq_true (Or.inl rfl)
  rw [e2, bAm_all _ _ hW.d1] at e
  exact ⟨M2, e, h⟩
theorem C_leave {p : Nat} (hW : WF v) (hT : TKC v (pN v) M) (hp : p < pN v) : ∃ M2, f_X6_leaveOut 21 (nI p) M = some M2 ∧ M2.1 21 3 = nI (dN v) ∧ YC (dN v) 31 (fun d => cntN v (pN v) d - tkN v p d) M2 ∧ Fr 21 33 M M2 := by
  have d15 := hW.d15
  have n9 := hW.n9
  have k8 : ∀ {α : Type} (X : Option α), chk (nI p) 8 X = X := fun X => chk_ok (by omega) (by decide)
  have tp : (nI p).toNatClampNeg = p := tn_nI (by omega)
  obtain ⟨r, e1, e2⟩ := loop_ex (fun n i (M9 : Mm) => f_X6_leaveOut_L2 21 (nI p) n (nI i) M9) (dN v) (fun i M9 => (∀ d, d < dN v → M9.1 31 d = if d < i then cntN v (pN v) d - tkN v p d else cntN v (pN v) d) ∧ (∀ x, x ≠ 31 → M9.1 x = M.1 x) ∧ M9.2 = M.2) (fun r => YC (dN v) 31 (fun d => cntN v (pN v) d - tkN v p d) r ∧ (∀ x, x ≠ 31 → r.1 x = M.1 x) ∧ r.2 = M.2) (by
    intro n i M9 hi h
    obtain ⟨a1, a2, a3⟩ := h
    have e0 : M9.1 21 3 = nI (dN v) := by rw [a2 21 (by omega)]; exact hT.1
    have ki : ∀ {α : Type} (X : Option α), chk (nI i) 14 X = X := fun X => chk_ok (by omega) (by decide)
    have ti : (nI i).toNatClampNeg = i := tn_nI (by omega)
    have f0 : M9.1 (23 + p) i = tkN v p i := by rw [a2 (23 + p) (by omega)]; exact hT.2.1 p hp i hi
    have y0 : M9.1 31 i = cntN v (pN v) i := by rw [a1 i hi, if_neg (Nat.lt_irrefl i)]
    refine Or.inr ⟨wI M9 31 i (cntN v (pN v) i - tkN v p i), ?_, fun d hd => ?_, fun x hx => (wI_ne hx).trans (a2 x hx), a3⟩
    · show f_X6_leaveOut_L2 21 (nI p) (n + 1) (nI i) M9 = _
      rw [f_X6_leaveOut_L2, e0, if_neg (nI_ge hi (by omega))]
      simp only [ki, k8, Nat.reduceAdd, tp, ti, f0, y0, bm, bi, nI_1]
    · by_cases q : d = i
      · subst q; rw [wI_on, if_pos (by omega)]
      · rw [wI_off (Or.inr q), a1 d hd]
        by_cases q2 : d < i
        · rw [if_pos q2, if_pos (by omega)]
        · rw [if_neg q2, if_neg (by omega)]) (by
    intro n M9 h
    refine ⟨M9, ?_, fun d hd => by rw [h.1 d hd, if_pos hd], h.2⟩
    have e0 : M9.1 21 3 = nI (dN v) := by rw [h.2.1 21 (by omega)]; exact hT.1
    show f_X6_leaveOut_L2 21 (nI p) (n + 1) (nI (dN v)) M9 = _
    rw [f_X6_leaveOut_L2, e0, if_pos (Int32.le_refl _)]) 1000 0 M (by omega) (by omega) ⟨fun d hd => by rw [if_neg (Nat.not_lt_zero d)]; exact hT.2.2.2 d hd, fun _ _ => rfl, rfl⟩
  refine ⟨r, ?_, by rw [e2.2.1 21 (by omega)]; exact hT.1, e2.1, ⟨fun x hx => ⟨e2.2.1 x (by omega), by rw [e2.2.2]⟩, by rw [e2.2.2]⟩⟩
  unfold f_X6_leaveOut
  rw [show f_X6_leaveOut_L2 21 (nI p) 1000 0 M = some r from e1]; rfl
end TO1
section TO2
variable {a : AB} {M : Mm}
theorem okCt {M2 : Mm} {r : Int32} (h : RC a M) (hF : Fr 21 33 M M2) : OKC (some (M2, r)) M (a, r) := ⟨M2, rfl, h.fr hF (by omega), hF.wide (by omega) (by omega)⟩
theorem okMt {M2 : Mm} {r : Int32} (h : RM a M) (hF : ScM M M2) : OKM (some (M2, r)) M (a, r) := ⟨M2, rfl, h.sc hF, hF.fr, hF.2.2⟩
theorem X7_tick (h : RC a M) (hW : WA a) (p d : Int32) : OKC (f_X7_tick p d M) M (oTick a p d) := by
  have n9 := hW.1.n9
  have d15 := hW.1.d15
  unfold f_X7_tick oTick
  rw [C_hasPerson h.1 hW.1, C_hasDay h.1 hW.1]
  by_cases q : inN p (pN a.1)
  · by_cases q2 : inN d (dN a.1)
    · obtain ⟨M2, e, t, hF⟩ := C_reckon h.1 hW.1
      obtain ⟨p, hp, rfl⟩ := inN_k (by omega) q
      obtain ⟨d, hd, rfl⟩ := inN_k (by omega) q2
      have e3 : M2.1 (23 + p) d = tkN a.1 p d := t.2.1 p hp d hd
      simp only [if_pos q, if_pos q2, Option.bind_some, i10, if_false, e]
      rw [chk_ok (show p < 8 by omega) (by decide), chk_ok (show d < 14 by omega) (by decide), tn_nI (show p < 2 ^ 31 by omega), tn_nI (show d < 2 ^ 31 by omega), e3, tnn (show p < 2 ^ 31 by omega), tnn (show d < 2 ^ 31 by omega)]
      exact okCt h hF
    · simp only [if_pos q, if_neg q2, Option.bind_some, i10, if_false, if_true]; exact C_bad h
  · simp only [if_neg q, Option.bind_some, if_true]; exact C_bad h
theorem X8_tick (h : RM a M) (hW : WA a) (p d : Int32) : OKM (f_X8_tick 69 p d M) M (oTick a p d) := by
  have n9 := hW.1.n9
  have d15 := hW.1.d15
  unfold f_X8_tick oTick
  rw [M_isOne h.1 hW.1, M_isDay h.1 hW.1]
  by_cases q : inN p (pN a.1)
  · by_cases q2 : inN d (dN a.1)
    · obtain ⟨M2, e, t, hF⟩ := M_find h.1 hW.1
      obtain ⟨p, hp, rfl⟩ := inN_k (by omega) q
      obtain ⟨d, hd, rfl⟩ := inN_k (by omega) q2
      have e3 : M2.1 (94 + p) d = tkN a.1 p d := t.1 p hp d hd
      simp only [if_pos q, if_pos q2, Option.bind_some, i10, if_false, e, Nat.reduceAdd]
      rw [chk_ok (show p < 8 by omega) (by decide), chk_ok (show d < 14 by omega) (by decide), tn_nI (show p < 2 ^ 31 by omega), tn_nI (show d < 2 ^ 31 by omega), e3, tnn (show p < 2 ^ 31 by omega), tnn (show d < 2 ^ 31 by omega)]
      exact okMt h hF
    · simp only [if_pos q, if_neg q2, Option.bind_some, i10, if_false, if_true]; exact M_bad h
  · simp only [if_neg q, Option.bind_some, if_true]; exact M_bad h
theorem X7_count (h : RC a M) (hW : WA a) (d : Int32) : OKC (f_X7_count d M) M (oCount a d) := by
  have d15 := hW.1.d15
  unfold f_X7_count oCount
  rw [C_hasDay h.1 hW.1]
  by_cases q2 : inN d (dN a.1)
  · obtain ⟨M2, e, t, hF⟩ := C_reckon h.1 hW.1
    obtain ⟨d, hd, rfl⟩ := inN_k (by omega) q2
    simp only [if_pos q2, Option.bind_some, i10, if_false, e]
    rw [chk_ok (show d < 14 by omega) (by decide), tn_nI (show d < 2 ^ 31 by omega), t.2.2.2 d hd, tnn (show d < 2 ^ 31 by omega)]
    exact okCt h hF
  · simp only [if_neg q2, Option.bind_some, if_true]; exact C_bad h
theorem X8_count (h : RM a M) (hW : WA a) (d : Int32) : OKM (f_X8_count 69 d M) M (oCount a d) := by
  have d15 := hW.1.d15
  unfold f_X8_count oCount
  rw [M_isDay h.1 hW.1]
  by_cases q2 : inN d (dN a.1)
  · obtain ⟨M2, e, t, hF⟩ := M_find h.1 hW.1
    obtain ⟨d, hd, rfl⟩ := inN_k (by omega) q2
    simp only [if_pos q2, Option.bind_some, i10, if_false, e]
    rw [M_countOf (h.1.sc hF) hW.1 t hd, tnn (show d < 2 ^ 31 by omega)]
    exact okMt h hF
  · simp only [if_neg q2, Option.bind_some, if_true]; exact M_bad h
theorem inN2 {w : Int32} (h : inN w 2) : w = 0 ∨ w = 1 := by
  obtain ⟨k, hk, rfl⟩ := inN_k (by decide) h
  rcases (show k = 0 ∨ k = 1 by omega) with h | h <;> rw [h]
  · exact Or.inl rfl
  · exact Or.inr rfl
theorem X7_best (h : RC a M) (hW : WA a) (w : Int32) : OKC (f_X7_best w M) M (oBest a w) := by
  have n9 := hW.1.n9
  have d15 := hW.1.d15
  unfold f_X7_best oBest
  rw [wi_n w 1 1 rfl (by decide), h.1.1 1 (by decide)]
  simp only [n0 hW.1]
  by_cases q : inN w 2
  · by_cases q2 : pN a.1 = 0
    · simp only [if_pos q, if_pos q2, Option.bind_some, i10, if_false]; exact C_stk h
    · obtain ⟨M2, e, t, hF⟩ := C_reckon h.1 hW.1
      have hv := h.1.ticks hF
      simp only [if_pos q, if_neg q2, Option.bind_some, i10, if_false, e]
      by_cases q3 : w = 0
      · simp only [if_pos q3, C_bestAll hW.1 t, Option.bind_some]; exact okCt h hF
      · have hp := hW.1.2.2.1.2 (by omega)
        have hs := hW.1.2.2.1.1
        have e4 : f_X6_daysWithYes 21 (M2.1 1 2) M2 = some (sYes a.1 (tn (a.1.1 2))) := by
          rw [hv.1 2 (by decide)]
          exact (congrArg (fun z => f_X6_daysWithYes 21 z M2) hs.1).trans (C_yes hW.1 t hp (by omega))
        simp only [if_neg q3, e4, Option.bind_some]
        rw [C_among (x := sYes a.1 (tn (a.1.1 2))) (Q := fun d => decide (tkN a.1 (tn (a.1.1 2)) d = 2)) hW.1 t (fun d hd => (mkS_hb _ (by omega) (by omega)).trans ⟨fun z => z.2, fun z => ⟨hd, z⟩⟩)]
        exact okCt h hF
  · simp only [if_neg q, Option.bind_some, if_true]; exact C_bad h
theorem X8_best (h : RM a M) (hW : WA a) (w : Int32) : OKM (f_X8_best 69 w M) M (oBest a w) := by
  unfold f_X8_best oBest
  rw [show f_X8_in w.toInt64 0 1 = _ from in_n w 1 1 rfl (by decide), h.1.n]
  simp only [n0 hW.1]
  by_cases q : inN w 2
  · by_cases q2 : pN a.1 = 0
    · simp only [if_pos q, if_pos q2, Option.bind_some, i10, if_false]; exact M_stk h
    · simp only [if_pos q, if_neg q2, Option.bind_some, i10, if_false]
      rcases inN2 q with q3 | q3
      · obtain ⟨M2, e, t, hF⟩ := M_best0 h.1 hW.1
        subst q3
        simp only [i01, if_false, e, Option.bind_some, i00, if_true]
        exact okMt h hF
      · obtain ⟨M2, e, t, hF⟩ := M_bestDay h.1 hW.1 1 (Or.inl (by omega))
        have e2 : (fun d => decide ((1 : Int32) = 0 ∨ tkN a.1 (tn (a.1.1 2)) d = 2)) = fun d => decide (tkN a.1 (tn (a.1.1 2)) d = 2) := funext fun d => decide_eq_decide.mpr ⟨fun z => z.resolve_left (by decide), Or.inr⟩
        rw [e2] at e
        subst q3
        simp only [i11, if_true, e, Option.bind_some, i10, if_false]
        exact okMt h hF
  · simp only [if_neg q, Option.bind_some, if_true]; exact M_bad h
theorem sYes_sm {v : CV} (hW : WF v) (p : Nat) : sm (sYes v p) (2 ^ dN v) := mkS_sm _ (by have := hW.d15; omega)
theorem X7_held (h : RC a M) (hW : WA a) (p w : Int32) : OKC (f_X7_held p w M) M (oHeld a p w) := by
  have n9 := hW.1.n9
  have d15 := hW.1.d15
  unfold f_X7_held oHeld
  rw [C_hasPerson h.1 hW.1, wi_n w 1 1 rfl (by decide)]
  by_cases q : inN p (pN a.1)
  · by_cases q2 : inN w 2
    · obtain ⟨M2, e, t, hF⟩ := C_reckon h.1 hW.1
      obtain ⟨p, hp, rfl⟩ := inN_k (by omega) q
      simp only [if_pos q, if_pos q2, Option.bind_some, i10, if_false, e, C_yes hW.1 t hp (by omega), C_bestAll hW.1 t, bi, bc_ok, tnn (show p < 2 ^ 31 by omega)]
      have bl := amax_lt (cntN a.1 (pN a.1)) (dN a.1) hW.1.d1
      rcases inN2 q2 with q3 | q3
      · have e5 : bc (sYes a.1 p) = sHeld a.1 p w := by
          unfold sYes sHeld
          rw [bc_mkS _ (by omega)]
          congr 1
          refine cnt_congr _ fun d _ => decide_eq_decide.mpr ⟨fun z => ⟨z, fun y => absurd (q3.symm.trans y) (by decide)⟩, fun z => z.1⟩
        subst q3
        simp only [i01, if_false, e5]; exact okCt h hF
      · have e6 : sYes a.1 p &&& ((1 <<< (nI (amax (cntN a.1 (pN a.1)) (dN a.1)) &&& 31)) ^^^ (-1)) = mkS (fun d => decide (tkN a.1 p d = 2 ∧ (w = 1 → d ≠ sBest a.1))) (dN a.1) := by
          refine mkS_ext (by omega) (and_sm (Nat.pow_le_pow_right (by decide) (by omega)) (sYes_sm hW.1 p)) fun j hj => ?_
          rw [hb_clr ((sYes_sm hW.1 p).mono (pw14 (by omega))) (by omega) (by omega), decide_eq_true_eq]
          unfold sYes
          rw [mkS_hb _ (by omega) (by omega), decide_eq_true_eq]
          exact ⟨fun z => ⟨z.1.2, fun _ => z.2⟩, fun z => ⟨⟨hj, z.1⟩, z.2 q3⟩⟩
        have e5 : bc (sYes a.1 p &&& ((1 <<< (nI (amax (cntN a.1 (pN a.1)) (dN a.1)) &&& 31)) ^^^ (-1))) = sHeld a.1 p w := by
          rw [e6, bc_mkS _ (by omega)]; rfl
        rw [if_pos q3, e5]; exact okCt h hF
    · simp only [if_pos q, if_neg q2, Option.bind_some, i10, if_false, if_true]; exact C_bad h
  · simp only [if_neg q, Option.bind_some, if_true]; exact C_bad h
theorem X8_held (h : RM a M) (hW : WA a) (p w : Int32) : OKM (f_X8_held 69 p w M) M (oHeld a p w) := by
  have n9 := hW.1.n9
  have d15 := hW.1.d15
  unfold f_X8_held oHeld
  rw [M_isOne h.1 hW.1, show f_X8_in w.toInt64 0 1 = _ from in_n w 1 1 rfl (by decide)]
  by_cases q : inN p (pN a.1)
  · by_cases q2 : inN w 2
    · obtain ⟨M2, e, t, hF⟩ := M_best0 h.1 hW.1
      obtain ⟨p, hp, rfl⟩ := inN_k (by omega) q
      have hv := h.1.sc hF
      have e0 : M2.1 69 9 = nI (dN a.1) := hv.d.trans hW.1.d
      have bl : sBest a.1 < dN a.1 := amax_lt (cntN a.1 (pN a.1)) (dN a.1) hW.1.d1
      have k8 : ∀ {α : Type} (X : Option α), chk (nI p) 8 X = X := fun X => chk_ok (by omega) (by decide)
      have tp : (nI p).toNatClampNeg = p := tn_nI (by omega)
      have r := loop_run0 (fun n i (s : Nat) => f_X8_held_L37 69 (nI p) w (nI (sBest a.1)) M2 n (nI s) (nI i)) (dN a.1) (fun d s => s + (if decide (tkN a.1 p d = 2 ∧ (w = 1 → d ≠ sBest a.1)) = true then 1 else 0)) nI 0 (by
        intro n i s hi
        have e1 : M2.1 (94 + p) i = tkN a.1 p i := t.1 p hp i hi
        have ki : ∀ {α : Type} (X : Option α), chk (nI i) 14 X = X := fun X => chk_ok (by omega) (by decide)
        have ti : (nI i).toNatClampNeg = i := tn_nI (by omega)
        have eq : (nI i = nI (sBest a.1)) = (i = sBest a.1) := propext (nI_eq (by omega) (by omega))
        show f_X8_held_L37 69 (nI p) w (nI (sBest a.1)) M2 (n + 1) (nI s) (nI i) = f_X8_held_L37 69 (nI p) w (nI (sBest a.1)) M2 n (nI (s + (if decide (tkN a.1 p i = 2 ∧ (w = 1 → i ≠ sBest a.1)) = true then 1 else 0))) (nI (i + 1))
        rw [f_X8_held_L37, e0, if_neg (nI_ge hi (by omega))]
        simp only [k8, ki, tp, ti, Nat.reduceAdd, e1, bi, nI_1, eq, Int32.add_zero]
        by_cases q5 : tkN a.1 p i = 2
        · rw [if_pos q5]
          rcases inN2 q2 with q3 | q3
          · rw [if_pos q3, if_pos (decide_eq_true ⟨q5, fun z => absurd (q3.symm.trans z) (by decide)⟩)]
          · have nz : ¬ w = 0 := by rw [q3]; decide
            rw [if_neg nz]
            by_cases q4 : i = sBest a.1
            · rw [if_pos q4, if_neg (fun z => (of_decide_eq_true z).2 q3 q4), Nat.add_zero s]
            · rw [if_neg q4, if_pos (decide_eq_true ⟨q5, fun _ => q4⟩)]
        · rw [if_neg q5, if_neg (fun z => q5 (of_decide_eq_true z).1), Nat.add_zero s]) (by
        intro n s
        show f_X8_held_L37 69 (nI p) w (nI (sBest a.1)) M2 (n + 1) (nI s) (nI (dN a.1)) = some (nI s)
        rw [f_X8_held_L37, e0, if_pos (Int32.le_refl _)]) 1000 (by omega)
      have e7 : ∀ k, iter (fun d (s : Nat) => s + (if decide (tkN a.1 p d = 2 ∧ (w = 1 → d ≠ sBest a.1)) = true then 1 else 0)) k 0 = cnt (fun d => decide (tkN a.1 p d = 2 ∧ (w = 1 → d ≠ sBest a.1))) k := by
        intro k
        induction k with
        | zero => rfl
        | succ k ih => show iter _ k 0 + _ = cnt _ k + _; rw [ih]
      rw [e7] at r
      simp only [if_pos q, if_pos q2, Option.bind_some, i10, if_false, e, bi, tnn (show p < 2 ^ 31 by omega)]
      rw [show f_X8_held_L37 69 (nI p) w (nI (sBest a.1)) M2 1000 0 0 = _ from r]
      exact okMt h hF
    · simp only [if_pos q, if_neg q2, Option.bind_some, i10, if_false, if_true]; exact M_bad h
  · simp only [if_neg q, Option.bind_some, if_true]; exact M_bad h
theorem X7_quiet (h : RC a M) (hW : WA a) : OKC (f_X7_quiet M) M (oQuiet a) := by
  have n9 := hW.1.n9
  obtain ⟨M2, e, t, hF⟩ := C_reckon h.1 hW.1
  have hv := h.1.ticks hF
  have e0 : M2.1 1 1 = nI (pN a.1) := (hv.1 1 (by decide)).trans hW.1.n
  have r := loop_run0 (fun n i (s : Int32) => f_X7_quiet_L15 M2 n s (nI i)) (pN a.1) (fun p (s : Int32) => s ||| sYes a.1 p) id 0 (by
    intro n i s hi
    show f_X7_quiet_L15 M2 (n + 1) s (nI i) = f_X7_quiet_L15 M2 n (s ||| sYes a.1 i) (nI (i + 1))
    rw [f_X7_quiet_L15, e0, if_neg (nI_ge hi (by omega)), C_yes hW.1 t hi (by omega)]
    simp only [Option.bind_some, bi, nI_1]) (by
    intro n s
    show f_X7_quiet_L15 M2 (n + 1) s (nI (pN a.1)) = some s
    rw [f_X7_quiet_L15, e0, if_pos (Int32.le_refl _)]) 1000 (by omega)
  unfold f_X7_quiet oQuiet
  rw [e, Option.bind_some, show f_X7_quiet_L15 M2 1000 0 0 = _ from r, Option.bind_some, C_allDays hv hW.1]
  exact okCt h hF
theorem X8_quiet (h : RM a M) (hW : WA a) : OKM (f_X8_quiet 69 M) M (oQuiet a) := by
  have n9 := hW.1.n9
  obtain ⟨M2, e, t, hF⟩ := M_find h.1 hW.1
  have hv := h.1.sc hF
  have e0 : M2.1 69 10 = nI (pN a.1) := hv.n.trans hW.1.n
  have r := loop_run0 (fun n i (s : Int32) => f_X8_quiet_L19 69 M2 n s (nI i)) (pN a.1) (fun p (s : Int32) => s &&& (sYes a.1 p ^^^ (-1))) id (sDays a.1) (by
    intro n i s hi
    show f_X8_quiet_L19 69 M2 (n + 1) s (nI i) = f_X8_quiet_L19 69 M2 n (s &&& (sYes a.1 i ^^^ (-1))) (nI (i + 1))
    rw [f_X8_quiet_L19, e0, if_neg (nI_ge hi (by omega)), M_yes hv hW.1 t hi (by omega)]
    simp only [Option.bind_some, bi, nI_1]) (by
    intro n s
    show f_X8_quiet_L19 69 M2 (n + 1) s (nI (pN a.1)) = some s
    rw [f_X8_quiet_L19, e0, if_pos (Int32.le_refl _)]) 1000 (by omega)
  rw [quiet_eq] at r
  unfold f_X8_quiet oQuiet
  rw [e, Option.bind_some, hv.d]
  simp only [bi]
  rw [show f_X8_quiet_L19 69 M2 1000 ((1 <<< (a.1.1 0 &&& 31)) - 1) 0 = _ from r]
  exact okMt h hF
theorem X7_agree (h : RC a M) (hW : WA a) (p q : Int32) : OKC (f_X7_agree p q M) M (oAgree a p q) := by
  have n9 := hW.1.n9
  unfold f_X7_agree oAgree
  rw [C_hasPerson h.1 hW.1, C_hasPerson h.1 hW.1]
  by_cases q1 : inN p (pN a.1)
  · by_cases q2 : inN q (pN a.1)
    · by_cases q3 : p = q
      · simp only [if_pos q1, if_pos q2, if_pos q3, Option.bind_some, i10, if_false]; exact C_bad h
      · obtain ⟨M2, e, t, hF⟩ := C_reckon h.1 hW.1
        simp only [if_pos q1, if_pos q2, if_neg q3, Option.bind_some, i10, if_false, e]
        obtain ⟨p, hp, rfl⟩ := inN_k (by omega) q1
        obtain ⟨q, hq, rfl⟩ := inN_k (by omega) q2
        rw [C_yes hW.1 t hp (by omega), C_yes hW.1 t hq (by omega), tnn (show p < 2 ^ 31 by omega), tnn (show q < 2 ^ 31 by omega)]
        exact okCt h hF
    · simp only [if_pos q1, if_neg q2, Option.bind_some, i10, if_false, if_true]; exact C_bad h
  · simp only [if_neg q1, Option.bind_some, if_true]; exact C_bad h
theorem X8_agree (h : RM a M) (hW : WA a) (p q : Int32) : OKM (f_X8_agree 69 p q M) M (oAgree a p q) := by
  have n9 := hW.1.n9
  unfold f_X8_agree oAgree
  rw [M_isOne h.1 hW.1, M_isOne h.1 hW.1]
  by_cases q1 : inN p (pN a.1)
  · by_cases q2 : inN q (pN a.1)
    · by_cases q3 : p = q
      · simp only [if_pos q1, if_pos q2, if_pos q3, Option.bind_some, i10, if_false]; exact M_bad h
      · obtain ⟨M2, e, t, hF⟩ := M_find h.1 hW.1
        have hv := h.1.sc hF
        simp only [if_pos q1, if_pos q2, if_neg q3, Option.bind_some, i10, if_false, e]
        obtain ⟨p, hp, rfl⟩ := inN_k (by omega) q1
        obtain ⟨q, hq, rfl⟩ := inN_k (by omega) q2
        rw [M_yes hv hW.1 t hp (by omega), M_yes hv hW.1 t hq (by omega), tnn (show p < 2 ^ 31 by omega), tnn (show q < 2 ^ 31 by omega)]
        exact okMt h hF
    · simp only [if_pos q1, if_neg q2, Option.bind_some, i10, if_false, if_true]; exact M_bad h
  · simp only [if_neg q1, Option.bind_some, if_true]; exact M_bad h
theorem X7_votes (h : RC a M) (hW : WA a) (d w : Int32) : OKC (f_X7_votes d w M) M (oVotes a d w) := by
  have n9 := hW.1.n9
  have d15 := hW.1.d15
  unfold f_X7_votes oVotes
  rw [C_hasDay h.1 hW.1, wi_n w 2 2 rfl (by decide)]
  by_cases q : inN d (dN a.1)
  · by_cases q2 : inN w 3
    · obtain ⟨M2, e, t, hF⟩ := C_reckon h.1 hW.1
      obtain ⟨d, hd, rfl⟩ := inN_k (by omega) q
      have hv := h.1.ticks hF
      have e0 : M2.1 1 1 = nI (pN a.1) := (hv.1 1 (by decide)).trans hW.1.n
      have kd : ∀ {α : Type} (X : Option α), chk (nI d) 14 X = X := fun X => chk_ok (by omega) (by decide)
      have td : (nI d).toNatClampNeg = d := tn_nI (by omega)
      have r := loop_run0 (fun n i (s : Int32) => f_X7_votes_L43 (nI d) w M2 n s (nI i)) (pN a.1) (fun p (s : Int32) => if tkN a.1 p d = w then s + 1 else s) id 0 (by
        intro n i s hi
        have ki : ∀ {α : Type} (X : Option α), chk (nI i) 8 X = X := fun X => chk_ok (by omega) (by decide)
        have ti : (nI i).toNatClampNeg = i := tn_nI (by omega)
        have e1 : M2.1 (23 + i) d = tkN a.1 i d := t.2.1 i hi d hd
        show f_X7_votes_L43 (nI d) w M2 (n + 1) s (nI i) = f_X7_votes_L43 (nI d) w M2 n (if tkN a.1 i d = w then s + 1 else s) (nI (i + 1))
        rw [f_X7_votes_L43, e0, if_neg (nI_ge hi (by omega)), ki, kd, ti, td, e1]
        by_cases q3 : tkN a.1 i d = w
        · simp only [if_pos q3, bi, nI_1]
        · simp only [if_neg q3, bi, nI_1]) (by
        intro n s
        show f_X7_votes_L43 (nI d) w M2 (n + 1) s (nI (pN a.1)) = some s
        rw [f_X7_votes_L43, e0, if_pos (Int32.le_refl _)]) 1000 (by omega)
      simp only [if_pos q, if_pos q2, Option.bind_some, i10, if_false, e]
      rw [show f_X7_votes_L43 (nI d) w M2 1000 0 0 = _ from r, tnn (show d < 2 ^ 31 by omega)]
      exact okCt h hF
    · simp only [if_pos q, if_neg q2, Option.bind_some, i10, if_false, if_true]; exact C_bad h
  · simp only [if_neg q, Option.bind_some, if_true]; exact C_bad h
theorem X8_votes (h : RM a M) (hW : WA a) (d w : Int32) : OKM (f_X8_votes 69 d w M) M (oVotes a d w) := by
  have n9 := hW.1.n9
  have d15 := hW.1.d15
  unfold f_X8_votes oVotes
  rw [M_isDay h.1 hW.1, show f_X8_in w.toInt64 0 2 = _ from in_n w 2 2 rfl (by decide)]
  by_cases q : inN d (dN a.1)
  · by_cases q2 : inN w 3
    · obtain ⟨M2, e, t, hF⟩ := M_find h.1 hW.1
      obtain ⟨d, hd, rfl⟩ := inN_k (by omega) q
      have hv := h.1.sc hF
      have e0 : M2.1 69 10 = nI (pN a.1) := hv.n.trans hW.1.n
      have kd : ∀ {α : Type} (X : Option α), chk (nI d) 14 X = X := fun X => chk_ok (by omega) (by decide)
      have td : (nI d).toNatClampNeg = d := tn_nI (by omega)
      have r := loop_run0 (fun n i (s : Int32) => f_X8_votes_L41 69 (nI d) w M2 n s (nI i)) (pN a.1) (fun p (s : Int32) => if tkN a.1 p d = w then s + 1 else s) id 0 (by
        intro n i s hi
        have ki : ∀ {α : Type} (X : Option α), chk (nI i) 8 X = X := fun X => chk_ok (by omega) (by decide)
        have ti : (nI i).toNatClampNeg = i := tn_nI (by omega)
        have e1 : M2.1 (94 + i) d = tkN a.1 i d := t.1 i hi d hd
        show f_X8_votes_L41 69 (nI d) w M2 (n + 1) s (nI i) = f_X8_votes_L41 69 (nI d) w M2 n (if tkN a.1 i d = w then s + 1 else s) (nI (i + 1))
        rw [f_X8_votes_L41, e0, if_neg (nI_ge hi (by omega))]
        simp only [ki, kd, ti, td, Nat.reduceAdd, e1, bi, nI_1, Int32.add_zero]
        by_cases q3 : tkN a.1 i d = w
        · simp only [if_pos q3]
        · simp only [if_neg q3]) (by
        intro n s
        show f_X8_votes_L41 69 (nI d) w M2 (n + 1) s (nI (pN a.1)) = some s
        rw [f_X8_votes_L41, e0, if_pos (Int32.le_refl _)]) 1000 (by omega)
      simp only [if_pos q, if_pos q2, Option.bind_some, i10, if_false, e]
      rw [show f_X8_votes_L41 69 (nI d) w M2 1000 0 0 = _ from r, tnn (show d < 2 ^ 31 by omega)]
      exact okMt h hF
    · simp only [if_pos q, if_neg q2, Option.bind_some, i10, if_false, if_true]; exact M_bad h
  · simp only [if_neg q, Option.bind_some, if_true]; exact M_bad h
theorem X7_without (h : RC a M) (hW : WA a) (p : Int32) : OKC (f_X7_without p M) M (oWithout a p) := by
  have n9 := hW.1.n9
  unfold f_X7_without oWithout
  rw [C_hasPerson h.1 hW.1]
  by_cases q : inN p (pN a.1)
  · obtain ⟨M2, e, t, hF⟩ := C_reckon h.1 hW.1
    obtain ⟨p, hp, rfl⟩ := inN_k (by omega) q
    obtain ⟨M3, a1, a2, a3, a4⟩ := C_leave hW.1 t hp
    simp only [if_pos q, Option.bind_some, i10, if_false, e, a1]
    unfold f_X6_bestOfAll
    rw [show f_X6_dayOfMost 21 (21 + 10) M3 = _ from C_favour (A := 31) a2 hW.1.d1 hW.1.d15 a3, tnn (show p < 2 ^ 31 by omega)]
    exact okCt h (hF.tr a4)
  · simp only [if_neg q, Option.bind_some, if_true]; exact C_bad h
theorem X8_without (h : RM a M) (hW : WA a) (p : Int32) : OKM (f_X8_without 69 p M) M (oWithout a p) := by
  have n9 := hW.1.n9
  have d15 := hW.1.d15
  unfold f_X8_without oWithout
  rw [M_isOne h.1 hW.1]
  by_cases q : inN p (pN a.1)
  · obtain ⟨M2, e, t, hF⟩ := M_find h.1 hW.1
    obtain ⟨p, hp, rfl⟩ := inN_k (by omega) q
    have hv := h.1.sc hF
    have e0 : M2.1 69 9 = nI (dN a.1) := hv.d.trans hW.1.d
    have k8 : ∀ {α : Type} (X : Option α), chk (nI p) 8 X = X := fun X => chk_ok (by omega) (by decide)
    have tp : (nI p).toNatClampNeg = p := tn_nI (by omega)
    have r := loop_amax (fun d => cntN a.1 (pN a.1) d - tkN a.1 p d) (fun n i s => f_X8_without_L27 69 (nI p) M2 n (nI s) (nI i)) (dN a.1) hW.1.d1 nI (by
      intro n i s hi h0 hs
      show f_X8_without_L27 69 (nI p) M2 (n + 1) (nI s) (nI i) = f_X8_without_L27 69 (nI p) M2 n (nI (if cntN a.1 (pN a.1) s - tkN a.1 p s < cntN a.1 (pN a.1) i - tkN a.1 p i then i else s)) (nI (i + 1))
      have ki : ∀ {α : Type} (X : Option α), chk (nI i) 14 X = X := fun X => chk_ok (by omega) (by decide)
      have ti : (nI i).toNatClampNeg = i := tn_nI (by omega)
      have ks : ∀ {α : Type} (X : Option α), chk (nI s) 14 X = X := fun X => chk_ok (by omega) (by decide)
      have ts : (nI s).toNatClampNeg = s := tn_nI (by omega)
      have e1 : M2.1 (94 + p) i = tkN a.1 p i := t.1 p hp i hi
      have e2 : M2.1 (94 + p) s = tkN a.1 p s := t.1 p hp s (by omega)
      rw [f_X8_without_L27, e0, if_neg (nI_ge hi (by omega)), M_countOf hv hW.1 t hi, M_countOf hv hW.1 t (show s < dN a.1 by omega)]
      simp only [Option.bind_some, k8, ki, ks, tp, ti, ts, Nat.reduceAdd, e1, e2, bi, nI_1]
      by_cases q3 : cntN a.1 (pN a.1) s - tkN a.1 p s < cntN a.1 (pN a.1) i - tkN a.1 p i
      · rw [if_neg (i32_nle.mpr q3), if_pos q3]
      · rw [if_pos (i32_nlt.mp q3), if_neg q3]) (by
      intro n s hs
      show f_X8_without_L27 69 (nI p) M2 (n + 1) (nI s) (nI (dN a.1)) = _
      rw [f_X8_without_L27, e0, if_pos (Int32.le_refl _)]) 1000 (by omega)
    simp only [if_pos q, Option.bind_some, i10, if_false, e]
    rw [show f_X8_without_L27 69 (nI p) M2 1000 0 1 = _ from r, tnn (show p < 2 ^ 31 by omega)]
    exact okMt h hF
  · simp only [if_neg q, Option.bind_some, if_true]; exact M_bad h
theorem W_tick (h : WB a) (p d : Int32) : WB (oTick a p d).1 := by unfold oTick; (repeat' split) <;> exact h
theorem W_count (h : WB a) (d : Int32) : WB (oCount a d).1 := by unfold oCount; split <;> exact h
theorem W_best (h : WB a) (d : Int32) : WB (oBest a d).1 := by unfold oBest; (repeat' split) <;> exact h
theorem W_held (h : WB a) (p d : Int32) : WB (oHeld a p d).1 := by unfold oHeld; (repeat' split) <;> exact h
theorem W_quiet (h : WB a) : WB (oQuiet a).1 := h
theorem W_agree (h : WB a) (p d : Int32) : WB (oAgree a p d).1 := by unfold oAgree; (repeat' split) <;> exact h
theorem W_votes (h : WB a) (p d : Int32) : WB (oVotes a p d).1 := by unfold oVotes; (repeat' split) <;> exact h
theorem W_without (h : WB a) (p : Int32) : WB (oWithout a p).1 := by unfold oWithout; split <;> exact h
end TO2
