/-! plans: right and wrong -/
def ah9 (r : Nat → Int64) (i : Nat) : Int64 := if i = 0 then -1 else r (i - 1)
def pcB (v : CV) (r : Nat → Int64) (i : Nat) : Bool := decide (r i ≤ ah9 r i ∨ (v.1 0).toInt64 ≤ r i ∨ ¬ v.1 3 ≤ sHow v (r i).toInt32)
def pmB (v : CV) (r : Nat → Int64) (i : Nat) : Bool := decide (¬ (0 ≤ r i ∧ r i ≤ (v.1 0 - 1).toInt64) ∨ (i ≠ 0 ∧ r i ≤ r (i - 1)) ∨ ¬ v.1 3 ≤ sHow v (r i).toInt32)
def wrg (v : CV) (r : Nat → Int64) (n : Nat) : Option Nat := fstO (pcB v r) n 0
theorem fstO_agree {P P2 : Nat → Bool} : ∀ k i, (∀ j, i ≤ j → j < i + k → (∀ q, q < j → P2 q = false) → P j = P2 j) → (∀ q, q < i → P2 q = false) → fstO P k i = fstO P2 k i := by
  intro k
  induction k with
  | zero => intro i _ _; rfl
  | succ k ih =>
    intro i h h0
    rw [fstO, fstO, h i (Nat.le_refl _) (by omega) h0]
    by_cases q : P2 i = true
    · rw [if_pos q, if_pos q]
    · rw [if_neg q, if_neg q]
      refine ih (i + 1) (fun j h1 h2 => h j (by omega) (by omega)) (fun z hz => ?_)
      by_cases e : z = i
      · subst e
        cases h5 : P2 z with
        | true => exact absurd h5 q
        | false => rfl
      · exact h0 z (by omega)
theorem m64 : (-1 : Int64).toInt = -1 := by decide
theorem z64 : (0 : Int64).toInt = 0 := by decide
theorem t64 : (2 : Int64).toInt = 2 := by decide
theorem wrg_m {v : CV} (hW : WF v) (r : Nat → Int64) (n : Nat) : fstO (pmB v r) n 0 = wrg v r n := by
  have d1 := hW.d1
  have d15 := hW.d15
  have eD : (v.1 0).toInt64.toInt = (dN v : Int) := by rw [Int32.toInt_toInt64, hW.d, nI_toInt (by omega)]
  have eD1 : (v.1 0 - 1).toInt64.toInt = (dN v : Int) - 1 := by
    rw [Int32.toInt_toInt64, hW.d]
    obtain ⟨d, hd⟩ : ∃ d, dN v = d + 1 := ⟨dN v - 1, by omega⟩
    rw [hd, nI_pred, nI_toInt (by omega)]; omega
  refine (fstO_agree n 0 (fun j _ _ hp => ?_) (fun q hq => absurd hq (Nat.not_lt_zero q))).symm
  refine decide_eq_decide.mpr ?_
  by_cases q : v.1 3 ≤ sHow v (r j).toInt32
  · simp only [q, not_true_eq_false, or_false]
    unfold ah9
    by_cases e : j = 0
    · subst e
      simp only [if_true, ne_eq, not_true_eq_false, false_and, or_false]
      rw [Int64.le_iff_toInt_le, Int64.le_iff_toInt_le, Int64.le_iff_toInt_le, Int64.le_iff_toInt_le, eD, eD1, m64, z64]
      omega
    · have h1 := of_decide_eq_false (hp (j - 1) (by omega))
      have h2 : 0 ≤ r (j - 1) := Classical.byContradiction fun z => h1 (Or.inl fun w => z w.1)
      rw [if_neg e]
      rw [Int64.le_iff_toInt_le, z64] at h2
      rw [Int64.le_iff_toInt_le, Int64.le_iff_toInt_le, Int64.le_iff_toInt_le, Int64.le_iff_toInt_le, eD, eD1, z64]
      omega
  · simp only [q, not_false_eq_true, or_true]
theorem plc_eq (o : Option Nat) (h : ∀ j, o = some j → j < 2 ^ 31) : (plc o = -1) = (o = none) := by
  cases o with
  | none => exact eq_true rfl |>.trans (eq_true rfl).symm
  | some j => exact (eq_false (nI_nm1 (h j rfl))).trans (eq_false (fun z => by cases z)).symm
theorem fst_lt {P : Nat → Bool} {n j : Nat} (h : fstO P n 0 = some j) : j < n := by
  have := fstO_some _ _ _ h
  omega
section PL9
variable {v : CV} {M : Mm}
/-- a row on a shelf, read -/
theorem C_el {s i : Nat} {x : SV} (hs : SC s x M) (h40 : x.2.1 ≤ 40) (hi : i < x.2.1) : f_X4_elementAt (53 + 2 * s) (nI i) M = some (x.2.2 i) := by
  unfold f_X4_elementAt
  rw [hs.2.1, wi_p (nI i) (by omega), if_pos ((inN_nI (by omega) (by omega)).mpr hi), Option.bind_some, if_neg (show ¬ ((1 : Int32) = 0) by decide), chk_ok (show i < 40 by omega) (by decide), tn_nI (by omega), hs.2.2 i (by omega)]
theorem C_wrong {o n : Nat} {r : Nat → Int64} (hV : VC 1 v M) (hW : WF v) (hn : n ≤ 40) (hr : ∀ i, i < n → f_X4_elementAt o (nI i) M = some (r i)) : f_X7_firstWrong o (nI n) M = some (plc (wrg v r n)) := by
  have rr := loop_fst (pcB v r) (fun f i => f_X7_firstWrong_L7 o (nI n) M f (ah9 r i) (nI i)) n () nI (by
    intro f i hi
    show f_X7_firstWrong_L7 o (nI n) M (f + 1) (ah9 r i) (nI i) = if decide (r i ≤ ah9 r i ∨ (v.1 0).toInt64 ≤ r i ∨ ¬ v.1 3 ≤ sHow v (r i).toInt32) = true then some (Sum.inr (nI i)) else f_X7_firstWrong_L7 o (nI n) M f (ah9 r (i + 1)) (nI (i + 1))
    have e3 : M.1 1 3 = v.1 3 := hV.1 3 (by decide)
    have e0 : M.1 1 0 = v.1 0 := hV.1 0 (by decide)
    have ea : ah9 r (i + 1) = r i := (if_neg (by omega)).trans (by rw [Nat.add_sub_cancel])
    rw [f_X7_firstWrong_L7, if_neg (nI_ge hi (by omega)), hr i hi, Option.bind_some, e0, e3, C_howManyOn hV hW, Option.bind_some, ea]
    by_cases q1 : r i ≤ ah9 r i
    · rw [if_pos ((lg_cmp_le _ _).mpr q1), if_pos (decide_eq_true (Or.inl q1))]
    · rw [if_neg (fun z => q1 ((lg_cmp_le _ _).mp z))]
      by_cases q2 : (v.1 0).toInt64 ≤ r i
      · rw [if_pos ((lg_cmp_ge _ _).mpr q2), if_pos (decide_eq_true (Or.inr (Or.inl q2)))]
      · rw [if_neg (fun z => q2 ((lg_cmp_ge _ _).mp z))]
        by_cases q3 : v.1 3 ≤ sHow v (r i).toInt32
        · rw [if_pos q3, if_neg (fun z => (of_decide_eq_true z).elim q1 (fun z => z.elim q2 (fun z => z q3)))]
          simp only [bi, nI_1]
        · rw [if_neg q3, if_pos (decide_eq_true (Or.inr (Or.inr q3)))]) (by
    intro f
    show f_X7_firstWrong_L7 o (nI n) M (f + 1) (ah9 r n) (nI n) = _
    rw [f_X7_firstWrong_L7, if_pos (Int32.le_refl _)]) 1000 0 (Nat.zero_le _) (by omega)
  unfold f_X7_firstWrong
  rw [show f_X7_firstWrong_L7 o (nI n) M 1000 (-1) 0 = _ from rr, obS_elim, Nat.sub_zero]
  show (wrg v r n).elim _ _ = _
  cases wrg v r n <;> rfl
theorem M_isDay64 (hV : VM 69 v M) (x : Int64) : f_X8_isDay 69 x M = some (if 0 ≤ x ∧ x ≤ (v.1 0 - 1).toInt64 then 1 else 0) := by
  unfold f_X8_isDay
  rw [hV.d, in_ok, Option.bind_some, chb_ok]
theorem M_wrong {o n : Nat} {r : Nat → Int64} (hV : VM 69 v M) (hW : WF v) (hn : n ≤ 40) (hr : ∀ i, i < n → M.2.1 o i = r i) : f_X8_wrongIn 69 o (nI n) M = some (plc (wrg v r n)) := by
  have rr := loop_fst (pmB v r) (fun f i => f_X8_wrongIn_L2 69 o (nI n) M f (nI i)) n () nI (by
    intro f i hi
    show f_X8_wrongIn_L2 69 o (nI n) M (f + 1) (nI i) = if decide (¬ (0 ≤ r i ∧ r i ≤ (v.1 0 - 1).toInt64) ∨ (i ≠ 0 ∧ r i ≤ r (i - 1)) ∨ ¬ v.1 3 ≤ sHow v (r i).toInt32) = true then some (Sum.inr (nI i)) else f_X8_wrongIn_L2 69 o (nI n) M f (nI (i + 1))
    have ki : ∀ {α : Type} (X : Option α), chk (nI i) 40 X = X := fun X => chk_ok (by omega) (by decide)
    have ti : (nI i).toNatClampNeg = i := tn_nI (by omega)
    rw [f_X8_wrongIn_L2, if_neg (nI_ge hi (by omega))]
    simp only [ki, ti, hr i hi, M_isDay64 hV, M_mayDine hV hW, Option.bind_some, bi, nI_1]
    by_cases e : i = 0
    · subst e
      rw [if_pos (show nI 0 = 0 from rfl)]
      by_cases q1 : 0 ≤ r 0 ∧ r 0 ≤ (v.1 0 - 1).toInt64
      · rw [if_pos q1, if_neg (show ¬ ((1 : Int32) = 0) by decide), if_neg (show ¬ ((1 : Int32) = 0) by decide)]
        by_cases q3 : v.1 3 ≤ sHow v (r 0).toInt32
        · rw [if_pos q3, if_neg (show ¬ ((1 : Int32) = 0) by decide), if_neg (fun z => (of_decide_eq_true z).elim (fun z => z q1) (fun z => z.elim (fun z => z.1 rfl) (fun z => z q3)))]
        · rw [if_neg q3, if_pos rfl, if_pos (decide_eq_true (Or.inr (Or.inr q3)))]
      · rw [if_neg q1, if_pos rfl, if_pos (decide_eq_true (Or.inl q1))]
    · have nz : ¬ nI i = 0 := fun z => e ((nI_eq (b := 0) (by omega) (by decide)).mp z)
      have ep : nI i - 1 = nI (i - 1) := by
        obtain ⟨j, rfl⟩ : ∃ j, i = j + 1 := ⟨i - 1, by omega⟩
        rw [nI_pred, Nat.add_sub_cancel]
      rw [if_neg nz, ep, chk_ok (show i - 1 < 40 by omega) (by decide), tn_nI (show i - 1 < 2 ^ 31 by omega), hr (i - 1) (by omega)]
      by_cases q2 : r i ≤ r (i - 1)
      · rw [if_pos ((lg_cmp_le _ _).mpr q2), if_pos (decide_eq_true (Or.inr (Or.inl ⟨e, q2⟩)))]
        by_cases q1 : 0 ≤ r i ∧ r i ≤ (v.1 0 - 1).toInt64
        · rw [if_pos q1, if_neg (show ¬ ((1 : Int32) = 0) by decide)]
          exact if_pos trivial
        · rw [if_neg q1]
          exact if_pos rfl
      · rw [if_neg (fun z => q2 ((lg_cmp_le _ _).mp z))]
        by_cases q1 : 0 ≤ r i ∧ r i ≤ (v.1 0 - 1).toInt64
        · rw [if_pos q1, if_neg (show ¬ ((1 : Int32) = 0) by decide), if_neg (show ¬ ((1 : Int32) = 0) by decide)]
          by_cases q3 : v.1 3 ≤ sHow v (r i).toInt32
          · rw [if_pos q3, if_neg (show ¬ ((1 : Int32) = 0) by decide), if_neg (fun z => (of_decide_eq_true z).elim (fun z => z q1) (fun z => z.elim (fun z => q2 z.2) (fun z => z q3)))]
          · rw [if_neg q3, if_pos rfl, if_pos (decide_eq_true (Or.inr (Or.inr q3)))]
        · rw [if_neg q1, if_pos rfl, if_pos (decide_eq_true (Or.inl q1))]) (by
    intro f
    show f_X8_wrongIn_L2 69 o (nI n) M (f + 1) (nI n) = _
    rw [f_X8_wrongIn_L2, if_pos (Int32.le_refl _)]) 1000 0 (Nat.zero_le _) (by omega)
  unfold f_X8_wrongIn
  rw [show f_X8_wrongIn_L2 69 o (nI n) M 1000 0 = _ from rr, obS_elim, Nat.sub_zero, wrg_m hW]
  cases wrg v r n <;> rfl
end PL9
abbrev elA (a : AB) (s : Int32) : Nat → Int64 := (aSh a (tn s)).2.2
def oJudge (a : AB) (s n : Int32) : AB × Int32 := if trbP a s n = 0 then (a, plc (wrg a.1 (elA a s) (tn n))) else (refA a (trbP a s n), trbP a s n)
def trbR (a : AB) (s n : Int32) : Int32 := if trbP a s n = 0 then (if wrg a.1 (elA a s) (tn n) = none then 0 else -5) else trbP a s n
def ms9 (v : CV) (r : Nat → Int64) (n p : Nat) : Nat := cnt (fun i => decide (¬ hb (v.2 p 3) (r i).toInt32)) n
def sLeft (v : CV) (r : Nat → Int64) (n : Nat) : Int32 × Int32 := iter (fun p (s : Int32 × Int32) => (s.1 + nI (ms9 v r n p), imax s.2 (imin 99 (v.2 p 4 + nI (ms9 v r n p))))) (pN v) (0, 0)
def oLeftOut (a : AB) (s n w : Int32) : AB × Int32 := if inN w 2 then (if trbR a s n = 0 then (a, if w = 0 then (sLeft a.1 (elA a s) (tn n)).1 else (sLeft a.1 (elA a s) (tn n)).2) else (refA a (trbR a s n), trbR a s n)) else bad a
def sDone (r : Nat → Int64) (n : Nat) (v : CV) : CV := iter (fun i w => sDine w (r i).toInt32) n v
def oDone (a : AB) (s n : Int32) : AB × Int32 := if trbR a s n = 0 then (setV a (sDone (elA a s) (tn n) a.1), (sDone (elA a s) (tn n) a.1).1 5) else (refA a (trbR a s n), trbR a s n)
theorem elA_n {a : AB} {s : Nat} (hs : s < 8) : elA a (nI s) = (aSh a s).2.2 := by unfold elA; rw [tnn (by omega)]
/-- a plan without trouble -/
theorem trbP_0 {a : AB} {s n : Int32} (hW : WA a) (h : trbP a s n = 0) : ∃ s0 n0, s0 < 8 ∧ n0 ≤ (aSh a s0).2.1 ∧ (aSh a s0).2.1 ≤ 40 ∧ s = nI s0 ∧ n = nI n0 ∧ trb a s = 0 := by
  unfold trbP at h
  by_cases q : inN n 41
  · rw [if_pos q] at h
    by_cases q2 : trb a s = 0
    · rw [if_pos q2] at h
      obtain ⟨s0, hs, rfl⟩ := inN_k (by decide) (trb_in q2)
      obtain ⟨n0, hn, rfl⟩ := inN_k (by decide) q
      have h40 : (aSh a s0).2.1 ≤ 40 := by
        rcases hW.2.2.1 s0 hs with t | t | ⟨p, hp, t⟩
        · omega
        · exact t.2
        · omega
      rw [tnn (by omega)] at h
      by_cases q3 : nI n0 ≤ nI (aSh a s0).2.1
      · exact ⟨s0, n0, hs, (nI_leI (by omega) (by omega)).mp q3, h40, rfl, rfl, q2⟩
      · rw [if_neg q3] at h; exact absurd h (by decide)
    · rw [if_neg q2] at h; exact absurd h q2
  · rw [if_neg q] at h; exact absurd h (by decide)
theorem trbR_v (a : AB) (s n : Int32) : trbR a s n = 0 ∨ trbR a s n = -2 ∨ trbR a s n = -3 ∨ trbR a s n = -4 ∨ trbR a s n = -5 := by
  unfold trbR
  by_cases q : trbP a s n = 0
  · rw [if_pos q]
    by_cases q2 : wrg a.1 (elA a s) (tn n) = none
    · rw [if_pos q2]; exact Or.inl rfl
    · rw [if_neg q2]; exact Or.inr (Or.inr (Or.inr (Or.inr rfl)))
  · rw [if_neg q]
    rcases trbP_v a s n with h | h | h | h
    · exact absurd h q
    · exact Or.inr (Or.inl h)
    · exact Or.inr (Or.inr (Or.inl h))
    · exact Or.inr (Or.inr (Or.inr (Or.inl h)))
section PO9
variable {a : AB} {M : Mm}
theorem plc_w {v : CV} {r : Nat → Int64} {n : Nat} (hn : n ≤ 40) : (plc (wrg v r n) = -1) = (wrg v r n = none) := plc_eq _ fun j hj => by have := fst_lt hj; omega
theorem X7_judge (h : RC a M) (hW : WA a) (s n : Int32) : OKC (f_X7_judge s n M) M (oJudge a s n) := by
  unfold f_X7_judge oJudge
  rw [C_trbP h hW, Option.bind_some]
  by_cases q : trbP a s n = 0
  · obtain ⟨s, n, hs, hn, h40, rfl, rfl, _⟩ := trbP_0 hW q
    rw [if_pos q, if_pos q, chk_ok hs (by decide), tn_nI (by omega), C_wrong (r := (aSh a s).2.2) h.1 hW.1 (by omega) (fun i hi => C_el (h.2.2.1 s hs) h40 (by omega)), elA_n hs, tnn (show n < 2 ^ 31 by omega)]
    exact okC h
  · rw [if_neg q, if_neg q]
    exact C_refT h (by
      rcases trbP_v a s n with z | z | z | z
      · exact absurd z q
      · exact Or.inl z
      · exact Or.inr (Or.inl z)
      · exact Or.inr (Or.inr (Or.inl z)))
theorem X8_judge (h : RM a M) (hW : WA a) (s n : Int32) : OKM (f_X8_judge 69 s n M) M (oJudge a s n) := by
  unfold f_X8_judge oJudge
  rcases M_trbP h hW s n with ⟨e0, e⟩ | ⟨e0, M2, e, hR, hF⟩
  · obtain ⟨s, n, hs, hn, h40, rfl, rfl, q2⟩ := trbP_0 hW e0
    have t := trb_0 h hW hs q2
    rw [e, if_pos e0]
    simp only [Option.bind_some, bi, i00, if_true]
    rw [chk_ok hs (by decide), tn_nI (by omega), M_wrong (r := (aSh a s).2.2) h.1 hW.1 (by omega) (fun i hi => t.2.2.2.2.2 i (by omega)), elA_n hs, tnn (show n < 2 ^ 31 by omega)]
    exact okM h
  · replace e : f_X8_noPlan 69 s n M = some (M2, trbP a s n) := e
    rw [e, if_neg e0]
    simp only [Option.bind_some, bi, if_neg e0]
    exact ⟨M2, rfl, hR, hF⟩
theorem C_trbR (h : RC a M) (hW : WA a) (s n : Int32) : f_X7_troubleOfRightPlan s n M = some (trbR a s n) := by
  unfold f_X7_troubleOfRightPlan trbR
  rw [C_trbP h hW, Option.bind_some]
  by_cases q : trbP a s n = 0
  · obtain ⟨s, n, hs, hn, h40, rfl, rfl, _⟩ := trbP_0 hW q
    rw [if_pos q, if_pos q, chk_ok hs (by decide), tn_nI (by omega), C_wrong (r := (aSh a s).2.2) h.1 hW.1 (by omega) (fun i hi => C_el (h.2.2.1 s hs) h40 (by omega)), elA_n hs, tnn (show n < 2 ^ 31 by omega), Option.bind_some]
    by_cases q2 : wrg a.1 (aSh a s).2.2 n = none
    · rw [if_pos q2, if_pos (by rw [q2]; rfl), q]
    · rw [if_neg q2, if_neg (fun z => q2 ((plc_w (by omega)).mp z))]
  · rw [if_neg q, if_neg q]
theorem C_miss9 {p s n : Nat} {x : SV} {v : CV} (hV : VC 1 v M) (hp : p < 8) (hs : SC s x M) (h40 : x.2.1 ≤ 40) (hn : n ≤ x.2.1) : f_X4_daysNotFree (53 + 2 * s) (3 + p) (nI n) M = some (nI (ms9 v x.2.2 n p)) := by
  have rr := loop_run0 (fun f i (t : Nat) => f_X4_daysNotFree_L5 (53 + 2 * s) (3 + p) (nI n) M f (nI t) (nI i)) n (fun i (t : Nat) => t + (if decide (¬ hb (v.2 p 3) (x.2.2 i).toInt32) = true then 1 else 0)) nI 0 (by
    intro f i t hi
    show f_X4_daysNotFree_L5 (53 + 2 * s) (3 + p) (nI n) M (f + 1) (nI t) (nI i) = f_X4_daysNotFree_L5 (53 + 2 * s) (3 + p) (nI n) M f (nI (t + (if decide (¬ hb (v.2 p 3) (x.2.2 i).toInt32) = true then 1 else 0))) (nI (i + 1))
    rw [f_X4_daysNotFree_L5, if_neg (nI_ge hi (by omega)), C_el hs h40 (by omega), Option.bind_some, isFree_ok, VC3 hV hp (by decide), Option.bind_some]
    by_cases q : hb (v.2 p 3) (x.2.2 i).toInt32
    · rw [if_pos q, if_neg (show ¬ ((1 : Int32) = 0) by decide), if_neg (fun z => absurd q (of_decide_eq_true z)), Nat.add_zero t]
      simp only [bi, nI_1, Int32.add_zero]
    · rw [if_neg q, if_pos rfl, if_pos (decide_eq_true q)]
      simp only [bi, nI_1]) (by
    intro f t
    show f_X4_daysNotFree_L5 (53 + 2 * s) (3 + p) (nI n) M (f + 1) (nI t) (nI n) = some (nI t)
    rw [f_X4_daysNotFree_L5, if_pos (Int32.le_refl _)]) 1000 (by omega)
  have e7 : ∀ j, iter (fun i (t : Nat) => t + (if decide (¬ hb (v.2 p 3) (x.2.2 i).toInt32) = true then 1 else 0)) j 0 = ms9 v x.2.2 j p := by
    intro j
    induction j with
    | zero => rfl
    | succ j ih => show iter _ j 0 + _ = cnt _ j + _; rw [ih]; rfl
  rw [e7] at rr
  unfold f_X4_daysNotFree
  rw [show f_X4_daysNotFree_L5 (53 + 2 * s) (3 + p) (nI n) M 1000 0 0 = _ from rr]; rfl
theorem X7_leftOut (h : RC a M) (hW : WA a) (s n w : Int32) : OKC (f_X7_leftOut s n w M) M (oLeftOut a s n w) := by
  have n9 := hW.1.n9
  unfold f_X7_leftOut oLeftOut
  rw [wi_n w 1 1 rfl (by decide), C_trbR h hW]
  by_cases q0 : inN w 2
  · simp only [if_pos q0, Option.bind_some, i10, if_false]
    by_cases q : trbR a s n = 0
    · have qP : trbP a s n = 0 := by
        unfold trbR at q
        by_cases z : trbP a s n = 0
        · exact z
        · rw [if_neg z] at q; exact absurd q z
      obtain ⟨s, n, hs, hn, h40, rfl, rfl, _⟩ := trbP_0 hW qP
      rw [if_pos q, if_pos q]
      have e0 : M.1 1 1 = nI (pN a.1) := (h.1.1 1 (by decide)).trans hW.1.n
      have eE : elA a (nI s) = (aSh a s).2.2 := elA_n hs
      have rr := loop_run0 (fun f i (t : Int32 × Int32) => f_X7_leftOut_L43 (nI s) (nI n) w M f t.1 t.2 (nI i)) (pN a.1) (fun p (t : Int32 × Int32) => (t.1 + nI (ms9 a.1 (aSh a s).2.2 n p), imax t.2 (imin 99 (a.1.2 p 4 + nI (ms9 a.1 (aSh a s).2.2 n p))))) id (0, 0) (by
        intro f i t hi
        show f_X7_leftOut_L43 (nI s) (nI n) w M (f + 1) t.1 t.2 (nI i) = f_X7_leftOut_L43 (nI s) (nI n) w M f (t.1 + nI (ms9 a.1 (aSh a s).2.2 n i)) (imax t.2 (imin 99 (a.1.2 i 4 + nI (ms9 a.1 (aSh a s).2.2 n i)))) (nI (i + 1))
        have e4 : M.1 (3 + i) 4 = a.1.2 i 4 := VC3 h.1 (by omega) (by decide)
        rw [f_X7_leftOut_L43, e0, if_neg (nI_ge hi (by omega)), chk_ok hs (by decide), chk_ok (show i < 8 by omega) (by decide), tn_nI (show s < 2 ^ 31 by omega), tn_nI (show i < 2 ^ 31 by omega), C_miss9 h.1 (by omega) (h.2.2.1 s hs) h40 hn, Option.bind_some]
        unfold f_X2_outAfter
        simp only [bi, Option.bind_some, e4, nI_1]
        rw [chk_ok (show i < 8 by omega) (by decide)]) (by
        intro f t
        show f_X7_leftOut_L43 (nI s) (nI n) w M (f + 1) t.1 t.2 (nI (pN a.1)) = some t
        rw [f_X7_leftOut_L43, e0, if_pos (Int32.le_refl _)]) 1000 (by omega)
      rw [show f_X7_leftOut_L43 (nI s) (nI n) w M 1000 0 0 0 = _ from rr, eE, tnn (show n < 2 ^ 31 by omega)]
      show OKC (if w = 0 then some (M, (sLeft a.1 (aSh a s).2.2 n).1) else some (M, (sLeft a.1 (aSh a s).2.2 n).2)) M _
      by_cases q5 : w = 0
      · rw [if_pos q5, if_pos q5]; exact okC h
      · rw [if_neg q5, if_neg q5]; exact okC h
    · rw [if_neg q, if_neg q]
      exact C_refT h (by
        rcases trbR_v a s n with z | z | z | z | z
        · exact absurd z q
        · exact Or.inl z
        · exact Or.inr (Or.inl z)
        · exact Or.inr (Or.inr (Or.inl z))
        · exact Or.inr (Or.inr (Or.inr z)))
  · simp only [if_neg q0, Option.bind_some, i00, if_true, nn2, if_false]; exact C_bad h
theorem done_k (r : Nat → Int64) (v : CV) (hW : WF v) : ∀ k, WF (sDone r k v) ∧ pN (sDone r k v) = pN v ∧ (H0 v → H0 (sDone r k v)) := by
  intro k
  induction k with
  | zero => exact ⟨hW, rfl, fun z => z⟩
  | succ k ih => exact ⟨sDine_WF ih.1 _, (sDine_pN _ _).trans ih.2.1, fun z => sDine_H0 (ih.2.2 z) _⟩
theorem X7_done (h : RC a M) (hW : WA a) (s n : Int32) : OKC (f_X7_done s n M) M (oDone a s n) := by
  unfold f_X7_done oDone
  rw [C_trbR h hW, Option.bind_some]
  by_cases q : trbR a s n = 0
  · have qP : trbP a s n = 0 := by
      unfold trbR at q
      by_cases z : trbP a s n = 0
      · exact z
      · rw [if_neg z] at q; exact absurd q z
    obtain ⟨s, n, hs, hn, h40, rfl, rfl, _⟩ := trbP_0 hW qP
    rw [if_pos q, if_pos q]
    have eE : elA a (nI s) = (aSh a s).2.2 := elA_n hs
    obtain ⟨r, e1, e2⟩ := loop_ex (fun f i (M9 : Mm) => f_X7_done_L20 (nI s) (nI n) f (nI i) M9) n (fun i M9 => RC (setV a (sDone (aSh a s).2.2 i a.1)) M9 ∧ FrC M M9) (fun r => RC (setV a (sDone (aSh a s).2.2 n a.1)) r ∧ FrC M r) (by
      intro f i M9 hi h9
      have hs9 : SC s (aSh a s) M9 := h9.1.2.2.1 s hs
      have hv9 : VC 1 (sDone (aSh a s).2.2 i a.1) M9 := h9.1.1
      obtain ⟨M2, a1, a2, a3⟩ := C_dinner hv9 (done_k _ _ hW.1 i).1 ((aSh a s).2.2 i).toInt32
      refine Or.inr ⟨M2, ?_, RC_setV (a := setV a (sDone (aSh a s).2.2 i a.1)) (v := sDine (sDone (aSh a s).2.2 i a.1) ((aSh a s).2.2 i).toInt32) h9.1 a2 a3, h9.2.tr (a3.wide (by omega) (by omega))⟩
      show f_X7_done_L20 (nI s) (nI n) (f + 1) (nI i) M9 = _
      rw [f_X7_done_L20, if_neg (nI_ge hi (by omega)), chk_ok hs (by decide), tn_nI (by omega), C_el hs9 h40 (by omega), Option.bind_some, a1, Option.bind_some]
      simp only [bi, nI_1]) (by
      intro f M9 h9
      refine ⟨M9, ?_, h9⟩
      show f_X7_done_L20 (nI s) (nI n) (f + 1) (nI n) M9 = _
      rw [f_X7_done_L20, if_pos (Int32.le_refl _)]) 1000 0 M (by omega) (by omega) ⟨h, Fr.rf⟩
    rw [show f_X7_done_L20 (nI s) (nI n) 1000 0 M = some r from e1, eE, tnn (show n < 2 ^ 31 by omega), Option.bind_some]
    have e5 : r.1 1 5 = (sDone (aSh a s).2.2 n a.1).1 5 := e2.1.1.1 5 (by decide)
    rw [e5]
    exact ⟨r, rfl, e2.1, e2.2⟩
  · rw [if_neg q, if_neg q]
    exact C_refT h (by
      rcases trbR_v a s n with z | z | z | z | z
      · exact absurd z q
      · exact Or.inl z
      · exact Or.inr (Or.inl z)
      · exact Or.inr (Or.inr (Or.inl z))
      · exact Or.inr (Or.inr (Or.inr z)))
theorem M_miss9 {p s n : Nat} {r : Nat → Int64} {v : CV} (hV : VM 69 v M) (hp : p < 8) (hs : s < 8) (hn : n ≤ 40) (hr : ∀ i, i < 40 → M.2.1 (74 + s) i = r i) (w x5 x6 : Int32) : f_X8_leftOut_L103 69 (nI s) (nI n) w x5 x6 (nI p) M 1000 0 0 = some (nI (ms9 v r n p)) := by
  have rr := loop_run0 (fun f i (t : Nat) => f_X8_leftOut_L103 69 (nI s) (nI n) w x5 x6 (nI p) M f (nI t) (nI i)) n (fun i (t : Nat) => t + (if decide (¬ hb (v.2 p 3) (r i).toInt32) = true then 1 else 0)) nI 0 (by
    intro f i t hi
    show f_X8_leftOut_L103 69 (nI s) (nI n) w x5 x6 (nI p) M (f + 1) (nI t) (nI i) = f_X8_leftOut_L103 69 (nI s) (nI n) w x5 x6 (nI p) M f (nI (t + (if decide (¬ hb (v.2 p 3) (r i).toInt32) = true then 1 else 0))) (nI (i + 1))
    rw [f_X8_leftOut_L103, if_neg (nI_ge hi (by omega)), chk_ok hs (by decide), chk_ok (show i < 40 by omega) (by decide), tn_nI (show s < 2 ^ 31 by omega), tn_nI (show i < 2 ^ 31 by omega)]
    simp only [Nat.reduceAdd, hr i (by omega), M_isFree hV hp, Option.bind_some, bi, nI_1, Int32.add_zero]
    by_cases q : hb (v.2 p 3) (r i).toInt32
    · rw [if_pos q, if_neg (show ¬ ((1 : Int32) = 0) by decide), if_neg (fun z => absurd q (of_decide_eq_true z)), Nat.add_zero t]
    · rw [if_neg q, if_pos rfl, if_pos (decide_eq_true q)]) (by
    intro f t
    show f_X8_leftOut_L103 69 (nI s) (nI n) w x5 x6 (nI p) M (f + 1) (nI t) (nI n) = some (nI t)
    rw [f_X8_leftOut_L103, if_pos (Int32.le_refl _)]) 1000 (by omega)
  have e7 : ∀ j, iter (fun i (t : Nat) => t + (if decide (¬ hb (v.2 p 3) (r i).toInt32) = true then 1 else 0)) j 0 = ms9 v r j p := by
    intro j
    induction j with
    | zero => rfl
    | succ j ih => show iter _ j 0 + _ = cnt _ j + _; rw [ih]; rfl
  rw [e7] at rr
  exact rr
theorem X8_leftOut (h : RM a M) (hW : WA a) (s n w : Int32) : OKM (f_X8_leftOut 69 s n w M) M (oLeftOut a s n w) := by
  have n9 := hW.1.n9
  unfold f_X8_leftOut oLeftOut
  rw [show f_X8_in s.toInt64 0 7 = _ from in_n s 7 7 rfl (by decide), show f_X8_in n.toInt64 0 40 = _ from in_n n 40 40 rfl (by decide), show f_X8_in w.toInt64 0 1 = _ from in_n w 1 1 rfl (by decide)]
  have rbad : ¬ inN s 8 ∨ ¬ inN n 41 → trbR a s n = -2 := by
    intro z
    have e : trbP a s n = -2 := by
      unfold trbP
      by_cases z2 : inN n 41
      · rw [if_pos z2]
        have e2 : trb a s = -2 := if_neg (z.resolve_right (fun w => w z2))
        rw [e2, if_neg (by decide)]
      · rw [if_neg z2]
    unfold trbR
    rw [e, if_neg (by decide)]
  by_cases q0 : inN w 2
  · rw [if_pos q0, if_pos q0]
    by_cases qs : inN s 8
    · by_cases qn : inN n 41
      · simp only [if_pos qs, if_pos qn, Option.bind_some, i10, if_false]
        rcases M_trbP h hW s n with ⟨e0, e⟩ | ⟨e0, M2, e, hR, hF⟩
        · obtain ⟨s, n, hs, hn, h40, rfl, rfl, q2⟩ := trbP_0 hW e0
          have t := trb_0 h hW hs q2
          have eE : elA a (nI s) = (aSh a s).2.2 := elA_n hs
          have eR : trbR a (nI s) (nI n) = if wrg a.1 (aSh a s).2.2 n = none then 0 else -5 := by
            unfold trbR
            rw [if_pos e0, eE, tnn (by omega)]
          rw [e, eR, eE, tnn (show n < 2 ^ 31 by omega)]
          simp only [Option.bind_some, bi, i00, if_true]
          rw [chk_ok hs (by decide), tn_nI (by omega), M_wrong (r := (aSh a s).2.2) h.1 hW.1 (by omega) (fun i hi => t.2.2.2.2.2 i (by omega)), Option.bind_some]
          by_cases q5 : wrg a.1 (aSh a s).2.2 n = none
          · have e00 : M.1 69 10 = nI (pN a.1) := h.1.n.trans hW.1.n
            have rr := loop_run0 (fun f i (t : Int32 × Int32) => f_X8_leftOut_L88 69 (nI s) (nI n) w M f t.1 t.2 (nI i)) (pN a.1) (fun p (t : Int32 × Int32) => (t.1 + nI (ms9 a.1 (aSh a s).2.2 n p), imax t.2 (imin 99 (a.1.2 p 4 + nI (ms9 a.1 (aSh a s).2.2 n p))))) id (0, 0) (by
              intro f i z hi
              show f_X8_leftOut_L88 69 (nI s) (nI n) w M (f + 1) z.1 z.2 (nI i) = f_X8_leftOut_L88 69 (nI s) (nI n) w M f (z.1 + nI (ms9 a.1 (aSh a s).2.2 n i)) (imax z.2 (imin 99 (a.1.2 i 4 + nI (ms9 a.1 (aSh a s).2.2 n i)))) (nI (i + 1))
              have e4 : M.1 90 i = a.1.2 i 4 := h.1.p4 (by omega)
              rw [f_X8_leftOut_L88, e00, if_neg (nI_ge hi (by omega)), M_miss9 h.1 (by omega) hs (by omega) t.2.2.2.2.2, Option.bind_some]
              have k8 : ∀ {α : Type} (X : Option α), chk (nI i) 8 X = X := fun X => chk_ok (by omega) (by decide)
              have ti : (nI i).toNatClampNeg = i := tn_nI (by omega)
              simp only [Nat.reduceAdd, bi, k8, ti, e4, nI_1]
              generalize a.1.2 i 4 + nI (ms9 a.1 (aSh a s).2.2 n i) = y
              unfold imin imax
              by_cases z1 : 99 ≤ y
              · rw [if_pos z1, if_neg (i32_nlt.mpr z1)]
                by_cases z2 : 99 ≤ z.2
                · rw [if_pos z2, if_neg (i32_nlt.mpr z2)]
                · rw [if_neg z2, if_pos (i32_nle.mp z2)]
              · rw [if_neg z1, if_pos (i32_nle.mp z1)]
                by_cases z2 : y ≤ z.2
                · rw [if_pos z2, if_neg (i32_nlt.mpr z2)]
                · rw [if_neg z2, if_pos (i32_nle.mp z2)]) (by
              intro f z
              show f_X8_leftOut_L88 69 (nI s) (nI n) w M (f + 1) z.1 z.2 (nI (pN a.1)) = some z
              rw [f_X8_leftOut_L88, e00, if_pos (Int32.le_refl _)]) 1000 (by omega)
            rw [if_pos q5, if_pos rfl, q5, if_pos (show plc none = -1 from rfl), show f_X8_leftOut_L88 69 (nI s) (nI n) w M 1000 0 0 0 = _ from rr]
            show OKM (if w = 0 then some (M, (sLeft a.1 (aSh a s).2.2 n).1) else some (M, (sLeft a.1 (aSh a s).2.2 n).2)) M _
            by_cases q6 : w = 0
            · rw [if_pos q6, if_pos q6]; exact okM h
            · rw [if_neg q6, if_neg q6]; exact okM h
          · rw [if_neg q5, if_neg (show ¬ plc (wrg a.1 (aSh a s).2.2 n) = -1 from fun z => q5 ((plc_w (by omega)).mp z)), if_neg (show ¬ (-5 : Int32) = 0 by decide), refA5]
            exact M_stk h
        · replace e : f_X8_noPlan 69 s n M = some (M2, trbP a s n) := e
          have eR : trbR a s n = trbP a s n := if_neg e0
          rw [e, eR, if_neg e0]
          simp only [Option.bind_some, bi, if_neg e0]
          exact ⟨M2, rfl, hR, hF⟩
      · have eR := rbad (Or.inr qn)
        simp only [if_pos qs, if_neg qn, Option.bind_some, i10, if_false, if_true, eR, nn2, refA2]
        exact M_bad h
    · have eR := rbad (Or.inl qs)
      simp only [if_neg qs, Option.bind_some, i00, if_true, eR, nn2, if_false, refA2]
      exact M_bad h
  · rw [if_neg q0, if_neg q0]
    by_cases qs : inN s 8
    · by_cases qn : inN n 41
      · simp only [if_pos qs, if_pos qn, Option.bind_some, i10, i00, if_false, if_true]; exact M_bad h
      · simp only [if_pos qs, if_neg qn, Option.bind_some, i10, if_false, if_true]; exact M_bad h
    · simp only [if_neg qs, Option.bind_some, if_true]; exact M_bad h
theorem X8_done (h : RM a M) (hW : WA a) (s n : Int32) : OKM (f_X8_done 69 s n M) M (oDone a s n) := by
  unfold f_X8_done oDone
  rcases M_trbP h hW s n with ⟨e0, e⟩ | ⟨e0, M2, e, hR, hF⟩
  · obtain ⟨s, n, hs, hn, h40, rfl, rfl, q2⟩ := trbP_0 hW e0
    have t := trb_0 h hW hs q2
    have eE : elA a (nI s) = (aSh a s).2.2 := elA_n hs
    have eR : trbR a (nI s) (nI n) = if wrg a.1 (aSh a s).2.2 n = none then 0 else -5 := by
      unfold trbR
      rw [if_pos e0, eE, tnn (by omega)]
    rw [e, eR, eE, tnn (show n < 2 ^ 31 by omega)]
    simp only [Option.bind_some, bi, i00, if_true]
    rw [chk_ok hs (by decide), tn_nI (by omega), M_wrong (r := (aSh a s).2.2) h.1 hW.1 (by omega) (fun i hi => t.2.2.2.2.2 i (by omega)), Option.bind_some]
    by_cases q5 : wrg a.1 (aSh a s).2.2 n = none
    · obtain ⟨r, e1, e2⟩ := loop_ex (fun f i (M9 : Mm) => f_X8_done_L38 69 (nI s) (nI n) f (nI i) M9) n (fun i M9 => VM 69 (sDone (aSh a s).2.2 i a.1) M9 ∧ FrV 69 M M9) (fun r => VM 69 (sDone (aSh a s).2.2 n a.1) r ∧ FrV 69 M r) (by
        intro f i M9 hi h9
        obtain ⟨M2, a1, a2, a3⟩ := M_dinner h9.1 (done_k _ _ hW.1 i).1 ((aSh a s).2.2 i).toInt32
        have ei : M9.2.1 (74 + s) i = (aSh a s).2.2 i := by rw [h9.2.2]; exact t.2.2.2.2.2 i (by omega)
        refine Or.inr ⟨M2, ?_, a2, h9.2.tr a3⟩
        show f_X8_done_L38 69 (nI s) (nI n) (f + 1) (nI i) M9 = _
        rw [f_X8_done_L38, if_neg (nI_ge hi (by omega)), chk_ok hs (by decide), chk_ok (show i < 40 by omega) (by decide), tn_nI (show s < 2 ^ 31 by omega), tn_nI (show i < 2 ^ 31 by omega)]
        simp only [Nat.reduceAdd, ei, a1, Option.bind_some, bi, nI_1]) (by
        intro f M9 h9
        refine ⟨M9, ?_, h9⟩
        show f_X8_done_L38 69 (nI s) (nI n) (f + 1) (nI n) M9 = _
        rw [f_X8_done_L38, if_pos (Int32.le_refl _)]) 1000 0 M (by omega) (by omega) ⟨h.1, FrV.rf⟩
      rw [if_pos q5, if_pos rfl, q5, if_pos (show plc none = -1 from rfl), show f_X8_done_L38 69 (nI s) (nI n) 1000 0 M = some r from e1, Option.bind_some, e2.1.di]
      exact OKM.v h e2.1 e2.2
    · rw [if_neg q5, if_neg (show ¬ plc (wrg a.1 (aSh a s).2.2 n) = -1 from fun z => q5 ((plc_w (by omega)).mp z)), if_neg (show ¬ (-5 : Int32) = 0 by decide), refA5]
      exact M_stk h
  · replace e : f_X8_noPlan 69 s n M = some (M2, trbP a s n) := e
    have eR : trbR a s n = trbP a s n := if_neg e0
    rw [e, eR, if_neg e0]
    simp only [Option.bind_some, bi, if_neg e0]
    exact ⟨M2, rfl, hR, hF⟩
theorem W_judge (h : WB a) (s n : Int32) : WB (oJudge a s n).1 := by
  unfold oJudge
  split
  · exact h
  · exact W_refA h
theorem W_leftOut (h : WB a) (s n w : Int32) : WB (oLeftOut a s n w).1 := by
  unfold oLeftOut
  split
  · split
    · exact h
    · exact W_refA h
  · exact h
theorem W_done (h : WB a) (s n : Int32) : WB (oDone a s n).1 := by
  unfold oDone
  split
  · have k := done_k (elA a s) a.1 h.1.1 (tn n)
    exact WB_setV h k.1 (k.2.2 h.2.1) (by rw [k.2.1]; exact Nat.le_refl _)
  · exact W_refA h
end PO9
