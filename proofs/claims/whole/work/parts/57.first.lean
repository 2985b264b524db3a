/-! first -/
theorem sub_toInt {x y : Nat} (hx : x < 2 ^ 31) (hy : y < 2 ^ 31) : (nI x - nI y).toInt = (x : Int) - y := by
  rw [Int32.toInt_sub, nI_toInt hx, nI_toInt hy, Int.bmod_eq_of_le (by omega) (by omega)]
theorem sub_neg {x y : Nat} (hx : x < 2 ^ 31) (hy : y < 2 ^ 31) : (nI x - nI y < 0) = (x < y) := propext (by
  rw [Int32.lt_iff_toInt_lt, sub_toInt hx hy, show (0 : Int32).toInt = 0 from rfl]
  omega)
theorem sub_zero {x y : Nat} (hx : x < 2 ^ 31) (hy : y < 2 ^ 31) : (nI x - nI y = 0) = (x = y) := propext (by
  rw [← Int32.toInt_inj, sub_toInt hx hy, show (0 : Int32).toInt = 0 from rfl]
  omega)
theorem WF.lk {v : CV} (h : WF v) {p : Nat} (hp : p < 8) : v.2 p 2 = nI (lk v p) ∧ lk v p < 13 := (h.2.2.2.2.2 p hp).2.2.1
def pP (v : CV) : Nat → Nat
  | 0 => 1
  | k + 1 => pP v k * lk v (ordN v k)
def pX (v : CV) : Nat → Nat
  | 0 => 0
  | k + 1 => 12 * pX v k + 12 * pP v k
def meanA (v : CV) : Int32 := ((1000 * lN (pX v (pN v))) / lN (12 ^ pN v)).toInt32
def oFirst (a : AB) (x : Int32) : AB × Int32 := if -1 ≤ x ∧ x ≤ a.1.1 1 - 1 then (if pN a.1 = 0 then stk a else if x = -1 then (a, meanA a.1) else (a, nI (ordN a.1 (tn x)))) else bad a
theorem pP_le {v : CV} (hW : WF v) : ∀ k, k ≤ pN v → pP v k ≤ 12 ^ k := by
  intro k
  induction k with
  | zero => intro _; exact Nat.le_refl _
  | succ k ih =>
    intro hk
    have h1 := (hW.lk (p := ordN v k) (by have := hW.n9; have := (ordN_ok (v := v) (k := k) (by omega)).1; omega)).2
    rw [Nat.pow_succ]
    exact Nat.mul_le_mul (ih (by omega)) (by omega)
theorem pow8 {n : Nat} (h : n < 9) : 12 ^ n ≤ 429981696 := Nat.le_trans (Nat.pow_le_pow_right (by decide) (show n ≤ 8 by omega)) (by decide)
section O9
variable {a : AB} {M : Mm}
theorem C_rank {c : Nat} {v : CV} (hV : VC c v M) (hW : WF v) {p : Nat} (hp : p < pN v) : f_X1_howManyAskedBefore c (nI p) M = some (nI (rnk v p)) := by
  have h1 := hW.n
  have h2 := hW.n9
  have e : M.1 c 1 = nI (pN v) := (hV.1 1 (by decide)).trans h1
  have ep : M.1 (c + 2 + p) 2 = nI (lk v p) := (hV.2 p 2 (by omega) (by decide)).trans (hW.lk (by omega)).1
  have bp := (hW.lk (p := p) (by omega)).2
  obtain ⟨r, e1, e2⟩ := loop_ex (fun n i (s : Int32) => f_X1_howManyAskedBefore_L4 c (nI p) M n s (nI i)) (pN v) (fun i s => s = nI (cnt (fun q => decide (lx v q p)) i)) (fun r => r = nI (rnk v p)) (by
    intro n i s hi h
    subst h
    refine Or.inr ⟨nI (cnt (fun q => decide (lx v q p)) (i + 1)), ?_, rfl⟩
    show f_X1_howManyAskedBefore_L4 c (nI p) M (n + 1) _ (nI i) = _
    have ei : M.1 (c + 2 + i) 2 = nI (lk v i) := (hV.2 i 2 (by omega) (by decide)).trans (hW.lk (by omega)).1
    have bi9 := (hW.lk (p := i) (by omega)).2
    rw [f_X1_howManyAskedBefore_L4, e, if_neg (nI_ge hi (by omega)), chk_ok (by omega) (by decide), chk_ok (by omega) (by decide), tn_nI (by omega), tn_nI (by omega), ei, ep]
    rw [show cnt (fun q => decide (lx v q p)) (i + 1) = cnt (fun q => decide (lx v q p)) i + (if decide (lx v i p) = true then 1 else 0) from rfl]
    simp only [bi, nI_1, sub_neg (show lk v i < 2 ^ 31 by omega) (show lk v p < 2 ^ 31 by omega), sub_zero (show lk v i < 2 ^ 31 by omega) (show lk v p < 2 ^ 31 by omega), decide_eq_true_eq]
    by_cases q1 : lk v i < lk v p
    · rw [if_pos q1, if_pos (Or.inl q1)]
    · rw [if_neg q1]
      by_cases q2 : lk v i = lk v p
      · rw [if_pos q2]
        by_cases q3 : p ≤ i
        · rw [if_pos (nI_le q3 (by omega)), if_neg (by omega)]; rfl
        · rw [if_neg (nI_ge (by omega) (by omega)), if_pos (by omega)]
      · rw [if_neg q2, if_neg (by omega)]; rfl) (by
    intro n s h
    refine ⟨_, ?_, h⟩
    show f_X1_howManyAskedBefore_L4 c (nI p) M (n + 1) _ (nI (pN v)) = _
    rw [f_X1_howManyAskedBefore_L4, e, if_pos (Int32.le_refl _)]) 1000 0 0 (by omega) (by omega) rfl
  unfold f_X1_howManyAskedBefore
  rw [show f_X1_howManyAskedBefore_L4 c (nI p) M 1000 0 0 = some r from e1, e2]; rfl
theorem C_byLikely {c : Nat} {v : CV} (hV : VC c v M) (hW : WF v) {k : Nat} (hk : k < pN v) : f_X1_placeByLikely c (nI k) M = some (nI (ordN v k)) := by
  have h1 := hW.n
  have h2 := hW.n9
  have e : M.1 c 1 = nI (pN v) := (hV.1 1 (by decide)).trans h1
  have r := loop_fst (fun p => decide (rnk v p = k)) (fun n i => f_X1_placeByLikely_L2 c (nI k) M n (nI i)) (pN v) () nI (by
    intro n i hi
    show f_X1_placeByLikely_L2 c (nI k) M (n + 1) (nI i) = _
    rw [f_X1_placeByLikely_L2, e, if_neg (nI_ge hi (by omega)), C_rank hV hW hi]
    have hr := rnk_n (v := v) hi
    simp only [Option.bind_some, nI_eq (show rnk v i < 2 ^ 31 by omega) (show k < 2 ^ 31 by omega), decide_eq_true_eq, bi, nI_1]) (by
    intro n
    show f_X1_placeByLikely_L2 c (nI k) M (n + 1) (nI (pN v)) = _
    rw [f_X1_placeByLikely_L2, e, if_pos (Int32.le_refl _)]) 1000 0 (by omega) (by omega)
  unfold f_X1_placeByLikely
  rw [show f_X1_placeByLikely_L2 c (nI k) M 1000 0 = _ from r, obS_elim, show fstO (fun p => decide (rnk v p = k)) (pN v - 0) 0 = ordO v k from rfl, (ordN_ok hk).2.2]
  rfl
theorem pw_split {n i : Nat} (h : i < n) : 12 ^ (n - i) = 12 * 12 ^ (n - (i + 1)) := by
  rw [show n - i = (n - (i + 1)) + 1 by omega, Nat.pow_succ, Nat.mul_comm]
theorem C_meanA {c : Nat} {v : CV} (hV : VC c v M) (hW : WF v) : f_X1_meanAsked c M = some (meanA v) := by
  have h1 := hW.n
  have h2 := hW.n9
  have e : M.1 c 1 = nI (pN v) := (hV.1 1 (by decide)).trans h1
  obtain ⟨r, e1, e2⟩ := loop_ex (fun n i (s : Int64) => f_X1_meanAsked_L4 c M n s (nI i)) (pN v) (fun i s => s = lN (12 ^ i)) (fun r => r = lN (12 ^ pN v)) (by
    intro n i s hi h
    subst h
    refine Or.inr ⟨lN (12 ^ (i + 1)), ?_, rfl⟩
    show f_X1_meanAsked_L4 c M (n + 1) _ (nI i) = _
    rw [f_X1_meanAsked_L4, e, if_neg (nI_ge hi (by omega)), show (12 : Int64) = lN 12 from rfl, lN_mul]
    simp only [bl, bi, nI_1, Nat.pow_succ]) (by
    intro n s h
    refine ⟨_, ?_, h⟩
    show f_X1_meanAsked_L4 c M (n + 1) _ (nI (pN v)) = _
    rw [f_X1_meanAsked_L4, e, if_pos (Int32.le_refl _)]) 1000 0 1 (by omega) (by omega) rfl
  subst e2
  obtain ⟨r2, e3, e4⟩ := loop_ex (fun n i (s : Int64 × Int64) => f_X1_meanAsked_L32 c (lN (12 ^ pN v)) M n s.1 s.2 (nI i)) (pN v) (fun i s => s = (lN (12 ^ (pN v - i) * pP v i), lN (12 ^ (pN v - i) * pX v i))) (fun r => r = lN (pX v (pN v))) (by
    intro n i s hi h
    subst h
    refine Or.inr ⟨_, ?_, rfl⟩
    show f_X1_meanAsked_L32 c (lN (12 ^ pN v)) M (n + 1) (lN (12 ^ (pN v - i) * pP v i)) (lN (12 ^ (pN v - i) * pX v i)) (nI i) = f_X1_meanAsked_L32 c (lN (12 ^ pN v)) M n (lN (12 ^ (pN v - (i + 1)) * pP v (i + 1))) (lN (12 ^ (pN v - (i + 1)) * pX v (i + 1))) (nI (i + 1))
    obtain ⟨o1, o2, o3⟩ := ordN_ok hi
    have ei : M.1 (c + 2 + ordN v i) 2 = nI (lk v (ordN v i)) := (hV.2 _ 2 (by omega) (by decide)).trans (hW.lk (by omega)).1
    have bl9 := (hW.lk (p := ordN v i) (by omega)).2
    have io : inN (nI (ordN v i)) (pN v) := (inN_nI (by omega) (by omega)).mpr o1
    have bA : 12 ^ (pN v - i) * pP v i ≤ 12 ^ pN v := by
      refine Nat.le_trans (Nat.mul_le_mul_left _ (pP_le hW i (by omega))) ?_
      rw [← Nat.pow_add, Nat.sub_add_cancel (by omega)]
      exact Nat.le_refl _
    have bA2 := pow8 h2
    have bA3 : 12 ^ (pN v - i) * pP v i * lk v (ordN v i) ≤ 429981696 * 12 := Nat.mul_le_mul (by omega) (by omega)
    have eA : 12 ^ (pN v - i) * pP v i * lk v (ordN v i) / 12 = 12 ^ (pN v - (i + 1)) * pP v (i + 1) := by
      rw [pw_split hi, show pP v (i + 1) = pP v i * lk v (ordN v i) from rfl, Nat.mul_assoc, Nat.mul_assoc, Nat.mul_div_cancel_left _ (by decide)]
    have eB : 12 ^ (pN v - i) * pX v i + 12 ^ (pN v - i) * pP v i = 12 ^ (pN v - (i + 1)) * pX v (i + 1) := by
      rw [pw_split hi, show pX v (i + 1) = 12 * pX v i + 12 * pP v i from rfl, Nat.mul_add, Nat.mul_left_comm _ 12 (pX v i), Nat.mul_left_comm _ 12 (pP v i), Nat.mul_assoc, Nat.mul_assoc]
    rw [f_X1_meanAsked_L32, e, if_neg (nI_ge hi (by omega)), C_byLikely hV hW hi]
    simp only [bl, bi, Option.bind_some, C_hasPerson hV hW, if_pos io, i10, if_false, nI_1, lN_add]
    rw [chk_ok (by omega) (by decide), tn_nI (by omega), ei, nI_l (by omega), lN_mul, show (12 : Int64) = lN 12 from rfl, pk_lDiv (by omega) (by decide) (by decide), eA, eB]) (by
    intro n s h
    refine ⟨_, ?_, rfl⟩
    subst h
    show f_X1_meanAsked_L32 c (lN (12 ^ pN v)) M (n + 1) _ _ (nI (pN v)) = _
    rw [f_X1_meanAsked_L32, e, if_pos (Int32.le_refl _)]
    show some (lN (12 ^ (pN v - pN v) * pX v (pN v))) = _
    rw [Nat.sub_self, Nat.pow_zero, Nat.one_mul]) 1000 0 (lN (12 ^ pN v), 0) (by omega) (by omega) (by
    rw [Nat.sub_zero, show pP v 0 = 1 from rfl, show pX v 0 = 0 from rfl, Nat.mul_one, Nat.mul_zero]; rfl)
  have nz : ¬ lN (12 ^ pN v) = 0 := by
    have h3 := pow8 h2
    have h4 : 0 < 12 ^ pN v := Nat.pow_pos (by decide)
    rw [show (0 : Int64) = lN 0 from rfl, lN_eq (by omega) (by decide)]
    omega
  unfold f_X1_meanAsked
  rw [show f_X1_meanAsked_L4 c M 1000 1 0 = _ from e1, Option.bind_some, show f_X1_meanAsked_L32 c (lN (12 ^ pN v)) M 1000 (lN (12 ^ pN v)) 0 0 = some r2 from e3, e4, Option.bind_some]
  unfold chZ
  rw [if_neg nz]; rfl
theorem X7_first (h : RC a M) (hW : WA a) (x : Int32) : OKC (f_X7_first x M) M (oFirst a x) := by
  have h2 := hW.1.n9
  have e : M.1 1 1 = a.1.1 1 := h.1.1 1 (by decide)
  have e2 : (a.1.1 1 = 0) = (pN a.1 = 0) := n0 hW.1
  unfold f_X7_first oFirst
  rw [e, within_ok]
  by_cases q : -1 ≤ x ∧ x ≤ a.1.1 1 - 1
  · simp only [if_pos q, Option.bind_some, i10, if_false, e2]
    by_cases q1 : pN a.1 = 0
    · simp only [if_pos q1]; exact C_stk h
    · by_cases q3 : x = -1
      · simp only [if_neg q1, if_pos q3]; rw [C_meanA h.1 hW.1]; exact okC h
      · have q4 : inN x (pN a.1) := by
          have q5 := q.2
          rw [hW.1.n, nI_pred_le (by omega)] at q5
          refine ⟨?_, q5⟩
          have q6 := q.1
          rw [Int32.le_iff_toInt_le] at q6 ⊢
          have q7 : x.toInt ≠ (-1 : Int32).toInt := fun z => q3 (Int32.toInt_inj.mp z)
          have q8 : (-1 : Int32).toInt = -1 := rfl
          have q9 : (0 : Int32).toInt = 0 := rfl
          omega
        obtain ⟨k, hk, rfl⟩ := inN_k (by omega) q4
        simp only [if_neg q1, if_neg q3, C_byLikely h.1 hW.1 hk, Option.bind_some, tnn (show k < 2 ^ 31 by omega)]
        exact okC h
  · simp only [if_neg q, Option.bind_some, i00, if_true]; exact C_bad h
end O9
