/-! bits of small numbers -/
theorem nI_shr {m j : Nat} (hm : m < 2 ^ 31) (hj : j < 32) : nI m >>> (nI j &&& 31) = nI (m >>> j) := by
  have h2 : (nI j &&& 31) = nI j := by
    rw [show (31 : Int32) = nI 31 from rfl, nI_and]
    congr 1
    exact (by decide +kernel : ∀ j, j < 32 → j &&& 31 = j) j hj
  rw [h2]
  apply Int32.toBitVec_inj.mp
  show (BitVec.ofNat 32 m).sshiftRight ((BitVec.ofNat 32 j).smod 32).toNat = BitVec.ofNat 32 (m >>> j)
  have h3 : ((BitVec.ofNat 32 j).smod 32).toNat = j := (by decide +kernel : ∀ j, j < 32 → ((BitVec.ofNat 32 j).smod 32).toNat = j) j hj
  rw [h3]
  have h4 : (BitVec.ofNat 32 m).msb = false := by
    rw [BitVec.msb_eq_decide]
    simp
    omega
  rw [BitVec.sshiftRight_eq_of_msb_false h4]
  apply BitVec.eq_of_toNat_eq
  rw [BitVec.toNat_ushiftRight, BitVec.toNat_ofNat, BitVec.toNat_ofNat, Nat.mod_eq_of_lt (by omega), Nat.mod_eq_of_lt]
  exact Nat.lt_of_le_of_lt (Nat.shiftRight_le m j) (by omega)
theorem hb_nI {m j : Nat} (hm : m < 2 ^ 31) (hj : j < 32) : hb (nI m) (nI j) ↔ m.testBit j = true := by
  unfold hb
  rw [nI_shr hm hj, show (1 : Int32) = nI 1 from rfl, nI_and, nI_eq (Nat.lt_of_le_of_lt Nat.and_le_right (by decide)) (by decide)]
  rw [Nat.testBit, Nat.and_comm]
  have h := Nat.and_one_is_mod (m >>> j)
  rw [Nat.and_comm] at h
  rw [h]
  have := Nat.mod_two_eq_zero_or_one (m >>> j)
  rcases this with h | h <;> simp [h]
theorem hb_sm {x : Int32} {n j : Nat} (hn : n ≤ 2 ^ 31) (hx : sm x n) (hj : j < 32) : hb x (nI j) ↔ (tn x).testBit j = true := by
  have h := hb_nI (m := tn x) (by have := hx.2; omega) hj
  rw [← hx.1] at h
  exact h
/-- a set of days made of one day after another -/
def mkS (Q : Nat → Bool) (N : Nat) : Int32 := iter (fun d b => if Q d = true then b ||| (1 <<< (nI d &&& 31)) else b) N 0
theorem mkS_spec (Q : Nat → Bool) : ∀ N, N ≤ 15 → ∃ m, mkS Q N = nI m ∧ m < 2 ^ N ∧ ∀ j, m.testBit j = (decide (j < N) && Q j) := by
  intro N
  induction N with
  | zero => intro _; exact ⟨0, rfl, by decide, fun j => by simp⟩
  | succ N ih =>
    intro hN
    obtain ⟨m, h1, h2, h3⟩ := ih (by omega)
    have h1' : iter (fun d b => if Q d = true then b ||| (1 <<< (nI d &&& 31)) else b) N (0 : Int32) = nI m := h1
    show ∃ m, (if Q N = true then iter (fun d b => if Q d = true then b ||| (1 <<< (nI d &&& 31)) else b) N (0 : Int32) ||| (1 <<< (nI N &&& 31)) else iter (fun d b => if Q d = true then b ||| (1 <<< (nI d &&& 31)) else b) N (0 : Int32)) = nI m ∧ _
    rw [h1']
    by_cases q : Q N = true
    · refine ⟨m ||| 2 ^ N, ?_, Nat.or_lt_two_pow (Nat.lt_trans h2 (Nat.pow_lt_pow_right (by decide) (by omega))) (Nat.pow_lt_pow_right (by decide) (by omega)), fun j => ?_⟩
      · rw [if_pos q, shl_ok N (by omega), nI_or]
      · rw [Nat.testBit_or, h3, Nat.testBit_two_pow]
        by_cases hj : N = j
        · subst hj; simp [q]
        · simp only [hj, decide_false, Bool.or_false]
          by_cases h5 : j < N
          · simp [h5, Nat.lt_succ_of_lt h5]
          · simp [h5, show ¬ j < N + 1 by omega]
    · refine ⟨m, if_neg q, Nat.lt_trans h2 (Nat.pow_lt_pow_right (by decide) (by omega)), fun j => ?_⟩
      rw [h3]
      by_cases hj : N = j
      · subst hj; simp [q]
      · by_cases h5 : j < N
        · simp [h5, Nat.lt_succ_of_lt h5]
        · simp [h5, show ¬ j < N + 1 by omega]
theorem mkS_hb (Q : Nat → Bool) {N j : Nat} (hN : N ≤ 15) (hj : j < 32) : hb (mkS Q N) (nI j) ↔ j < N ∧ Q j = true := by
  obtain ⟨m, h1, h2, h3⟩ := mkS_spec Q N hN
  have : 2 ^ N ≤ 2 ^ 15 := Nat.pow_le_pow_right (by decide) hN
  rw [h1, hb_nI (by omega) hj, h3]
  simp
theorem mkS_sm (Q : Nat → Bool) {N : Nat} (hN : N ≤ 15) : sm (mkS Q N) (2 ^ N) := by
  obtain ⟨m, h1, h2, h3⟩ := mkS_spec Q N hN
  have : 2 ^ N ≤ 2 ^ 15 := Nat.pow_le_pow_right (by decide) hN
  rw [h1]
  exact sm_nI h2 (by omega)
theorem sThere_mk (v : CV) (d : Int32) : sThere v d = mkS (fun p => decide (hb (v.2 p 3) d)) (pN v) := by
  unfold sThere mkS
  congr 1
  funext p b
  simp only [decide_eq_true_eq]
theorem sWith_mk (v : CV) (k : Int32) : sWith v k = mkS (fun d => decide (¬ sHow v (nI d) < k)) (dN v) := by
  unfold sWith mkS
  congr 1
  funext d b
  simp only [decide_eq_true_eq, ite_not]
theorem pcF_lt : ∀ (k j x : Nat), x < 2 ^ j → pcF k x ≤ j := by
  intro k
  induction k with
  | zero => intro j x _; exact Nat.zero_le _
  | succ k ih =>
    intro j x h
    cases j with
    | zero =>
      have : x = 0 := by simpa using h
      subst this
      rw [pcF_0]; exact Nat.le_refl _
    | succ j =>
      rw [pcF_s]
      have := ih j (x / 2) (by rw [Nat.pow_succ] at h; omega)
      omega
theorem bc_sm {x : Int32} {j : Nat} (hj : j ≤ 14) (h : sm x (2 ^ j)) : sm (bc x) (j + 1) := by
  have h9 : 2 ^ j ≤ 2 ^ 14 := Nat.pow_le_pow_right (by decide) hj
  rw [h.1, bc_pc (by have := h.2; omega)]
  exact sm_nI (Nat.lt_succ_of_le (pcF_lt 14 j _ h.2)) (by omega)
theorem sHow_sm {v : CV} (hW : WF v) (d : Int32) : sm (sHow v d) (pN v + 1) := by
  have := hW.n9
  unfold sHow
  rw [sThere_mk]
  exact bc_sm (by omega) (mkS_sm _ (by omega))
/-- the first of the greatest -/
def amax (f : Nat → Int32) : Nat → Nat
  | 0 => 0
  | k + 1 => if k = 0 then 0 else if f (amax f k) < f k then k else amax f k
theorem amax_lt (f : Nat → Int32) : ∀ k, 0 < k → amax f k < k := by
  intro k
  induction k with
  | zero => intro h; omega
  | succ k ih =>
    intro _
    show (if k = 0 then 0 else if f (amax f k) < f k then k else amax f k) < k + 1
    by_cases h : k = 0
    · rw [if_pos h]; omega
    · rw [if_neg h]
      have := ih (by omega)
      split <;> omega
theorem amax_s {f : Nat → Int32} {k : Nat} (h : 0 < k) : amax f (k + 1) = if f (amax f k) < f k then k else amax f k := if_neg (by omega)
theorem amax_congr {f g : Nat → Int32} (N : Nat) (h : ∀ k, k < N → f k = g k) : amax f N = amax g N := by
  induction N with
  | zero => rfl
  | succ k ih =>
    have h1 := ih (fun j hj => h j (Nat.lt_succ_of_lt hj))
    show (if k = 0 then 0 else if f (amax f k) < f k then k else amax f k) = (if k = 0 then 0 else if g (amax g k) < g k then k else amax g k)
    by_cases hk : k = 0
    · rw [if_pos hk, if_pos hk]
    · have h2 := amax_lt g k (Nat.pos_of_ne_zero hk)
      rw [if_neg hk, if_neg hk, h1, h k (Nat.lt_succ_self k), h (amax g k) (Nat.lt_succ_of_lt h2)]
theorem VC3 {v : CV} {M : Mm} (h : VC 1 v M) {p k : Nat} (hp : p < 8) (hk : k < 5) : M.1 (3 + p) k = v.2 p k := h.2 p k hp hk
theorem imax_eq (x y : Int32) : imax x y = if y ≤ x then x else y := by
  unfold imax
  by_cases h : x < y
  · rw [if_pos h, if_neg (i32_nle.mpr h)]
  · rw [if_neg h, if_pos (i32_nlt.mp h)]
theorem imin_eq (x y : Int32) : imin x y = if x ≤ y then x else y := by
  unfold imin
  by_cases h : y < x
  · rw [if_pos h, if_neg (i32_nle.mpr h)]
  · rw [if_neg h, if_pos (i32_nlt.mp h)]
theorem not_lt_le {x y : Int32} : (¬ x < y) = (y ≤ x) := propext i32_nlt
theorem lt7 (r : Int32) (n : Nat) (k : Int32) (h : nI n = k) (hn : n + 1 < 2 ^ 31) : (0 ≤ r ∧ r ≤ k) = inN r (n + 1) := by
  subst h
  rw [le_nI hn]
/-! specifications -/
def sFree (v : CV) : Int32 := iter (fun p s => s + bc (v.2 p 3)) (pN v) 0
def sAlone (v : CV) : Int32 := iter (fun p b => if sShare v p = 0 then b ||| (1 <<< (nI p &&& 31)) else b) (pN v) 0
def sRun (v : CV) : Int32 × Int32 := iter (fun d s => ((if v.1 3 ≤ sHow v (nI d) then s.1 + 1 else 0), imax s.2 (if v.1 3 ≤ sHow v (nI d) then s.1 + 1 else 0))) (dN v) (0, 0)
def sSpread (v : CV) : Int32 × Int32 := iter (fun p s => (imin s.1 (v.2 p 4), imax s.2 (v.2 p 4))) (pN v) (99, 0)
def sPairI (v : CV) (p : Nat) (s : Int32 × Int32) : Int32 × Int32 := iter (fun i s => if bc (v.2 p 3 &&& v.2 (p + 1 + i) 3) ≤ s.2 then s else (10 * nI p + nI (p + 1 + i), bc (v.2 p 3 &&& v.2 (p + 1 + i) 3))) (pN v - (p + 1)) s
def sPairs (v : CV) : Int32 × Int32 := iter (fun p s => sPairI v p s) (pN v) (-1, -1)
def sButN (v : CV) (p : Nat) : Int32 := bc (sAllBut v (nI p))
section R3
variable {b : Nat} {v : CV} {M : Mm}
theorem C_alone (hV : VC 1 v M) (hW : WF v) : f_X7_alone M = some (sAlone v) := by
  have h1 := hW.n
  have h2 := hW.n9
  have h3 := hW.d
  have h4 := hW.d15
  have hL := loop_run0 (fun n i (s : Int32) => f_X7_alone_L4 M n (s) (nI i)) (pN v) (fun p b => if sShare v p = 0 then b ||| (1 <<< (nI p &&& 31)) else b) id 0 (by
    intro n i s hi
    show f_X7_alone_L4 M (n + 1) (s) (nI i) = f_X7_alone_L4 M n (((fun p b => if sShare v p = 0 then b ||| (1 <<< (nI p &&& 31)) else b) i s)) (nI (i + 1))
    rw [f_X7_alone_L4]
    simp (disch := omega) only [nI_leF hi, hV.1, hV.2, VC3 hV, h1, h3, isFree_ok, bc_ok, C_howManyShare hV hW, Option.bind_some, bi, bl, bm, nI_1, ite01, ite_not, chk_ok, tn_nI, nI_eq, Int32.or_zero, Int32.add_zero, Int32.and_self, reduceIte, if_true, if_false]
    repeat' split
    all_goals first | rfl | contradiction | (simp_all; done)
    ) (by
    intro n s
    show f_X7_alone_L4 M (n + 1) (s) (nI (pN v)) = some s
    rw [f_X7_alone_L4]
    simp (disch := omega) only [nI_leT (Nat.le_refl _), hV.1, hV.2, VC3 hV, h1, h3, isFree_ok, bc_ok, C_howManyShare hV hW, Option.bind_some, bi, bl, bm, nI_1, ite01, ite_not, chk_ok, tn_nI, nI_eq, Int32.or_zero, Int32.add_zero, Int32.and_self, reduceIte, if_true, if_false]
    ) 1000 (by omega)
  unfold f_X7_alone
  rw [show f_X7_alone_L4 M 1000 (0) 0 = _ from hL]
  rfl
theorem M_alone (hV : VM b v M) (hW : WF v) : f_X8_alone b M = some (sAlone v) := by
  have h1 := hW.n
  have h2 := hW.n9
  have h3 := hW.d
  have h4 := hW.d15
  have hL := loop_run0 (fun n i (s : Int32) => f_X8_alone_L4 b M n (s) (nI i)) (pN v) (fun p b => if sShare v p = 0 then b ||| (1 <<< (nI p &&& 31)) else b) id 0 (by
    intro n i s hi
    show f_X8_alone_L4 b M (n + 1) (s) (nI i) = f_X8_alone_L4 b M n (((fun p b => if sShare v p = 0 then b ||| (1 <<< (nI p &&& 31)) else b) i s)) (nI (i + 1))
    rw [f_X8_alone_L4]
    simp (disch := omega) only [nI_leF hi, hV.n, hV.d, hV.p0, hV.p1, hV.p2, hV.p3, hV.p4, hV.ho, hV.le, hV.lo, h1, h3, M_reachOf hV hW, Option.bind_some, bi, bl, bm, nI_1, ite01, ite_not, chk_ok, tn_nI, nI_eq, Int32.or_zero, Int32.add_zero, Int32.and_self, reduceIte, if_true, if_false]
    repeat' split
    all_goals first | rfl | contradiction | (simp_all; done)
    ) (by
    intro n s
    show f_X8_alone_L4 b M (n + 1) (s) (nI (pN v)) = some s
    rw [f_X8_alone_L4]
    simp (disch := omega) only [nI_leT (Nat.le_refl _), hV.n, hV.d, hV.p0, hV.p1, hV.p2, hV.p3, hV.p4, hV.ho, hV.le, hV.lo, h1, h3, M_reachOf hV hW, Option.bind_some, bi, bl, bm, nI_1, ite01, ite_not, chk_ok, tn_nI, nI_eq, Int32.or_zero, Int32.add_zero, Int32.and_self, reduceIte, if_true, if_false]
    ) 1000 (by omega)
  unfold f_X8_alone
  rw [show f_X8_alone_L4 b M 1000 (0) 0 = _ from hL]
  rfl
theorem M_freeNow (hV : VM b v M) (hW : WF v) : f_X8_freeNow b M = some (sFree v) := by
  have h1 := hW.n
  have h2 := hW.n9
  have hL := loop_run0 (fun n i (s : Int32) => f_X8_freeNow_L4 b M n s (nI i)) (pN v) (fun p s => s + bc (v.2 p 3)) id 0 (by
    intro n i s hi
    show f_X8_freeNow_L4 b M (n + 1) s (nI i) = f_X8_freeNow_L4 b M n (s + bc (v.2 i 3)) (nI (i + 1))
    rw [f_X8_freeNow_L4]
    simp (disch := omega) only [nI_leF hi, hV.n, hV.p3, h1, bits_ok (hW.f (p := i) (by omega)), Option.bind_some, bi, nI_1, chk_ok, tn_nI, reduceIte]) (by
    intro n s
    show f_X8_freeNow_L4 b M (n + 1) s (nI (pN v)) = some s
    rw [f_X8_freeNow_L4]
    simp (disch := omega) only [nI_leT (Nat.le_refl _), hV.n, h1, reduceIte]) 1000 (by omega)
  unfold f_X8_freeNow
  rw [show f_X8_freeNow_L4 b M 1000 0 0 = _ from hL]
  rfl
theorem C_mean (hV : VC 1 v M) (hW : WF v) : f_X7_mean M = some (1000 * sFree v / v.1 0) := by
  have h1 := hW.n
  have h2 := hW.n9
  have h3 := hW.d
  have h4 := hW.d15
  have hL := loop_run0 (fun n i (s : Int32) => f_X7_mean_L17 M n (s) (nI i)) (pN v) (fun p s => s + bc (v.2 p 3)) id 0 (by
    intro n i s hi
    show f_X7_mean_L17 M (n + 1) (s) (nI i) = f_X7_mean_L17 M n (((fun p s => s + bc (v.2 p 3)) i s)) (nI (i + 1))
    rw [f_X7_mean_L17]
    simp (disch := omega) only [nI_leF hi, hV.1, hV.2, VC3 hV, h1, h3, isFree_ok, bc_ok, Option.bind_some, bi, bl, bm, nI_1, ite01, ite_not, chk_ok, tn_nI, nI_eq, Int32.or_zero, Int32.add_zero, Int32.and_self, reduceIte, if_true, if_false]
    repeat' split
    all_goals first | rfl | contradiction | (simp_all; done)
    ) (by
    intro n s
    show f_X7_mean_L17 M (n + 1) (s) (nI (pN v)) = some s
    rw [f_X7_mean_L17]
    simp (disch := omega) only [nI_leT (Nat.le_refl _), hV.1, hV.2, VC3 hV, h1, h3, isFree_ok, bc_ok, Option.bind_some, bi, bl, bm, nI_1, ite01, ite_not, chk_ok, tn_nI, nI_eq, Int32.or_zero, Int32.add_zero, Int32.and_self, reduceIte, if_true, if_false]
    ) 1000 (by omega)
  have h5 := hW.d1
  unfold f_X7_mean
  rw [hV.1 0 (by decide), h3, if_pos (show (1 : Int32) ≤ nI (dN v) from nI_le (a := 1) h5 (by omega)), show f_X7_mean_L17 M 1000 0 0 = _ from hL]
  exact if_neg (nI_ne0 (by omega) (by omega))
theorem M_mean (hV : VM b v M) (hW : WF v) : f_X8_mean b M = some (1000 * sFree v / v.1 0) := by
  have h3 := hW.d
  have h4 := hW.d15
  have h5 := hW.d1
  unfold f_X8_mean
  rw [M_freeNow hV hW, hV.d, h3]
  exact if_neg (nI_ne0 (by omega) (by omega))
theorem hb_with {v : CV} (hW : WF v) {i : Nat} (hi : i < 32) (k : Int32) : hb (sWith v k) (nI i) ↔ i < dN v ∧ k ≤ sHow v (nI i) := by
  have := hW.d15
  rw [sWith_mk, mkS_hb _ (by omega) hi]
  simp only [decide_eq_true_eq, i32_nlt]
theorem C_run (hV : VC 1 v M) (hW : WF v) : f_X7_run M = some (sRun v).2 := by
  have h3 := hW.d
  have h4 := hW.d15
  have hL := loop_run0 (fun n i (s : Int32 × Int32) => f_X7_run_L22 (sWith v (v.1 3)) M n s.1 s.2 (nI i)) (dN v) (fun d s => ((if v.1 3 ≤ sHow v (nI d) then s.1 + 1 else 0), imax s.2 (if v.1 3 ≤ sHow v (nI d) then s.1 + 1 else 0))) (fun s => s.2) (0, 0) (by
    intro n i s hi
    have hq := hb_with hW (i := i) (by omega) (v.1 3)
    simp only [hi, true_and] at hq
    show f_X7_run_L22 (sWith v (v.1 3)) M (n + 1) s.1 s.2 (nI i) = f_X7_run_L22 (sWith v (v.1 3)) M n (if v.1 3 ≤ sHow v (nI i) then s.1 + 1 else 0) (imax s.2 (if v.1 3 ≤ sHow v (nI i) then s.1 + 1 else 0)) (nI (i + 1))
    rw [f_X7_run_L22]
    simp (disch := omega) only [nI_leF hi, hV.1, h3, hasBit_ok, Option.bind_some, bi, nI_1, ite01, ite_not, reduceIte, hq]
    by_cases h : v.1 3 ≤ sHow v (nI i)
    · simp only [if_pos h]
    · simp only [if_neg h]) (by
    intro n s
    show f_X7_run_L22 (sWith v (v.1 3)) M (n + 1) s.1 s.2 (nI (dN v)) = some s.2
    rw [f_X7_run_L22]
    simp (disch := omega) only [nI_leT (Nat.le_refl _), hV.1, h3, reduceIte]) 1000 (by omega)
  unfold f_X7_run
  rw [hV.1 3 (by decide), C_daysWithAtLeast hV hW, Option.bind_some, show f_X7_run_L22 (sWith v (v.1 3)) M 1000 0 0 0 = _ from hL]
  rfl
theorem M_run (hV : VM b v M) (hW : WF v) : f_X8_run b M = some (sRun v).2 := by
  have h3 := hW.d
  have h4 := hW.d15
  have hL := loop_run0 (fun n i (s : Int32 × Int32) => f_X8_run_L6 b M n s.2 s.1 (nI i)) (dN v) (fun d s => ((if v.1 3 ≤ sHow v (nI d) then s.1 + 1 else 0), imax s.2 (if v.1 3 ≤ sHow v (nI d) then s.1 + 1 else 0))) (fun s => s.2) (0, 0) (by
    intro n i s hi
    show f_X8_run_L6 b M (n + 1) s.2 s.1 (nI i) = f_X8_run_L6 b M n (imax s.2 (if v.1 3 ≤ sHow v (nI i) then s.1 + 1 else 0)) (if v.1 3 ≤ sHow v (nI i) then s.1 + 1 else 0) (nI (i + 1))
    rw [f_X8_run_L6]
    simp (disch := omega) only [nI_leF hi, hV.d, h3, M_mayDine hV hW, Option.bind_some, bi, nI_1, ite01, ite_not, reduceIte]
    by_cases h : v.1 3 ≤ sHow v (nI i)
    · simp only [if_pos h, imax_eq]
      split <;> rfl
    · simp only [if_neg h, imax_eq]
      split <;> rfl) (by
    intro n s
    show f_X8_run_L6 b M (n + 1) s.2 s.1 (nI (dN v)) = some s.2
    rw [f_X8_run_L6]
    simp (disch := omega) only [nI_leT (Nat.le_refl _), hV.d, h3, reduceIte]) 1000 (by omega)
  unfold f_X8_run
  rw [show f_X8_run_L6 b M 1000 0 0 0 = _ from hL]
  rfl
theorem C_spread (hV : VC 1 v M) (hW : WF v) : f_X7_spread M = some (if pN v = 0 then 0 else (sSpread v).2 - (sSpread v).1) := by
  have h1 := hW.n
  have h2 := hW.n9
  have h3 := hW.d
  have h4 := hW.d15
  have hL := loop_run0 (fun n i (s : Int32 × Int32) => f_X7_spread_L19 M n (s.1) (s.2) (nI i)) (pN v) (fun p s => (imin s.1 (v.2 p 4), imax s.2 (v.2 p 4))) id (99, 0) (by
    intro n i s hi
    show f_X7_spread_L19 M (n + 1) (s.1) (s.2) (nI i) = f_X7_spread_L19 M n (((fun p s => (imin s.1 (v.2 p 4), imax s.2 (v.2 p 4))) i s).1) (((fun p s => (imin s.1 (v.2 p 4), imax s.2 (v.2 p 4))) i s).2) (nI (i + 1))
    rw [f_X7_spread_L19]
    simp (disch := omega) only [nI_leF hi, hV.1, hV.2, VC3 hV, h1, h3, isFree_ok, bc_ok, Option.bind_some, bi, bl, bm, nI_1, ite01, ite_not, chk_ok, tn_nI, nI_eq, Int32.or_zero, Int32.add_zero, Int32.and_self, reduceIte, if_true, if_false]
    repeat' split
    all_goals first | rfl | contradiction | (simp_all; done)
    ) (by
    intro n s
    show f_X7_spread_L19 M (n + 1) (s.1) (s.2) (nI (pN v)) = some s
    rw [f_X7_spread_L19]
    simp (disch := omega) only [nI_leT (Nat.le_refl _), hV.1, hV.2, VC3 hV, h1, h3, isFree_ok, bc_ok, Option.bind_some, bi, bl, bm, nI_1, ite01, ite_not, chk_ok, tn_nI, nI_eq, Int32.or_zero, Int32.add_zero, Int32.and_self, reduceIte, if_true, if_false]
    ) 1000 (by omega)
  unfold f_X7_spread
  rw [hV.1 1 (by decide), h1]
  by_cases h : pN v = 0
  · rw [if_pos h, h]; rfl
  · rw [if_neg h, if_neg (nI_ne0 (by omega) (by omega)), show f_X7_spread_L19 M 1000 99 0 0 = _ from hL]
    rfl
theorem M_spread (hV : VM b v M) (hW : WF v) : f_X8_spread b M = some (if pN v = 0 then 0 else (sSpread v).2 - (sSpread v).1) := by
  have h1 := hW.n
  have h2 := hW.n9
  have h3 := hW.d
  have h4 := hW.d15
  have hL := loop_run0 (fun n i (s : Int32 × Int32) => f_X8_spread_L7 b M n (s.1) (s.2) (nI i)) (pN v) (fun p s => (imin s.1 (v.2 p 4), imax s.2 (v.2 p 4))) id (99, 0) (by
    intro n i s hi
    show f_X8_spread_L7 b M (n + 1) (s.1) (s.2) (nI i) = f_X8_spread_L7 b M n (((fun p s => (imin s.1 (v.2 p 4), imax s.2 (v.2 p 4))) i s).1) (((fun p s => (imin s.1 (v.2 p 4), imax s.2 (v.2 p 4))) i s).2) (nI (i + 1))
    rw [f_X8_spread_L7]
    simp (disch := omega) only [nI_leF hi, hV.n, hV.d, hV.p0, hV.p1, hV.p2, hV.p3, hV.p4, hV.ho, hV.le, hV.lo, h1, h3, imin_eq, imax_eq, Option.bind_some, bi, bl, bm, nI_1, ite01, ite_not, chk_ok, tn_nI, nI_eq, Int32.or_zero, Int32.add_zero, Int32.and_self, reduceIte, if_true, if_false]
    repeat' split
    all_goals first | rfl | contradiction | (simp_all; done)
    ) (by
    intro n s
    show f_X8_spread_L7 b M (n + 1) (s.1) (s.2) (nI (pN v)) = some s
    rw [f_X8_spread_L7]
    simp (disch := omega) only [nI_leT (Nat.le_refl _), hV.n, hV.d, hV.p0, hV.p1, hV.p2, hV.p3, hV.p4, hV.ho, hV.le, hV.lo, h1, h3, imin_eq, imax_eq, Option.bind_some, bi, bl, bm, nI_1, ite01, ite_not, chk_ok, tn_nI, nI_eq, Int32.or_zero, Int32.add_zero, Int32.and_self, reduceIte, if_true, if_false]
    ) 1000 (by omega)
  unfold f_X8_spread
  rw [show f_X8_spread_L7 b M 1000 99 0 0 = _ from hL]
  show (if M.1 b 10 = 0 then some 0 else some ((sSpread v).2 - (sSpread v).1)) = _
  rw [hV.n, h1]
  by_cases h : pN v = 0
  · rw [if_pos h, h]; rfl
  · rw [if_neg h, if_neg (nI_ne0 (by omega) (by omega))]
end R3
