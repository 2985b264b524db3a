theorem shl_ok : ∀ p, p < 15 → (1 : Int32) <<< (nI p &&& 31) = nI (2 ^ p) := by decide +kernel
theorem sm.mono {x : Int32} {n m : Nat} (h : sm x n) (hn : n ≤ m) : sm x m := ⟨h.1, Nat.lt_of_lt_of_le h.2 hn⟩
theorem sm_or {x y : Int32} {k : Nat} (hk : k < 32) (hx : sm x (2 ^ k)) (hy : sm y (2 ^ k)) : sm (x ||| y) (2 ^ k) := by
  rw [hx.1, hy.1, nI_or]
  exact sm_nI (Nat.or_lt_two_pow hx.2 hy.2) (Nat.pow_le_pow_right (by decide) (by omega))
theorem sm_and {x y : Int32} {n m : Nat} (hn : n ≤ 2 ^ 31) (hx : sm x n) (hy : sm y m) : sm (x &&& y) n := by
  rw [hx.1, hy.1, nI_and]
  exact sm_nI (Nat.lt_of_le_of_lt Nat.and_le_left hx.2) hn
theorem sm0 {n : Nat} (h : 0 < n) (hn : n ≤ 2 ^ 31) : sm 0 n := sm_nI (k := 0) h hn
theorem bits_ok {x : Int32} (h : sm x 16384) : f_X8_bits x = some (bc x) := by
  have h1 := bits_nI h.2
  rw [← h.1] at h1
  exact h1
theorem iter_inv {σ : Type} {g : Nat → σ → σ} {s0 : σ} {N : Nat} (I : Nat → σ → Prop) (h0 : I 0 s0) (hs : ∀ i s, i < N → I i s → I (i + 1) (g i s)) : ∀ k, k ≤ N → I k (iter g k s0) := by
  intro k
  induction k with
  | zero => intro _; exact h0
  | succ k ih => intro hk; exact hs k _ (by omega) (ih (by omega))
theorem WF.f {v : CV} (hW : WF v) {p : Nat} (hp : p < 8) : sm (v.2 p 3) 16384 := (hW.2.2.2.2.2 p hp).2.2.2.1
theorem sThere_sm {v : CV} (hW : WF v) (d : Int32) : sm (sThere v d) 256 := by
  have h2 := hW.n9
  refine iter_inv (N := pN v) (fun _ s => sm s (2 ^ 8)) (sm0 (by decide) (by decide)) (fun i s hi h => ?_) (pN v) (Nat.le_refl _)
  split
  · rw [shl_ok i (by omega)]
    exact sm_or (by decide) h (sm_nI (Nat.pow_lt_pow_right (by decide) (by omega)) (by decide))
  · exact h
theorem sDays_sm {v : CV} (hW : WF v) : sm (sDays v) 16384 := by
  have h : ∀ d, d < 15 → sm ((1 <<< (nI d &&& 31)) - 1 : Int32) 16384 := by unfold sm; decide +kernel
  unfold sDays
  rw [hW.d]
  exact h _ hW.d15
theorem sAllBut_sm {v : CV} (hW : WF v) (x : Int32) : sm (sAllBut v x) 16384 := by
  have h2 := hW.n9
  refine iter_inv (N := pN v) (fun _ s => sm s 16384) (sDays_sm hW) (fun i s hi h => ?_) (pN v) (Nat.le_refl _)
  split
  · exact h
  · exact sm_and (by decide) h (hW.f (by omega))
theorem in_0 (x b : Int32) : f_X8_in x.toInt64 0 b.toInt64 = some (if 0 ≤ x ∧ x ≤ b then 1 else 0) := in_ok32 x 0 b
section MR
variable {b : Nat} {v : CV} {M : Mm}
theorem M_isOne (hV : VM b v M) (hW : WF v) (x : Int32) : f_X8_isOne b x M = some (if inN x (pN v) then 1 else 0) := by
  have h2 := hW.n9
  unfold f_X8_isOne
  rw [hV.n, hW.n, in_0]
  simp (disch := omega) only [Option.bind_some, chb_ok, nI_pred_le]
theorem M_isDay (hV : VM b v M) (hW : WF v) (x : Int32) : f_X8_isDay b x.toInt64 M = some (if inN x (dN v) then 1 else 0) := by
  have h2 := hW.d15
  unfold f_X8_isDay
  rw [hV.d, hW.d, in_0]
  simp (disch := omega) only [Option.bind_some, chb_ok, nI_pred_le]
theorem C_hasPerson {c : Nat} (hV : VC c v M) (hW : WF v) (x : Int32) : f_X1_hasPerson c x M = some (if inN x (pN v) then 1 else 0) := by
  have h2 := hW.n9
  unfold f_X1_hasPerson
  rw [hV.1 1 (by decide), hW.n, within_ok]
  simp (disch := omega) only [Option.bind_some, chb_ok, nI_pred_le]
theorem C_hasDay {c : Nat} (hV : VC c v M) (hW : WF v) (x : Int32) : f_X1_hasDay c x M = some (if inN x (dN v) then 1 else 0) := by
  have h2 := hW.d15
  unfold f_X1_hasDay
  rw [hV.1 0 (by decide), hW.d, within_ok]
  simp (disch := omega) only [Option.bind_some, chb_ok, nI_pred_le]
theorem M_isFree (hV : VM b v M) {p : Nat} (hp : p < 8) (d : Int32) : f_X8_isFree b (nI p) d M = some (if hb (v.2 p 3) d then 1 else 0) := by
  unfold f_X8_isFree
  rw [chk_ok hp (by decide), tn_nI (by omega), hV.p3 hp]
  by_cases h : hb (v.2 p 3) d
  · rw [if_neg ((and1_ne _).mpr h), if_pos h]
  · rw [if_pos (Classical.byContradiction fun z => h ((and1_ne _).mp z)), if_neg h]
theorem M_thereOn (hV : VM b v M) (hW : WF v) (d : Int32) : f_X8_thereOn b d M = some (sThere v d) := by
  have h1 := hW.n
  have h2 := hW.n9
  have h3 := hW.d
  have h4 := hW.d15
  have hL := loop_run0 (fun n i (s : Int32) => f_X8_thereOn_L4 b d M n (s) (nI i)) (pN v) (fun p b => if hb (v.2 p 3) d then b ||| (1 <<< (nI p &&& 31)) else b) id 0 (by
    intro n i s hi
    show f_X8_thereOn_L4 b d M (n + 1) (s) (nI i) = f_X8_thereOn_L4 b d M n (((fun p b => if hb (v.2 p 3) d then b ||| (1 <<< (nI p &&& 31)) else b) i s)) (nI (i + 1))
    rw [f_X8_thereOn_L4]
    simp (disch := omega) only [nI_leF hi, hV.n, hV.d, hV.p0, hV.p1, hV.p2, hV.p3, hV.p4, hV.ho, hV.le, hV.lo, h1, h3, M_isFree hV, Option.bind_some, bi, bl, bm, nI_1, ite01, ite_not, chk_ok, tn_nI, nI_eq, Int32.or_zero, Int32.add_zero, Int32.and_self, reduceIte, if_true, if_false]
    repeat' split
    all_goals first | rfl | contradiction | (simp_all; done)
    ) (by
    intro n s
    show f_X8_thereOn_L4 b d M (n + 1) (s) (nI (pN v)) = some s
    rw [f_X8_thereOn_L4]
    simp (disch := omega) only [nI_leT (Nat.le_refl _), hV.n, hV.d, hV.p0, hV.p1, hV.p2, hV.p3, hV.p4, hV.ho, hV.le, hV.lo, h1, h3, M_isFree hV, Option.bind_some, bi, bl, bm, nI_1, ite01, ite_not, chk_ok, tn_nI, nI_eq, Int32.or_zero, Int32.add_zero, Int32.and_self, reduceIte, if_true, if_false]
    ) 1000 (by omega)
  unfold f_X8_thereOn
  rw [show f_X8_thereOn_L4 b d M 1000 (0) 0 = _ from hL]
  rfl
theorem M_how (hV : VM b v M) (hW : WF v) (d : Int32) : f_X8_bits (sThere v d) = some (sHow v d) := bits_ok ((sThere_sm hW d).mono (by decide))
theorem M_daysWith (hV : VM b v M) (hW : WF v) (k : Int32) : f_X8_daysWith b k M = some (sWith v k) := by
  have h1 := hW.n
  have h2 := hW.n9
  have h3 := hW.d
  have h4 := hW.d15
  have hL := loop_run0 (fun n i (s : Int32) => f_X8_daysWith_L4 b k M n (s) (nI i)) (dN v) (fun d b => if sHow v (nI d) < k then b else b ||| (1 <<< (nI d &&& 31))) id 0 (by
    intro n i s hi
    show f_X8_daysWith_L4 b k M (n + 1) (s) (nI i) = f_X8_daysWith_L4 b k M n (((fun d b => if sHow v (nI d) < k then b else b ||| (1 <<< (nI d &&& 31))) i s)) (nI (i + 1))
    rw [f_X8_daysWith_L4]
    simp (disch := omega) only [nI_leF hi, hV.n, hV.d, hV.p0, hV.p1, hV.p2, hV.p3, hV.p4, hV.ho, hV.le, hV.lo, h1, h3, M_thereOn hV hW, M_how hV hW, Option.bind_some, bi, bl, bm, nI_1, ite01, ite_not, chk_ok, tn_nI, nI_eq, Int32.or_zero, Int32.add_zero, Int32.and_self, reduceIte, if_true, if_false]
    repeat' split
    all_goals first | rfl | contradiction | (simp_all; done)
    ) (by
    intro n s
    show f_X8_daysWith_L4 b k M (n + 1) (s) (nI (dN v)) = some s
    rw [f_X8_daysWith_L4]
    simp (disch := omega) only [nI_leT (Nat.le_refl _), hV.n, hV.d, hV.p0, hV.p1, hV.p2, hV.p3, hV.p4, hV.ho, hV.le, hV.lo, h1, h3, M_thereOn hV hW, M_how hV hW, Option.bind_some, bi, bl, bm, nI_1, ite01, ite_not, chk_ok, tn_nI, nI_eq, Int32.or_zero, Int32.add_zero, Int32.and_self, reduceIte, if_true, if_false]
    ) 1000 (by omega)
  unfold f_X8_daysWith
  rw [show f_X8_daysWith_L4 b k M 1000 (0) 0 = _ from hL]
  rfl
theorem M_allBut (hV : VM b v M) (hW : WF v) (x : Int32) : f_X8_allBut b x M = some (sAllBut v x) := by
  have h1 := hW.n
  have h2 := hW.n9
  have h3 := hW.d
  have h4 := hW.d15
  have hL := loop_run0 (fun n i (s : Int32) => f_X8_allBut_L11 b x M n (s) (nI i)) (pN v) (fun p b => if nI p = x then b else b &&& v.2 p 3) id (sDays v) (by
    intro n i s hi
    show f_X8_allBut_L11 b x M (n + 1) (s) (nI i) = f_X8_allBut_L11 b x M n (((fun p b => if nI p = x then b else b &&& v.2 p 3) i s)) (nI (i + 1))
    rw [f_X8_allBut_L11]
    simp (disch := omega) only [nI_leF hi, hV.n, hV.d, hV.p0, hV.p1, hV.p2, hV.p3, hV.p4, hV.ho, hV.le, hV.lo, h1, h3, Option.bind_some, bi, bl, bm, nI_1, ite01, ite_not, chk_ok, tn_nI, nI_eq, Int32.or_zero, Int32.add_zero, Int32.and_self, reduceIte, if_true, if_false]
    repeat' split
    all_goals first | rfl | contradiction | (simp_all; done)
    ) (by
    intro n s
    show f_X8_allBut_L11 b x M (n + 1) (s) (nI (pN v)) = some s
    rw [f_X8_allBut_L11]
    simp (disch := omega) only [nI_leT (Nat.le_refl _), hV.n, hV.d, hV.p0, hV.p1, hV.p2, hV.p3, hV.p4, hV.ho, hV.le, hV.lo, h1, h3, Option.bind_some, bi, bl, bm, nI_1, ite01, ite_not, chk_ok, tn_nI, nI_eq, Int32.or_zero, Int32.add_zero, Int32.and_self, reduceIte, if_true, if_false]
    ) 1000 (by omega)
  unfold f_X8_allBut
  rw [hV.d]
  simp only [bi]
  rw [show f_X8_allBut_L11 b x M 1000 ((1 <<< (v.1 0 &&& 31)) - 1) 0 = _ from hL]
  rfl
theorem M_reachOf (hV : VM b v M) (hW : WF v) {p : Nat} (hp : p < 8) : f_X8_reachOf b (nI p) M = some (sShare v p) := by
  have h1 := hW.n
  have h2 := hW.n9
  have h3 := hW.d
  have h4 := hW.d15
  have hL := loop_run0 (fun n i (s : Int32) => f_X8_reachOf_L4 b (nI p) M n (s) (nI i)) (pN v) (fun q s => if q = p then s else if v.2 q 3 &&& v.2 p 3 = 0 then s else s + 1) id 0 (by
    intro n i s hi
    show f_X8_reachOf_L4 b (nI p) M (n + 1) (s) (nI i) = f_X8_reachOf_L4 b (nI p) M n (((fun q s => if q = p then s else if v.2 q 3 &&& v.2 p 3 = 0 then s else s + 1) i s)) (nI (i + 1))
    rw [f_X8_reachOf_L4]
    simp (disch := omega) only [nI_leF hi, hV.n, hV.d, hV.p0, hV.p1, hV.p2, hV.p3, hV.p4, hV.ho, hV.le, hV.lo, h1, h3, Int32.and_comm (v.2 p 3), Option.bind_some, bi, bl, bm, nI_1, ite01, ite_not, chk_ok, tn_nI, nI_eq, Int32.or_zero, Int32.add_zero, Int32.and_self, reduceIte, if_true, if_false]
    repeat' split
    all_goals first | rfl | contradiction | (simp_all; done)
    ) (by
    intro n s
    show f_X8_reachOf_L4 b (nI p) M (n + 1) (s) (nI (pN v)) = some s
    rw [f_X8_reachOf_L4]
    simp (disch := omega) only [nI_leT (Nat.le_refl _), hV.n, hV.d, hV.p0, hV.p1, hV.p2, hV.p3, hV.p4, hV.ho, hV.le, hV.lo, h1, h3, Int32.and_comm (v.2 p 3), Option.bind_some, bi, bl, bm, nI_1, ite01, ite_not, chk_ok, tn_nI, nI_eq, Int32.or_zero, Int32.add_zero, Int32.and_self, reduceIte, if_true, if_false]
    ) 1000 (by omega)
  unfold f_X8_reachOf
  rw [show f_X8_reachOf_L4 b (nI p) M 1000 (0) 0 = _ from hL]
  rfl
theorem M_mayDine (hV : VM b v M) (hW : WF v) (d : Int32) : f_X8_mayDine b d M = some (if v.1 3 ≤ sHow v d then 1 else 0) := by
  unfold f_X8_mayDine
  simp only [M_thereOn hV hW, Option.bind_some, M_how hV hW, hV.le]
  by_cases h : sHow v d < v.1 3
  · rw [if_pos h, if_neg (i32_nle.mpr h)]
  · rw [if_neg h, if_pos (i32_nlt.mp h)]
end MR
