section CR
variable {c : Nat} {v : CV} {M : Mm}
theorem C_thereOn (hV : VC c v M) (hW : WF v) (d : Int32) : f_X1_thereOn c d M = some (sThere v d) := by
  have h1 := hW.n
  have h2 := hW.n9
  have h3 := hW.d
  have h4 := hW.d15
  have hL := loop_run0 (fun n i (s : Int32) => f_X1_thereOn_L4 c d M n (s) (nI i)) (pN v) (fun p b => if hb (v.2 p 3) d then b ||| (1 <<< (nI p &&& 31)) else b) id 0 (by
    intro n i s hi
    show f_X1_thereOn_L4 c d M (n + 1) (s) (nI i) = f_X1_thereOn_L4 c d M n (((fun p b => if hb (v.2 p 3) d then b ||| (1 <<< (nI p &&& 31)) else b) i s)) (nI (i + 1))
    rw [f_X1_thereOn_L4]
    simp (disch := omega) only [nI_leF hi, hV.1, hV.2, h1, h3, isFree_ok, Option.bind_some, bi, bl, bm, nI_1, ite01, ite_not, chk_ok, tn_nI, nI_eq, Int32.or_zero, Int32.add_zero, Int32.and_self, reduceIte, if_true, if_false]
    repeat' split
    all_goals first | rfl | contradiction | (simp_all; done)
    ) (by
    intro n s
    show f_X1_thereOn_L4 c d M (n + 1) (s) (nI (pN v)) = some s
    rw [f_X1_thereOn_L4]
    simp (disch := omega) only [nI_leT (Nat.le_refl _), hV.1, hV.2, h1, h3, isFree_ok, Option.bind_some, bi, bl, bm, nI_1, ite01, ite_not, chk_ok, tn_nI, nI_eq, Int32.or_zero, Int32.add_zero, Int32.and_self, reduceIte, if_true, if_false]
    ) 1000 (by omega)
  unfold f_X1_thereOn
  rw [show f_X1_thereOn_L4 c d M 1000 (0) 0 = _ from hL]
  rfl
theorem C_howManyOn (hV : VC c v M) (hW : WF v) (d : Int32) : f_X1_howManyOn c d M = some (sHow v d) := by
  unfold f_X1_howManyOn
  simp only [C_thereOn hV hW, bc_ok, Option.bind_some]
theorem C_daysWithAtLeast (hV : VC c v M) (hW : WF v) (k : Int32) : f_X1_daysWithAtLeast c k M = some (sWith v k) := by
  have h1 := hW.n
  have h2 := hW.n9
  have h3 := hW.d
  have h4 := hW.d15
  have hL := loop_run0 (fun n i (s : Int32) => f_X1_daysWithAtLeast_L4 c k M n (s) (nI i)) (dN v) (fun d b => if sHow v (nI d) < k then b else b ||| (1 <<< (nI d &&& 31))) id 0 (by
    intro n i s hi
    show f_X1_daysWithAtLeast_L4 c k M (n + 1) (s) (nI i) = f_X1_daysWithAtLeast_L4 c k M n (((fun d b => if sHow v (nI d) < k then b else b ||| (1 <<< (nI d &&& 31))) i s)) (nI (i + 1))
    rw [f_X1_daysWithAtLeast_L4]
    simp (disch := omega) only [nI_leF hi, hV.1, hV.2, h1, h3, isFree_ok, C_howManyOn hV hW, Option.bind_some, bi, bl, bm, nI_1, ite01, ite_not, chk_ok, tn_nI, nI_eq, Int32.or_zero, Int32.add_zero, Int32.and_self, reduceIte, if_true, if_false]
    repeat' split
    all_goals first | rfl | contradiction | (simp_all; done)
    ) (by
    intro n s
    show f_X1_daysWithAtLeast_L4 c k M (n + 1) (s) (nI (dN v)) = some s
    rw [f_X1_daysWithAtLeast_L4]
    simp (disch := omega) only [nI_leT (Nat.le_refl _), hV.1, hV.2, h1, h3, isFree_ok, C_howManyOn hV hW, Option.bind_some, bi, bl, bm, nI_1, ite01, ite_not, chk_ok, tn_nI, nI_eq, Int32.or_zero, Int32.add_zero, Int32.and_self, reduceIte, if_true, if_false]
    ) 1000 (by omega)
  unfold f_X1_daysWithAtLeast
  rw [show f_X1_daysWithAtLeast_L4 c k M 1000 (0) 0 = _ from hL]
  rfl
theorem C_allDays (hV : VC c v M) (hW : WF v) : f_X1_allDays c M = some (sDays v) := by
  unfold f_X1_allDays
  rw [hV.1 0 (by decide)]
theorem C_daysOfAllBut (hV : VC c v M) (hW : WF v) (x : Int32) : f_X1_daysOfAllBut c x M = some (sAllBut v x) := by
  have h1 := hW.n
  have h2 := hW.n9
  have h3 := hW.d
  have h4 := hW.d15
  have hL := loop_run0 (fun n i (s : Int32) => f_X1_daysOfAllBut_L7 c x M n (s) (nI i)) (pN v) (fun p b => if nI p = x then b else b &&& v.2 p 3) id (sDays v) (by
    intro n i s hi
    show f_X1_daysOfAllBut_L7 c x M (n + 1) (s) (nI i) = f_X1_daysOfAllBut_L7 c x M n (((fun p b => if nI p = x then b else b &&& v.2 p 3) i s)) (nI (i + 1))
    rw [f_X1_daysOfAllBut_L7]
    simp (disch := omega) only [nI_leF hi, hV.1, hV.2, h1, h3, isFree_ok, Option.bind_some, bi, bl, bm, nI_1, ite01, ite_not, chk_ok, tn_nI, nI_eq, Int32.or_zero, Int32.add_zero, Int32.and_self, reduceIte, if_true, if_false]
    repeat' split
    all_goals first | rfl | contradiction | (simp_all; done)
    ) (by
    intro n s
    show f_X1_daysOfAllBut_L7 c x M (n + 1) (s) (nI (pN v)) = some s
    rw [f_X1_daysOfAllBut_L7]
    simp (disch := omega) only [nI_leT (Nat.le_refl _), hV.1, hV.2, h1, h3, isFree_ok, Option.bind_some, bi, bl, bm, nI_1, ite01, ite_not, chk_ok, tn_nI, nI_eq, Int32.or_zero, Int32.add_zero, Int32.and_self, reduceIte, if_true, if_false]
    ) 1000 (by omega)
  unfold f_X1_daysOfAllBut
  rw [C_allDays hV hW, Option.bind_some, show f_X1_daysOfAllBut_L7 c x M 1000 (sDays v) 0 = _ from hL]
  rfl
theorem C_howManyShare (hV : VC c v M) (hW : WF v) {p : Nat} (hp : p < 8) : f_X1_howManyShare c (nI p) M = some (sShare v p) := by
  have h1 := hW.n
  have h2 := hW.n9
  have h3 := hW.d
  have h4 := hW.d15
  have hL := loop_run0 (fun n i (s : Int32) => f_X1_howManyShare_L4 c (nI p) M n (s) (nI i)) (pN v) (fun q s => if q = p then s else if v.2 q 3 &&& v.2 p 3 = 0 then s else s + 1) id 0 (by
    intro n i s hi
    show f_X1_howManyShare_L4 c (nI p) M (n + 1) (s) (nI i) = f_X1_howManyShare_L4 c (nI p) M n (((fun q s => if q = p then s else if v.2 q 3 &&& v.2 p 3 = 0 then s else s + 1) i s)) (nI (i + 1))
    rw [f_X1_howManyShare_L4]
    simp (disch := omega) only [nI_leF hi, hV.1, hV.2, h1, h3, isFree_ok, Option.bind_some, bi, bl, bm, nI_1, ite01, ite_not, chk_ok, tn_nI, nI_eq, Int32.or_zero, Int32.add_zero, Int32.and_self, reduceIte, if_true, if_false]
    repeat' split
    all_goals first | rfl | contradiction | (simp_all; done)
    ) (by
    intro n s
    show f_X1_howManyShare_L4 c (nI p) M (n + 1) (s) (nI (pN v)) = some s
    rw [f_X1_howManyShare_L4]
    simp (disch := omega) only [nI_leT (Nat.le_refl _), hV.1, hV.2, h1, h3, isFree_ok, Option.bind_some, bi, bl, bm, nI_1, ite01, ite_not, chk_ok, tn_nI, nI_eq, Int32.or_zero, Int32.add_zero, Int32.and_self, reduceIte, if_true, if_false]
    ) 1000 (by omega)
  unfold f_X1_howManyShare
  rw [show f_X1_howManyShare_L4 c (nI p) M 1000 (0) 0 = _ from hL]
  rfl
theorem C_outTogether (hV : VC c v M) (hW : WF v) : f_X1_outTogether c M = some (sOut v) := by
  have h1 := hW.n
  have h2 := hW.n9
  have h3 := hW.d
  have h4 := hW.d15
  have hL := loop_run0 (fun n i (s : Int32) => f_X1_outTogether_L4 c M n (s) (nI i)) (pN v) (fun p s => s + v.2 p 4) id 0 (by
    intro n i s hi
    show f_X1_outTogether_L4 c M (n + 1) (s) (nI i) = f_X1_outTogether_L4 c M n (((fun p s => s + v.2 p 4) i s)) (nI (i + 1))
    rw [f_X1_outTogether_L4]
    simp (disch := omega) only [nI_leF hi, hV.1, hV.2, h1, h3, isFree_ok, Option.bind_some, bi, bl, bm, nI_1, ite01, ite_not, chk_ok, tn_nI, nI_eq, Int32.or_zero, Int32.add_zero, Int32.and_self, reduceIte, if_true, if_false]
    repeat' split
    all_goals first | rfl | contradiction | (simp_all; done)
    ) (by
    intro n s
    show f_X1_outTogether_L4 c M (n + 1) (s) (nI (pN v)) = some s
    rw [f_X1_outTogether_L4]
    simp (disch := omega) only [nI_leT (Nat.le_refl _), hV.1, hV.2, h1, h3, isFree_ok, Option.bind_some, bi, bl, bm, nI_1, ite01, ite_not, chk_ok, tn_nI, nI_eq, Int32.or_zero, Int32.add_zero, Int32.and_self, reduceIte, if_true, if_false]
    ) 1000 (by omega)
  unfold f_X1_outTogether
  rw [show f_X1_outTogether_L4 c M 1000 (0) 0 = _ from hL]
  rfl
theorem C_oddsToday (hV : VC c v M) (hW : WF v) (d : Int32) : f_X1_oddsToday c d M = some (sToday v d) := by
  unfold f_X1_oddsToday sToday
  simp only [C_howManyOn hV hW, Option.bind_some, hV.1 1 (by decide)]
  split <;> rfl
theorem twelfths_ok (x k : Int32) : f_X7_twelfths x k = some (x * k / 12) := rfl
theorem C_oddsNextDay (hV : VC c v M) (hW : WF v) (x : Int32) : f_X1_oddsNextDay c x M = some (sNext v x) := by
  have h1 := hW.n
  have h2 := hW.n9
  have h3 := hW.d
  have h4 := hW.d15
  have hL := loop_run0 (fun n i (s : Int32) => f_X1_oddsNextDay_L4 c M n (s) (nI i)) (pN v) (fun _ s => s * (12 - v.1 4) / 12) id x (by
    intro n i s hi
    show f_X1_oddsNextDay_L4 c M (n + 1) (s) (nI i) = f_X1_oddsNextDay_L4 c M n (((fun _ s => s * (12 - v.1 4) / 12) i s)) (nI (i + 1))
    rw [f_X1_oddsNextDay_L4]
    simp (disch := omega) only [nI_leF hi, hV.1, hV.2, h1, h3, isFree_ok, twelfths_ok, Option.bind_some, bi, bl, bm, nI_1, ite01, ite_not, chk_ok, tn_nI, nI_eq, Int32.or_zero, Int32.add_zero, Int32.and_self, reduceIte, if_true, if_false]
    repeat' split
    all_goals first | rfl | contradiction | (simp_all; done)
    ) (by
    intro n s
    show f_X1_oddsNextDay_L4 c M (n + 1) (s) (nI (pN v)) = some s
    rw [f_X1_oddsNextDay_L4]
    simp (disch := omega) only [nI_leT (Nat.le_refl _), hV.1, hV.2, h1, h3, isFree_ok, twelfths_ok, Option.bind_some, bi, bl, bm, nI_1, ite01, ite_not, chk_ok, tn_nI, nI_eq, Int32.or_zero, Int32.add_zero, Int32.and_self, reduceIte, if_true, if_false]
    ) 1000 (by omega)
  unfold f_X1_oddsNextDay
  rw [show f_X1_oddsNextDay_L4 c M 1000 (x) 0 = _ from hL]
  rfl
end CR
