/-! what a row of days is worth -/
def mvO (v : CV) (k : Nat) (r : Rw) : Int32 := iter (fun i (s : Int32) => s ||| sThere v (nI (gt9 r i))) k 0
def mvV (v : CV) (k : Nat) (r : Rw) : Nat := tn (bc (mvO v k r))
def miss9 (v : CV) (p : Nat) (r : Rw) (k : Nat) : Nat := cnt (fun i => decide (¬ hb (v.2 p 3) (nI (gt9 r i)))) k
def outN9 (v : CV) (k p : Nat) (r : Rw) : Nat := min 99 (tn (v.2 p 4) + miss9 v p r k)
def fvN (v : CV) (k : Nat) (r : Rw) (p : Nat) : Nat × Nat := iter (fun p (s : Nat × Nat) => (max s.1 (outN9 v k p r), s.2 + outN9 v k p r)) p (0, 0)
def fvV (v : CV) (k : Nat) (r : Rw) : Nat := if pN v < 9 then (fvN v k r (pN v)).1 * 1000 + (fvN v k r (pN v)).2 else 0
theorem mvO_sm {v : CV} (hW : WF v) (r : Rw) : ∀ k, sm (mvO v k r) (2 ^ 8) := by
  intro k
  induction k with
  | zero => exact sm0 (by decide) (by decide)
  | succ k ih => exact sm_or (k := 8) (by decide) ih (sThere_sm hW _)
theorem mvV_e {v : CV} (hW : WF v) (k : Nat) (r : Rw) : bc (mvO v k r) = nI (mvV v k r) ∧ mvV v k r < 9 := bc_sm (j := 8) (by decide) (mvO_sm hW r k)
theorem miss_le (v : CV) (p : Nat) (r : Rw) (k : Nat) : miss9 v p r k ≤ k := cnt_le _ k
theorem fvN_b (v : CV) (k : Nat) (r : Rw) : ∀ p, (fvN v k r p).1 ≤ 99 ∧ (fvN v k r p).2 ≤ 99 * p := by
  intro p
  induction p with
  | zero => exact ⟨Nat.zero_le _, Nat.zero_le _⟩
  | succ p ih =>
    have h : outN9 v k p r ≤ 99 := Nat.min_le_left _ _
    show max (fvN v k r p).1 (outN9 v k p r) ≤ 99 ∧ (fvN v k r p).2 + outN9 v k p r ≤ 99 * (p + 1)
    exact ⟨Nat.max_le.mpr ⟨ih.1, h⟩, by omega⟩
theorem fvV_b (v : CV) (k : Nat) (r : Rw) : fvV v k r < 100000 := by
  have h := fvN_b v k r (pN v)
  unfold fvV
  split
  · omega
  · decide
theorem mvV_b (v : CV) (k : Nat) (r : Rw) : (if mvV v k r < 9 then mvV v k r else 0) < 100000 := by
  split
  · omega
  · decide
def mvW (v : CV) (k : Nat) (r : Rw) : Nat := if mvV v k r < 9 then mvV v k r else 0
theorem mvW_e {v : CV} (hW : WF v) (k : Nat) (r : Rw) : bc (mvO v k r) = nI (mvW v k r) := by
  have h := mvV_e hW k r
  unfold mvW
  rw [if_pos h.2]; exact h.1
abbrev btM : Nat → Nat → Bool := fun a b => decide (b < a)
abbrev btF : Nat → Nat → Bool := fun a b => decide (a < b)
abbrev woF : Nat → Int32 := fun n => -nI n
theorem neg_toInt {n : Nat} (h : n < 2 ^ 31) : (-nI n).toInt = -(n : Int) := by
  rw [Int32.toInt_neg, nI_toInt h, Int.bmod_eq_of_le (by omega) (by omega)]
theorem w1M : ∀ a b, a < 100000 → b < 100000 → (nI a ≤ nI b ↔ ¬ btM a b = true) := by
  intro a b ha hb
  rw [nI_leI (by omega) (by omega), decide_eq_true_eq]; omega
theorem w2M : ∀ a, a < 100000 → ¬ nI a ≤ -1000000 := by
  intro a ha h
  have h1 : (0 : Int32) ≤ nI a := nI_pos' (by omega)
  exact absurd (Int32.le_trans h1 h) (by decide)
theorem w1F : ∀ a b, a < 100000 → b < 100000 → (woF a ≤ woF b ↔ ¬ btF a b = true) := by
  intro a b ha hb
  rw [Int32.le_iff_toInt_le, neg_toInt (by omega), neg_toInt (by omega), decide_eq_true_eq]; omega
theorem w2F : ∀ a, a < 100000 → ¬ woF a ≤ -1000000 := by
  intro a ha
  rw [Int32.le_iff_toInt_le, neg_toInt (by omega)]
  have : (-1000000 : Int32).toInt = -1000000 := by decide
  omega
theorem imin_N {a b : Nat} (ha : a < 2 ^ 31) (hb : b < 2 ^ 31) : imin (nI a) (nI b) = nI (min a b) := by
  unfold imin
  by_cases q : b < a
  · rw [if_pos (nI_lt q ha), Nat.min_eq_right (Nat.le_of_lt q)]
  · rw [if_neg (nI_nlt (by omega) hb), Nat.min_eq_left (by omega)]
theorem imax_N {a b : Nat} (ha : a < 2 ^ 31) (hb : b < 2 ^ 31) : imax (nI a) (nI b) = nI (max a b) := by
  unfold imax
  by_cases q : a < b
  · rw [if_pos (nI_lt q hb), Nat.max_eq_right (Nat.le_of_lt q)]
  · rw [if_neg (nI_nlt (by omega) ha), Nat.max_eq_left (by omega)]
theorem nI_mul9 (a b : Nat) : nI a * nI b = nI (a * b) := (Int32.ofNat_mul a b).symm
def ansM (o : Nat × Rw) (i : Int32) : Int32 := if i = -1 then nI o.1 else nI (gt9 o.2 (tn i))
def ansF (o : Nat × Rw) (i : Int32) : Int32 := if i = -1 then nI (o.1 / 1000) else nI (gt9 o.2 (tn i))
def bestM (v : CV) (k : Nat) : Nat × Rw := (bRow k (dN v) btM (mvW v k)).getD (0, 0, 0, 0)
def bestF (v : CV) (k : Nat) : Nat × Rw := (bRow k (dN v) btF (fvV v k)).getD (0, 0, 0, 0)
def oMeet (a : AB) (k : Nat) (i : Int32) : AB × Int32 := if -1 ≤ i ∧ i ≤ nI k - 1 then (if dN a.1 < k then stk a else (a, ansM (bestM a.1 k) i)) else bad a
def oFair (a : AB) (k i : Int32) : AB × Int32 := if 1 ≤ k ∧ k ≤ 3 then (if -1 ≤ i ∧ i ≤ k - 1 then (if dN a.1 < tn k then stk a else if pN a.1 = 0 then stk a else (a, ansF (bestF a.1 (tn k)) i)) else bad a) else bad a
theorem bestM_e {v : CV} {k : Nat} (h1 : 1 ≤ k) (h3 : k ≤ 3) (hk : k ≤ dN v) (h15 : dN v < 15) : bRow k (dN v) btM (mvW v k) = some (bestM v k) := by
  obtain ⟨o, e⟩ := bRow_some h1 h3 hk h15 btM (mvW v k)
  unfold bestM
  rw [e]; rfl
theorem bestF_e {v : CV} {k : Nat} (h1 : 1 ≤ k) (h3 : k ≤ 3) (hk : k ≤ dN v) (h15 : dN v < 15) : bRow k (dN v) btF (fvV v k) = some (bestF v k) := by
  obtain ⟨o, e⟩ := bRow_some h1 h3 hk h15 btF (fvV v k)
  unfold bestF
  rw [e]; rfl
theorem bestF_b {v : CV} {k : Nat} (h1 : 1 ≤ k) (h3 : k ≤ 3) (hk : k ≤ dN v) (h15 : dN v < 15) : (bestF v k).1 < 100000 :=
  fold_b btF (fvV v k) (fvV_b v k) (rows9 k (dN v)) none (fun o ho => by cases ho) (bestF v k) (bestF_e h1 h3 hk h15)
theorem out_N {v : CV} (hW : WF v) {p : Nat} (hp : p < 8) : v.2 p 4 = nI (tn (v.2 p 4)) ∧ tn (v.2 p 4) < 100 := (hW.2.2.2.2.2 p hp).2.2.2.2.1
section CV9
variable {v : CV} {M : Mm}
theorem C_meetV {k : Nat} (hW : WF v) (h3 : k ≤ 3) (r : Rw) (M : Mm) (hC : CH9 v M) (hT : TR9 k r M) (hr : ∀ i, i < k → gt9 r i < dN v) : f_X0_howManyMeet 33 (nI k) M = some (nI (mvW v k r)) := by
  have d15 := hW.d15
  have rr := loop_run0 (fun n i (s : Int32) => f_X0_howManyMeet_L4 33 (nI k) M n s (nI i)) k (fun i (s : Int32) => s ||| sThere v (nI (gt9 r i))) id 0 (by
    intro n i s hi
    have g := hr i hi
    have e1 : M.1 35 i = nI (gt9 r i) := hT i hi
    have e2 := hC.2 _ g
    show f_X0_howManyMeet_L4 33 (nI k) M (n + 1) s (nI i) = f_X0_howManyMeet_L4 33 (nI k) M n (s ||| sThere v (nI (gt9 r i))) (nI (i + 1))
    rw [f_X0_howManyMeet_L4, if_neg (nI_ge hi (by omega)), chk_ok (show i < 3 by omega) (by decide), tn_nI (show i < 2 ^ 31 by omega)]
    simp only [Nat.reduceAdd, e1]
    rw [chk_ok (show gt9 r i < 14 by omega) (by decide), tn_nI (show gt9 r i < 2 ^ 31 by omega), e2]
    simp only [bi, nI_1]) (by
    intro n s
    show f_X0_howManyMeet_L4 33 (nI k) M (n + 1) s (nI k) = some s
    rw [f_X0_howManyMeet_L4, if_pos (Int32.le_refl _)]) 1000 (by omega)
  unfold f_X0_howManyMeet
  rw [show f_X0_howManyMeet_L4 33 (nI k) M 1000 0 0 = _ from rr, Option.bind_some, bc_ok, Option.bind_some]
  show some (bc (mvO v k r)) = _
  rw [mvW_e hW]
theorem C_missV {k : Nat} (hW : WF v) (h3 : k ≤ 3) (r : Rw) (hC : CH9 v M) (hT : TR9 k r M) (hr : ∀ i, i < k → gt9 r i < dN v) {p : Nat} (hp : p < pN v) (x3 x4 : Int32) : f_X0_fairness_L23 33 1 (nI k) x3 x4 (nI p) M 1000 0 0 = some (nI (miss9 v p r k)) := by
  have d15 := hW.d15
  have n9 := hW.n9
  have rr := loop_run0 (fun n i (s : Nat) => f_X0_fairness_L23 33 1 (nI k) x3 x4 (nI p) M n (nI s) (nI i)) k (fun i (s : Nat) => s + (if decide (¬ hb (v.2 p 3) (nI (gt9 r i))) = true then 1 else 0)) nI 0 (by
    intro n i s hi
    have g := hr i hi
    have e1 : M.1 35 i = nI (gt9 r i) := hT i hi
    have e2 := hC.2 _ g
    have e3 : hb (sThere v (nI (gt9 r i))) (nI p) ↔ hb (v.2 p 3) (nI (gt9 r i)) := by
      rw [sThere_mk, mkS_hb _ (by omega) (by omega), decide_eq_true_eq]
      exact ⟨fun z => z.2, fun z => ⟨hp, z⟩⟩
    show f_X0_fairness_L23 33 1 (nI k) x3 x4 (nI p) M (n + 1) (nI s) (nI i) = f_X0_fairness_L23 33 1 (nI k) x3 x4 (nI p) M n (nI (s + (if decide (¬ hb (v.2 p 3) (nI (gt9 r i))) = true then 1 else 0))) (nI (i + 1))
    rw [f_X0_fairness_L23, if_neg (nI_ge hi (by omega)), chk_ok (show i < 3 by omega) (by decide), tn_nI (show i < 2 ^ 31 by omega)]
    simp only [Nat.reduceAdd, e1]
    rw [chk_ok (show gt9 r i < 14 by omega) (by decide), tn_nI (show gt9 r i < 2 ^ 31 by omega), e2, hasBit_ok, Option.bind_some]
    by_cases q : hb (v.2 p 3) (nI (gt9 r i))
    · rw [if_pos (e3.mpr q), if_neg (show ¬ ((1 : Int32) = 0) by decide), if_neg (fun z => absurd q (of_decide_eq_true z)), Nat.add_zero s]
      simp only [bi, nI_1, Int32.add_zero]
    · rw [if_neg (fun z => q (e3.mp z)), if_pos rfl, if_pos (decide_eq_true q)]
      simp only [bi, nI_1]) (by
    intro n s
    show f_X0_fairness_L23 33 1 (nI k) x3 x4 (nI p) M (n + 1) (nI s) (nI k) = some (nI s)
    rw [f_X0_fairness_L23, if_pos (Int32.le_refl _)]) 1000 (by omega)
  have e7 : ∀ j, iter (fun i (s : Nat) => s + (if decide (¬ hb (v.2 p 3) (nI (gt9 r i))) = true then 1 else 0)) j 0 = miss9 v p r j := by
    intro j
    induction j with
    | zero => rfl
    | succ j ih => show iter _ j 0 + _ = cnt _ j + _; rw [ih]; rfl
  rw [e7] at rr
  exact rr
theorem C_fairV {k : Nat} (hW : WF v) (h3 : k ≤ 3) (r : Rw) (M : Mm) (hC : CH9 v M) (hT : TR9 k r M) (hr : ∀ i, i < k → gt9 r i < dN v) : f_X0_fairness 33 1 (nI k) M = some (woF (fvV v k r)) := by
  have n9 := hW.n9
  have e0 : M.1 1 1 = nI (pN v) := (hC.1.1 1 (by decide)).trans hW.n
  obtain ⟨rr, e1, e2⟩ := loop_ex (fun n i (s : Int32 × Int32) => f_X0_fairness_L8 33 1 (nI k) M n s.1 s.2 (nI i)) (pN v) (fun i s => s = (nI (fvN v k r i).1, nI (fvN v k r i).2)) (fun s => s = (nI (fvN v k r (pN v)).1, nI (fvN v k r (pN v)).2)) (by
    intro n i s hi h
    have h : s = (nI (fvN v k r i).1, nI (fvN v k r i).2) := h
    subst h
    refine Or.inr ⟨_, ?_, rfl⟩
    have b := fvN_b v k r i
    have o := out_N hW (p := i) (by omega)
    have ml := miss_le v i r k
    have e4 : M.1 (3 + i) 4 = nI (tn (v.2 i 4)) := (VC3 hC.1 (by omega) (by decide)).trans o.1
    show f_X0_fairness_L8 33 1 (nI k) M (n + 1) (nI (fvN v k r i).1) (nI (fvN v k r i).2) (nI i) = f_X0_fairness_L8 33 1 (nI k) M n (nI (max (fvN v k r i).1 (outN9 v k i r))) (nI ((fvN v k r i).2 + outN9 v k i r)) (nI (i + 1))
    have oo : imin 99 (nI (tn (v.2 i 4) + miss9 v i r k)) = nI (outN9 v k i r) := imin_N (a := 99) (by decide) (by omega)
    have ol : outN9 v k i r ≤ 99 := Nat.min_le_left _ _
    rw [f_X0_fairness_L8, e0, if_neg (nI_ge hi (by omega)), C_missV hW h3 r hC hT hr hi, Option.bind_some, chk_ok (show i < 8 by omega) (by decide), tn_nI (by omega)]
    unfold f_X2_outAfter
    simp only [Nat.reduceAdd, e4, Option.bind_some, bi, nI_1, nI_add, oo]
    rw [imax_N (by omega) (by omega)]) (by
    intro n s h
    refine ⟨s, ?_, h⟩
    show f_X0_fairness_L8 33 1 (nI k) M (n + 1) s.1 s.2 (nI (pN v)) = _
    rw [f_X0_fairness_L8, e0, if_pos (Int32.le_refl _)]) 1000 0 (0, 0) (by omega) (by omega) rfl
  unfold f_X0_fairness
  rw [show f_X0_fairness_L8 33 1 (nI k) M 1000 0 0 0 = some rr from e1, e2]
  show some (-(nI (fvN v k r (pN v)).1 * nI 1000 + nI (fvN v k r (pN v)).2)) = some (-nI (fvV v k r))
  unfold fvV
  rw [if_pos n9, nI_mul9, nI_add]
end CV9
section OM9
variable {a : AB} {M : Mm}
theorem okC9 {M2 : Mm} {r : Int32} (h : RC a M) (hF : Fr 33 37 M M2) : OKC (some (M2, r)) M (a, r) := ⟨M2, rfl, h.fr hF (by omega), hF.wide (by omega) (by omega)⟩
theorem X7_meeting (h : RC a M) (hW : WA a) {k : Nat} (h1 : 1 ≤ k) (h3 : k ≤ 3) (i : Int32) : OKC (f_X7_meeting (nI k) i M) M (oMeet a k i) := by
  have d15 := hW.1.d15
  unfold f_X7_meeting oMeet
  rw [within_ok, h.1.1 0 (by decide), hW.1.d]
  by_cases q : -1 ≤ i ∧ i ≤ nI k - 1
  · by_cases q2 : dN a.1 < k
    · simp only [if_pos q, if_pos q2, Option.bind_some, i10, if_false]
      rw [if_neg (nI_ge q2 (by omega))]; exact C_stk h
    · obtain ⟨M2, e, hS, hF⟩ := C_chooseMeeting (wo := nI) (bt := btM) (val := mvW a.1 k) h.1 hW.1 h1 h3 (by omega) w1M w2M (mvV_b a.1 k) (fun r M => C_meetV hW.1 h3 r M)
      rw [bestM_e h1 h3 (by omega) d15] at hS
      simp only [if_pos q, if_neg q2, Option.bind_some, i10, if_false]
      rw [if_pos (nI_le (show k ≤ dN a.1 by omega) (by omega)), e, Option.bind_some]
      unfold ansM
      rcases in_place (by omega) q with q3 | ⟨j, hj, q3⟩
      · rw [if_pos q3, if_pos q3, hS.1]; exact okC9 h hF
      · subst q3
        rw [if_neg (nI_nm1 (by omega)), if_neg (nI_nm1 (by omega)), chk_ok (show j < 3 by omega) (by decide), tn_nI (by omega), hS.2 _ rfl j hj, tnn (by omega)]
        exact okC9 h hF
  · simp only [if_neg q, Option.bind_some, if_true]; exact C_bad h
theorem X7_two (h : RC a M) (hW : WA a) (i : Int32) : OKC (f_X7_two i M) M (oMeet a 2 i) := by
  obtain ⟨M2, e, h2⟩ := X7_meeting h hW (k := 2) (by decide) (by decide) i
  unfold f_X7_two
  rw [show f_X7_meeting 2 i M = _ from e]
  exact ⟨M2, rfl, h2⟩
theorem X7_three (h : RC a M) (hW : WA a) (i : Int32) : OKC (f_X7_three i M) M (oMeet a 3 i) := by
  obtain ⟨M2, e, h2⟩ := X7_meeting h hW (k := 3) (by decide) (by decide) i
  unfold f_X7_three
  rw [show f_X7_meeting 3 i M = _ from e]
  exact ⟨M2, rfl, h2⟩
theorem k13 {x : Int32} (q : 1 ≤ x ∧ x ≤ 3) : ∃ k, 1 ≤ k ∧ k ≤ 3 ∧ x = nI k := by
  obtain ⟨k, hk, rfl⟩ := (inN_iff (n := 4) (by decide)).mp ⟨Int32.le_trans (by decide) q.1, (le_nI (n := 3) (by decide)).mp q.2⟩
  have k1 : 1 ≤ k := Nat.le_of_not_lt fun z => Int32.not_le.mpr (nI_lt (b := 1) z (by decide)) q.1
  exact ⟨k, k1, by omega, rfl⟩
theorem nI_div {a b : Nat} (ha : a < 2 ^ 31) (hb : b < 2 ^ 31) : nI a / nI b = nI (a / b) := (Int32.ofNat_div ha hb).symm
theorem C_great {n : Nat} (hn : n < 100000) (hM : M.1 33 3 = woF n) : f_X0_greatestOut 33 M = some (nI (n / 1000)) := by
  unfold f_X0_greatestOut
  rw [hM, show -woF n = nI n from Int32.neg_neg]
  rw [show (1000 : Int32) = nI 1000 from rfl, nI_div (by omega) (by decide)]
theorem X7_fair (h : RC a M) (hW : WA a) (k i : Int32) : OKC (f_X7_fair k i M) M (oFair a k i) := by
  have d15 := hW.1.d15
  unfold f_X7_fair oFair
  rw [within_ok, within_ok, h.1.1 0 (by decide), hW.1.d, h.1.1 1 (by decide)]
  simp only [n0 hW.1]
  by_cases q : 1 ≤ k ∧ k ≤ 3
  · obtain ⟨k, h1, h3, rfl⟩ := k13 q
    by_cases q1 : -1 ≤ i ∧ i ≤ nI k - 1
    · rw [tnn (show k < 2 ^ 31 by omega)]
      by_cases q2 : dN a.1 < k
      · simp only [if_pos q, if_pos q1, if_pos q2, Option.bind_some, i10, if_false]
        rw [if_pos (nI_lt q2 (by omega))]; exact C_stk h
      · simp only [if_pos q, if_pos q1, if_neg q2, Option.bind_some, i10, if_false]
        rw [if_neg (nI_nlt (show k ≤ dN a.1 by omega) (by omega))]
        by_cases q4 : pN a.1 = 0
        · rw [if_pos q4, if_pos q4]; exact C_stk h
        · obtain ⟨M2, e, hS, hF⟩ := C_chooseFair (wo := woF) (bt := btF) (val := fvV a.1 k) h.1 hW.1 h1 h3 (by omega) w1F w2F (fvV_b a.1 k) (fun r M => C_fairV hW.1 h3 r M)
          rw [bestF_e h1 h3 (by omega) d15] at hS
          rw [if_neg q4, if_neg q4, e, Option.bind_some]
          unfold ansF
          rcases in_place (by omega) q1 with q3 | ⟨j, hj, q3⟩
          · rw [if_pos q3, if_pos q3, C_great (bestF_b h1 h3 (by omega) d15) hS.1]; exact okC9 h hF
          · subst q3
            rw [if_neg (nI_nm1 (by omega)), if_neg (nI_nm1 (by omega)), chk_ok (show j < 3 by omega) (by decide), tn_nI (by omega), hS.2 _ rfl j hj, tnn (by omega)]
            exact okC9 h hF
    · simp only [if_pos q, if_neg q1, Option.bind_some, i10, if_false, if_true]; exact C_bad h
  · simp only [if_neg q, Option.bind_some, if_true]; exact C_bad h
theorem W_meet (h : WB a) (k : Nat) (i : Int32) : WB (oMeet a k i).1 := by unfold oMeet; (repeat' split) <;> exact h
theorem W_fair (h : WB a) (k i : Int32) : WB (oFair a k i).1 := by unfold oFair; (repeat' split) <;> exact h
end OM9
