/-! odds -/
theorem loop_fst2 {α β : Type} (lo : Nat) (P : Nat → Bool) (F : Nat → Nat → Option (α ⊕ β)) (N : Nat) (u : α) (res : Nat → β)
    (hstep : ∀ n i, lo ≤ i → i < N → F (n + 1) i = if P i = true then some (Sum.inr (res i)) else F n (i + 1)) (hend : ∀ n, F (n + 1) N = some (Sum.inl u)) : ∀ n i, lo ≤ i → i ≤ N → N < n + i → F n i = some ((fstO P (N - i) i).elim (Sum.inl u) (fun j => Sum.inr (res j))) := by
  intro n
  induction n with
  | zero => intro i h0 h1 h2; omega
  | succ n ih =>
    intro i h0 h1 h2
    by_cases hi : i = N
    · subst hi
      rw [hend, Nat.sub_self]
      rfl
    · rw [hstep n i h0 (by omega), show N - i = (N - (i + 1)) + 1 by omega, fstO]
      by_cases h : P i = true
      · rw [if_pos h, if_pos h]
        rfl
      · rw [if_neg h, if_neg h]
        exact ih (i + 1) (by omega) (by omega) (by omega)
theorem ite_lt {α : Type} {x y : Int32} {A B : α} : (if x < y then A else B) = if y ≤ x then B else A := by
  by_cases h : x < y
  · rw [if_pos h, if_neg (i32_nle.mpr h)]
  · rw [if_neg h, if_pos (i32_nlt.mp h)]
def oneN (k : Nat) : Nat → Nat
  | 0 => 1000000
  | p + 1 => oneN k p * k / 12
def leftN (one : Nat) : Nat → Nat
  | 0 => 1000000
  | d + 1 => leftN one d * (1000000 - one) / 1000000
theorem leftN_s (one d : Nat) : leftN one d * (1000000 - one) / 1000000 = leftN one (d + 1) := rfl
theorem i10 : ((1 : Int32) = 0) = False := eq_false (by decide)
theorem oneN_le {k : Nat} (hk : k ≤ 12) : ∀ p, oneN k p ≤ 1000000 := by
  intro p
  induction p with
  | zero => exact Nat.le_refl _
  | succ p ih =>
    show oneN k p * k / 12 ≤ 1000000
    have h : oneN k p * k ≤ 1000000 * 12 := Nat.mul_le_mul ih hk
    omega
theorem leftN_le (one : Nat) : ∀ d, leftN one d ≤ 1000000 := by
  intro d
  induction d with
  | zero => exact Nat.le_refl _
  | succ d ih =>
    show leftN one d * (1000000 - one) / 1000000 ≤ 1000000
    have h : leftN one d * (1000000 - one) ≤ 1000000 * 1000000 := Nat.mul_le_mul ih (Nat.sub_le _ _)
    omega
theorem twelfths_N {x k : Nat} (hx : x ≤ 1000000) (hk : k ≤ 12) : nI x * nI k / 12 = nI (x * k / 12) := by
  have h : x * k ≤ 1000000 * 12 := Nat.mul_le_mul hx hk
  rw [pk_mul, show (12 : Int32) = nI 12 from rfl, pk_div (by omega) (by decide) (by decide)]
theorem left_N {x one : Nat} (hx : x ≤ 1000000) (h1 : one ≤ 1000000) : (((nI x).toInt64 * (1000000 - nI one).toInt64) / 1000000 : Int64) = lN (x * (1000000 - one) / 1000000) := by
  have h : x * (1000000 - one) ≤ 1000000 * 1000000 := Nat.mul_le_mul hx (Nat.sub_le _ _)
  rw [show (1000000 : Int32) = nI 1000000 from rfl, pk_sub h1, nI_l (by omega), nI_l (by omega), lN_mul, show (1000000 : Int64) = lN 1000000 from rfl, pk_lDiv (by omega) (by decide) (by decide)]
section OD
variable {b : Nat} {v : CV} {M : Mm}
theorem oneDay_ok {k p : Nat} (hk : k ≤ 12) (hp : p < 1000) : f_X7_oneDay (nI p) (nI k) = some (nI (oneN k p)) := by
  obtain ⟨r, e1, e2⟩ := loop_ex (fun n i (s : Int32) => f_X7_oneDay_L5 (nI p) (nI k) n s (nI i)) p (fun i s => s = nI (oneN k i)) (fun r => r = nI (oneN k p)) (by
    intro n i s hi h
    subst h
    refine Or.inr ⟨nI (oneN k (i + 1)), ?_, rfl⟩
    show f_X7_oneDay_L5 (nI p) (nI k) (n + 1) (nI (oneN k i)) (nI i) = _
    rw [f_X7_oneDay_L5]
    simp (disch := omega) only [nI_leF hi, twelfths_ok, Option.bind_some, bi, nI_1, reduceIte, twelfths_N (oneN_le hk i) hk]
    rfl) (by
    intro n s h
    subst h
    refine ⟨_, ?_, rfl⟩
    show f_X7_oneDay_L5 (nI p) (nI k) (n + 1) (nI (oneN k p)) (nI p) = _
    rw [f_X7_oneDay_L5]
    simp (disch := omega) only [nI_leT (Nat.le_refl _), reduceIte]) 1000 0 1000000 (by omega) (by omega) rfl
  unfold f_X7_oneDay
  rw [show f_X7_oneDay_L5 (nI p) (nI k) 1000 1000000 0 = some r from e1, e2]
  rfl
theorem leftAfter_ok {x one : Nat} (hx : x ≤ 1000000) (h1 : one ≤ 1000000) : f_X7_leftAfterDay (nI x) (nI one) = some (nI (x * (1000000 - one) / 1000000)) := by
  unfold f_X7_leftAfterDay
  rw [left_N hx h1, lN_i]
theorem oddsOfDays_ok {one d : Nat} (h1 : one ≤ 1000000) (hd : d < 1000) : f_X7_oddsOfDays (nI one) (nI d) = some (nI (1000000 - leftN one d)) := by
  obtain ⟨r, e1, e2⟩ := loop_ex (fun n i (s : Int32) => f_X7_oddsOfDays_L5 (nI one) (nI d) n s (nI i)) d (fun i s => s = nI (leftN one i)) (fun r => r = nI (leftN one d)) (by
    intro n i s hi h
    subst h
    refine Or.inr ⟨nI (leftN one (i + 1)), ?_, rfl⟩
    show f_X7_oddsOfDays_L5 (nI one) (nI d) (n + 1) (nI (leftN one i)) (nI i) = _
    rw [f_X7_oddsOfDays_L5]
    simp (disch := omega) only [nI_leF hi, leftAfter_ok (leftN_le one i) h1, Option.bind_some, bi, nI_1, reduceIte]
    rfl) (by
    intro n s h
    subst h
    refine ⟨_, ?_, rfl⟩
    show f_X7_oddsOfDays_L5 (nI one) (nI d) (n + 1) (nI (leftN one d)) (nI d) = _
    rw [f_X7_oddsOfDays_L5]
    simp (disch := omega) only [nI_leT (Nat.le_refl _), reduceIte]) 1000 0 1000000 (by omega) (by omega) rfl
  unfold f_X7_oddsOfDays
  rw [show f_X7_oddsOfDays_L5 (nI one) (nI d) 1000 1000000 0 = some r from e1, e2]
  show some (1000000 - nI (leftN one d)) = _
  rw [show (1000000 : Int32) = nI 1000000 from rfl, pk_sub (leftN_le one d)]
def oddsN (p d k : Nat) : Nat := 1000000 - leftN (oneN k p) d
theorem oddsOf_ok {p d k : Nat} (hk : k ≤ 12) (hp : p < 1000) (hd : d < 1000) : f_X8_oddsOf (nI p) (nI d) (nI k) = some (nI (oddsN p d k)) := by
  obtain ⟨r, e1, e2⟩ := loop_ex (fun n i (s : Int32) => f_X8_oddsOf_L7 (nI p) (nI d) (nI k) n s (nI i)) p (fun i s => s = nI (oneN k i)) (fun r => r = nI (oneN k p)) (by
    intro n i s hi h
    subst h
    refine Or.inr ⟨nI (oneN k (i + 1)), ?_, rfl⟩
    show f_X8_oddsOf_L7 (nI p) (nI d) (nI k) (n + 1) (nI (oneN k i)) (nI i) = _
    rw [f_X8_oddsOf_L7]
    simp (disch := omega) only [nI_leF hi, bi, nI_1, reduceIte, twelfths_N (oneN_le hk i) hk]
    rfl) (by
    intro n s h
    subst h
    refine ⟨_, ?_, rfl⟩
    show f_X8_oddsOf_L7 (nI p) (nI d) (nI k) (n + 1) (nI (oneN k p)) (nI p) = _
    rw [f_X8_oddsOf_L7]
    simp (disch := omega) only [nI_leT (Nat.le_refl _), reduceIte]) 1000 0 1000000 (by omega) (by omega) rfl
  have h1 := oneN_le hk p
  obtain ⟨r2, e3, e4⟩ := loop_ex (fun n i (s : Int64) => f_X8_oddsOf_L34 (nI d) (nI (oneN k p)) n s (nI i)) d (fun i s => s = lN (leftN (oneN k p) i)) (fun r => r = lN (leftN (oneN k p) d)) (by
    intro n i s hi h
    subst h
    refine Or.inr ⟨lN (leftN (oneN k p) (i + 1)), ?_, rfl⟩
    show f_X8_oddsOf_L34 (nI d) (nI (oneN k p)) (n + 1) (lN (leftN (oneN k p) i)) (nI i) = _
    rw [f_X8_oddsOf_L34]
    have h2 := leftN_le (oneN k p) i
    have h3 := left_N h2 h1
    rw [nI_l (by omega)] at h3
    simp (disch := omega) only [nI_leF hi, bl, bi, nI_1, reduceIte, h3]
    rfl) (by
    intro n s h
    subst h
    refine ⟨_, ?_, rfl⟩
    show f_X8_oddsOf_L34 (nI d) (nI (oneN k p)) (n + 1) (lN (leftN (oneN k p) d)) (nI d) = _
    rw [f_X8_oddsOf_L34]
    simp (disch := omega) only [nI_leT (Nat.le_refl _), reduceIte]) 1000 0 1000000 (by omega) (by omega) rfl
  unfold f_X8_oddsOf
  rw [show f_X8_oddsOf_L7 (nI p) (nI d) (nI k) 1000 1000000 0 = some r from e1, e2, Option.bind_some, show f_X8_oddsOf_L34 (nI d) (nI (oneN k p)) 1000 1000000 0 = some r2 from e3, e4, Option.bind_some]
  rw [show (1000000 : Int64) = lN 1000000 from rfl, lN_sub (leftN_le _ d), lN_i]
  rfl
/-! offer, never -/
def pOffer (p k : Nat) (x : Int32) (d : Nat) : Bool := decide (x ≤ nI (oddsN p d k))
def pNever (d k : Nat) (x : Int32) (p : Nat) : Bool := decide (nI (oddsN p d k) < x)
theorem oddsN_e (p d k : Nat) : (1000000 : Int32) - nI (leftN (oneN k p) d) = nI (oddsN p d k) := by
  rw [show (1000000 : Int32) = nI 1000000 from rfl, pk_sub (leftN_le _ d)]
  unfold oddsN
  rfl
theorem C_offer1 {p k : Nat} (hk : k ≤ 12) (x3 : Int32) (n j : Nat) (hj : j + 1 < 100) : f_X7_offer_L51 x3 (nI (oneN k p)) M (n + 1) (nI (leftN (oneN k p) j)) (nI (j + 1)) = if pOffer p k x3 (j + 1) = true then some (Sum.inr (M, nI (j + 1))) else f_X7_offer_L51 x3 (nI (oneN k p)) M n (nI (leftN (oneN k p) (j + 1))) (nI (j + 1 + 1)) := by
  have h1 := oneN_le hk p
  have e := oddsN_e p (j + 1) k
  have h2 := leftAfter_ok (leftN_le (oneN k p) j) h1
  rw [leftN_s] at h2
  generalize leftN (oneN k p) (j + 1) = y at e h2 ⊢
  generalize leftN (oneN k p) j = y0 at h2 ⊢
  have h99 : ¬ (99 : Int32) < nI (j + 1) := nI_nlt (a := 99) (by omega) (by decide)
  unfold pOffer
  generalize nI (oddsN p (j + 1) k) = z at e ⊢
  rw [f_X7_offer_L51, if_neg h99, h2]
  show (if 1000000 - nI y < x3 then f_X7_offer_L51 x3 (nI (oneN k p)) M n (nI y) (nI (j + 1) + 1) else some (Sum.inr (M, nI (j + 1)))) = _
  rw [e, nI_1]
  by_cases hq : z < x3
  · rw [if_pos hq, if_neg]
    rw [decide_eq_true_eq]
    exact i32_nle.mpr hq
  · rw [if_neg hq, if_pos]
    rw [decide_eq_true_eq]
    exact i32_nlt.mp hq
theorem C_offerL {p k : Nat} (hk : k ≤ 12) (x3 : Int32) : f_X7_offer_L51 x3 (nI (oneN k p)) M 1000 1000000 1 = some ((fstO (pOffer p k x3) 99 1).elim (Sum.inl ()) (fun j => Sum.inr (M, nI j))) := by
  have h := loop_fst2 1 (pOffer p k x3) (fun n i => f_X7_offer_L51 x3 (nI (oneN k p)) M n (nI (leftN (oneN k p) (i - 1))) (nI i)) 100 () (fun j => (M, nI j)) (by
    intro n i h0 hi
    obtain ⟨j, rfl⟩ : ∃ j, i = j + 1 := ⟨i - 1, by omega⟩
    have h3 := C_offer1 (M := M) (p := p) hk x3 n j hi
    simp only [Nat.add_sub_cancel]
    exact h3) (by
    intro n
    show f_X7_offer_L51 x3 (nI (oneN k p)) M (n + 1) _ (nI 100) = _
    rw [f_X7_offer_L51]
    exact if_pos (by decide)) 1000 1 (Nat.le_refl _) (by decide) (by decide)
  simp only [Nat.sub_self] at h
  exact h
theorem M_offerL {p k : Nat} (hp : p < 1000) (hk : k ≤ 12) (x3 : Int32) : f_X8_offer_L41 (nI p) (nI k) x3 M 1000 1 = some ((fstO (pOffer p k x3) 99 1).elim (Sum.inl ()) (fun j => Sum.inr (M, nI j))) := by
  exact loop_fst (pOffer p k x3) (fun n i => f_X8_offer_L41 (nI p) (nI k) x3 M n (nI i)) 100 () (fun j => (M, nI j)) (by
    intro n i hi
    show f_X8_offer_L41 (nI p) (nI k) x3 M (n + 1) (nI i) = _
    rw [f_X8_offer_L41, show (99 : Int32) = nI 99 from rfl, if_neg (nI_nlt (by omega) (by decide)), oddsOf_ok hk hp (by omega)]
    simp only [Option.bind_some, bi, nI_1, ite_lt, pOffer, decide_eq_true_eq]) (by
    intro n
    show f_X8_offer_L41 (nI p) (nI k) x3 M (n + 1) (nI 100) = _
    rw [f_X8_offer_L41]
    exact if_pos (by decide)) 1000 1 (by decide) (by decide)
theorem C_neverL {d k : Nat} (hd : d < 1000) (hk : k ≤ 12) (x3 : Int32) : f_X7_never_L44 (nI d) (nI k) x3 M 1000 1000000 1 = some ((fstO (pNever d k x3) 99 1).elim (Sum.inl ()) (fun j => Sum.inr (M, nI j))) := by
  exact loop_fst2 1 (pNever d k x3) (fun n i => f_X7_never_L44 (nI d) (nI k) x3 M n (nI (oneN k (i - 1))) (nI i)) 100 () (fun j => (M, nI j)) (by
    intro n i h0 hi
    obtain ⟨j, rfl⟩ : ∃ j, i = j + 1 := ⟨i - 1, by omega⟩
    show f_X7_never_L44 (nI d) (nI k) x3 M (n + 1) (nI (oneN k j)) (nI (j + 1)) = if pNever d k x3 (j + 1) = true then _ else f_X7_never_L44 (nI d) (nI k) x3 M n (nI (oneN k (j + 1))) (nI (j + 1 + 1))
    rw [f_X7_never_L44, show (99 : Int32) = nI 99 from rfl, if_neg (nI_nlt (by omega) (by decide)), twelfths_ok, twelfths_N (oneN_le hk j) hk, Option.bind_some, show oneN k j * k / 12 = oneN k (j + 1) from rfl, oddsOfDays_ok (oneN_le hk (j + 1)) hd]
    simp only [Option.bind_some, bi, nI_1, ite_le, pNever, decide_eq_true_eq]
    rfl) (by
    intro n
    show f_X7_never_L44 (nI d) (nI k) x3 M (n + 1) _ (nI 100) = _
    rw [f_X7_never_L44]
    exact if_pos (by decide)) 1000 1 (Nat.le_refl _) (by decide) (by decide)
theorem M_neverL {d k : Nat} (hd : d < 1000) (hk : k ≤ 12) (x3 : Int32) : f_X8_never_L41 (nI d) (nI k) x3 M 1000 1 = some ((fstO (pNever d k x3) 99 1).elim (Sum.inl ()) (fun j => Sum.inr (M, nI j))) := by
  exact loop_fst (pNever d k x3) (fun n i => f_X8_never_L41 (nI d) (nI k) x3 M n (nI i)) 100 () (fun j => (M, nI j)) (by
    intro n i hi
    show f_X8_never_L41 (nI d) (nI k) x3 M (n + 1) (nI i) = _
    rw [f_X8_never_L41, show (99 : Int32) = nI 99 from rfl, if_neg (nI_nlt (by omega) (by decide)), oddsOf_ok hk (by omega) hd]
    simp only [Option.bind_some, bi, nI_1, ite_le, pNever, decide_eq_true_eq]) (by
    intro n
    show f_X8_never_L41 (nI d) (nI k) x3 M (n + 1) (nI 100) = _
    rw [f_X8_never_L41]
    exact if_pos (by decide)) 1000 1 (by decide) (by decide)
/-! how likely all are there after t days -/
def sKn (v : CV) (d : Int32) (t : Nat) : Int32 := iter (fun _ s => sNext v s) t (sToday v d)
theorem iter_add {σ : Type} (g : σ → σ) (s : σ) (k m : Nat) : iter (fun _ s => g s) (k + m) s = iter (fun _ s => g s) m (iter (fun _ s => g s) k s) := by
  induction m with
  | zero => rfl
  | succ m ih => exact congrArg g ih
theorem iter_mul {σ : Type} (g : σ → σ) (s : σ) (n t : Nat) : iter (fun _ s => iter (fun _ s => g s) n s) t s = iter (fun _ s => g s) (t * n) s := by
  induction t with
  | zero => rw [Nat.zero_mul]; rfl
  | succ t ih =>
    rw [Nat.succ_mul, iter_add g s (t * n) n]
    show iter (fun _ s => g s) n (iter (fun _ s => iter (fun _ s => g s) n s) t s) = _
    rw [ih]
theorem C_knownL (hV : VC 1 v M) (hW : WF v) {t : Nat} (ht : t < 100) (d : Int32) : f_X7_known_L40 (nI t) M 1000 (sToday v d) 0 = some (sKn v d t) := by
  exact loop_run0 (fun n i (s : Int32) => f_X7_known_L40 (nI t) M n s (nI i)) t (fun _ s => sNext v s) id (sToday v d) (by
    intro n i s hi
    show f_X7_known_L40 (nI t) M (n + 1) s (nI i) = f_X7_known_L40 (nI t) M n (sNext v s) (nI (i + 1))
    rw [f_X7_known_L40]
    simp (disch := omega) only [nI_leF hi, C_oddsNextDay hV hW, Option.bind_some, bi, nI_1, reduceIte]) (by
    intro n s
    show f_X7_known_L40 (nI t) M (n + 1) s (nI t) = some s
    rw [f_X7_known_L40]
    simp (disch := omega) only [nI_leT (Nat.le_refl _), reduceIte]) 1000 (by omega)
theorem sKn_0 {v : CV} {d : Int32} (h : sToday v d = 0) (t : Nat) : sKn v d t = 0 := by
  have h0 : ∀ k, iter (fun _ s => s * (12 - v.1 4) / 12) k (0 : Int32) = 0 := by
    intro k
    induction k with
    | zero => rfl
    | succ k ih =>
      show iter (fun _ s => s * (12 - v.1 4) / 12) k (0 : Int32) * (12 - v.1 4) / 12 = 0
      rw [ih, Int32.zero_mul]
      decide
  unfold sKn
  induction t with
  | zero => exact h
  | succ t ih =>
    show sNext v (iter (fun _ s => sNext v s) t (sToday v d)) = 0
    rw [ih]
    exact h0 _
theorem M_known (hV : VM b v M) (hW : WF v) {d t : Nat} (hd : d < dN v) (ht : t < 100) : f_X8_known b (nI d) (nI t) M = some (M, sKn v (nI d) t) := by
  have h1 := hW.n
  have h2 := hW.n9
  have h4 := hW.d15
  have h5 : (0 : Int32) ≤ nI t ∧ nI t ≤ 99 := ⟨nI_pos' (by omega), nI_le (b := 99) (by omega) (by decide)⟩
  have h6 := sHow_sm hW (nI d)
  have h7 : t * pN v ≤ 99 * 8 := Nat.mul_le_mul (by omega) (by omega)
  unfold f_X8_known
  rw [M_isDay hV hW]
  simp only [Option.bind_some, ite01, ite_not, if_pos ((inN_nI (by omega) (by omega)).mpr hd), show f_X8_in (nI t).toInt64 0 99 = _ from in_0 (nI t) 99, if_pos h5, i10, if_false, M_thereOn hV hW, M_how hV hW, hV.n, h1]
  have e : nI (tn (sHow v (nI d))) = sHow v (nI d) := h6.1.symm
  by_cases h : nI (pN v) ≤ sHow v (nI d)
  · have hT : sToday v (nI d) = 1000000 := by
      unfold sToday
      rw [if_pos]
      rw [h1]
      rw [← e, nI_leI (by omega) (by have := h6.2; omega)] at h
      rw [← e, nI_eq (by have := h6.2; omega) (by omega)]
      have := h6.2
      omega
    have hL := loop_run0 (fun n i (s : Int32) => f_X8_known_L52 b (nI t) M n s (nI i)) (t * pN v) (fun _ s => s * (12 - v.1 4) / 12) id 1000000 (by
      intro n i s hi
      show f_X8_known_L52 b (nI t) M (n + 1) s (nI i) = f_X8_known_L52 b (nI t) M n (s * (12 - v.1 4) / 12) (nI (i + 1))
      rw [f_X8_known_L52]
      simp (disch := omega) only [hV.n, h1, pk_mul, nI_leF hi, hV.lo, bi, nI_1, reduceIte]) (by
      intro n s
      show f_X8_known_L52 b (nI t) M (n + 1) s (nI (t * pN v)) = some s
      rw [f_X8_known_L52]
      simp (disch := omega) only [hV.n, h1, pk_mul, nI_leT (Nat.le_refl _), reduceIte]) 1000 (by omega)
    rw [if_pos h, show f_X8_known_L52 b (nI t) M 1000 1000000 0 = _ from hL]
    show some (M, iter (fun _ s => s * (12 - v.1 4) / 12) (t * pN v) (1000000 : Int32)) = _
    unfold sKn
    rw [hT, ← iter_mul]
    rfl
  · have h0 : sToday v (nI d) = 0 := by
      unfold sToday
      rw [if_neg]
      intro q
      rw [h1] at q
      exact h (by rw [q]; exact Int32.le_refl _)
    rw [if_neg h, sKn_0 h0 t]
def pUntil (v : CV) (d : Nat) (x : Int32) (t : Nat) : Bool := decide (sKn v (nI d) t < x)
theorem C_untilL (hV : VC 1 v M) (hW : WF v) (d : Nat) (x : Int32) : f_X7_until_L40 x M 1000 (sToday v (nI d)) 0 = some ((fstO (pUntil v d x) 100 0).elim (Sum.inl ()) (fun j => Sum.inr (M, nI j))) := by
  exact loop_fst (pUntil v d x) (fun n i => f_X7_until_L40 x M n (sKn v (nI d) i) (nI i)) 100 () (fun j => (M, nI j)) (by
    intro n i hi
    show f_X7_until_L40 x M (n + 1) (sKn v (nI d) i) (nI i) = if pUntil v d x i = true then _ else f_X7_until_L40 x M n (sNext v (sKn v (nI d) i)) (nI (i + 1))
    rw [f_X7_until_L40, show (99 : Int32) = nI 99 from rfl, if_neg (nI_nlt (by omega) (by decide))]
    simp only [C_oddsNextDay hV hW, Option.bind_some, bi, nI_1, ite_le, pUntil, decide_eq_true_eq]) (by
    intro n
    show f_X7_until_L40 x M (n + 1) _ (nI 100) = _
    rw [f_X7_until_L40]
    exact if_pos (by decide)) 1000 0 (by decide) (by decide)
theorem M_untilL (hV : VM b v M) (hW : WF v) {d : Nat} (hd : d < dN v) (x : Int32) : f_X8_until_L30 b (nI d) x 1000 0 M = some ((fstO (pUntil v d x) 100 0).elim (Sum.inl M) (fun j => Sum.inr (M, nI j))) := by
  exact loop_fst (pUntil v d x) (fun n i => f_X8_until_L30 b (nI d) x n (nI i) M) 100 M (fun j => (M, nI j)) (by
    intro n i hi
    show f_X8_until_L30 b (nI d) x (n + 1) (nI i) M = _
    rw [f_X8_until_L30, show (99 : Int32) = nI 99 from rfl, if_neg (nI_nlt (by omega) (by decide)), M_known hV hW hd hi]
    simp only [Option.bind_some, bi, nI_1, ite_le, pUntil, decide_eq_true_eq]) (by
    intro n
    show f_X8_until_L30 b (nI d) x (n + 1) (nI 100) M = _
    rw [f_X8_until_L30]
    exact if_pos (by decide)) 1000 0 (by decide) (by decide)
/-! the first day of two, the next dinner's day -/
theorem M_withHostL (hW : WF v) (hV : VM b v M) (x : Int32) : f_X8_withHost_L36 b x M 1000 0 = some ((fstO (fun j => decide (hb x (nI j))) (dN v) 0).elim (Sum.inl ()) (fun j => Sum.inr (M, nI j))) := by
  have h3 := hW.d
  have h4 := hW.d15
  exact loop_fst (fun j => decide (hb x (nI j))) (fun n i => f_X8_withHost_L36 b x M n (nI i)) (dN v) () (fun j => (M, nI j)) (by
    intro n i hi
    show f_X8_withHost_L36 b x M (n + 1) (nI i) = _
    rw [f_X8_withHost_L36]
    simp (disch := omega) only [hV.d, h3, nI_leF hi, bi, nI_1, reduceIte, decide_eq_true_eq]
    by_cases h : hb x (nI i)
    · rw [if_neg ((and1_ne _).mpr h), if_pos h]
    · rw [if_pos (Classical.byContradiction fun z => h ((and1_ne _).mp z)), if_neg h]) (by
    intro n
    show f_X8_withHost_L36 b x M (n + 1) (nI (dN v)) = _
    rw [f_X8_withHost_L36]
    simp (disch := omega) only [hV.d, h3, nI_leT (Nat.le_refl _), reduceIte]) 1000 0 (by omega) (by omega)
theorem M_laterL (hW : WF v) (hV : VM b v M) {d : Nat} (hd : d ≤ dN v) : f_X8_later_L18 b M 1000 (nI d) = some ((fstO (fun j => decide (v.1 3 ≤ sHow v (nI j))) (dN v - d) d).elim (Sum.inl ()) (fun j => Sum.inr (M, nI j))) := by
  have h3 := hW.d
  have h4 := hW.d15
  exact loop_fst (fun j => decide (v.1 3 ≤ sHow v (nI j))) (fun n i => f_X8_later_L18 b M n (nI i)) (dN v) () (fun j => (M, nI j)) (by
    intro n i hi
    show f_X8_later_L18 b M (n + 1) (nI i) = _
    rw [f_X8_later_L18]
    simp (disch := omega) only [hV.d, h3, nI_leF hi, M_mayDine hV hW, Option.bind_some, ite01, ite_not, bi, nI_1, reduceIte, decide_eq_true_eq]) (by
    intro n
    show f_X8_later_L18 b M (n + 1) (nI (dN v)) = _
    rw [f_X8_later_L18]
    simp (disch := omega) only [hV.d, h3, nI_leT (Nat.le_refl _), reduceIte]) 1000 d hd (by omega)
end OD
