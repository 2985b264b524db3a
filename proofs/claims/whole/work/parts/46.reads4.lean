/-! searches -/
def fstO (P : Nat → Bool) : Nat → Nat → Option Nat
  | 0, _ => none
  | k + 1, i => if P i = true then some i else fstO P k (i + 1)
theorem loop_fst {α β : Type} (P : Nat → Bool) (F : Nat → Nat → Option (α ⊕ β)) (N : Nat) (u : α) (res : Nat → β)
    (hstep : ∀ n i, i < N → F (n + 1) i = if P i = true then some (Sum.inr (res i)) else F n (i + 1)) (hend : ∀ n, F (n + 1) N = some (Sum.inl u)) : ∀ n i, i ≤ N → N < n + i → F n i = some ((fstO P (N - i) i).elim (Sum.inl u) (fun j => Sum.inr (res j))) := by
  intro n
  induction n with
  | zero => intro i h1 h2; omega
  | succ n ih =>
    intro i h1 h2
    by_cases hi : i = N
    · subst hi
      rw [hend, Nat.sub_self]
      rfl
    · rw [hstep n i (by omega), show N - i = (N - (i + 1)) + 1 by omega, fstO]
      by_cases h : P i = true
      · rw [if_pos h, if_pos h]
        rfl
      · rw [if_neg h, if_neg h]
        exact ih (i + 1) (by omega) (by omega)
theorem fstO_congr {P P2 : Nat → Bool} : ∀ k i, (∀ j, i ≤ j → j < i + k → P j = P2 j) → fstO P k i = fstO P2 k i := by
  intro k
  induction k with
  | zero => intro i _; rfl
  | succ k ih =>
    intro i h
    rw [fstO, fstO, h i (by omega) (by omega), ih (i + 1) (fun j h1 h2 => h j (by omega) (by omega))]
theorem fstO_none {P : Nat → Bool} : ∀ k i, (∀ j, i ≤ j → j < i + k → P j = false) → fstO P k i = none := by
  intro k
  induction k with
  | zero => intro i _; rfl
  | succ k ih =>
    intro i h
    rw [fstO, h i (by omega) (by omega), if_neg (by decide), ih (i + 1) (fun j h1 h2 => h j (by omega) (by omega))]
theorem fstO_add {P : Nat → Bool} (m : Nat) : ∀ k i, (∀ j, i + k ≤ j → j < i + k + m → P j = false) → fstO P (k + m) i = fstO P k i := by
  intro k
  induction k with
  | zero => intro i h; rw [Nat.zero_add]; exact fstO_none m i (fun j h1 h2 => h j (by omega) (by omega))
  | succ k ih =>
    intro i h
    rw [show k + 1 + m = (k + m) + 1 by omega, fstO, fstO, ih (i + 1) (fun j h1 h2 => h j (by omega) (by omega))]
theorem fstO_some {P : Nat → Bool} : ∀ k i j, fstO P k i = some j → i ≤ j ∧ j < i + k ∧ P j = true := by
  intro k
  induction k with
  | zero => intro i j h; cases h
  | succ k ih =>
    intro i j h
    rw [fstO] at h
    by_cases q : P i = true
    · rw [if_pos q] at h; cases h; exact ⟨Nat.le_refl _, by omega, q⟩
    · rw [if_neg q] at h
      have := ih (i + 1) j h
      exact ⟨by omega, by omega, this.2.2⟩
/-- the place, or NONE -/
def plc (x : Option Nat) : Int32 := x.elim (-1) nI
theorem obS_elim {α β γ : Type} (x : Option Nat) (u : α) (res : Nat → β) (Gr : β → Option γ) (F : α → Option γ) : obS (some (x.elim (Sum.inl u) (fun j => Sum.inr (res j)))) Gr F = x.elim (F u) (fun j => Gr (res j)) := by
  cases x <;> rfl
/-- the first of the greatest, walked from 1 on -/
theorem loop_amax {ρ : Type} (f : Nat → Int32) (F : Nat → Nat → Nat → Option ρ) (N : Nat) (hN : 1 ≤ N) (out : Nat → ρ)
    (hstep : ∀ n i s, i < N → 1 ≤ i → s < i → F (n + 1) i s = F n (i + 1) (if f s < f i then i else s)) (hend : ∀ n s, s < N → F (n + 1) N s = some (out s)) (n : Nat) (hn : N < n) : F n 1 0 = some (out (amax f N)) := by
  obtain ⟨r, h1, h2⟩ := loop_ex F N (fun i s => 1 ≤ i ∧ s = amax f i) (fun r => r = out (amax f N)) (by
    intro n i s hi h
    obtain ⟨h1, rfl⟩ := h
    refine Or.inr ⟨_, hstep n i _ hi h1 (amax_lt f i h1), by omega, (amax_s h1).symm⟩) (by
    intro n s h
    obtain ⟨h1, rfl⟩ := h
    exact ⟨_, hend n _ (amax_lt f N h1), rfl⟩) n 1 0 hN (by omega) ⟨Nat.le_refl _, rfl⟩
  rw [h1, h2]
theorem ite_le {α : Type} {x y : Int32} {A B : α} : (if x ≤ y then A else B) = if y < x then B else A := by
  by_cases h : y < x
  · rw [if_pos h, if_neg (i32_nle.mpr h)]
  · rw [if_neg h, if_pos (i32_nlt.mp h)]
theorem nI_ite {c : Prop} [Decidable c] {a b : Nat} : nI (if c then a else b) = if c then nI a else nI b := by
  split <;> rfl
section R4
variable {b : Nat} {v : CV} {M : Mm}
/-! worst -/
theorem C_worstL (hV : VC 1 v M) (hW : WF v) (hn : 1 ≤ pN v) : f_X7_worst_L21 M 1000 0 1 = some (nI (amax (fun p => v.2 p 4) (pN v))) := by
  have h1 := hW.n
  have h2 := hW.n9
  exact loop_amax (fun p => v.2 p 4) (fun n i s => f_X7_worst_L21 M n (nI s) (nI i)) (pN v) hn nI (by
    intro n i s hi h0 hs
    show f_X7_worst_L21 M (n + 1) (nI s) (nI i) = f_X7_worst_L21 M n (nI (if v.2 s 4 < v.2 i 4 then i else s)) (nI (i + 1))
    rw [f_X7_worst_L21]
    simp (disch := omega) only [nI_leF hi, hV.1, h1, chk_ok, tn_nI, VC3 hV, ite_le, bi, nI_1, nI_ite, reduceIte]
    split <;> rfl) (by
    intro n s hs
    show f_X7_worst_L21 M (n + 1) (nI s) (nI (pN v)) = _
    rw [f_X7_worst_L21]
    simp (disch := omega) only [nI_leT (Nat.le_refl _), hV.1, h1, reduceIte]) 1000 (by omega)
theorem M_worstOf (hV : VM b v M) (hW : WF v) (hn : 1 ≤ pN v) : f_X8_worstOf b M = some (nI (amax (fun p => v.2 p 4) (pN v))) := by
  have h1 := hW.n
  have h2 := hW.n9
  have hL := loop_amax (fun p => v.2 p 4) (fun n i s => f_X8_worstOf_L4 b M n (nI s) (nI i)) (pN v) hn nI (by
    intro n i s hi h0 hs
    show f_X8_worstOf_L4 b M (n + 1) (nI s) (nI i) = f_X8_worstOf_L4 b M n (nI (if v.2 s 4 < v.2 i 4 then i else s)) (nI (i + 1))
    rw [f_X8_worstOf_L4]
    simp (disch := omega) only [nI_leF hi, hV.n, h1, chk_ok, tn_nI, hV.p4, ite_le, bi, nI_1, nI_ite, reduceIte]
    split <;> rfl) (by
    intro n s hs
    show f_X8_worstOf_L4 b M (n + 1) (nI s) (nI (pN v)) = _
    rw [f_X8_worstOf_L4]
    simp (disch := omega) only [nI_leT (Nat.le_refl _), hV.n, h1, reduceIte]) 1000 (by omega)
  unfold f_X8_worstOf
  rw [show f_X8_worstOf_L4 b M 1000 0 1 = _ from hL]
  rfl
/-! drop -/
theorem sButN_sm (hW : WF v) (p : Nat) : sm (sButN v p) 15 := bc_sm (by decide) (sAllBut_sm hW _)
theorem sm_nneg {x : Int32} {n : Nat} (hn : n ≤ 2 ^ 31) (h : sm x n) : ¬ x ≤ -1 := by
  rw [h.1]
  have h1 : (0 : Int32) ≤ nI (tn x) := nI_pos' (by have := h.2; omega)
  intro h2
  exact absurd (Int32.le_trans h1 h2) (by decide)
theorem C_dropL (hV : VC 1 v M) (hW : WF v) (x1 : Int32) (hn : 1 ≤ pN v) : f_X7_drop_L40 x1 M 1000 (-1) (-1) 0 = some (nI (amax (sButN v) (pN v)), sButN v (amax (sButN v) (pN v))) := by
  have h1 := hW.n
  have h2 := hW.n9
  obtain ⟨r, e1, e2⟩ := loop_ex (fun n i (s : Int32 × Int32) => f_X7_drop_L40 x1 M n s.1 s.2 (nI i)) (pN v) (fun i s => (i = 0 ∧ s = (-1, -1)) ∨ (1 ≤ i ∧ s = (nI (amax (sButN v) i), sButN v (amax (sButN v) i)))) (fun r => r = (nI (amax (sButN v) (pN v)), sButN v (amax (sButN v) (pN v)))) (by
    intro n i s hi h
    refine Or.inr ?_
    show ∃ s2 : Int32 × Int32, f_X7_drop_L40 x1 M (n + 1) s.1 s.2 (nI i) = f_X7_drop_L40 x1 M n s2.1 s2.2 (nI (i + 1)) ∧ _
    rw [f_X7_drop_L40]
    simp (disch := omega) only [nI_leF hi, hV.1, h1, C_daysOfAllBut hV hW, bc_ok, Option.bind_some, bi, nI_1, reduceIte]
    rcases h with ⟨rfl, rfl⟩ | ⟨h0, rfl⟩
    · refine ⟨(nI 0, sButN v 0), ?_, Or.inr ⟨by omega, rfl⟩⟩
      exact if_neg (sm_nneg (by decide) (sButN_sm hW 0))
    · refine ⟨if sButN v (amax (sButN v) i) < sButN v i then (nI i, sButN v i) else (nI (amax (sButN v) i), sButN v (amax (sButN v) i)), ?_, Or.inr ⟨by omega, ?_⟩⟩
      · show (if sButN v i ≤ sButN v (amax (sButN v) i) then _ else _) = _
        rw [ite_le]
        split <;> rfl
      · rw [amax_s h0]
        split <;> rfl) (by
    intro n s h
    rcases h with ⟨h0, h⟩ | ⟨h0, rfl⟩
    · omega
    · refine ⟨_, ?_, rfl⟩
      show f_X7_drop_L40 x1 M (n + 1) _ _ (nI (pN v)) = _
      rw [f_X7_drop_L40]
      simp (disch := omega) only [nI_leT (Nat.le_refl _), hV.1, h1, reduceIte]) 1000 0 (-1, -1) (by omega) (by omega) (Or.inl ⟨rfl, rfl⟩)
  rw [← e2]
  exact e1
theorem M_dropL (hV : VM b v M) (hW : WF v) (x1 : Int32) (hn : 1 ≤ pN v) : f_X8_drop_L35 b x1 M 1000 0 1 = some (nI (amax (sButN v) (pN v))) := by
  have h1 := hW.n
  have h2 := hW.n9
  exact loop_amax (sButN v) (fun n i s => f_X8_drop_L35 b x1 M n (nI s) (nI i)) (pN v) hn nI (by
    intro n i s hi h0 hs
    show f_X8_drop_L35 b x1 M (n + 1) (nI s) (nI i) = f_X8_drop_L35 b x1 M n (nI (if sButN v s < sButN v i then i else s)) (nI (i + 1))
    rw [f_X8_drop_L35]
    simp (disch := omega) only [nI_leF hi, hV.n, h1, M_allBut hV hW, bits_ok (sAllBut_sm hW _), Option.bind_some, bi, nI_1, nI_ite, ite_le, reduceIte]
    show (if sButN v s < sButN v i then _ else _) = _
    split <;> rfl) (by
    intro n s hs
    show f_X8_drop_L35 b x1 M (n + 1) (nI s) (nI (pN v)) = _
    rw [f_X8_drop_L35]
    simp (disch := omega) only [nI_leT (Nat.le_refl _), hV.n, h1, reduceIte]) 1000 (by omega)
/-! pairs -/
theorem C_pairI (hV : VC 1 v M) (hW : WF v) {p : Nat} (hp : p < pN v) (s : Int32 × Int32) : f_X7_pairs_L22 (nI p) M 1000 s.1 s.2 (nI (p + 1)) = some (sPairI v p s) := by
  have h1 := hW.n
  have h2 := hW.n9
  exact loop_run0 (fun n i (s : Int32 × Int32) => f_X7_pairs_L22 (nI p) M n s.1 s.2 (nI (p + 1 + i))) (pN v - (p + 1)) (fun i s => if bc (v.2 p 3 &&& v.2 (p + 1 + i) 3) ≤ s.2 then s else (10 * nI p + nI (p + 1 + i), bc (v.2 p 3 &&& v.2 (p + 1 + i) 3))) id s (by
    intro n i s hi
    show f_X7_pairs_L22 (nI p) M (n + 1) s.1 s.2 (nI (p + 1 + i)) = f_X7_pairs_L22 (nI p) M n (if bc (v.2 p 3 &&& v.2 (p + 1 + i) 3) ≤ s.2 then s else (10 * nI p + nI (p + 1 + i), bc (v.2 p 3 &&& v.2 (p + 1 + i) 3))).1 (if bc (v.2 p 3 &&& v.2 (p + 1 + i) 3) ≤ s.2 then s else (10 * nI p + nI (p + 1 + i), bc (v.2 p 3 &&& v.2 (p + 1 + i) 3))).2 (nI (p + 1 + (i + 1)))
    rw [f_X7_pairs_L22]
    simp (disch := omega) only [nI_leF (show p + 1 + i < pN v by omega), hV.1, h1, chk_ok, tn_nI, VC3 hV, bc_ok, Option.bind_some, bi, nI_1, reduceIte]
    split <;> rfl) (by
    intro n s
    show f_X7_pairs_L22 (nI p) M (n + 1) s.1 s.2 (nI (p + 1 + (pN v - (p + 1)))) = _
    rw [f_X7_pairs_L22, show p + 1 + (pN v - (p + 1)) = pN v by omega]
    simp (disch := omega) only [nI_leT (Nat.le_refl _), hV.1, h1, reduceIte]
    rfl) 1000 (by omega)
theorem M_pairI (hV : VM b v M) (hW : WF v) {p : Nat} (hp : p < pN v) (s : Int32 × Int32) : f_X8_pairs_L19 b (nI p) M 1000 s.1 s.2 (nI (p + 1)) = some (sPairI v p s) := by
  have h1 := hW.n
  have h2 := hW.n9
  exact loop_run0 (fun n i (s : Int32 × Int32) => f_X8_pairs_L19 b (nI p) M n s.1 s.2 (nI (p + 1 + i))) (pN v - (p + 1)) (fun i s => if bc (v.2 p 3 &&& v.2 (p + 1 + i) 3) ≤ s.2 then s else (10 * nI p + nI (p + 1 + i), bc (v.2 p 3 &&& v.2 (p + 1 + i) 3))) id s (by
    intro n i s hi
    show f_X8_pairs_L19 b (nI p) M (n + 1) s.1 s.2 (nI (p + 1 + i)) = f_X8_pairs_L19 b (nI p) M n (if bc (v.2 p 3 &&& v.2 (p + 1 + i) 3) ≤ s.2 then s else (10 * nI p + nI (p + 1 + i), bc (v.2 p 3 &&& v.2 (p + 1 + i) 3))).1 (if bc (v.2 p 3 &&& v.2 (p + 1 + i) 3) ≤ s.2 then s else (10 * nI p + nI (p + 1 + i), bc (v.2 p 3 &&& v.2 (p + 1 + i) 3))).2 (nI (p + 1 + (i + 1)))
    rw [f_X8_pairs_L19]
    simp (disch := omega) only [nI_leF (show p + 1 + i < pN v by omega), hV.n, h1, chk_ok, tn_nI, hV.p3, bits_ok (sm_and (by decide) (hW.f (p := p) (by omega)) (hW.f (p := p + 1 + i) (by omega))), Option.bind_some, bi, nI_1, reduceIte]
    by_cases h : bc (v.2 p 3 &&& v.2 (p + 1 + i) 3) ≤ s.2
    · simp only [if_pos h]; rfl
    · simp only [if_neg h]; rfl) (by
    intro n s
    show f_X8_pairs_L19 b (nI p) M (n + 1) s.1 s.2 (nI (p + 1 + (pN v - (p + 1)))) = _
    rw [f_X8_pairs_L19, show p + 1 + (pN v - (p + 1)) = pN v by omega]
    simp (disch := omega) only [nI_leT (Nat.le_refl _), hV.n, h1, reduceIte]
    rfl) 1000 (by omega)
theorem C_pairs (hV : VC 1 v M) (hW : WF v) : f_X7_pairs M = some (sPairs v).1 := by
  have h1 := hW.n
  have h2 := hW.n9
  have hL := loop_run0 (fun n i (s : Int32 × Int32) => f_X7_pairs_L6 M n s.1 s.2 (nI i)) (pN v) (fun p s => sPairI v p s) (fun s => s.1) (-1, -1) (by
    intro n i s hi
    show f_X7_pairs_L6 M (n + 1) s.1 s.2 (nI i) = f_X7_pairs_L6 M n (sPairI v i s).1 (sPairI v i s).2 (nI (i + 1))
    rw [f_X7_pairs_L6]
    simp (disch := omega) only [nI_leF hi, hV.1, h1, bi, nI_1, C_pairI hV hW hi, ob2, Option.bind_some, reduceIte]) (by
    intro n s
    show f_X7_pairs_L6 M (n + 1) s.1 s.2 (nI (pN v)) = _
    rw [f_X7_pairs_L6]
    simp (disch := omega) only [nI_leT (Nat.le_refl _), hV.1, h1, reduceIte]) 1000 (by omega)
  unfold f_X7_pairs
  rw [show f_X7_pairs_L6 M 1000 (-1) (-1) 0 = _ from hL]
  rfl
theorem M_pairs (hV : VM b v M) (hW : WF v) : f_X8_pairs b M = some (sPairs v).1 := by
  have h1 := hW.n
  have h2 := hW.n9
  have hL := loop_run0 (fun n i (s : Int32 × Int32) => f_X8_pairs_L6 b M n s.1 s.2 (nI i)) (pN v) (fun p s => sPairI v p s) (fun s => s.1) (-1, -1) (by
    intro n i s hi
    show f_X8_pairs_L6 b M (n + 1) s.1 s.2 (nI i) = f_X8_pairs_L6 b M n (sPairI v i s).1 (sPairI v i s).2 (nI (i + 1))
    rw [f_X8_pairs_L6]
    simp (disch := omega) only [nI_leF hi, hV.n, h1, bi, nI_1, M_pairI hV hW hi, ob2, Option.bind_some, reduceIte]) (by
    intro n s
    show f_X8_pairs_L6 b M (n + 1) s.1 s.2 (nI (pN v)) = _
    rw [f_X8_pairs_L6]
    simp (disch := omega) only [nI_leT (Nat.le_refl _), hV.n, h1, reduceIte]) 1000 (by omega)
  unfold f_X8_pairs
  rw [show f_X8_pairs_L6 b M 1000 (-1) (-1) 0 = _ from hL]
  rfl
/-! days of the week -/
theorem C_week {c : Nat} (hV : VC c v M) (hW : WF v) {r : Nat} (hr : r < 7) : f_X1_totalOnWeekday c (nI r) M = some (sWeek v r) := by
  have h1 := hW.d
  have h2 := hW.d15
  have hL := loop_run0 (fun n i (s : Int32) => f_X1_totalOnWeekday_L4 c M n s (nI (r + 7 * i))) ((dN v + 6 - r) / 7) (fun i s => s + sHow v (nI (r + 7 * i))) id 0 (by
    intro n i s hi
    show f_X1_totalOnWeekday_L4 c M (n + 1) s (nI (r + 7 * i)) = f_X1_totalOnWeekday_L4 c M n (s + sHow v (nI (r + 7 * i))) (nI (r + 7 * (i + 1)))
    rw [f_X1_totalOnWeekday_L4]
    simp (disch := omega) only [nI_leF (show r + 7 * i < dN v by omega), hV.1, h1, C_howManyOn hV hW, Option.bind_some, bi, reduceIte]
    rw [show (7 : Int32) = nI 7 from rfl, nI_add]; rfl) (by
    intro n s
    show f_X1_totalOnWeekday_L4 c M (n + 1) s (nI (r + 7 * ((dN v + 6 - r) / 7))) = some s
    rw [f_X1_totalOnWeekday_L4]
    simp (disch := omega) only [nI_leT (show dN v ≤ r + 7 * ((dN v + 6 - r) / 7) by omega), hV.1, h1, reduceIte]) 1000 (by omega)
  unfold f_X1_totalOnWeekday
  rw [show f_X1_totalOnWeekday_L4 c M 1000 0 (nI r) = _ from hL]
  rfl
theorem M_week_weeks (hV : VM b v M) (hW : WF v) {r : Nat} (hr : r < 7) : f_X8_weeks_L23 b M 1000 0 (nI r) = some (sWeek v r) := by
  have h1 := hW.d
  have h2 := hW.d15
  exact loop_run0 (fun n i (s : Int32) => f_X8_weeks_L23 b M n s (nI (r + 7 * i))) ((dN v + 6 - r) / 7) (fun i s => s + sHow v (nI (r + 7 * i))) id 0 (by
    intro n i s hi
    show f_X8_weeks_L23 b M (n + 1) s (nI (r + 7 * i)) = f_X8_weeks_L23 b M n (s + sHow v (nI (r + 7 * i))) (nI (r + 7 * (i + 1)))
    rw [f_X8_weeks_L23]
    simp (disch := omega) only [nI_leF (show r + 7 * i < dN v by omega), hV.d, h1, M_thereOn hV hW, M_how hV hW, Option.bind_some, bi, reduceIte]
    rw [show (7 : Int32) = nI 7 from rfl, nI_add]; rfl) (by
    intro n s
    show f_X8_weeks_L23 b M (n + 1) s (nI (r + 7 * ((dN v + 6 - r) / 7))) = some s
    rw [f_X8_weeks_L23]
    simp (disch := omega) only [nI_leT (show dN v ≤ r + 7 * ((dN v + 6 - r) / 7) by omega), hV.d, h1, reduceIte]) 1000 (by omega)
theorem M_week_fixed (hV : VM b v M) (hW : WF v) (x1 x2 x3 : Int32) {r : Nat} (hr : r < 7) : f_X8_fixed_L18 b x1 x2 x3 M 1000 0 (nI r) = some (sWeek v r) := by
  have h1 := hW.d
  have h2 := hW.d15
  exact loop_run0 (fun n i (s : Int32) => f_X8_fixed_L18 b x1 x2 x3 M n s (nI (r + 7 * i))) ((dN v + 6 - r) / 7) (fun i s => s + sHow v (nI (r + 7 * i))) id 0 (by
    intro n i s hi
    show f_X8_fixed_L18 b x1 x2 x3 M (n + 1) s (nI (r + 7 * i)) = f_X8_fixed_L18 b x1 x2 x3 M n (s + sHow v (nI (r + 7 * i))) (nI (r + 7 * (i + 1)))
    rw [f_X8_fixed_L18]
    simp (disch := omega) only [nI_leF (show r + 7 * i < dN v by omega), hV.d, h1, M_thereOn hV hW, M_how hV hW, Option.bind_some, bi, reduceIte]
    rw [show (7 : Int32) = nI 7 from rfl, nI_add]; rfl) (by
    intro n s
    show f_X8_fixed_L18 b x1 x2 x3 M (n + 1) s (nI (r + 7 * ((dN v + 6 - r) / 7))) = some s
    rw [f_X8_fixed_L18]
    simp (disch := omega) only [nI_leT (show dN v ≤ r + 7 * ((dN v + 6 - r) / 7) by omega), hV.d, h1, reduceIte]) 1000 (by omega)
theorem sm_add {x y : Int32} {n m : Nat} (hn : n + m ≤ 2 ^ 31) (hx : sm x n) (hy : sm y m) : sm (x + y) (n + m) := by
  rw [hx.1, hy.1, nI_add]
  exact sm_nI (by have := hx.2; have := hy.2; omega) hn
theorem sWeek_nn (hW : WF v) {r : Nat} : ¬ sWeek v r ≤ -1 := by
  have h2 := hW.n9
  have h4 := hW.d15
  refine sm_nneg (n := 9 * 4 + 1) (by decide) (sm.mono (iter_inv (N := (dN v + 6 - r) / 7) (fun i s => sm s (9 * i + 1)) (sm0 (by decide) (by decide)) (fun i s hi h => ?_) _ (Nat.le_refl _)) (by omega))
  exact (sm_add (by omega) h ((sHow_sm hW _).mono (show pN v + 1 ≤ 9 by omega))).mono (by omega)
theorem C_fixed (hV : VC 1 v M) (hW : WF v) : f_X7_fixed M = some (nI (amax (sWeek v) 7)) := by
  have hL := loop_amax (sWeek v) (fun n i s => f_X7_fixed_L4 M n (nI s) (nI i)) 7 (by decide) nI (by
    intro n i s hi h0 hs
    show f_X7_fixed_L4 M (n + 1) (nI s) (nI i) = f_X7_fixed_L4 M n (nI (if sWeek v s < sWeek v i then i else s)) (nI (i + 1))
    rw [f_X7_fixed_L4, show (7 : Int32) = nI 7 from rfl]
    simp (disch := omega) only [nI_leF hi, C_week hV hW, Option.bind_some, bi, nI_1, nI_ite, ite_le, reduceIte]
    split <;> rfl) (by
    intro n s hs
    show f_X7_fixed_L4 M (n + 1) (nI s) 7 = _
    rw [f_X7_fixed_L4]
    exact if_pos (by decide)) 1000 (by decide)
  unfold f_X7_fixed
  rw [show f_X7_fixed_L4 M 1000 0 1 = _ from hL]
  rfl
theorem M_fixed (hV : VM b v M) (hW : WF v) : f_X8_fixed b M = some (nI (amax (sWeek v) 7)) := by
  obtain ⟨r, e1, e2⟩ := loop_ex (fun n i (s : Int32 × Int32) => f_X8_fixed_L6 b M n s.1 s.2 (nI i)) 7 (fun i s => (i = 0 ∧ s = (0, -1)) ∨ (1 ≤ i ∧ s = (nI (amax (sWeek v) i), sWeek v (amax (sWeek v) i)))) (fun r => r = nI (amax (sWeek v) 7)) (by
    intro n i s hi h
    refine Or.inr ?_
    show ∃ s2 : Int32 × Int32, f_X8_fixed_L6 b M (n + 1) s.1 s.2 (nI i) = f_X8_fixed_L6 b M n s2.1 s2.2 (nI (i + 1)) ∧ _
    rw [f_X8_fixed_L6, show (7 : Int32) = nI 7 from rfl]
    simp (disch := omega) only [nI_leF hi, M_week_fixed hV hW _ _ _ hi, Option.bind_some, bi, nI_1, reduceIte]
    rcases h with ⟨rfl, rfl⟩ | ⟨h0, rfl⟩
    · refine ⟨(nI 0, sWeek v 0), ?_, Or.inr ⟨by omega, rfl⟩⟩
      simp only [if_neg (sWeek_nn hW (r := 0))]
    · refine ⟨if sWeek v (amax (sWeek v) i) < sWeek v i then (nI i, sWeek v i) else (nI (amax (sWeek v) i), sWeek v (amax (sWeek v) i)), ?_, Or.inr ⟨by omega, ?_⟩⟩
      · simp only [ite_le]
        by_cases h : sWeek v (amax (sWeek v) i) < sWeek v i
        · simp only [if_pos h]
        · simp only [if_neg h]
      · rw [amax_s h0]
        split <;> rfl) (by
    intro n s h
    rcases h with ⟨h0, h⟩ | ⟨h0, rfl⟩
    · omega
    · refine ⟨_, ?_, rfl⟩
      show f_X8_fixed_L6 b M (n + 1) _ _ 7 = _
      rw [f_X8_fixed_L6]
      exact if_pos (by decide)) 1000 0 (0, -1) (by omega) (by omega) (Or.inl ⟨rfl, rfl⟩)
  unfold f_X8_fixed
  rw [show f_X8_fixed_L6 b M 1000 0 (-1) 0 = some r from e1, e2]
  rfl
/-! the first day of a set -/
theorem C_firstBit (x : Int32) {i : Nat} (hi : i ≤ 14) : f_X7_firstBit x (nI i) = some (plc (fstO (fun j => decide (hb x (nI j))) (14 - i) i)) := by
  unfold f_X7_firstBit
  have h := loop_fst (fun j => decide (hb x (nI j))) (fun n i => f_X7_firstBit_L2 x n (nI i)) 14 () nI (by
    intro n i hi
    show f_X7_firstBit_L2 x (n + 1) (nI i) = _
    rw [f_X7_firstBit_L2, show (14 : Int32) = nI 14 from rfl]
    simp (disch := omega) only [nI_leF hi, hasBit_ok, Option.bind_some, ite01, ite_not, bi, nI_1, reduceIte, decide_eq_true_eq]) (by
    intro n
    show f_X7_firstBit_L2 x (n + 1) 14 = _
    rw [f_X7_firstBit_L2]
    exact if_pos (by decide)) 1000 i hi (by omega)
  rw [show f_X7_firstBit_L2 x 1000 (nI i) = _ from h, obS_elim]
  cases fstO (fun j => decide (hb x (nI j))) (14 - i) i <;> rfl
theorem hb_out {x : Int32} {k j : Nat} (hk : k ≤ 14) (hx : sm x (2 ^ k)) (hj : k ≤ j) (hj2 : j < 32) : ¬ hb x (nI j) := by
  have h9 : 2 ^ k ≤ 2 ^ 14 := Nat.pow_le_pow_right (by decide) hk
  rw [hb_sm (by omega) hx hj2, Nat.testBit_lt_two_pow (Nat.lt_of_lt_of_le hx.2 (Nat.pow_le_pow_right (by decide) hj))]
  decide
theorem fst14 {x : Int32} {d i : Nat} (hd : d ≤ 14) (hi : i ≤ d) (hx : sm x (2 ^ d)) : fstO (fun j => decide (hb x (nI j))) (14 - i) i = fstO (fun j => decide (hb x (nI j))) (d - i) i := by
  rw [show 14 - i = (d - i) + (14 - d) by omega]
  exact fstO_add _ _ _ fun j h1 h2 => decide_eq_false (hb_out hd hx (by omega) (by omega))
end R4
