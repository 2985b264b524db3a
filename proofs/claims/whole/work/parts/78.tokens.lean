/-! the tape's words, numbers and signs -/
def stp (P : Nat → Bool) (N : Nat) : Nat → Nat → Nat
  | 0, i => i
  | k + 1, i => if i < N then (if P i = true then stp P N k (i + 1) else i) else i
def Stop (P : Nat → Bool) (N i j : Nat) : Prop := i ≤ j ∧ j ≤ N ∧ (∀ q, i ≤ q → q < j → P q = true) ∧ (j < N → P j = false)
theorem stp_stop {P : Nat → Bool} {N : Nat} : ∀ k i, i ≤ N → N ≤ k + i → Stop P N i (stp P N k i) := by
  intro k
  induction k with
  | zero => intro i h1 h2; exact ⟨Nat.le_refl _, h1, fun q a b => absurd b (Nat.not_lt.mpr a), fun z => absurd (show i < N from z) (by omega)⟩
  | succ k ih =>
    intro i h1 h2
    unfold stp
    by_cases q : i < N
    · rw [if_pos q]
      by_cases q2 : P i = true
      · rw [if_pos q2]
        obtain ⟨a1, a2, a3, a4⟩ := ih (i + 1) q (by omega)
        refine ⟨by omega, a2, fun z hz1 hz2 => ?_, a4⟩
        by_cases e : z = i
        · subst e; exact q2
        · exact a3 z (by omega) hz2
      · rw [if_neg q2]
        refine ⟨Nat.le_refl _, h1, fun z a b => absurd b (Nat.not_lt.mpr a), fun _ => ?_⟩
        cases h : P i with
        | true => exact absurd h q2
        | false => rfl
    · rw [if_neg q]
      exact ⟨Nat.le_refl _, h1, fun z a b => absurd b (Nat.not_lt.mpr a), fun z => absurd z q⟩
theorem stop_uniq {P : Nat → Bool} {N i j j2 : Nat} (h : Stop P N i j) (h2 : Stop P N i j2) : j = j2 := by
  rcases Nat.lt_trichotomy j j2 with z | z | z
  · have a := h2.2.2.1 j h.1 z
    have b := h.2.2.2 (Nat.lt_of_lt_of_le z h2.2.1)
    rw [a] at b; cases b
  · exact z
  · have a := h.2.2.1 j2 h2.1 z
    have b := h2.2.2.2 (Nat.lt_of_lt_of_le z h.2.1)
    rw [a] at b; cases b
theorem stop_pred {P : Nat → Bool} {N i j : Nat} (hi : i < N) (hp : P i = true) (h : Stop P N i j) : Stop P N (i + 1) j := by
  have h3 : i < j := by
    rcases Nat.lt_or_ge i j with z | z
    · exact z
    · have e : j = i := Nat.le_antisymm z h.1
      subst e
      have := h.2.2.2 hi
      rw [hp] at this; cases this
  exact ⟨h3, h.2.1, fun q a b => h.2.2.1 q (by omega) b, h.2.2.2⟩
def tkb (x : Int32) : Nat := if 97 ≤ x ∧ x ≤ 122 then 1 else if 48 ≤ x ∧ x ≤ 57 then 2 else if x = 59 then 3 else 4
abbrev Tok : Type := Nat × Nat × Nat
def tSt (T : Nat → Int32) (N i : Nat) : Nat := stp (fun j => decide (T j = 32)) N 250 i
def tKd (T : Nat → Int32) (N st : Nat) : Nat := if st < N then tkb (T st) else 0
def tEn (T : Nat → Int32) (N st : Nat) : Nat := if st < N then (if tkb (T st) = 1 ∨ tkb (T st) = 2 then stp (fun j => decide (tkb (T j) = tkb (T st))) N 250 (st + 1) else st + 1) else N
def tokAt (T : Nat → Int32) (N i : Nat) : Tok := (tKd T N (tSt T N i), tSt T N i, tEn T N (tSt T N i))
abbrev nxT (T : Nat → Int32) (N : Nat) (t : Tok) : Tok := tokAt T N t.2.2
theorem tkb_r (x : Int32) : 1 ≤ tkb x ∧ tkb x ≤ 4 := by unfold tkb; (repeat' split) <;> decide
theorem tok_facts {T : Nat → Int32} {N i : Nat} (hN : N ≤ 250) (hi : i ≤ N) : i ≤ (tokAt T N i).2.1 ∧ (tokAt T N i).2.1 ≤ (tokAt T N i).2.2 ∧ (tokAt T N i).2.2 ≤ N ∧ (tokAt T N i).1 ≤ 4 ∧ ((tokAt T N i).1 ≠ 0 → (tokAt T N i).2.1 < (tokAt T N i).2.2 ∧ (tokAt T N i).2.1 < N) ∧ ((tokAt T N i).1 = 0 → (tokAt T N i).2.1 = N) ∧ ((tokAt T N i).1 = 2 → ∀ q, (tokAt T N i).2.1 ≤ q → q < (tokAt T N i).2.2 → tkb (T q) = 2) := by
  have s := stp_stop (P := fun j => decide (T j = 32)) (N := N) 250 i hi (by omega)
  show i ≤ tSt T N i ∧ tSt T N i ≤ tEn T N (tSt T N i) ∧ tEn T N (tSt T N i) ≤ N ∧ tKd T N (tSt T N i) ≤ 4 ∧ (tKd T N (tSt T N i) ≠ 0 → tSt T N i < tEn T N (tSt T N i) ∧ tSt T N i < N) ∧ (tKd T N (tSt T N i) = 0 → tSt T N i = N) ∧ (tKd T N (tSt T N i) = 2 → ∀ q, tSt T N i ≤ q → q < tEn T N (tSt T N i) → tkb (T q) = 2)
  have s1 : i ≤ tSt T N i := s.1
  have s2 : tSt T N i ≤ N := s.2.1
  generalize tSt T N i = st at s1 s2
  unfold tKd tEn
  have r := tkb_r (T st)
  by_cases q : st < N
  · rw [if_pos q, if_pos q]
    by_cases q2 : tkb (T st) = 1 ∨ tkb (T st) = 2
    · rw [if_pos q2]
      have e := stp_stop (P := fun j => decide (tkb (T j) = tkb (T st))) (N := N) 250 (st + 1) q (by omega)
      refine ⟨s1, by have := e.1; omega, e.2.1, r.2, fun _ => ⟨by have := e.1; omega, q⟩, fun z => by omega, fun z x h1 h2 => ?_⟩
      by_cases e9 : x = st
      · subst e9; exact z
      · exact (of_decide_eq_true (e.2.2.1 x (by omega) h2)).trans z
    · rw [if_neg q2]
      exact ⟨s1, by omega, by omega, r.2, fun _ => ⟨by omega, q⟩, fun z => by omega, fun z => absurd (Or.inr z) q2⟩
  · rw [if_neg q, if_neg q]
    exact ⟨s1, by omega, Nat.le_refl _, by decide, fun z => absurd rfl z, fun _ => by omega, fun z => by omega⟩
def nvI (T : Nat → Int32) (st n : Nat) : Int32 := iter (fun i (x : Int32) => 10 * x + T (st + i) - 48) n 0
/-- a number of one or two figures, from lo to hi -/
def numP (T : Nat → Int32) (t : Tok) (lo hi : Int32) : Prop := t.1 = 2 ∧ t.2.2 - t.2.1 ≤ 2 ∧ lo ≤ nvI T t.2.1 (t.2.2 - t.2.1) ∧ nvI T t.2.1 (t.2.2 - t.2.1) ≤ hi
abbrev nvT (T : Nat → Int32) (t : Tok) : Int32 := nvI T t.2.1 (t.2.2 - t.2.1)
def isW (T : Nat → Int32) (t : Tok) (w : Nat) : Prop := t.1 = 1 ∧ t.2.2 - t.2.1 = lenS.getD w 0 ∧ fstO (fun i => decide (¬ T (t.2.1 + i) = (bytS.getD w []).getD i 0)) (lenS.getD w 0) 0 = none
theorem dig {x : Int32} (h : tkb x = 2) : ∃ d, d < 10 ∧ x = nI (48 + d) := by
  have h2 : 48 ≤ x ∧ x ≤ 57 := by
    unfold tkb at h
    by_cases q : 97 ≤ x ∧ x ≤ 122
    · rw [if_pos q] at h; omega
    · rw [if_neg q] at h
      by_cases q2 : 48 ≤ x ∧ x ≤ 57
      · exact q2
      · rw [if_neg q2] at h
        by_cases q3 : x = 59
        · rw [if_pos q3] at h; omega
        · rw [if_neg q3] at h; omega
  obtain ⟨k, hk, rfl⟩ := (inN_iff (n := 58) (by decide)).mp ⟨Int32.le_trans (by decide) h2.1, (le_nI (n := 57) (by decide)).mp h2.2⟩
  have k1 : 48 ≤ k := Nat.le_of_not_lt fun z => Int32.not_le.mpr (nI_lt (b := 48) z (by decide)) h2.1
  exact ⟨k - 48, by omega, by rw [show 48 + (k - 48) = k by omega]⟩
theorem dig1 (x d : Nat) : 10 * nI x + nI (48 + d) - 48 = nI (10 * x + d) := by
  rw [show (10 : Int32) = nI 10 from rfl, nI_mul9, nI_add, show (48 : Int32) = nI 48 from rfl, nI_subN (by omega), show 10 * x + (48 + d) - 48 = 10 * x + d by omega]
theorem nv_sm {T : Nat → Int32} {st n : Nat} (hn : n ≤ 2) (h : ∀ q, st ≤ q → q < st + n → tkb (T q) = 2) : sm (nvI T st n) 100 := by
  rcases (show n = 0 ∨ n = 1 ∨ n = 2 by omega) with z | z | z
  · subst z; exact sm0 (by decide) (by decide)
  · subst z
    obtain ⟨d, hd, e⟩ := dig (h st (Nat.le_refl _) (by omega))
    show sm (10 * nI 0 + T (st + 0) - 48) 100
    rw [Nat.add_zero st, e, dig1]
    exact sm_nI (by omega) (by decide)
  · subst z
    obtain ⟨d, hd, e⟩ := dig (h st (Nat.le_refl _) (by omega))
    obtain ⟨d2, hd2, e2⟩ := dig (h (st + 1) (by omega) (by omega))
    show sm (10 * (10 * nI 0 + T (st + 0) - 48) + T (st + 1) - 48) 100
    rw [Nat.add_zero st, e, dig1, e2, dig1]
    exact sm_nI (by omega) (by decide)
/-- a walk over the tape while something holds -/
theorem loop_skip (F : Nat → Mm → Option Mm) (o k : Nat) (P : Nat → Bool) (N : Nat) (G : Mm → Prop)
    (hstep : ∀ n i M, i < N → G M → M.1 o k = nI i → F (n + 1) M = if P i = true then F n (wI M o k (nI (i + 1))) else some M) (hend : ∀ n M, G M → M.1 o k = nI N → F (n + 1) M = some M) (hG : ∀ M x, G M → G (wI M o k x)) :
    ∀ n i M, i ≤ N → N < n + i → G M → M.1 o k = nI i → ∃ M2 j, F n M = some M2 ∧ Stop P N i j ∧ M2.1 o k = nI j ∧ (∀ x y, x ≠ o ∨ y ≠ k → M2.1 x y = M.1 x y) ∧ M2.2 = M.2 ∧ G M2 := by
  intro n
  induction n with
  | zero => intro i M h1 h2; omega
  | succ n ih =>
    intro i M h1 h2 hM hi
    by_cases e : i = N
    · subst e
      exact ⟨M, i, hend n M hM hi, ⟨Nat.le_refl _, h1, fun q a b => absurd b (Nat.not_lt.mpr a), fun z => absurd z (Nat.lt_irrefl _)⟩, hi, fun _ _ _ => rfl, rfl, hM⟩
    · rw [hstep n i M (by omega) hM hi]
      by_cases q : P i = true
      · rw [if_pos q]
        obtain ⟨M2, j, a1, a2, a3, a4, a5, a6⟩ := ih (i + 1) (wI M o k (nI (i + 1))) (by omega) (by omega) (hG M _ hM) wI_on
        refine ⟨M2, j, a1, ⟨by have := a2.1; omega, a2.2.1, fun z b1 b2 => ?_, a2.2.2.2⟩, a3, fun x y hx => (a4 x y hx).trans (wI_off hx), a5, a6⟩
        by_cases e2 : z = i
        · subst e2; exact q
        · exact a2.2.2.1 z (by omega) b2
      · rw [if_neg q]
        refine ⟨M, i, rfl, ⟨Nat.le_refl _, h1, fun q a b => absurd b (Nat.not_lt.mpr a), fun _ => ?_⟩, hi, fun _ _ _ => rfl, rfl, hM⟩
        cases h : P i with
        | true => exact absurd h q
        | false => rfl
theorem tokBy_ok (x : Int32) : f_X5_tokenBegunBy x = some (nI (tkb x)) := by
  unfold f_X5_tokenBegunBy tkb
  rw [within_ok, within_ok]
  by_cases q : 97 ≤ x ∧ x ≤ 122
  · rw [if_pos q, if_pos q, Option.bind_some, if_neg (by decide)]; rfl
  · rw [if_neg q, if_neg q, Option.bind_some, if_pos rfl, Option.bind_some]
    by_cases q2 : 48 ≤ x ∧ x ≤ 57
    · rw [if_pos q2, if_pos q2, if_neg (by decide)]; rfl
    · rw [if_neg q2, if_neg q2, if_pos rfl]
      by_cases q3 : x = 59
      · rw [if_pos q3, if_pos q3]; rfl
      · rw [if_neg q3, if_neg q3]; rfl
theorem nI_kd {a b : Nat} (ha : a ≤ 4) (hb : b ≤ 4) : (nI a = nI b) = (a = b) := propext (nI_eq (by omega) (by omega))
/-- the component's tape -/
def CT9 (T : Nat → Int32) (N : Nat) (M : Mm) : Prop := M.1 38 1 = nI N ∧ ∀ i, i < N → M.1 39 i = T i
theorem CT9.put {T : Nat → Int32} {N : Nat} {M : Mm} (h : CT9 T N M) {k : Nat} {x : Int32} (hk : k ≠ 1) : CT9 T N (wI M 38 k x) := ⟨(wI_off (by omega)).trans h.1, fun i hi => (wI_off (by omega)).trans (h.2 i hi)⟩
section TKN
variable {T : Nat → Int32} {N : Nat} {M : Mm}
theorem C_skip (hN : N ≤ 250) (hT : CT9 T N M) {i : Nat} (hi : i ≤ N) (h3 : M.1 38 3 = nI i) : ∃ M2, f_X5_nextToken_L8 38 1000 M = some M2 ∧ M2.1 38 3 = nI (tSt T N i) ∧ (∀ x y, x ≠ 38 ∨ y ≠ 3 → M2.1 x y = M.1 x y) ∧ M2.2 = M.2 ∧ CT9 T N M2 := by
  obtain ⟨M2, j, a1, a2, a3, a4, a5, a6⟩ := loop_skip (fun n M => f_X5_nextToken_L8 38 n M) 38 3 (fun j => decide (T j = 32)) N (CT9 T N) (by
    intro n i M hi hT h3
    show f_X5_nextToken_L8 38 (n + 1) M = if decide (T i = 32) = true then f_X5_nextToken_L8 38 n (wI M 38 3 (nI (i + 1))) else some M
    rw [f_X5_nextToken_L8, hT.1, h3, if_neg (nI_ge hi (by omega)), chk_ok (show i < 250 by omega) (by decide), tn_nI (by omega), show M.1 (38 + 1) i = T i from hT.2 i hi]
    by_cases q : T i = 32
    · rw [if_pos q, if_pos (decide_eq_true q)]
      simp only [bm, nI_1]
    · rw [if_neg q, if_neg (fun z => q (of_decide_eq_true z))]) (by
    intro n M hT h3
    show f_X5_nextToken_L8 38 (n + 1) M = some M
    rw [f_X5_nextToken_L8, hT.1, h3, if_pos (Int32.le_refl _)]) (fun M x h => h.put (by decide)) 1000 i M hi (by omega) hT h3
  exact ⟨M2, a1, by rw [a3, stop_uniq a2 (stp_stop 250 i hi (by omega))]; rfl, a4, a5, a6⟩
theorem C_run9 (hN : N ≤ 250) (hT : CT9 T N M) {c i : Nat} (hc : c ≤ 4) (hi : i ≤ N) (h2 : M.1 38 2 = nI c) (h4 : M.1 38 4 = nI i) : ∃ M2, f_X5_nextToken_L116 38 1 1000 M = some M2 ∧ M2.1 38 4 = nI (stp (fun j => decide (tkb (T j) = c)) N 250 i) ∧ (∀ x y, x ≠ 38 ∨ y ≠ 4 → M2.1 x y = M.1 x y) ∧ M2.2 = M.2 := by
  obtain ⟨M2, j, a1, a2, a3, a4, a5, a6⟩ := loop_skip (fun n M => f_X5_nextToken_L116 38 1 n M) 38 4 (fun j => decide (tkb (T j) = c)) N (fun M => CT9 T N M ∧ M.1 38 2 = nI c) (by
    intro n i M hi hT h4
    show f_X5_nextToken_L116 38 1 (n + 1) M = if decide (tkb (T i) = c) = true then f_X5_nextToken_L116 38 1 n (wI M 38 4 (nI (i + 1))) else some M
    rw [f_X5_nextToken_L116, if_neg (by decide), hT.1.1, h4, if_neg (nI_ge hi (by omega)), chk_ok (show i < 250 by omega) (by decide), tn_nI (by omega), show M.1 (38 + 1) i = T i from hT.1.2 i hi, tokBy_ok, Option.bind_some, hT.2]
    by_cases q : tkb (T i) = c
    · rw [if_pos (by rw [q]), if_pos (decide_eq_true q)]
      simp only [bm, nI_1]
    · rw [if_neg (fun z => q ((nI_eq (by have := (tkb_r (T i)).2; omega) (by omega)).mp z)), if_neg (fun z => q (of_decide_eq_true z))]) (by
    intro n M hT h4
    show f_X5_nextToken_L116 38 1 (n + 1) M = some M
    rw [f_X5_nextToken_L116, if_neg (by decide), hT.1.1, h4, if_pos (Int32.le_refl _)]) (fun M x h => ⟨h.1.put (by decide), (wI_off (by omega)).trans h.2⟩) 1000 i M hi (by omega) ⟨hT, h2⟩ h4
  exact ⟨M2, a1, by rw [a3, stop_uniq a2 (stp_stop 250 i hi (by omega))], a4, a5⟩
theorem L116_0 (M : Mm) : f_X5_nextToken_L116 38 0 1000 M = some M := by
  obtain ⟨n, hn⟩ : ∃ n, 1000 = n + 1 := ⟨999, rfl⟩
  rw [hn, f_X5_nextToken_L116, if_pos rfl]
def CK9 (t : Tok) (M : Mm) : Prop := M.1 38 2 = nI t.1 ∧ M.1 38 3 = nI t.2.1 ∧ M.1 38 4 = nI t.2.2
theorem C_next (hN : N ≤ 250) (hT : CT9 T N M) {i : Nat} (hi : i ≤ N) (h4 : M.1 38 4 = nI i) : ∃ M2, f_X5_nextToken 38 M = some M2 ∧ CK9 (tokAt T N i) M2 ∧ CT9 T N M2 ∧ (∀ x y, x ≠ 38 ∨ (y ≠ 2 ∧ y ≠ 3 ∧ y ≠ 4) → M2.1 x y = M.1 x y) ∧ M2.2 = M.2 := by
  obtain ⟨Ma, a1, a2, a3, a4, a5⟩ := C_skip hN (hT.put (k := 3) (x := nI i) (by decide)) hi wI_on
  have sl : tSt T N i ≤ N := (stp_stop (P := fun j => decide (T j = 32)) 250 i hi (by omega)).2.1
  have fr : ∀ x y, x ≠ 38 ∨ (y ≠ 2 ∧ y ≠ 3 ∧ y ≠ 4) → Ma.1 x y = M.1 x y := fun x y h => (a3 x y (by omega)).trans (wI_off (by omega))
  have hk : CK9 (tokAt T N i) = CK9 (tKd T N (tSt T N i), tSt T N i, tEn T N (tSt T N i)) := rfl
  rw [hk]
  unfold f_X5_nextToken
  rw [h4]
  simp only [bm]
  rw [a1, Option.bind_some, a5.1, a2]
  generalize tSt T N i = st at a2 sl
  by_cases q : st < N
  · have r := tkb_r (T st)
    have eb : Ma.1 (38 + 1) st = T st := a5.2 st q
    rw [if_neg (nI_ge q (by omega)), chk_ok (show st < 250 by omega) (by decide), tn_nI (by omega), eb, tokBy_ok, Option.bind_some]
    have e1 : (wI Ma 38 2 (nI (tkb (T st)))).1 38 1 = nI N := (wI_off (by omega)).trans a5.1
    have e3 : (wI Ma 38 2 (nI (tkb (T st)))).1 38 3 = nI st := (wI_off (by omega)).trans a2
    have em : imin (nI N) (nI (st + 1)) = nI (st + 1) := by rw [imin_N (by omega) (by omega), Nat.min_eq_right (by omega)]
    rw [e1, e3, nI_1, em]
    have hT2 : CT9 T N (wI (wI Ma 38 2 (nI (tkb (T st)))) 38 4 (nI (st + 1))) := (a5.put (by decide)).put (by decide)
    have g2 : (wI (wI Ma 38 2 (nI (tkb (T st)))) 38 4 (nI (st + 1))).1 38 2 = nI (tkb (T st)) := by rw [wI_off (by omega), wI_on]
    have g3 : (wI (wI Ma 38 2 (nI (tkb (T st)))) 38 4 (nI (st + 1))).1 38 3 = nI st := by rw [wI_off (by omega), wI_off (by omega)]; exact a2
    have g4 : (wI (wI Ma 38 2 (nI (tkb (T st)))) 38 4 (nI (st + 1))).1 38 4 = nI (st + 1) := wI_on
    have fg : ∀ x y, x ≠ 38 ∨ (y ≠ 2 ∧ y ≠ 3 ∧ y ≠ 4) → (wI (wI Ma 38 2 (nI (tkb (T st)))) 38 4 (nI (st + 1))).1 x y = M.1 x y := fun x y h => by rw [wI_off (by omega), wI_off (by omega)]; exact fr x y h
    have fj : (wI (wI Ma 38 2 (nI (tkb (T st)))) 38 4 (nI (st + 1))).2 = M.2 := a4
    generalize wI (wI Ma 38 2 (nI (tkb (T st)))) 38 4 (nI (st + 1)) = Mb at hT2 g2 g3 g4 fg fj
    have ek : tKd T N st = tkb (T st) := if_pos q
    obtain ⟨Mc, c1, c2, c3, c4⟩ := C_run9 hN hT2 r.2 (show st + 1 ≤ N by omega) g2 g4
    have long : (tkb (T st) = 1 ∨ tkb (T st) = 2) → CK9 (tKd T N st, st, tEn T N st) Mc ∧ CT9 T N Mc ∧ (∀ x y, x ≠ 38 ∨ (y ≠ 2 ∧ y ≠ 3 ∧ y ≠ 4) → Mc.1 x y = M.1 x y) ∧ Mc.2 = M.2 := fun z => by
      have ee : tEn T N st = stp (fun j => decide (tkb (T j) = tkb (T st))) N 250 (st + 1) := (if_pos q).trans (if_pos z)
      refine ⟨⟨by rw [ek, c3 38 2 (by omega)]; exact g2, by rw [c3 38 3 (by omega)]; exact g3, by rw [ee]; exact c2⟩, ⟨by rw [c3 38 1 (by omega)]; exact hT2.1, fun i hi => by rw [c3 39 i (by omega)]; exact hT2.2 i hi⟩, fun x y h => (c3 x y (by omega)).trans (fg x y h), c4.trans fj⟩
    rw [g2]
    have x1 : nI (tkb (T st)) = 1 ↔ tkb (T st) = 1 := nI_eq (b := 1) (by omega) (by decide)
    have x2 : nI (tkb (T st)) = 2 ↔ tkb (T st) = 2 := nI_eq (b := 2) (by omega) (by decide)
    by_cases k1 : tkb (T st) = 1
    · rw [if_pos (x1.mpr k1), c1]
      exact ⟨Mc, rfl, long (Or.inl k1)⟩
    · rw [if_neg (fun z => k1 (x1.mp z))]
      by_cases k2 : tkb (T st) = 2
      · rw [if_pos (x2.mpr k2), c1]
        exact ⟨Mc, rfl, long (Or.inr k2)⟩
      · rw [if_neg (fun z => k2 (x2.mp z)), L116_0]
        have ee : tEn T N st = st + 1 := (if_pos q).trans (if_neg (fun z => z.elim k1 k2))
        exact ⟨Mb, rfl, ⟨by rw [ek]; exact g2, g3, by rw [ee]; exact g4⟩, hT2, fg, fj⟩
  · have en : st = N := by omega
    subst en
    rw [if_pos (Int32.le_refl _)]
    have e1 : (wI Ma 38 2 0).1 38 1 = nI st := (wI_off (by omega)).trans a5.1
    have e3 : (wI Ma 38 2 0).1 38 3 = nI st := (wI_off (by omega)).trans a2
    have em : imin (nI st) (nI (st + 1)) = nI st := by rw [imin_N (by omega) (by omega), Nat.min_eq_left (by omega)]
    have g2 : (wI (wI Ma 38 2 0) 38 4 (nI st)).1 38 2 = 0 := by rw [wI_off (by omega), wI_on]
    rw [e1, e3, nI_1, em, g2, if_neg (show ¬ (0 : Int32) = 1 by decide), if_neg (show ¬ (0 : Int32) = 2 by decide), L116_0]
    have ek : tKd T st st = 0 := if_neg q
    have ee : tEn T st st = st := if_neg q
    exact ⟨_, rfl, ⟨by rw [ek]; exact g2, by rw [wI_off (by omega), wI_off (by omega)]; exact a2, by rw [ee]; exact wI_on⟩, (a5.put (by decide)).put (by decide), fun x y h => by rw [wI_off (by omega), wI_off (by omega)]; exact fr x y h, a4⟩
/-- the model's tape -/
def MT9 (T : Nat → Int32) (N : Nat) (M : Mm) : Prop := M.1 69 7 = nI N ∧ ∀ i, i < N → M.1 84 i = T i
theorem MT9.put {M : Mm} (h : MT9 T N M) {k : Nat} {x : Int32} (hk : k ≠ 7) : MT9 T N (wI M 69 k x) := ⟨(wI_off (by omega)).trans h.1, fun i hi => (wI_off (by omega)).trans (h.2 i hi)⟩
theorem isLetter_ok (x : Int32) : f_X8_isLetter x = some (if tkb x = 1 then 1 else 0) := by
  have e : (tkb x = 1) = (97 ≤ x ∧ x ≤ 122) := by
    unfold tkb
    by_cases q : 97 ≤ x ∧ x ≤ 122
    · rw [if_pos q]; exact (eq_true rfl).trans (eq_true q).symm
    · rw [if_neg q]
      refine (eq_false ?_).trans (eq_false q).symm
      (repeat' split) <;> decide
  unfold f_X8_isLetter
  simp only [e]
  by_cases h1 : x < 97
  · rw [if_pos h1, if_neg (fun q => i32_nle.mpr h1 q.1)]
  · rw [if_neg h1]
    by_cases h2 : 122 < x
    · rw [if_pos h2, if_neg (fun q => i32_nle.mpr h2 q.2)]
    · rw [if_neg h2, if_pos ⟨i32_nlt.mp h1, i32_nlt.mp h2⟩]
theorem isDigit_ok (x : Int32) : f_X8_isDigit x = some (if tkb x = 2 then 1 else 0) := by
  have e : (tkb x = 2) = (48 ≤ x ∧ x ≤ 57) := by
    unfold tkb
    by_cases q : 97 ≤ x ∧ x ≤ 122
    · rw [if_pos q]
      refine (eq_false (by decide)).trans (eq_false fun z => ?_).symm
      exact absurd (Int32.le_trans q.1 z.2) (by decide)
    · rw [if_neg q]
      by_cases q2 : 48 ≤ x ∧ x ≤ 57
      · rw [if_pos q2]; exact (eq_true rfl).trans (eq_true q2).symm
      · rw [if_neg q2]
        refine (eq_false ?_).trans (eq_false q2).symm
        split <;> decide
  unfold f_X8_isDigit
  simp only [e]
  by_cases h1 : x < 48
  · rw [if_pos h1, if_neg (fun q => i32_nle.mpr h1 q.1)]
  · rw [if_neg h1]
    by_cases h2 : 57 < x
    · rw [if_pos h2, if_neg (fun q => i32_nle.mpr h2 q.2)]
    · rw [if_neg h2, if_pos ⟨i32_nlt.mp h1, i32_nlt.mp h2⟩]
theorem M_skip (hN : N ≤ 250) (hT : MT9 T N M) {i : Nat} (hi : i ≤ N) (h3 : M.1 69 21 = nI i) : ∃ M2, f_X8_look_L0 69 1000 M = some M2 ∧ M2.1 69 21 = nI (tSt T N i) ∧ (∀ x y, x ≠ 69 ∨ y ≠ 21 → M2.1 x y = M.1 x y) ∧ M2.2 = M.2 ∧ MT9 T N M2 := by
  obtain ⟨M2, j, a1, a2, a3, a4, a5, a6⟩ := loop_skip (fun n M => f_X8_look_L0 69 n M) 69 21 (fun j => decide (T j = 32)) N (MT9 T N) (by
    intro n i M hi hT h3
    show f_X8_look_L0 69 (n + 1) M = if decide (T i = 32) = true then f_X8_look_L0 69 n (wI M 69 21 (nI (i + 1))) else some M
    rw [f_X8_look_L0, hT.1, h3, if_neg (nI_ge hi (by omega)), chk_ok (show i < 250 by omega) (by decide), tn_nI (by omega), show M.1 (69 + 15) i = T i from hT.2 i hi]
    by_cases q : T i = 32
    · rw [if_pos q, if_pos (decide_eq_true q)]
      simp only [bm, nI_1]
    · rw [if_neg q, if_neg (fun z => q (of_decide_eq_true z))]) (by
    intro n M hT h3
    show f_X8_look_L0 69 (n + 1) M = some M
    rw [f_X8_look_L0, hT.1, h3, if_pos (Int32.le_refl _)]) (fun M x h => h.put (by decide)) 1000 i M hi (by omega) hT h3
  exact ⟨M2, a1, by rw [a3, stop_uniq a2 (stp_stop 250 i hi (by omega))]; rfl, a4, a5, a6⟩
theorem M_letters (hN : N ≤ 250) (hT : MT9 T N M) {i : Nat} (hi : i ≤ N) (h3 : M.1 69 21 = nI i) : ∃ M2, f_X8_look_L90 69 1000 M = some M2 ∧ M2.1 69 21 = nI (stp (fun j => decide (tkb (T j) = 1)) N 250 i) ∧ (∀ x y, x ≠ 69 ∨ y ≠ 21 → M2.1 x y = M.1 x y) ∧ M2.2 = M.2 := by
  obtain ⟨M2, j, a1, a2, a3, a4, a5, a6⟩ := loop_skip (fun n M => f_X8_look_L90 69 n M) 69 21 (fun j => decide (tkb (T j) = 1)) N (MT9 T N) (by
    intro n i M hi hT h3
    show f_X8_look_L90 69 (n + 1) M = if decide (tkb (T i) = 1) = true then f_X8_look_L90 69 n (wI M 69 21 (nI (i + 1))) else some M
    rw [f_X8_look_L90, hT.1, h3, if_neg (nI_ge hi (by omega)), chk_ok (show i < 250 by omega) (by decide), tn_nI (by omega), show M.1 (69 + 15) i = T i from hT.2 i hi, isLetter_ok, Option.bind_some]
    by_cases q : tkb (T i) = 1
    · rw [if_pos q, if_neg (by decide), if_pos (decide_eq_true q)]
      simp only [bm, nI_1]
    · rw [if_neg q, if_pos rfl, if_neg (fun z => q (of_decide_eq_true z))]) (by
    intro n M hT h3
    show f_X8_look_L90 69 (n + 1) M = some M
    rw [f_X8_look_L90, hT.1, h3, if_pos (Int32.le_refl _)]) (fun M x h => h.put (by decide)) 1000 i M hi (by omega) hT h3
  exact ⟨M2, a1, by rw [a3, stop_uniq a2 (stp_stop 250 i hi (by omega))], a4, a5⟩
def figI (T : Nat → Int32) (st n : Nat) : Int32 := if n ≤ 2 then nvI T st n else 1000
theorem M_digits (hN : N ≤ 250) {st : Nat} : ∀ n i M, st ≤ i → i ≤ N → N < n + i → MT9 T N M → M.1 69 23 = nI st → M.1 69 21 = nI i → M.1 69 24 = figI T st (i - st) → ∃ M2 j, f_X8_look_L149 69 n M = some M2 ∧ Stop (fun j => decide (tkb (T j) = 2)) N i j ∧ M2.1 69 21 = nI j ∧ M2.1 69 24 = figI T st (j - st) ∧ (∀ x y, x ≠ 69 ∨ (y ≠ 21 ∧ y ≠ 24) → M2.1 x y = M.1 x y) ∧ M2.2 = M.2 := by
  intro n
  induction n with
  | zero => intro i M _ h1 h2; omega
  | succ n ih =>
    intro i M hs h1 h2 hT h23 h21 h24
    by_cases e : i = N
    · subst e
      refine ⟨M, i, ?_, ⟨Nat.le_refl _, h1, fun q a b => absurd b (Nat.not_lt.mpr a), fun z => absurd z (Nat.lt_irrefl _)⟩, h21, h24, fun _ _ _ => rfl, rfl⟩
      rw [f_X8_look_L149, hT.1, h21, if_pos (Int32.le_refl _)]
    · have hb : M.1 (69 + 15) i = T i := hT.2 i (by omega)
      have c250 : ∀ {α : Type} (X : Option α), chk (nI i) 250 X = X := fun X => chk_ok (by omega) (by decide)
      have ti : (nI i).toNatClampNeg = i := tn_nI (by omega)
      rw [f_X8_look_L149, hT.1, h21, if_neg (nI_ge (show i < N by omega) (by omega)), c250, c250, ti, hb, isDigit_ok, Option.bind_some, h23, nI_subN hs]
      by_cases q : tkb (T i) = 2
      · rw [if_pos q, if_neg (by decide)]
        have go : ∀ x, x = figI T st (i + 1 - st) → ∃ M2 j, f_X8_look_L149 69 n (wI (wI M 69 24 x) 69 21 (nI (i + 1))) = some M2 ∧ Stop (fun j => decide (tkb (T j) = 2)) N i j ∧ M2.1 69 21 = nI j ∧ M2.1 69 24 = figI T st (j - st) ∧ (∀ x y, x ≠ 69 ∨ (y ≠ 21 ∧ y ≠ 24) → M2.1 x y = M.1 x y) ∧ M2.2 = M.2 := by
          intro x hx
          obtain ⟨M2, j, a1, a2, a3, a4, a5, a6⟩ := ih (i + 1) (wI (wI M 69 24 x) 69 21 (nI (i + 1))) (by omega) (by omega) (by omega) ((hT.put (by decide)).put (by decide)) (by rw [wI_off (by omega), wI_off (by omega)]; exact h23) wI_on (by rw [wI_off (by omega), wI_on]; exact hx)
          refine ⟨M2, j, a1, ⟨by have := a2.1; omega, a2.2.1, fun z b1 b2 => ?_, a2.2.2.2⟩, a3, a4, fun x y h => by rw [a5 x y h, wI_off (by omega), wI_off (by omega)], a6⟩
          by_cases e2 : z = i
          · subst e2; exact decide_eq_true q
          · exact a2.2.2.1 z (by omega) b2
        by_cases q2 : 2 ≤ i - st
        · rw [if_pos (show (2 : Int32) ≤ nI (i - st) from nI_le (a := 2) q2 (by omega))]
          simp only [bm]
          rw [show (wI M 69 24 1000).1 69 21 = nI i from (wI_off (by omega)).trans h21, nI_1]
          exact go 1000 (if_neg (by omega)).symm
        · rw [if_neg (show ¬ (2 : Int32) ≤ nI (i - st) from nI_ge (b := 2) (by omega) (by decide))]
          simp only [bm]
          rw [show (wI M 69 24 (M.1 69 24 * 10 + T i - 48)).1 69 21 = nI i from (wI_off (by omega)).trans h21, nI_1]
          refine go _ ?_
          have e3 : i + 1 - st = (i - st) + 1 := by omega
          rw [h24, e3]
          unfold figI
          rw [if_pos (by omega), if_pos (by omega)]
          show nvI T st (i - st) * 10 + T i - 48 = 10 * nvI T st (i - st) + T (st + (i - st)) - 48
          rw [Int32.mul_comm, show st + (i - st) = i by omega]
      · rw [if_neg q, if_pos rfl]
        refine ⟨M, i, rfl, ⟨Nat.le_refl _, h1, fun q a b => absurd b (Nat.not_lt.mpr a), fun _ => decide_eq_false q⟩, h21, h24, fun _ _ _ => rfl, rfl⟩
def MK9 (T : Nat → Int32) (t : Tok) (M : Mm) : Prop := M.1 69 22 = nI t.1 ∧ M.1 69 23 = nI t.2.1 ∧ M.1 69 21 = nI t.2.2 ∧ (t.1 = 2 → M.1 69 24 = figI T t.2.1 (t.2.2 - t.2.1))
/-- the reading's scratch -/
def FrL (M M2 : Mm) : Prop := (∀ x y, x ≠ 69 ∨ (y ≠ 21 ∧ y ≠ 22 ∧ y ≠ 23 ∧ y ≠ 24) → M2.1 x y = M.1 x y) ∧ M2.2 = M.2
theorem M_look (hN : N ≤ 250) (hT : MT9 T N M) {i : Nat} (hi : i ≤ N) (h4 : M.1 69 21 = nI i) : ∃ M2, f_X8_look 69 M = some M2 ∧ MK9 T (tokAt T N i) M2 ∧ MT9 T N M2 ∧ FrL M M2 := by
  obtain ⟨Ma, a1, a2, a3, a4, a5⟩ := M_skip hN hT hi h4
  have sl : tSt T N i ≤ N := (stp_stop (P := fun j => decide (T j = 32)) 250 i hi (by omega)).2.1
  have hk : MK9 T (tokAt T N i) = MK9 T (tKd T N (tSt T N i), tSt T N i, tEn T N (tSt T N i)) := rfl
  rw [hk]
  unfold f_X8_look
  rw [a1, Option.bind_some, a2]
  generalize tSt T N i = st at a2 sl
  simp only [bm]
  have hT2 : MT9 T N (wI (wI Ma 69 23 (nI st)) 69 24 0) := (a5.put (by decide)).put (by decide)
  have g21 : (wI (wI Ma 69 23 (nI st)) 69 24 0).1 69 21 = nI st := by rw [wI_off (by omega), wI_off (by omega)]; exact a2
  have g23 : (wI (wI Ma 69 23 (nI st)) 69 24 0).1 69 23 = nI st := by rw [wI_off (by omega), wI_on]
  have g24 : (wI (wI Ma 69 23 (nI st)) 69 24 0).1 69 24 = 0 := wI_on
  have fg : ∀ x y, x ≠ 69 ∨ (y ≠ 21 ∧ y ≠ 22 ∧ y ≠ 23 ∧ y ≠ 24) → (wI (wI Ma 69 23 (nI st)) 69 24 0).1 x y = M.1 x y := fun x y h => by rw [wI_off (by omega), wI_off (by omega)]; exact a3 x y (by omega)
  have fj : (wI (wI Ma 69 23 (nI st)) 69 24 0).2 = M.2 := a4
  generalize wI (wI Ma 69 23 (nI st)) 69 24 0 = Mb at hT2 g21 g23 g24 fg fj
  rw [g21, hT2.1]
  by_cases q : st < N
  · have r := tkb_r (T st)
    have eb : Mb.1 (69 + 15) st = T st := hT2.2 st q
    have c250 : ∀ {α : Type} (X : Option α), chk (nI st) 250 X = X := fun X => chk_ok (by omega) (by decide)
    have ek : tKd T N st = tkb (T st) := if_pos q
    rw [if_neg (fun z => by have := (nI_eq (by omega) (by omega)).mp z; omega), c250, c250, c250, tn_nI (by omega), eb, isLetter_ok, isDigit_ok, Option.bind_some]
    by_cases k1 : tkb (T st) = 1
    · rw [if_pos k1, if_neg (by decide)]
      have ee : tEn T N st = stp (fun j => decide (tkb (T j) = tkb (T st))) N 250 (st + 1) := (if_pos q).trans (if_pos (Or.inl k1))
      obtain ⟨Mc, c1, c2, c3, c4⟩ := M_letters hN (hT2.put (k := 22) (x := 1) (by decide)) sl ((wI_off (by omega)).trans g21)
      rw [c1]
      have e5 : stp (fun j => decide (tkb (T j) = 1)) N 250 st = tEn T N st := by
        rw [ee, k1]
        exact stop_uniq (stop_pred q (decide_eq_true k1) (stp_stop 250 st (by omega) (by omega))) (stp_stop 250 (st + 1) q (by omega))
      refine ⟨Mc, rfl, ⟨by rw [c3 69 22 (by omega), wI_on, ek, k1]; rfl, by rw [c3 69 23 (by omega), wI_off (by omega)]; exact g23, by rw [c2, e5], fun z => by have z : tKd T N st = 2 := z; omega⟩, ⟨by rw [c3 69 7 (by omega), wI_off (by omega)]; exact hT2.1, fun i hi => by rw [c3 84 i (by omega), wI_off (by omega)]; exact hT2.2 i hi⟩, fun x y h => by rw [c3 x y (by omega), wI_off (by omega)]; exact fg x y h, c4.trans fj⟩
    · rw [if_neg k1, if_pos rfl, Option.bind_some]
      by_cases k2 : tkb (T st) = 2
      · rw [if_pos k2, if_neg (by decide)]
        have ee : tEn T N st = stp (fun j => decide (tkb (T j) = tkb (T st))) N 250 (st + 1) := (if_pos q).trans (if_pos (Or.inr k2))
        obtain ⟨Mc, j, c1, c2, c3, c4, c5, c6⟩ := M_digits hN (T := T) (st := st) 1000 st (wI Mb 69 22 2) (Nat.le_refl _) sl (by omega) (hT2.put (by decide)) ((wI_off (by omega)).trans g23) ((wI_off (by omega)).trans g21) ((wI_off (by omega)).trans (g24.trans (by rw [Nat.sub_self]; rfl)))
        rw [c1]
        have e5 : j = tEn T N st := by
          rw [ee, k2]
          exact stop_uniq (stop_pred q (decide_eq_true k2) c2) (stp_stop 250 (st + 1) q (by omega))
        subst e5
        refine ⟨Mc, rfl, ⟨by rw [c5 69 22 (by omega), wI_on, ek, k2]; rfl, by rw [c5 69 23 (by omega), wI_off (by omega)]; exact g23, c3, fun _ => c4⟩, ⟨by rw [c5 69 7 (by omega), wI_off (by omega)]; exact hT2.1, fun i hi => by rw [c5 84 i (by omega), wI_off (by omega)]; exact hT2.2 i hi⟩, fun x y h => by rw [c5 x y (by omega), wI_off (by omega)]; exact fg x y h, c6.trans fj⟩
      · rw [if_neg k2, if_pos rfl]
        have ee : tEn T N st = st + 1 := (if_pos q).trans (if_neg (fun z => z.elim k1 k2))
        have one : ∀ c, tkb (T st) = c → ∃ M2, (some (wI (wI Mb 69 22 (nI c)) 69 21 ((wI Mb 69 22 (nI c)).1 69 21 + 1)) : Option Mm) = some M2 ∧ MK9 T (tKd T N st, st, tEn T N st) M2 ∧ MT9 T N M2 ∧ FrL M M2 := fun c hc => by
          have e9 : (wI Mb 69 22 (nI c)).1 69 21 + 1 = nI (st + 1) := by rw [wI_off (by omega), g21, nI_1]
          rw [e9]
          exact ⟨_, rfl, ⟨by rw [wI_off (by omega), wI_on, ek, hc], by rw [wI_off (by omega), wI_off (by omega)]; exact g23, by rw [wI_on, ee], fun z => by have z : tKd T N st = 2 := z; omega⟩, (hT2.put (by decide)).put (by decide), fun x y h => by rw [wI_off (by omega), wI_off (by omega)]; exact fg x y h, fj⟩
        by_cases k3 : T st = 59
        · have kc : tkb (T st) = 3 := by rw [k3]; decide
          rw [if_pos k3]
          exact one 3 kc
        · have kc : tkb (T st) = 4 := by
            have : ¬ tkb (T st) = 3 := fun z => by
              unfold tkb at z
              by_cases w1 : 97 ≤ T st ∧ T st ≤ 122
              · rw [if_pos w1] at z; omega
              · rw [if_neg w1] at z
                by_cases w2 : 48 ≤ T st ∧ T st ≤ 57
                · rw [if_pos w2] at z; omega
                · rw [if_neg w2, if_neg k3] at z; omega
            omega
          rw [if_neg k3]
          exact one 4 kc
  · have en : st = N := by omega
    subst en
    rw [if_pos rfl]
    have ek : tKd T st st = 0 := if_neg q
    have ee : tEn T st st = st := if_neg q
    exact ⟨_, rfl, ⟨by rw [wI_on, ek]; rfl, by rw [wI_off (by omega)]; exact g23, by rw [wI_off (by omega), ee]; exact g21, fun z => by have z : tKd T st st = 2 := z; omega⟩, hT2.put (by decide), fun x y h => by rw [wI_off (by omega)]; exact fg x y h, fj⟩
end TKN
