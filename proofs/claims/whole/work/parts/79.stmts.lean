/-! what a tape says: statements -/
def nB (T : Nat → Int32) (t : Tok) (lo hi : Int32) : Bool := decide (t.1 = 2 ∧ t.2.2 - t.2.1 ≤ 2 ∧ lo ≤ nvT T t ∧ nvT T t ≤ hi)
def wB (T : Nat → Int32) (t : Tok) (w : Nat) : Bool := decide (t.1 = 1 ∧ t.2.2 - t.2.1 = lenS.getD w 0) && (fstO (fun i => decide (¬ T (t.2.1 + i) = (bytS.getD w []).getD i 0)) (lenS.getD w 0) 0).isNone
abbrev SR9 : Type := Nat ⊕ (CV × Tok)
def sOne (T : Nat → Int32) (N : Nat) (t : Tok) (lo hi : Int32) (g : Int32 → CV) : SR9 := if nB T (nxT T N t) lo hi = true then Sum.inr (g (nvT T (nxT T N t)), nxT T N (nxT T N t)) else Sum.inl (nxT T N t).2.1
def sTwo (T : Nat → Int32) (N : Nat) (t : Tok) (h1 h2 : Int32) (g : Int32 → Int32 → CV) : SR9 := if nB T (nxT T N t) 0 h1 = true then (if nB T (nxT T N (nxT T N t)) 0 h2 = true then Sum.inr (g (nvT T (nxT T N t)) (nvT T (nxT T N (nxT T N t))), nxT T N (nxT T N (nxT T N t))) else Sum.inl (nxT T N (nxT T N t)).2.1) else Sum.inl (nxT T N t).2.1
def sThree (T : Nat → Int32) (N : Nat) (t : Tok) (w : CV) : SR9 := if nB T (nxT T N t) 0 5 = true then (if nB T (nxT T N (nxT T N t)) 0 13 = true then (if nB T (nxT T N (nxT T N (nxT T N t))) 0 12 = true then Sum.inr (sAdd w (nvT T (nxT T N t)) (nvT T (nxT T N (nxT T N t))) (nvT T (nxT T N (nxT T N (nxT T N t)))), nxT T N (nxT T N (nxT T N (nxT T N t)))) else Sum.inl (nxT T N (nxT T N (nxT T N t))).2.1) else Sum.inl (nxT T N (nxT T N t)).2.1) else Sum.inl (nxT T N t).2.1
def sEv (T : Nat → Int32) (N : Nat) (w : CV) (t : Tok) (z : Int32) : SR9 := sTwo T N t (w.1 1 - 1) (w.1 0 - 1) (fun p d => uP w (tn p) 3 (fBit (w.2 (tn p) 3) d z))
def stR (T : Nat → Int32) (N : Nat) (w : CV) (t : Tok) : SR9 :=
  if wB T t 2 = true then sEv T N w t 1
  else if wB T t 3 = true then sEv T N w t 0
  else if wB T t 4 = true then sOne T N t 0 (w.1 1 - 1) (uS w 2)
  else if wB T t 5 = true then sOne T N t 1 8 (uS w 3)
  else if wB T t 6 = true then sOne T N t 0 12 (uS w 4)
  else if wB T t 7 = true then sTwo T N t (w.1 1 - 1) 99 (fun p x => uP w (tn p) 4 x)
  else Sum.inl t.2.1
def stm (T : Nat → Int32) (N : Nat) (w : CV) (t : Tok) : SR9 := if wB T t 0 = true then sOne T N t 1 14 (sDaysAre w) else if wB T t 1 = true then (if pN w < 8 then sThree T N t w else stR T N w t) else stR T N w t
def VT9 (T : Nat → Int32) (N : Nat) (t : Tok) : Prop := ∃ i, i ≤ N ∧ t = tokAt T N i
theorem VT9.f {T : Nat → Int32} {N : Nat} {t : Tok} (hN : N ≤ 250) (h : VT9 T N t) : t.2.1 ≤ t.2.2 ∧ t.2.2 ≤ N ∧ t.1 ≤ 4 ∧ (t.1 ≠ 0 → t.2.1 < t.2.2 ∧ t.2.1 < N) ∧ (t.1 = 0 → t.2.1 = N) ∧ (t.1 = 2 → ∀ q, t.2.1 ≤ q → q < t.2.2 → tkb (T q) = 2) := by
  obtain ⟨i, hi, rfl⟩ := h
  exact (tok_facts hN hi).2
theorem VT9.nx {T : Nat → Int32} {N : Nat} {t : Tok} (hN : N ≤ 250) (h : VT9 T N t) : VT9 T N (nxT T N t) := ⟨t.2.2, (h.f hN).2.1, rfl⟩
theorem VT9.ge {T : Nat → Int32} {N : Nat} {t : Tok} (hN : N ≤ 250) (h : VT9 T N t) : t.2.2 ≤ (nxT T N t).2.1 := (tok_facts hN (h.f hN).2.1).1
theorem len_w {w : Nat} (hw : w < 8) : 3 ≤ lenS.getD w 0 ∧ lenS.getD w 0 ≤ 6 := by
  have : ∀ q : Fin 8, 3 ≤ lenS.getD q.1 0 ∧ lenS.getD q.1 0 ≤ 6 := by decide
  exact this ⟨w, hw⟩
theorem nB_nv {T : Nat → Int32} {N : Nat} {t : Tok} {lo hi : Int32} (hN : N ≤ 250) (hv : VT9 T N t) (h : nB T t lo hi = true) : sm (nvT T t) 100 ∧ lo ≤ nvT T t ∧ nvT T t ≤ hi := by
  have h := of_decide_eq_true h
  have f := hv.f hN
  exact ⟨nv_sm h.2.1 fun q h1 h2 => f.2.2.2.2.2 h.1 q h1 (by omega), h.2.2⟩
/-- the component reads -/
def RD9 (T : Nat → Int32) (N : Nat) (w : CV) (t : Tok) (M : Mm) : Prop := VC 40 w M ∧ CT9 T N M ∧ CK9 t M ∧ M.1 37 2 = -1
def FrD (M M2 : Mm) : Prop := Fr 37 50 M M2 ∧ M2.1 39 = M.1 39 ∧ M2.1 38 1 = M.1 38 1
theorem FrD.rf {M : Mm} : FrD M M := ⟨Fr.rf, rfl, rfl⟩
theorem FrD.tr {M M2 M3 : Mm} (h : FrD M M2) (h2 : FrD M2 M3) : FrD M M3 := ⟨h.1.tr h2.1, h2.2.1.trans h.2.1, h2.2.2.trans h.2.2⟩
theorem FrD.wI37 {M : Mm} {x : Int32} : FrD M (wI M 37 2 x) := ⟨Fr.wI (by omega) (by omega), wI_ne (by decide), wI_off (by omega)⟩
theorem FrD.c {M M2 : Mm} (h : Fr 40 (40 + 10) M M2) : FrD M M2 := ⟨h.wide (by omega) (by omega), (h.1 39 (by omega)).1, h.i (by omega)⟩
def CRes (T : Nat → Int32) (N : Nat) (M : Mm) (r : SR9) (x : Option Mm) : Prop := ∃ M2, x = some M2 ∧ FrD M M2 ∧ r.elim (fun p => M2.1 37 2 = nI p) (fun q => RD9 T N q.1 q.2 M2)
section STC
variable {T : Nat → Int32} {N : Nat} {M : Mm} {w : CV} {t : Tok}
theorem RD9.next (hN : N ≤ 250) (hR : RD9 T N w t M) (hv : VT9 T N t) : ∃ M2, f_X5_nextToken 38 M = some M2 ∧ RD9 T N w (nxT T N t) M2 ∧ FrD M M2 := by
  obtain ⟨M2, a1, a2, a3, a4, a5⟩ := C_next hN hR.2.1 (hv.f hN).2.1 hR.2.2.1.2.2
  have hF : Fr 38 39 M M2 := ⟨fun x hx => ⟨funext fun y => a4 x y (by omega), by rw [a5]⟩, by rw [a5]⟩
  exact ⟨M2, a1, ⟨hR.1.fr hF (by omega), a3, a2, (a4 37 2 (by omega)).trans hR.2.2.2⟩, ⟨hF.wide (by omega) (by omega), funext fun y => a4 39 y (by omega), a4 38 1 (by omega)⟩⟩
theorem C_numTok (hN : N ≤ 250) (hT : CT9 T N M) (hk : CK9 t M) (hv : VT9 T N t) : f_X5_numberToken 38 M = some (if t.1 = 2 ∧ t.2.2 - t.2.1 ≤ 2 then nvT T t else -1) := by
  have f := hv.f hN
  have x2 : nI t.1 = 2 ↔ t.1 = 2 := nI_eq (b := 2) (by omega) (by decide)
  unfold f_X5_numberToken
  rw [hk.1, hk.2.1, hk.2.2, nI_subN f.1]
  by_cases q : t.1 = 2
  · rw [if_pos (x2.mpr q)]
    by_cases q2 : t.2.2 - t.2.1 ≤ 2
    · rw [if_pos (show nI (t.2.2 - t.2.1) ≤ 2 from nI_le (b := 2) q2 (by decide)), if_pos ⟨q, q2⟩]
      have r := loop_run0 (fun n i (s : Int32) => f_X5_numberToken_L30 38 M n s (nI (t.2.1 + i))) (t.2.2 - t.2.1) (fun i (x : Int32) => 10 * x + T (t.2.1 + i) - 48) id 0 (by
        intro n i s hi
        show f_X5_numberToken_L30 38 M (n + 1) s (nI (t.2.1 + i)) = f_X5_numberToken_L30 38 M n (10 * s + T (t.2.1 + i) - 48) (nI (t.2.1 + i + 1))
        rw [f_X5_numberToken_L30, hk.2.2, if_neg (nI_ge (by omega) (by omega)), chk_ok (show t.2.1 + i < 250 by omega) (by decide), tn_nI (by omega), show M.1 (38 + 1) (t.2.1 + i) = T (t.2.1 + i) from hT.2 _ (by omega)]
        simp only [bi, nI_1]) (by
        intro n s
        show f_X5_numberToken_L30 38 M (n + 1) s (nI (t.2.1 + (t.2.2 - t.2.1))) = some s
        rw [f_X5_numberToken_L30, hk.2.2, if_pos (nI_le (by omega) (by omega))]) 1000 (by omega)
      simp only [bi]
      rw [show f_X5_numberToken_L30 38 M 1000 0 (nI t.2.1) = _ from r]; rfl
    · rw [if_neg (show ¬ nI (t.2.2 - t.2.1) ≤ 2 from nI_ge (b := t.2.2 - t.2.1) (a := 2) (by omega) (by omega)), if_neg (fun z => q2 z.2)]
  · rw [if_neg (fun z => q (x2.mp z)), if_neg (fun z => q z.1)]
theorem C_num9 (hN : N ≤ 250) (hR : RD9 T N w t M) (hv : VT9 T N t) (lo hi : Int32) : (nB T t lo hi = true ∧ ∃ M2, f_X3_readNumber 37 lo hi M = some (M2, nvT T t) ∧ RD9 T N w (nxT T N t) M2 ∧ FrD M M2) ∨ (nB T t lo hi = false ∧ f_X3_readNumber 37 lo hi M = some (wI M 37 2 (nI t.2.1), -1)) := by
  have f := hv.f hN
  have e3 : M.1 (37 + 1) 3 = nI t.2.1 := hR.2.2.1.2.1
  have en : f_X5_numberToken (37 + 1) M = some (if t.1 = 2 ∧ t.2.2 - t.2.1 ≤ 2 then nvT T t else -1) := C_numTok hN hR.2.1 hR.2.2.1 hv
  unfold f_X3_readNumber
  rw [hR.2.2.2, if_pos rfl, en, e3, Option.bind_some]
  by_cases q : t.1 = 2 ∧ t.2.2 - t.2.1 ≤ 2
  · have hs : sm (nvT T t) 100 := nv_sm q.2 fun z h1 h2 => f.2.2.2.2.2 q.1 z h1 (by omega)
    have n1 : ¬ nvT T t = -1 := by rw [hs.1]; exact nI_nm1 (by have := hs.2; omega)
    rw [if_pos q, if_neg n1, within_ok, Option.bind_some]
    by_cases q2 : lo ≤ nvT T t ∧ nvT T t ≤ hi
    · obtain ⟨M2, a1, a2, a3⟩ := hR.next hN hv
      rw [if_pos q2, if_neg (by decide)]
      refine Or.inl ⟨decide_eq_true ⟨q.1, q.2, q2⟩, M2, ?_, a2, a3⟩
      rw [show f_X5_nextToken (37 + 1) M = some M2 from a1]; rfl
    · rw [if_neg q2, if_pos rfl]
      exact Or.inr ⟨decide_eq_false fun z => q2 z.2.2, rfl⟩
  · rw [if_neg q, if_pos rfl]
    exact Or.inr ⟨decide_eq_false fun z => q ⟨z.1, z.2.1⟩, rfl⟩
theorem C_numF {p : Nat} (hp : p ≤ 250) (h : M.1 37 2 = nI p) (lo hi : Int32) : f_X3_readNumber 37 lo hi M = some (M, -1) := by
  unfold f_X3_readNumber
  rw [h, if_neg (nI_nm1 (by omega))]
theorem C_isW9 (hN : N ≤ 250) (hT : CT9 T N M) (hk : CK9 t M) (hv : VT9 T N t) {k : Nat} (hw : k < 8) : f_X5_isWord 38 k M = some (M, if wB T t k = true then 1 else 0) := by
  have f := hv.f hN
  have l := len_w hw
  have x1 : nI t.1 = 1 ↔ t.1 = 1 := nI_eq (b := 1) (by omega) (by decide)
  unfold f_X5_isWord wB
  rw [hk.1, hk.2.1, hk.2.2, nI_subN f.1]
  by_cases q : t.1 = 1
  · rw [if_pos (x1.mpr q), show f_strLen k = some (nI (lenS.getD k 0)) from rfl, Option.bind_some]
    by_cases q2 : t.2.2 - t.2.1 = lenS.getD k 0
    · rw [if_pos (by rw [q2]), decide_eq_true (p := t.1 = 1 ∧ t.2.2 - t.2.1 = lenS.getD k 0) ⟨q, q2⟩, Bool.true_and]
      have r := loop_fst (fun i => decide (¬ T (t.2.1 + i) = (bytS.getD k []).getD i 0)) (fun n i => f_X5_isWord_L28 38 k n (nI i) M) (lenS.getD k 0) M (fun _ => (M, (0 : Int32))) (by
        intro n i hi
        show f_X5_isWord_L28 38 k (n + 1) (nI i) M = if decide (¬ T (t.2.1 + i) = (bytS.getD k []).getD i 0) = true then some (Sum.inr (M, 0)) else f_X5_isWord_L28 38 k n (nI (i + 1)) M
        rw [f_X5_isWord_L28, show f_strLen k = some (nI (lenS.getD k 0)) from rfl, Option.bind_some, if_neg (nI_ge hi (by omega)), hk.2.1, nI_add, chk_ok (show t.2.1 + i < 250 by omega) (by decide)]
        unfold f_strAt
        rw [chk_ok hi (by omega), Option.bind_some, tn_nI (show i < 2 ^ 31 by omega), tn_nI (show t.2.1 + i < 2 ^ 31 by omega), show M.1 (38 + 1) (t.2.1 + i) = T (t.2.1 + i) from hT.2 _ (by omega)]
        by_cases q3 : T (t.2.1 + i) = (bytS.getD k []).getD i 0
        · rw [if_pos q3, if_neg (fun z => absurd q3 (of_decide_eq_true z))]
          simp only [bi, nI_1]
        · rw [if_neg q3, if_pos (decide_eq_true q3)]) (by
        intro n
        show f_X5_isWord_L28 38 k (n + 1) (nI (lenS.getD k 0)) M = _
        rw [f_X5_isWord_L28, show f_strLen k = some (nI (lenS.getD k 0)) from rfl, Option.bind_some, if_pos (Int32.le_refl _)]) 1000 0 (Nat.zero_le _) (by omega)
      rw [show f_X5_isWord_L28 38 k 1000 0 M = _ from r, obS_elim, Nat.sub_zero]
      cases fstO (fun i => decide (¬ T (t.2.1 + i) = (bytS.getD k []).getD i 0)) (lenS.getD k 0) 0 <;> rfl
    · rw [if_neg (fun z => q2 ((nI_eq (by omega) (by omega)).mp z)), decide_eq_false (p := t.1 = 1 ∧ t.2.2 - t.2.1 = lenS.getD k 0) (fun z => q2 z.2)]; rfl
  · rw [if_neg (fun z => q (x1.mp z)), decide_eq_false (p := t.1 = 1 ∧ t.2.2 - t.2.1 = lenS.getD k 0) (fun z => q z.1)]; rfl
/-- one number, written into the circle's own numbers -/
theorem C_one {lo hi : Int32} {j : Nat} (hj : j < 7) (hN : N ≤ 250) (hR : RD9 T N w t M) (hv : VT9 T N t) : CRes T N M (sOne T N t lo hi (uS w j)) ((f_X5_nextToken 38 M).bind fun q1 => (f_X3_readNumber 37 lo hi q1).bind fun q3 => bi q3.2 fun v5 => if q3.1.1 37 2 = -1 then bm (wI q3.1 40 j v5) fun M6 => some M6 else some q3.1) := by
  obtain ⟨Ma, a1, a2, a3⟩ := hR.next hN hv
  have hv1 := hv.nx hN
  unfold sOne
  rw [a1, Option.bind_some]
  rcases C_num9 hN a2 hv1 lo hi with ⟨b1, Mb, b2, b3, b4⟩ | ⟨b1, b2⟩
  · rw [b2, if_pos b1, Option.bind_some]
    simp only [bi, bm]
    rw [if_pos b3.2.2.2]
    have hF : Fr 40 (40 + 10) Mb (wI Mb 40 j (nvT T (nxT T N t))) := Fr.wI (by omega) (by omega)
    exact ⟨_, rfl, (a3.tr b4).tr (FrD.c hF), b3.1.uS j _, ⟨(wI_off (by omega)).trans b3.2.1.1, fun i hi => (wI_off (by omega)).trans (b3.2.1.2 i hi)⟩, ⟨(wI_off (by omega)).trans b3.2.2.1.1, (wI_off (by omega)).trans b3.2.2.1.2.1, (wI_off (by omega)).trans b3.2.2.1.2.2⟩, (wI_off (by omega)).trans b3.2.2.2⟩
  · rw [b2, if_neg (by rw [b1]; decide), Option.bind_some]
    simp only [bi]
    rw [if_neg (by rw [wI_on]; exact nI_nm1 (by have := hv1.f hN; omega))]
    exact ⟨_, rfl, a3.tr FrD.wI37, wI_on⟩
/-- the draft changed elsewhere than in the reader -/
theorem RD9.c {w2 : CV} {M2 : Mm} (h : RD9 T N w t M) (hV : VC 40 w2 M2) (hF : Fr 40 (40 + 10) M M2) : RD9 T N w2 t M2 := ⟨hV, ⟨(hF.i (by omega)).trans h.2.1.1, fun i hi => (hF.i (by omega)).trans (h.2.1.2 i hi)⟩, ⟨(hF.i (by omega)).trans h.2.2.1.1, (hF.i (by omega)).trans h.2.2.1.2.1, (hF.i (by omega)).trans h.2.2.1.2.2⟩, (hF.i (by omega)).trans h.2.2.2⟩
theorem C_host (hN : N ≤ 250) (hR : RD9 T N w t M) (hv : VT9 T N t) (hW : WF w) : CRes T N M (sOne T N t 0 (w.1 1 - 1) (uS w 2)) (f_X3_readHost 37 M) := by
  have h := C_one (lo := 0) (hi := w.1 1 - 1) (j := 2) (by decide) hN hR hv
  obtain ⟨Ma, a1, a2, a3⟩ := hR.next hN hv
  have e : f_X3_readHost 37 M = ((f_X5_nextToken 38 M).bind fun q1 => (f_X3_readNumber 37 0 (w.1 1 - 1) q1).bind fun q3 => bi q3.2 fun v5 => if q3.1.1 37 2 = -1 then bm (wI q3.1 40 2 v5) fun M6 => some M6 else some q3.1) := by
    unfold f_X3_readHost
    rw [show f_X5_nextToken (37 + 1) M = some Ma from a1, Option.bind_some, Option.bind_some, show Ma.1 (37 + 3) 1 = w.1 1 from a2.1.1 1 (by decide)]
  rw [e]; exact h
theorem C_least (hN : N ≤ 250) (hR : RD9 T N w t M) (hv : VT9 T N t) (hW : WF w) : CRes T N M (sOne T N t 1 8 (uS w 3)) (f_X3_readLeast 37 M) := C_one (lo := 1) (hi := 8) (j := 3) (by decide) hN hR hv
theorem C_lose (hN : N ≤ 250) (hR : RD9 T N w t M) (hv : VT9 T N t) (hW : WF w) : CRes T N M (sOne T N t 0 12 (uS w 4)) (f_X3_readLose 37 M) := C_one (lo := 0) (hi := 12) (j := 4) (by decide) hN hR hv
theorem C_daysS (hN : N ≤ 250) (hR : RD9 T N w t M) (hv : VT9 T N t) (hW : WF w) : CRes T N M (sOne T N t 1 14 (sDaysAre w)) (f_X3_readDays 37 M) := by
  obtain ⟨Ma, a1, a2, a3⟩ := hR.next hN hv
  have hv1 := hv.nx hN
  unfold sOne f_X3_readDays
  rw [show f_X5_nextToken (37 + 1) M = some Ma from a1, Option.bind_some]
  rcases C_num9 hN a2 hv1 1 14 with ⟨b1, Mb, b2, b3, b4⟩ | ⟨b1, b2⟩
  · rw [b2, if_pos b1, Option.bind_some]
    simp only [bi]
    obtain ⟨Mc, c1, c2, c3⟩ := C_changeDays b3.1 hW (nvT T (nxT T N t))
    rw [if_pos b3.2.2.2, show f_X1_changeDays (37 + 3) (nvT T (nxT T N t)) Mb = some Mc from c1]
    exact ⟨Mc, rfl, (a3.tr b4).tr (FrD.c c3), b3.c c2 c3⟩
  · rw [b2, if_neg (by rw [b1]; decide), Option.bind_some]
    simp only [bi]
    rw [if_neg (by rw [wI_on]; exact nI_nm1 (by have := hv1.f hN; omega))]
    exact ⟨_, rfl, a3.tr FrD.wI37, wI_on⟩
theorem one_p {x : Int32} (hW : WF w) (h0 : 0 ≤ x) (h : x ≤ w.1 1 - 1) : ∃ p, p < pN w ∧ x = nI p := by
  have n9 := hW.n9
  rw [hW.n, nI_pred_le (by omega)] at h
  exact inN_k (by omega) ⟨h0, h⟩
/-- two numbers: a person's, and another; then written -/
theorem C_evening (hN : N ≤ 250) (hR : RD9 T N w t M) (hv : VT9 T N t) (hW : WF w) (z : Int32) : CRes T N M (sEv T N w t z) (f_X3_readEvening 37 z M) := by
  have n9 := hW.n9
  obtain ⟨Ma, a1, a2, a3⟩ := hR.next hN hv
  have hv1 := hv.nx hN
  have hv2 := hv1.nx hN
  unfold sEv sTwo f_X3_readEvening
  rw [show f_X5_nextToken (37 + 1) M = some Ma from a1, Option.bind_some, show Ma.1 (37 + 3) 1 = w.1 1 from a2.1.1 1 (by decide)]
  rcases C_num9 hN a2 hv1 0 (w.1 1 - 1) with ⟨b1, Mb, b2, b3, b4⟩ | ⟨b1, b2⟩
  · rw [b2, if_pos b1, Option.bind_some]
    simp only [bi]
    rw [show Mb.1 (37 + 3) 0 = w.1 0 from b3.1.1 0 (by decide)]
    rcases C_num9 hN b3 hv2 0 (w.1 0 - 1) with ⟨c1, Mc, c2, c3, c4⟩ | ⟨c1, c2⟩
    · rw [c2, if_pos c1, Option.bind_some]
      have nv := nB_nv hN hv1 b1
      obtain ⟨p, hp, e⟩ := one_p hW nv.2.1 nv.2.2
      rw [if_pos c3.2.2.2, e, chk_ok (show p < 8 by omega) (by decide), tn_nI (by omega), tnn (by omega), changeFree_ok]
      have e3 : Mc.1 (37 + 5 + p) 3 = w.2 p 3 := c3.1.2 p 3 (by omega) (by decide)
      rw [e3]
      have hF : Fr 40 (40 + 10) Mc (wI Mc (40 + 2 + p) 3 (fBit (w.2 p 3) (nvT T (nxT T N (nxT T N t))) z)) := Fr.wI (by omega) (by omega)
      exact ⟨wI Mc (40 + 2 + p) 3 (fBit (w.2 p 3) (nvT T (nxT T N (nxT T N t))) z), rfl, ((a3.tr b4).tr c4).tr (FrD.c hF), c3.c (c3.1.uP p 3 _) hF⟩
    · rw [c2, if_neg (by rw [c1]; decide), Option.bind_some]
      rw [if_neg (by rw [wI_on]; exact nI_nm1 (by have := hv2.f hN; omega))]
      exact ⟨_, rfl, (a3.tr b4).tr FrD.wI37, wI_on⟩
  · rw [b2, if_neg (by rw [b1]; decide), Option.bind_some]
    simp only [bi]
    rw [C_numF (p := (nxT T N t).2.1) (by have := hv1.f hN; omega) wI_on, Option.bind_some]
    rw [if_neg (by rw [wI_on]; exact nI_nm1 (by have := hv1.f hN; omega))]
    exact ⟨_, rfl, a3.tr FrD.wI37, wI_on⟩
theorem C_outS (hN : N ≤ 250) (hR : RD9 T N w t M) (hv : VT9 T N t) (hW : WF w) : CRes T N M (sTwo T N t (w.1 1 - 1) 99 (fun p x => uP w (tn p) 4 x)) (f_X3_readOut 37 M) := by
  have n9 := hW.n9
  obtain ⟨Ma, a1, a2, a3⟩ := hR.next hN hv
  have hv1 := hv.nx hN
  have hv2 := hv1.nx hN
  unfold sTwo f_X3_readOut
  rw [show f_X5_nextToken (37 + 1) M = some Ma from a1, Option.bind_some, show Ma.1 (37 + 3) 1 = w.1 1 from a2.1.1 1 (by decide)]
  rcases C_num9 hN a2 hv1 0 (w.1 1 - 1) with ⟨b1, Mb, b2, b3, b4⟩ | ⟨b1, b2⟩
  · rw [b2, if_pos b1, Option.bind_some]
    simp only [bi]
    rcases C_num9 hN b3 hv2 0 99 with ⟨c1, Mc, c2, c3, c4⟩ | ⟨c1, c2⟩
    · rw [c2, if_pos c1, Option.bind_some]
      have nv := nB_nv hN hv1 b1
      obtain ⟨p, hp, e⟩ := one_p hW nv.2.1 nv.2.2
      rw [if_pos c3.2.2.2, e, chk_ok (show p < 8 by omega) (by decide), tn_nI (by omega), tnn (by omega)]
      have hF : Fr 40 (40 + 10) Mc (wI Mc (40 + 2 + p) 4 (nvT T (nxT T N (nxT T N t)))) := Fr.wI (by omega) (by omega)
      exact ⟨wI Mc (40 + 2 + p) 4 (nvT T (nxT T N (nxT T N t))), rfl, ((a3.tr b4).tr c4).tr (FrD.c hF), c3.c (c3.1.uP p 4 _) hF⟩
    · rw [c2, if_neg (by rw [c1]; decide), Option.bind_some]
      rw [if_neg (by rw [wI_on]; exact nI_nm1 (by have := hv2.f hN; omega))]
      exact ⟨_, rfl, (a3.tr b4).tr FrD.wI37, wI_on⟩
  · rw [b2, if_neg (by rw [b1]; decide), Option.bind_some]
    simp only [bi]
    rw [C_numF (p := (nxT T N t).2.1) (by have := hv1.f hN; omega) wI_on, Option.bind_some]
    rw [if_neg (by rw [wI_on]; exact nI_nm1 (by have := hv1.f hN; omega))]
    exact ⟨_, rfl, a3.tr FrD.wI37, wI_on⟩
theorem C_perS (hN : N ≤ 250) (hR : RD9 T N w t M) (hv : VT9 T N t) (hW : WF w) (h8 : pN w < 8) : CRes T N M (sThree T N t w) (f_X3_readPerson 37 M) := by
  obtain ⟨Ma, a1, a2, a3⟩ := hR.next hN hv
  have hv1 := hv.nx hN
  have hv2 := hv1.nx hN
  have hv3 := hv2.nx hN
  unfold sThree f_X3_readPerson
  rw [show f_X5_nextToken (37 + 1) M = some Ma from a1, Option.bind_some]
  rcases C_num9 hN a2 hv1 0 5 with ⟨b1, Mb, b2, b3, b4⟩ | ⟨b1, b2⟩
  · rw [b2, if_pos b1, Option.bind_some]
    simp only [bi]
    rcases C_num9 hN b3 hv2 0 13 with ⟨c1, Mc, c2, c3, c4⟩ | ⟨c1, c2⟩
    · rw [c2, if_pos c1, Option.bind_some]
      rcases C_num9 hN c3 hv3 0 12 with ⟨d1, Md, d2, d3, d4⟩ | ⟨d1, d2⟩
      · rw [d2, if_pos d1, Option.bind_some]
        obtain ⟨Me, e1, e2, e3⟩ := C_takeIn d3.1 hW h8 (nvT T (nxT T N t)) (nvT T (nxT T N (nxT T N t))) (nvT T (nxT T N (nxT T N (nxT T N t))))
        rw [if_pos d3.2.2.2, show f_X1_takeIn (37 + 3) (nvT T (nxT T N t)) (nvT T (nxT T N (nxT T N t))) (nvT T (nxT T N (nxT T N (nxT T N t)))) Md = some (Me, nI (pN w)) from e1]
        exact ⟨Me, rfl, (((a3.tr b4).tr c4).tr d4).tr (FrD.c e3), d3.c e2 e3⟩
      · rw [d2, if_neg (by rw [d1]; decide), Option.bind_some]
        rw [if_neg (by rw [wI_on]; exact nI_nm1 (by have := hv3.f hN; omega))]
        exact ⟨_, rfl, ((a3.tr b4).tr c4).tr FrD.wI37, wI_on⟩
    · rw [c2, if_neg (by rw [c1]; decide), Option.bind_some]
      rw [C_numF (p := (nxT T N (nxT T N t)).2.1) (by have := hv2.f hN; omega) wI_on, Option.bind_some]
      rw [if_neg (by rw [wI_on]; exact nI_nm1 (by have := hv2.f hN; omega))]
      exact ⟨_, rfl, (a3.tr b4).tr FrD.wI37, wI_on⟩
  · rw [b2, if_neg (by rw [b1]; decide), Option.bind_some]
    simp only [bi]
    rw [C_numF (p := (nxT T N t).2.1) (by have := hv1.f hN; omega) wI_on, Option.bind_some]
    simp only [bi]
    rw [C_numF (p := (nxT T N t).2.1) (by have := hv1.f hN; omega) wI_on, Option.bind_some]
    rw [if_neg (by rw [wI_on]; exact nI_nm1 (by have := hv1.f hN; omega))]
    exact ⟨_, rfl, a3.tr FrD.wI37, wI_on⟩
theorem CRes.b {x : Option Mm} {r : SR9} (h : CRes T N M r x) : CRes T N M r (x.bind fun q => some q) := by
  obtain ⟨M2, rfl, h2⟩ := h
  exact ⟨M2, rfl, h2⟩
theorem bind_id (x : Option Mm) : (x.bind fun q => some q) = x := by cases x <;> rfl
theorem C_stmt (hN : N ≤ 250) (hR : RD9 T N w t M) (hv : VT9 T N t) (hW : WF w) : CRes T N M (stm T N w t) (f_X3_readStatement 37 M) := by
  have e : ∀ k, k < 8 → f_X5_isWord 38 k M = some (M, if wB T t k = true then 1 else 0) := fun k hk => C_isW9 hN hR.2.1 hR.2.2.1 hv hk
  have ef : f_X1_isFull 40 M = some (if pN w < 8 then 0 else 1) := C_isFull hR.1 hW
  unfold f_X3_readStatement stm stR
  simp only [Nat.reduceAdd, e 0 (by decide), e 1 (by decide), e 2 (by decide), e 3 (by decide), e 4 (by decide), e 5 (by decide), e 6 (by decide), e 7 (by decide), ef, Option.bind_some, ite01, ite_not, bm, bind_id]
  by_cases q0 : wB T t 0 = true
  · simp only [if_pos q0]
    exact C_daysS hN hR hv hW
  simp only [if_neg q0]
  by_cases q1 : wB T t 1 = true
  · simp only [if_pos q1]
    by_cases q8 : pN w < 8
    · simp only [if_pos q8, if_true]
      exact C_perS hN hR hv hW q8
    simp only [if_neg q8, i10, if_false]
    by_cases q2 : wB T t 2 = true
    · simp only [if_pos q2]
      exact C_evening hN hR hv hW 1
    by_cases q3 : wB T t 3 = true
    · simp only [if_neg q2, if_pos q3]
      exact C_evening hN hR hv hW 0
    by_cases q4 : wB T t 4 = true
    · simp only [if_neg q2, if_neg q3, if_pos q4]
      exact C_host hN hR hv hW
    by_cases q5 : wB T t 5 = true
    · simp only [if_neg q2, if_neg q3, if_neg q4, if_pos q5]
      exact C_least hN hR hv hW
    by_cases q6 : wB T t 6 = true
    · simp only [if_neg q2, if_neg q3, if_neg q4, if_neg q5, if_pos q6]
      exact C_lose hN hR hv hW
    by_cases q7 : wB T t 7 = true
    · simp only [if_neg q2, if_neg q3, if_neg q4, if_neg q5, if_neg q6, if_pos q7]
      exact C_outS hN hR hv hW
    simp only [if_neg q2, if_neg q3, if_neg q4, if_neg q5, if_neg q6, if_neg q7]
    exact ⟨_, rfl, FrD.wI37, by rw [hR.2.2.1.2.1]; exact wI_on⟩
  simp only [if_neg q1]
  by_cases q2 : wB T t 2 = true
  · simp only [if_pos q2]
    exact C_evening hN hR hv hW 1
  by_cases q3 : wB T t 3 = true
  · simp only [if_neg q2, if_pos q3]
    exact C_evening hN hR hv hW 0
  by_cases q4 : wB T t 4 = true
  · simp only [if_neg q2, if_neg q3, if_pos q4]
    exact C_host hN hR hv hW
  by_cases q5 : wB T t 5 = true
  · simp only [if_neg q2, if_neg q3, if_neg q4, if_pos q5]
    exact C_least hN hR hv hW
  by_cases q6 : wB T t 6 = true
  · simp only [if_neg q2, if_neg q3, if_neg q4, if_neg q5, if_pos q6]
    exact C_lose hN hR hv hW
  by_cases q7 : wB T t 7 = true
  · simp only [if_neg q2, if_neg q3, if_neg q4, if_neg q5, if_neg q6, if_pos q7]
    exact C_outS hN hR hv hW
  simp only [if_neg q2, if_neg q3, if_neg q4, if_neg q5, if_neg q6, if_neg q7]
  exact ⟨_, rfl, FrD.wI37, by rw [hR.2.2.1.2.1]; exact wI_on⟩
end STC
