/-! told ticks -/
def tkB (a : AB) (s : Int32) (d : Nat) : Bool := decide (¬ (0 ≤ elA a s d ∧ elA a s d ≤ 2))
def tkO (a : AB) (s : Int32) : Option Nat := fstO (tkB a s) (dN a.1) 0
def trbT (a : AB) (s p : Int32) : Int32 := if inN p (pN a.1) then (if trb a s = 0 then (if dN a.1 ≤ (aSh a (tn s)).2.1 then (tkO a s).elim 0 (fun _ => -5) else -2) else trb a s) else -2
def frB (a : AB) (s : Int32) (p d : Nat) : Bool := decide ((elA a s d = 2 ∧ ¬ a.1.2 p 0 = 1) ∨ (elA a s d = 1 ∧ a.1.2 p 0 = 2))
def oFreed (a : AB) (s p : Int32) : AB × Int32 := if trbT a s p = 0 then (a, mkS (frB a s (tn p)) (dN a.1)) else (refA a (trbT a s p), trbT a s p)
def soB (a : AB) (s : Int32) (p k d : Nat) : Bool := decide (¬ (tickV (a.1.2 p 3) (a.1.2 p 1) (nI k) (yesN a.1 p) (amax (yesN a.1 p) (dN a.1)) d).toInt64 = elA a s d)
def soO (a : AB) (s : Int32) (p k : Nat) : Bool := (fstO (soB a s p k) (dN a.1) 0).isNone
def oMeant (a : AB) (s p : Int32) : AB × Int32 := if trbT a s p = 0 then (a, mkS (soO a s (tn p)) 6) else (refA a (trbT a s p), trbT a s p)
theorem trbT_v (a : AB) (s p : Int32) : trbT a s p = 0 ∨ trbT a s p = -2 ∨ trbT a s p = -3 ∨ trbT a s p = -4 ∨ trbT a s p = -5 := by
  unfold trbT
  by_cases q : inN p (pN a.1)
  · rw [if_pos q]
    by_cases q2 : trb a s = 0
    · rw [if_pos q2]
      by_cases q3 : dN a.1 ≤ (aSh a (tn s)).2.1
      · rw [if_pos q3]
        cases tkO a s with
        | none => exact Or.inl rfl
        | some j => exact Or.inr (Or.inr (Or.inr (Or.inr rfl)))
      · rw [if_neg q3]; exact Or.inr (Or.inl rfl)
    · rw [if_neg q2]
      rcases trb_v a s with z | z | z | z
      · exact absurd z q2
      · exact Or.inr (Or.inl z)
      · exact Or.inr (Or.inr (Or.inl z))
      · exact Or.inr (Or.inr (Or.inr (Or.inl z)))
  · rw [if_neg q]; exact Or.inr (Or.inl rfl)
/-- without trouble -/
theorem trbT_0 {a : AB} {s p : Int32} (hW : WA a) (h : trbT a s p = 0) : ∃ s0 p0, s0 < 8 ∧ p0 < pN a.1 ∧ dN a.1 ≤ (aSh a s0).2.1 ∧ (aSh a s0).2.1 ≤ 40 ∧ s = nI s0 ∧ p = nI p0 ∧ trb a s = 0 := by
  have n9 := hW.1.n9
  unfold trbT at h
  by_cases q : inN p (pN a.1)
  · rw [if_pos q] at h
    by_cases q2 : trb a s = 0
    · rw [if_pos q2] at h
      obtain ⟨s0, hs, rfl⟩ := inN_k (by decide) (trb_in q2)
      obtain ⟨p0, hp, rfl⟩ := inN_k (by omega) q
      have h40 : (aSh a s0).2.1 ≤ 40 := by
        rcases hW.2.2.1 s0 hs with t | t | ⟨p, hp, t⟩
        · omega
        · exact t.2
        · omega
      rw [tnn (by omega)] at h
      by_cases q3 : dN a.1 ≤ (aSh a s0).2.1
      · exact ⟨s0, p0, hs, hp, q3, h40, rfl, rfl, q2⟩
      · rw [if_neg q3] at h; exact absurd h (by decide)
    · rw [if_neg q2] at h; exact absurd h q2
  · rw [if_neg q] at h; exact absurd h (by decide)
section TD9
variable {a : AB} {M : Mm}
theorem C_tkL (h : RC a M) (hW : WA a) {s : Nat} (hs : s < 8) (hl : dN a.1 ≤ (aSh a s).2.1) (h40 : (aSh a s).2.1 ≤ 40) : obS (f_X7_troubleOfTicks_L53 (nI s) M 1000 0) (fun r9 => some r9) (fun _ => some 0) = some ((tkO a (nI s)).elim 0 (fun _ => -5)) := by
  have d15 := hW.1.d15
  have e0 : M.1 1 0 = nI (dN a.1) := (h.1.1 0 (by decide)).trans hW.1.d
  have rr := loop_fst (tkB a (nI s)) (fun f i => f_X7_troubleOfTicks_L53 (nI s) M f (nI i)) (dN a.1) () (fun _ => (-5 : Int32)) (by
    intro f i hi
    show f_X7_troubleOfTicks_L53 (nI s) M (f + 1) (nI i) = if decide (¬ (0 ≤ elA a (nI s) i ∧ elA a (nI s) i ≤ 2)) = true then some (Sum.inr (-5)) else f_X7_troubleOfTicks_L53 (nI s) M f (nI (i + 1))
    rw [f_X7_troubleOfTicks_L53, e0, if_neg (nI_ge hi (by omega)), chk_ok hs (by decide), tn_nI (show s < 2 ^ 31 by omega), C_el (h.2.2.1 s hs) h40 (show i < (aSh a s).2.1 by omega), Option.bind_some, elA_n hs]
    by_cases q1 : 0 ≤ (aSh a s).2.2 i
    · rw [if_neg (fun z => Int64.not_lt.mpr q1 ((lg_cmp_lt _ _).mp z))]
      by_cases q2 : (aSh a s).2.2 i ≤ 2
      · rw [if_pos ((lg_cmp_le _ _).mpr q2), if_neg (fun z => absurd (And.intro q1 q2) (of_decide_eq_true z))]
        simp only [bi, nI_1]
      · rw [if_neg (fun z => q2 ((lg_cmp_le _ _).mp z)), if_pos (decide_eq_true (show ¬ (0 ≤ (aSh a s).2.2 i ∧ (aSh a s).2.2 i ≤ 2) from fun z => q2 z.2))]
    · rw [if_pos ((lg_cmp_lt _ _).mpr (Int64.not_le.mp q1)), if_pos (decide_eq_true (show ¬ (0 ≤ (aSh a s).2.2 i ∧ (aSh a s).2.2 i ≤ 2) from fun z => q1 z.1))]) (by
    intro f
    show f_X7_troubleOfTicks_L53 (nI s) M (f + 1) (nI (dN a.1)) = _
    rw [f_X7_troubleOfTicks_L53, e0, if_pos (Int32.le_refl _)]) 1000 0 (Nat.zero_le _) (by omega)
  rw [show f_X7_troubleOfTicks_L53 (nI s) M 1000 0 = _ from rr, Nat.sub_zero]
  show obS (some ((tkO a (nI s)).elim _ _)) _ _ = _
  cases tkO a (nI s) <;> rfl
theorem C_trbT (h : RC a M) (hW : WA a) (s p : Int32) : f_X7_troubleOfTicks s p M = some (trbT a s p) := by
  have d15 := hW.1.d15
  have e0 : M.1 1 0 = nI (dN a.1) := (h.1.1 0 (by decide)).trans hW.1.d
  unfold f_X7_troubleOfTicks trbT
  rw [C_hasPerson h.1 hW.1, C_trb h hW, e0]
  by_cases q : inN p (pN a.1)
  · simp only [if_pos q, Option.bind_some, i10, if_false]
    by_cases q2 : trb a s = 0
    · obtain ⟨s, hs, rfl⟩ := inN_k (by decide) (trb_in q2)
      have h40 : (aSh a s).2.1 ≤ 40 := by
        rcases hW.2.2.1 s hs with t | t | ⟨p, hp, t⟩
        · omega
        · exact t.2
        · omega
      rw [if_pos q2, if_pos q2, chk_ok hs (by decide), tn_nI (show s < 2 ^ 31 by omega), (h.2.2.1 s hs).2.1, tnn (show s < 2 ^ 31 by omega)]
      by_cases q3 : dN a.1 ≤ (aSh a s).2.1
      · rw [if_pos (nI_le q3 (by omega)), if_pos q3]; exact C_tkL h hW hs q3 h40
      · rw [if_neg (nI_ge (by omega) (by omega)), if_neg q3]
    · rw [if_neg q2, if_neg q2]
  · simp only [if_neg q, Option.bind_some, i00, if_true, nn2, if_false]
theorem M_tkL (h : RM a M) (hW : WA a) {s : Nat} (hs : s < 8) (hl : dN a.1 ≤ (aSh a s).2.1) (h40 : (aSh a s).2.1 ≤ 40) (q : trb a (nI s) = 0) : obS (f_X8_noTicks_L62 69 (nI s) M 1000 0) (fun r9 => some r9) (fun _ => some (M, 0)) = some ((tkO a (nI s)).elim (M, 0) (fun _ => (wI M 85 5 (M.1 85 5 + 1), -5))) := by
  have d15 := hW.1.d15
  have t := trb_0 h hW hs q
  have e0 : M.1 69 9 = nI (dN a.1) := h.1.d.trans hW.1.d
  have rr := loop_fst (tkB a (nI s)) (fun f i => f_X8_noTicks_L62 69 (nI s) M f (nI i)) (dN a.1) () (fun _ => (wI M 85 5 (M.1 85 5 + 1), (-5 : Int32))) (by
    intro f i hi
    show f_X8_noTicks_L62 69 (nI s) M (f + 1) (nI i) = if decide (¬ (0 ≤ elA a (nI s) i ∧ elA a (nI s) i ≤ 2)) = true then some (Sum.inr (wI M 85 5 (M.1 85 5 + 1), -5)) else f_X8_noTicks_L62 69 (nI s) M f (nI (i + 1))
    rw [f_X8_noTicks_L62, e0, if_neg (nI_ge hi (by omega)), chk_ok hs (by decide), chk_ok (show i < 40 by omega) (by decide), tn_nI (show s < 2 ^ 31 by omega), tn_nI (show i < 2 ^ 31 by omega)]
    simp only [Nat.reduceAdd, t.2.2.2.2.2 i (show i < 40 by omega), elA_n hs, in_ok, Option.bind_some, M_refuse M (k := 3) (x := -5) (by decide) (by decide), bi, nI_1]
    by_cases q1 : 0 ≤ (aSh a s).2.2 i ∧ (aSh a s).2.2 i ≤ 2
    · rw [if_pos q1, if_neg (show ¬ (1 : Int32) = 0 by decide), if_neg (fun z => absurd q1 (of_decide_eq_true z))]
    · rw [if_neg q1, if_pos rfl, if_pos (decide_eq_true q1)]) (by
    intro f
    show f_X8_noTicks_L62 69 (nI s) M (f + 1) (nI (dN a.1)) = _
    rw [f_X8_noTicks_L62, e0, if_pos (Int32.le_refl _)]) 1000 0 (Nat.zero_le _) (by omega)
  rw [show f_X8_noTicks_L62 69 (nI s) M 1000 0 = _ from rr, Nat.sub_zero]
  show obS (some ((tkO a (nI s)).elim _ _)) _ _ = _
  cases tkO a (nI s) <;> rfl
theorem M_trbT (h : RM a M) (hW : WA a) (s p : Int32) : (trbT a s p = 0 ∧ f_X8_noTicks 69 s p M = some (M, 0)) ∨ (trbT a s p ≠ 0 ∧ OKM (f_X8_noTicks 69 s p M) M (refA a (trbT a s p), trbT a s p)) := by
  have d15 := hW.1.d15
  unfold f_X8_noTicks
  rw [show f_X8_in s.toInt64 0 7 = _ from in_n s 7 7 rfl (by decide), M_isOne h.1 hW.1]
  by_cases q0 : inN s 8
  · by_cases q : inN p (pN a.1)
    · have eT : trbT a s p = if trb a s = 0 then (if dN a.1 ≤ (aSh a (tn s)).2.1 then (tkO a s).elim 0 (fun _ => -5) else -2) else trb a s := if_pos q
      rw [eT]
      simp only [if_pos q0, if_pos q, Option.bind_some, i10, if_false]
      rcases M_trb h hW s with ⟨e0, e⟩ | ⟨e0, M2, e, hR, hF⟩
      · obtain ⟨s, hs, rfl⟩ := inN_k (by decide) q0
        have t := trb_0 h hW hs e0
        have ed : M.1 69 9 = nI (dN a.1) := h.1.d.trans hW.1.d
        have el : M.1 72 s = nI (aSh a s).2.1 := t.2.2.2.2.1
        rw [e, if_pos e0, tnn (show s < 2 ^ 31 by omega)]
        simp only [Option.bind_some, bi, i00, if_true]
        rw [chk_ok hs (by decide), tn_nI (show s < 2 ^ 31 by omega)]
        simp only [Nat.reduceAdd, ed, el]
        by_cases q3 : dN a.1 ≤ (aSh a s).2.1
        · have h40 := t.2.1
          rw [if_pos q3, if_pos (nI_le q3 (by omega)), M_tkL h hW hs q3 h40 e0]
          cases tkO a (nI s) with
          | none => exact Or.inl ⟨rfl, rfl⟩
          | some j =>
            refine Or.inr ⟨by show ¬ (-5 : Int32) = 0; decide, ?_⟩
            show OKM (some (wI M 85 5 (M.1 85 5 + 1), -5)) M (refA a (-5), -5)
            rw [refA5]
            exact ⟨_, rfl, RM_rfu h (k := 3) (by decide), FrM.wI (by omega), rfl⟩
        · rw [if_neg q3, if_neg (nI_ge (by omega) (by omega)), refA2]
          exact Or.inr ⟨by decide, M_bad h⟩
      · replace e : f_X8_noRow 69 s M = some (M2, trb a s) := e
        rw [e, if_neg e0]
        simp only [Option.bind_some, bi, if_neg e0]
        exact Or.inr ⟨e0, M2, rfl, hR, hF⟩
    · have eT : trbT a s p = -2 := if_neg q
      rw [eT, refA2]
      simp only [if_pos q0, if_neg q, Option.bind_some, i10, if_false, if_true]
      exact Or.inr ⟨by decide, M_bad h⟩
  · have eT : trbT a s p = -2 := by
      unfold trbT
      have e2 : trb a s = -2 := if_neg q0
      rw [e2]
      by_cases q : inN p (pN a.1)
      · rw [if_pos q, if_neg (by decide)]
      · rw [if_neg q]
    rw [eT, refA2]
    simp only [if_neg q0, Option.bind_some, if_true]
    exact Or.inr ⟨by decide, M_bad h⟩
theorem C_refTT (h : RC a M) {s p : Int32} (q : ¬ trbT a s p = 0) : OKC ((f_X7_refuse (trbT a s p) M).bind fun q => some (q.1, q.2)) M (refA a (trbT a s p), trbT a s p) := C_refT h (by
  rcases trbT_v a s p with z | z | z | z | z
  · exact absurd z q
  · exact Or.inl z
  · exact Or.inr (Or.inl z)
  · exact Or.inr (Or.inr (Or.inl z))
  · exact Or.inr (Or.inr (Or.inr z)))
theorem X7_freed (h : RC a M) (hW : WA a) (s p : Int32) : OKC (f_X7_freed s p M) M (oFreed a s p) := by
  have d15 := hW.1.d15
  have n9 := hW.1.n9
  unfold f_X7_freed oFreed
  rw [C_trbT h hW, Option.bind_some]
  by_cases q : trbT a s p = 0
  · obtain ⟨s, p, hs, hp, hl, h40, rfl, rfl, _⟩ := trbT_0 hW q
    have e0 : M.1 1 0 = nI (dN a.1) := (h.1.1 0 (by decide)).trans hW.1.d
    have ek : M.1 (3 + p) 0 = a.1.2 p 0 := VC3 h.1 (by omega) (by decide)
    rw [if_pos q, if_pos q, chk_ok (show p < 8 by omega) (by decide), tn_nI (show p < 2 ^ 31 by omega), ek, tnn (show p < 2 ^ 31 by omega)]
    simp only [bi]
    have rr := loop_run0 (fun f i (t : Int32) => f_X7_freed_L37 (nI s) (a.1.2 p 0) M f t (nI i)) (dN a.1) (fun d b => if frB a (nI s) p d = true then b ||| (1 <<< (nI d &&& 31)) else b) id 0 (by
      intro f i t hi
      show f_X7_freed_L37 (nI s) (a.1.2 p 0) M (f + 1) t (nI i) = f_X7_freed_L37 (nI s) (a.1.2 p 0) M f (if decide ((elA a (nI s) i = 2 ∧ ¬ a.1.2 p 0 = 1) ∨ (elA a (nI s) i = 1 ∧ a.1.2 p 0 = 2)) = true then t ||| (1 <<< (nI i &&& 31)) else t) (nI (i + 1))
      rw [f_X7_freed_L37, e0, if_neg (nI_ge hi (by omega)), chk_ok hs (by decide), tn_nI (show s < 2 ^ 31 by omega), C_el (h.2.2.1 s hs) h40 (show i < (aSh a s).2.1 by omega), Option.bind_some, elA_n hs]
      simp only [bi, nI_1, decide_eq_true_eq]
      by_cases q1 : (aSh a s).2.2 i = 2
      · have n1 : ¬ (aSh a s).2.2 i = 1 := by rw [q1]; decide
        rw [if_pos ((lg_cmp_eq _ _).mpr q1), if_neg (fun z => n1 ((lg_cmp_eq _ _).mp z))]
        by_cases q2 : a.1.2 p 0 = 1
        · rw [if_pos q2, if_neg (fun z => z.elim (fun z => z.2 q2) (fun z => n1 z.1))]
        · rw [if_neg q2, if_pos (Or.inl ⟨q1, q2⟩)]
      · rw [if_neg (fun z => q1 ((lg_cmp_eq _ _).mp z))]
        by_cases q3 : (aSh a s).2.2 i = 1
        · rw [if_pos ((lg_cmp_eq _ _).mpr q3)]
          by_cases q4 : a.1.2 p 0 = 2
          · rw [if_pos q4, if_pos (Or.inr ⟨q3, q4⟩)]
          · rw [if_neg q4, if_neg (fun z => z.elim (fun z => q1 z.1) (fun z => q4 z.2))]
        · rw [if_neg (fun z => q3 ((lg_cmp_eq _ _).mp z)), if_neg (fun z => z.elim (fun z => q1 z.1) (fun z => q3 z.1))]) (by
      intro f t
      show f_X7_freed_L37 (nI s) (a.1.2 p 0) M (f + 1) t (nI (dN a.1)) = some t
      rw [f_X7_freed_L37, e0, if_pos (Int32.le_refl _)]) 1000 (by omega)
    rw [show f_X7_freed_L37 (nI s) (a.1.2 p 0) M 1000 0 0 = _ from rr]
    exact okC h
  · rw [if_neg q, if_neg q]; exact C_refTT h q
theorem M_freedL (h : RM a M) (hW : WA a) {s p : Nat} (hs : s < 8) (hp : p < pN a.1) (hl : dN a.1 ≤ (aSh a s).2.1) (h40 : (aSh a s).2.1 ≤ 40) (q : trb a (nI s) = 0) : f_X8_freed_L19 69 (nI s) (nI p) M 1000 0 0 = some (mkS (frB a (nI s) p) (dN a.1)) := by
  have d15 := hW.1.d15
  have n9 := hW.1.n9
  have t := trb_0 h hW hs q
  have e0 : M.1 69 9 = nI (dN a.1) := h.1.d.trans hW.1.d
  have ek : M.1 86 p = a.1.2 p 0 := h.1.p0 (by omega)
  have kp : ∀ {α : Type} (X : Option α), chk (nI p) 8 X = X := fun X => chk_ok (by omega) (by decide)
  have tp : (nI p).toNatClampNeg = p := tn_nI (by omega)
  have ks : ∀ {α : Type} (X : Option α), chk (nI s) 8 X = X := fun X => chk_ok (by omega) (by decide)
  have ts : (nI s).toNatClampNeg = s := tn_nI (by omega)
  obtain ⟨r, e1, e2⟩ := loop_ex (fun f i (x : Int32) => f_X8_freed_L19 69 (nI s) (nI p) M f x (nI i)) (dN a.1) (fun i x => x = mkS (frB a (nI s) p) i) (fun x => x = mkS (frB a (nI s) p) (dN a.1)) (by
    intro f i x hi hx
    have hx : x = mkS (frB a (nI s) p) i := hx
    subst hx
    have ki : ∀ {α : Type} (X : Option α), chk (nI i) 40 X = X := fun X => chk_ok (by omega) (by decide)
    have ti : (nI i).toNatClampNeg = i := tn_nI (by omega)
    have es : mkS (frB a (nI s) p) (i + 1) = if decide ((elA a (nI s) i = 2 ∧ ¬ a.1.2 p 0 = 1) ∨ (elA a (nI s) i = 1 ∧ a.1.2 p 0 = 2)) = true then mkS (frB a (nI s) p) i ||| (1 <<< (nI i &&& 31)) else mkS (frB a (nI s) p) i := rfl
    rw [elA_n hs] at es
    simp only [decide_eq_true_eq] at es
    by_cases q1 : a.1.2 p 0 = 1
    · refine Or.inl ⟨mkS (frB a (nI s) p) i, ?_, ?_⟩
      · show f_X8_freed_L19 69 (nI s) (nI p) M (f + 1) _ (nI i) = _
        rw [f_X8_freed_L19, e0, if_neg (nI_ge hi (by omega))]
        simp only [kp, tp, Nat.reduceAdd, ek, if_pos q1]
      · have h0 : ∀ k, mkS (frB a (nI s) p) k = 0 := by
          intro k
          induction k with
          | zero => rfl
          | succ k ih =>
            show (if decide ((elA a (nI s) k = 2 ∧ ¬ a.1.2 p 0 = 1) ∨ (elA a (nI s) k = 1 ∧ a.1.2 p 0 = 2)) = true then mkS (frB a (nI s) p) k ||| (1 <<< (nI k &&& 31)) else mkS (frB a (nI s) p) k) = 0
            rw [if_neg (fun z => (of_decide_eq_true z).elim (fun z => z.2 q1) (fun z => absurd (q1.symm.trans z.2) (by decide))), ih]
        rw [h0, h0]
    · refine Or.inr ⟨_, ?_, rfl⟩
      show f_X8_freed_L19 69 (nI s) (nI p) M (f + 1) _ (nI i) = f_X8_freed_L19 69 (nI s) (nI p) M f (mkS (frB a (nI s) p) (i + 1)) (nI (i + 1))
      rw [es, f_X8_freed_L19, e0, if_neg (nI_ge hi (by omega))]
      simp only [kp, ks, ki, tp, ts, ti, Nat.reduceAdd, ek, if_neg q1, t.2.2.2.2.2 i (show i < 40 by omega), bi, nI_1, Int32.or_zero, i10, i00, if_true, if_false]
      by_cases q2 : (aSh a s).2.2 i = 2
      · rw [if_pos ((lg_cmp_eq _ _).mpr q2), if_pos (Or.inl ⟨q2, q1⟩)]
      · rw [if_neg (fun z => q2 ((lg_cmp_eq _ _).mp z))]
        by_cases q4 : a.1.2 p 0 = 2
        · rw [if_pos q4]
          by_cases q3 : (aSh a s).2.2 i = 1
          · rw [if_pos ((lg_cmp_eq _ _).mpr q3), if_pos (Or.inr ⟨q3, q4⟩)]
          · rw [if_neg (fun z => q3 ((lg_cmp_eq _ _).mp z)), if_neg (fun z => z.elim (fun z => q2 z.1) (fun z => q3 z.1))]
        · rw [if_neg q4, if_neg (fun z => z.elim (fun z => q2 z.1) (fun z => q4 z.2))]) (by
    intro f x hx
    refine ⟨x, ?_, hx⟩
    show f_X8_freed_L19 69 (nI s) (nI p) M (f + 1) x (nI (dN a.1)) = _
    rw [f_X8_freed_L19, e0, if_pos (Int32.le_refl _)]) 1000 0 0 (by omega) (by omega) rfl
  rw [show f_X8_freed_L19 69 (nI s) (nI p) M 1000 0 0 = some r from e1, e2]
theorem X8_freed (h : RM a M) (hW : WA a) (s p : Int32) : OKM (f_X8_freed 69 s p M) M (oFreed a s p) := by
  have n9 := hW.1.n9
  unfold f_X8_freed oFreed
  rcases M_trbT h hW s p with ⟨e0, e⟩ | ⟨e0, M2, e, hR, hF⟩
  · obtain ⟨s, p, hs, hp, hl, h40, rfl, rfl, q2⟩ := trbT_0 hW e0
    rw [e, if_pos e0]
    simp only [Option.bind_some, bi, i00, if_true]
    rw [M_freedL h hW hs hp hl h40 q2, tnn (show p < 2 ^ 31 by omega)]
    exact okM h
  · replace e : f_X8_noTicks 69 s p M = some (M2, trbT a s p) := e
    rw [e, if_neg e0]
    simp only [Option.bind_some, bi, if_neg e0]
    exact ⟨M2, rfl, hR, hF⟩
theorem C_so (hV : VC 1 a.1 M) (hW : WF a.1) {s p k : Nat} (hp : p < 8) (hT : TKC a.1 p M) (hS : SC s (aSh a s) M) (hs : s < 8) (hl : dN a.1 ≤ (aSh a s).2.1) (h40 : (aSh a s).2.1 ≤ 40) : f_X6_ticksSo 21 1 (3 + p) (nI k) (53 + 2 * s) M = some (if soO a (nI s) p k = true then 1 else 0) := by
  have d1 := hW.d1
  have d15 := hW.d15
  have fl := amax_lt (yesN a.1 p) (dN a.1) d1
  have e0 : M.1 1 0 = nI (dN a.1) := (hV.1 0 (by decide)).trans hW.d
  have f3 : M.1 (3 + p) 3 = a.1.2 p 3 := VC3 hV hp (by decide)
  have f1 : M.1 (3 + p) 1 = a.1.2 p 1 := VC3 hV hp (by decide)
  have rr := loop_fst (soB a (nI s) p k) (fun f i => f_X6_ticksSo_L13 21 1 (3 + p) (nI k) (53 + 2 * s) (nI (amax (yesN a.1 p) (dN a.1))) M f (nI i)) (dN a.1) () (fun _ => (0 : Int32)) (by
    intro f i hi
    have ki : ∀ {α : Type} (X : Option α), chk (nI i) 14 X = X := fun X => chk_ok (by omega) (by decide)
    have ti : (nI i).toNatClampNeg = i := tn_nI (by omega)
    have ey : M.1 32 i = yesN a.1 p i := hT.2.2.1 i hi
    have et := C_tickAs (3 + p) (nI k) i (amax (yesN a.1 p) (dN a.1)) (yesN a.1 p) M
    rw [f3, f1] at et
    show f_X6_ticksSo_L13 21 1 (3 + p) (nI k) (53 + 2 * s) (nI (amax (yesN a.1 p) (dN a.1))) M (f + 1) (nI i) = if decide (¬ (tickV (a.1.2 p 3) (a.1.2 p 1) (nI k) (yesN a.1 p) (amax (yesN a.1 p) (dN a.1)) i).toInt64 = elA a (nI s) i) = true then some (Sum.inr 0) else f_X6_ticksSo_L13 21 1 (3 + p) (nI k) (53 + 2 * s) (nI (amax (yesN a.1 p) (dN a.1))) M f (nI (i + 1))
    rw [elA_n hs, f_X6_ticksSo_L13, e0, if_neg (nI_ge hi (by omega)), ki, C_el hS h40 (show i < (aSh a s).2.1 by omega)]
    by_cases q : i = amax (yesN a.1 p) (dN a.1)
    · rw [if_pos q] at et
      rw [if_pos (show nI i = nI (amax (yesN a.1 p) (dN a.1)) by rw [← q])]
      simp only [Nat.reduceAdd, ti, ey, et, Option.bind_some, bi, nI_1]
      by_cases q2 : (tickV (a.1.2 p 3) (a.1.2 p 1) (nI k) (yesN a.1 p) (amax (yesN a.1 p) (dN a.1)) i).toInt64 = (aSh a s).2.2 i
      · rw [if_pos ((lg_cmp_eq _ _).mpr q2), if_neg (fun z => absurd q2 (of_decide_eq_true z))]
      · rw [if_neg (fun z => q2 ((lg_cmp_eq _ _).mp z)), if_pos (decide_eq_true q2)]
    · rw [if_neg q] at et
      rw [if_neg (fun z => q ((nI_eq (by omega) (by omega)).mp z))]
      simp only [Nat.reduceAdd, ti, ey, et, Option.bind_some, bi, nI_1]
      by_cases q2 : (tickV (a.1.2 p 3) (a.1.2 p 1) (nI k) (yesN a.1 p) (amax (yesN a.1 p) (dN a.1)) i).toInt64 = (aSh a s).2.2 i
      · rw [if_pos ((lg_cmp_eq _ _).mpr q2), if_neg (fun z => absurd q2 (of_decide_eq_true z))]
      · rw [if_neg (fun z => q2 ((lg_cmp_eq _ _).mp z)), if_pos (decide_eq_true q2)]) (by
    intro f
    show f_X6_ticksSo_L13 21 1 (3 + p) (nI k) (53 + 2 * s) (nI (amax (yesN a.1 p) (dN a.1))) M (f + 1) (nI (dN a.1)) = _
    rw [f_X6_ticksSo_L13, e0, if_pos (Int32.le_refl _)]) 1000 0 (Nat.zero_le _) (by omega)
  unfold f_X6_ticksSo
  rw [show f_X6_dayOfMost 21 (21 + 11) M = _ from C_favour (A := 32) hT.1 d1 d15 hT.2.2.1, Option.bind_some, show f_X6_ticksSo_L13 21 1 (3 + p) (nI k) (53 + 2 * s) (nI (amax (yesN a.1 p) (dN a.1))) M 1000 0 = _ from rr, Nat.sub_zero]
  unfold soO
  cases fstO (soB a (nI s) p k) (dN a.1) 0 <;> rfl
theorem X7_meant (h : RC a M) (hW : WA a) (s p : Int32) : OKC (f_X7_meant s p M) M (oMeant a s p) := by
  have d15 := hW.1.d15
  have n9 := hW.1.n9
  unfold f_X7_meant oMeant
  rw [C_trbT h hW, Option.bind_some]
  by_cases q : trbT a s p = 0
  · obtain ⟨s, p, hs, hp, hl, h40, rfl, rfl, _⟩ := trbT_0 hW q
    obtain ⟨M2, e, t, hF⟩ := C_reckonA h.1 hW.1 (K := p) (by omega)
    have h2 := h.fr hF (by omega)
    rw [if_pos q, if_pos q, e, Option.bind_some, tnn (show p < 2 ^ 31 by omega)]
    have rr := loop_run0 (fun f i (x : Int32) => f_X7_meant_L35 (nI s) (nI p) M2 f x (nI i)) 6 (fun k b => if soO a (nI s) p k = true then b ||| (1 <<< (nI k &&& 31)) else b) id 0 (by
      intro f i x hi
      show f_X7_meant_L35 (nI s) (nI p) M2 (f + 1) x (nI i) = f_X7_meant_L35 (nI s) (nI p) M2 f (if soO a (nI s) p i = true then x ||| (1 <<< (nI i &&& 31)) else x) (nI (i + 1))
      rw [f_X7_meant_L35, if_neg (show ¬ (5 : Int32) < nI i from nI_nlt (a := 5) (by omega) (by decide)), chk_ok (show p < 8 by omega) (by decide), chk_ok hs (by decide), tn_nI (show p < 2 ^ 31 by omega), tn_nI (show s < 2 ^ 31 by omega), C_so h2.1 hW.1 (by omega) t (h2.2.2.1 s hs) hs hl h40, Option.bind_some]
      by_cases q5 : soO a (nI s) p i = true
      · rw [if_pos q5, if_pos q5, if_neg (show ¬ (1 : Int32) = 0 by decide)]
        simp only [bi, nI_1]
      · rw [if_neg q5, if_neg q5, if_pos rfl]
        simp only [bi, nI_1]) (by
      intro f x
      show f_X7_meant_L35 (nI s) (nI p) M2 (f + 1) x (nI 6) = some x
      rw [f_X7_meant_L35, if_pos (by decide)]) 1000 (by omega)
    rw [show f_X7_meant_L35 (nI s) (nI p) M2 1000 0 0 = _ from rr]
    exact okCt h hF
  · rw [if_neg q, if_neg q]; exact C_refTT h q
theorem M_so (hV : VM 69 a.1 M) (hW : WF a.1) {s p k : Nat} (hp : p < 8) (hT : TKM a.1 p M) (hS : ∀ i, i < 40 → M.2.1 (74 + s) i = (aSh a s).2.2 i) (hs : s < 8) : f_X8_wouldTick 69 (74 + s) (nI p) (nI k) M = some (if soO a (nI s) p k = true then 1 else 0) := by
  have d1 := hW.d1
  have d15 := hW.d15
  have e0 : M.1 69 9 = nI (dN a.1) := hV.d.trans hW.d
  have rr := loop_fst (soB a (nI s) p k) (fun f i => f_X8_wouldTick_L3 69 (74 + s) (nI p) (nI k) M f (nI i)) (dN a.1) () (fun _ => (0 : Int32)) (by
    intro f i hi
    show f_X8_wouldTick_L3 69 (74 + s) (nI p) (nI k) M (f + 1) (nI i) = if decide (¬ (tickV (a.1.2 p 3) (a.1.2 p 1) (nI k) (yesN a.1 p) (amax (yesN a.1 p) (dN a.1)) i).toInt64 = elA a (nI s) i) = true then some (Sum.inr 0) else f_X8_wouldTick_L3 69 (74 + s) (nI p) (nI k) M f (nI (i + 1))
    rw [elA_n hs, f_X8_wouldTick_L3, e0, if_neg (nI_ge hi (by omega)), M_tickBy hV hW hp hi hT.2, Option.bind_some, chk_ok (show i < 40 by omega) (by decide), tn_nI (show i < 2 ^ 31 by omega), hS i (by omega)]
    by_cases q2 : (tickV (a.1.2 p 3) (a.1.2 p 1) (nI k) (yesN a.1 p) (amax (yesN a.1 p) (dN a.1)) i).toInt64 = (aSh a s).2.2 i
    · rw [if_pos ((lg_cmp_eq _ _).mpr q2), if_neg (fun z => absurd q2 (of_decide_eq_true z))]
      simp only [bi, nI_1]
    · rw [if_neg (fun z => q2 ((lg_cmp_eq _ _).mp z)), if_pos (decide_eq_true q2)]) (by
    intro f
    show f_X8_wouldTick_L3 69 (74 + s) (nI p) (nI k) M (f + 1) (nI (dN a.1)) = _
    rw [f_X8_wouldTick_L3, e0, if_pos (Int32.le_refl _)]) 1000 0 (Nat.zero_le _) (by omega)
  unfold f_X8_wouldTick
  rw [show f_X8_wouldTick_L3 69 (74 + s) (nI p) (nI k) M 1000 0 = _ from rr, Nat.sub_zero]
  unfold soO
  cases fstO (soB a (nI s) p k) (dN a.1) 0 <;> rfl
theorem X8_meant (h : RM a M) (hW : WA a) (s p : Int32) : OKM (f_X8_meant 69 s p M) M (oMeant a s p) := by
  have n9 := hW.1.n9
  unfold f_X8_meant oMeant
  rcases M_trbT h hW s p with ⟨e0, e⟩ | ⟨e0, M2, e, hR, hF⟩
  · obtain ⟨s, p, hs, hp, hl, h40, rfl, rfl, q2⟩ := trbT_0 hW e0
    have t := trb_0 h hW hs q2
    obtain ⟨M2, e9, t9, hF⟩ := M_findTicks h.1 hW.1 (K := p) (by omega)
    have hv := h.1.sc hF
    have hr : ∀ i, i < 40 → M2.2.1 (74 + s) i = (aSh a s).2.2 i := fun i hi => by rw [hF.2.1 (74 + s) (by omega)]; exact t.2.2.2.2.2 i hi
    rw [e, if_pos e0]
    simp only [Option.bind_some, bi, i00, if_true]
    rw [e9, Option.bind_some, tnn (show p < 2 ^ 31 by omega)]
    have rr := loop_run0 (fun f i (x : Int32) => f_X8_meant_L24 69 (nI s) (nI p) M2 f x (nI i)) 6 (fun k b => if soO a (nI s) p k = true then b ||| (1 <<< (nI k &&& 31)) else b) id 0 (by
      intro f i x hi
      show f_X8_meant_L24 69 (nI s) (nI p) M2 (f + 1) x (nI i) = f_X8_meant_L24 69 (nI s) (nI p) M2 f (if soO a (nI s) p i = true then x ||| (1 <<< (nI i &&& 31)) else x) (nI (i + 1))
      have es := M_so hv hW.1 (k := i) (show p < 8 by omega) t9 hr hs
      rw [f_X8_meant_L24, if_neg (show ¬ (5 : Int32) < nI i from nI_nlt (a := 5) (by omega) (by decide)), chk_ok hs (by decide), tn_nI (show s < 2 ^ 31 by omega)]
      simp only [Nat.reduceAdd, es, Option.bind_some, bi, nI_1, Int32.or_zero]
      by_cases q5 : soO a (nI s) p i = true
      · rw [if_pos q5, if_pos q5, if_neg (show ¬ (1 : Int32) = 0 by decide)]
      · rw [if_neg q5, if_neg q5, if_pos rfl]) (by
      intro f x
      show f_X8_meant_L24 69 (nI s) (nI p) M2 (f + 1) x (nI 6) = some x
      rw [f_X8_meant_L24, if_pos (by decide)]) 1000 (by omega)
    rw [show f_X8_meant_L24 69 (nI s) (nI p) M2 1000 0 0 = _ from rr]
    exact okMt h hF
  · replace e : f_X8_noTicks 69 s p M = some (M2, trbT a s p) := e
    rw [e, if_neg e0]
    simp only [Option.bind_some, bi, if_neg e0]
    exact ⟨M2, rfl, hR, hF⟩
theorem W_freed (h : WB a) (s p : Int32) : WB (oFreed a s p).1 := by
  unfold oFreed
  split
  · exact h
  · exact W_refA h
theorem W_meant (h : WB a) (s p : Int32) : WB (oMeant a s p).1 := by
  unfold oMeant
  split
  · exact h
  · exact W_refA h
end TD9
