/-! the shelves -/
def fitV (k : Int32) (x : Int64) : Int64 := if k = 0 then x.toInt32.toInt8.toInt32.toInt64 else if k = 1 then x.toInt32.toInt16.toInt32.toInt64 else if k = 2 then x.toInt32.toInt64 else if k = 3 then x else if lg_cmp x 0 = 0 then 0 else 1
theorem fit_ok (k : Int32) (x : Int64) : f_X8_fit k x = some (fitV k x) := by
  unfold f_X8_fit fitV
  simp only [apply_ite some]
theorem low_ok (o : Nat) (x : Int64) (M : Mm) : f_X4_lowestBits o x M = some (fitV (M.1 o 0) x) := by
  unfold f_X4_lowestBits fitV
  simp only [apply_ite some]
abbrev kindV (k0 k : Int32) : Prop := k = 0 ∨ k0 = k ∨ (k0 = 3 ∧ k = 1) ∨ (k0 = 4 ∧ k = 2)
theorem C_ofKind (o : Nat) (k : Int32) (M : Mm) : f_X2_isOfKind o k M = some (if kindV (M.1 o 0) k then 1 else 0) := by
  unfold f_X2_isOfKind
  by_cases h0 : k = 0
  · rw [if_pos h0, if_pos (Or.inl h0)]
  by_cases h1 : M.1 o 0 = k
  · rw [if_neg h0, if_pos h1, if_pos (Or.inr (Or.inl h1))]
  rw [if_neg h0, if_neg h1]
  by_cases h3 : M.1 o 0 = 3
  · by_cases h4 : k = 1
    · rw [if_pos h3, if_pos h4, if_pos (Or.inr (Or.inr (Or.inl ⟨h3, h4⟩)))]
    · have h5 : ¬ M.1 o 0 = 4 := by rw [h3]; decide
      rw [if_pos h3, if_neg h4, if_neg h5, if_neg]
      rintro (h | h | h | h)
      · exact h0 h
      · exact h1 h
      · exact h4 h.2
      · exact h5 h.1
  · rw [if_neg h3]
    by_cases h5 : M.1 o 0 = 4
    · by_cases h4 : k = 2
      · rw [if_pos h5, if_pos h4, if_pos (Or.inr (Or.inr (Or.inr ⟨h5, h4⟩)))]
      · rw [if_pos h5, if_neg h4, if_neg]
        rintro (h | h | h | h)
        · exact h0 h
        · exact h1 h
        · exact h3 h.1
        · exact h4 h.2
    · rw [if_neg h5, if_neg]
      rintro (h | h | h | h)
      · exact h0 h
      · exact h1 h
      · exact h3 h.1
      · exact h5 h.1
theorem M_under (z k : Int32) : f_X8_isUnder z k = some (if kindV z k then 1 else 0) := by
  unfold f_X8_isUnder
  by_cases h0 : k = 0
  · rw [if_pos h0, if_pos (Or.inl h0)]
  by_cases h1 : z = k
  · rw [if_neg h0, if_pos h1, if_pos (Or.inr (Or.inl h1))]
  rw [if_neg h0, if_neg h1]
  by_cases h3 : k = 1
  · have h5 : ¬ k = 2 := by rw [h3]; decide
    rw [if_pos h3, if_neg h5]
    by_cases h4 : z = 3
    · rw [if_pos h4, if_pos (Or.inr (Or.inr (Or.inl ⟨h4, h3⟩)))]
    · rw [if_neg h4, if_neg]
      rintro (h | h | h | h)
      · exact h0 h
      · exact h1 h
      · exact h4 h.1
      · exact h5 h.2
  · rw [if_neg h3]
    by_cases h5 : k = 2
    · rw [if_pos h5]
      by_cases h4 : z = 4
      · rw [if_pos h4, if_pos (Or.inr (Or.inr (Or.inr ⟨h4, h5⟩)))]
      · rw [if_neg h4, if_neg]
        rintro (h | h | h | h)
        · exact h0 h
        · exact h1 h
        · exact h3 h.2
        · exact h4 h.1
    · rw [if_neg h5, if_neg]
      rintro (h | h | h | h)
      · exact h0 h
      · exact h1 h
      · exact h3 h.2
      · exact h5 h.2
theorem wi_p (x : Int32) {n : Nat} (hn : n < 2 ^ 31) : f_X7_within x 0 (nI n - 1) = some (if inN x n then 1 else 0) := by
  rw [within_ok]
  simp only [nI_pred_le hn]
theorem in_p (x : Int32) {n : Nat} (hn : n < 2 ^ 31) : f_X8_in x.toInt64 0 ((nI n - 1).toInt64) = some (if inN x n then 1 else 0) := by
  rw [in_0]
  simp only [nI_pred_le hn]
theorem i20 : ((2 : Int32) = 0) = False := eq_false (by decide)
theorem i21 : ((2 : Int32) = 1) = False := eq_false (by decide)
theorem i01 : ((0 : Int32) = 1) = False := eq_false (by decide)
theorem i02 : ((0 : Int32) = 2) = False := eq_false (by decide)
theorem i12 : ((1 : Int32) = 2) = False := eq_false (by decide)
theorem wJ_on {M : Mm} {a k : Nat} {v : Int64} : (wJ M a k v).2.1 a k = v := if_pos ⟨rfl, rfl⟩
theorem wJ_off {M : Mm} {a k : Nat} {v : Int64} {x y : Nat} (h : x ≠ a ∨ y ≠ k) : (wJ M a k v).2.1 x y = M.2.1 x y := if_neg (fun z => h.elim (fun q => q z.1) (fun q => q z.2))
theorem e_facts {z : Int32} (h : z = -1) : ¬ inN z 5 ∧ ¬ 10 ≤ z ∧ z < 10 := by subst h; decide
theorem r_facts {z : Int32} (h : inN z 5) : ¬ z = -1 ∧ ¬ 10 ≤ z ∧ z < 10 := by
  obtain ⟨k, hk, rfl⟩ := inN_k (by decide) h
  have : ∀ q : Fin 5, ¬ nI q.1 = -1 ∧ ¬ 10 ≤ nI q.1 ∧ nI q.1 < 10 := by decide
  exact this ⟨k, hk⟩
theorem p_facts {p : Nat} (h : p < 8) : ¬ nI (10 + p) = -1 ∧ ¬ inN (nI (10 + p)) 5 ∧ 10 ≤ nI (10 + p) ∧ ¬ nI (10 + p) < 10 ∧ nI (10 + p) - 10 = nI p ∧ 10 + nI p = nI (10 + p) := by
  have : ∀ q : Fin 8, ¬ nI (10 + q.1) = -1 ∧ ¬ inN (nI (10 + q.1)) 5 ∧ 10 ≤ nI (10 + q.1) ∧ ¬ nI (10 + q.1) < 10 ∧ nI (10 + q.1) - 10 = nI q.1 ∧ 10 + nI q.1 = nI (10 + q.1) := by decide
  exact this ⟨p, h⟩
/-- what a shelf may hold, with the facts of each -/
theorem triM {s n : Nat} {x : SV} {M : Mm} (hn : n ≤ 8) (h : WSh n x) (hS : SM s x M) : (x.1 = -1 ∧ x.2.1 = 0 ∧ M.1 70 s = 0) ∨ (inN x.1 5 ∧ x.2.1 ≤ 40 ∧ M.1 70 s = 1 ∧ M.1 71 s = x.1 ∧ M.1 72 s = nI x.2.1 ∧ ∀ i, i < 40 → M.2.1 (74 + s) i = x.2.2 i) ∨ ∃ p, p < n ∧ x.1 = nI (10 + p) ∧ x.2.1 = 0 ∧ M.1 70 s = 2 ∧ M.1 83 s = nI p := by
  rcases h with h | h | ⟨p, hp, h⟩
  · rcases hS with k | k | ⟨p, hp, k⟩
    · exact Or.inl ⟨h.1, h.2, k.2⟩
    · exact absurd k.1 (e_facts h.1).1
    · exact absurd (k.1.symm.trans h.1) (p_facts hp).1
  · rcases hS with k | k | ⟨p, hp, k⟩
    · exact absurd h.1 (e_facts k.1).1
    · exact Or.inr (Or.inl ⟨h.1, h.2, k.2⟩)
    · exact absurd (k.1 ▸ h.1) (p_facts hp).2.1
  · rcases hS with k | k | ⟨p2, hp2, k⟩
    · exact absurd (h.1.symm.trans k.1) (p_facts (by omega)).1
    · exact absurd (h.1 ▸ k.1) (p_facts (by omega)).2.1
    · have e : p2 = p := by
        have e2 := h.1.symm.trans k.1
        rw [nI_eq (by omega) (by omega)] at e2
        omega
      subst e
      exact Or.inr (Or.inr ⟨p2, hp, h.1, h.2, k.2⟩)
theorem RC_setSh {a : AB} {M M2 : Mm} {s : Nat} {x : SV} (h : RC a M) (h8 : s < 8) (hS : SC s x M2) (hF : Fr (53 + 2 * s) (53 + 2 * s + 2) M M2) : RC (setSh a s x) M2 := by
  obtain ⟨hv, hk, hs, ht, hr⟩ := h
  refine ⟨hv.fr hF (by omega), ⟨fun q => ?_, fun w q => ⟨?_, (hk.2 w q).2.fr hF (by omega)⟩⟩, fun j hj => ?_, ⟨(hF.i (by omega)).trans ht.1, fun i hi => (hF.i (by omega)).trans (ht.2 i hi)⟩, fun i hi => (hF.i (by omega)).trans (hr i hi)⟩
  · exact (hF.i (by omega)).trans (hk.1 q)
  · exact (hF.i (by omega)).trans (hk.2 w q).1
  · show SC j (upN (aSh a) s x j) M2
    by_cases q : j = s
    · subst q; rw [upN_eq]; exact hS
    · rw [upN_ne _ _ q]
      exact ⟨(hF.i (by omega)).trans (hs j hj).1, (hF.i (by omega)).trans (hs j hj).2.1, fun i hi => (hF.j (by omega)).trans ((hs j hj).2.2 i hi)⟩
theorem OKC.sh {a : AB} {M M2 : Mm} {s : Nat} {x : SV} {r : Int32} (h : RC a M) (h8 : s < 8) (hS : SC s x M2) (hF : Fr (53 + 2 * s) (53 + 2 * s + 2) M M2) : OKC (some (M2, r)) M (setSh a s x, r) := ⟨M2, rfl, RC_setSh h h8 hS hF, hF.wide (by omega) (by omega)⟩
def FrS (s : Nat) (M M2 : Mm) : Prop := (∀ x y, ¬ ((x = 70 ∨ x = 71 ∨ x = 72 ∨ x = 83) ∧ y = s) → M2.1 x y = M.1 x y) ∧ (∀ x, x ≠ 74 + s → x ≠ 82 → M2.2.1 x = M.2.1 x) ∧ M2.2.2 = M.2.2
theorem FrS.rf {s : Nat} {M : Mm} : FrS s M M := ⟨fun _ _ _ => rfl, fun _ _ _ => rfl, rfl⟩
theorem FrS.tr {s : Nat} {M M2 M3 : Mm} (h1 : FrS s M M2) (h2 : FrS s M2 M3) : FrS s M M3 := ⟨fun x y h => (h2.1 x y h).trans (h1.1 x y h), fun x h h' => (h2.2.1 x h h').trans (h1.2.1 x h h'), h2.2.2.trans h1.2.2⟩
theorem FrS.wI {s : Nat} {M : Mm} {p : Nat} {v : Int32} (h : p = 70 ∨ p = 71 ∨ p = 72 ∨ p = 83) : FrS s M (wI M p s v) := ⟨fun x y hn => wI_off (by omega), fun _ _ _ => rfl, rfl⟩
theorem FrS.wJ {s : Nat} {M : Mm} {p k : Nat} {v : Int64} (h : p = 74 + s ∨ p = 82) : FrS s M (wJ M p k v) := ⟨fun _ _ _ => rfl, fun x h1 h2 => wJ_ne (by omega), rfl⟩
theorem RM_setSh {a : AB} {M M2 : Mm} {s : Nat} {x : SV} (h : RM a M) (h8 : s < 8) (hS : SM s x M2) (hF : FrS s M M2) : RM (setSh a s x) M2 := by
  obtain ⟨hv, hk, hs, ht, hr⟩ := h
  have e : ∀ x, x ≠ 70 → x ≠ 71 → x ≠ 72 → x ≠ 83 → M2.1 x = M.1 x := fun x h1 h2 h3 h4 => funext fun y => hF.1 x y (by omega)
  refine ⟨hv.eqs (fun y _ => by rw [e 69 (by omega) (by omega) (by omega) (by omega)]) (fun x h1 h2 => e x (by omega) (by omega) (by omega) (by omega)), ⟨fun q => by rw [hF.2.2]; exact hk.1 q, fun w q => ?_⟩, fun j hj => ?_, ⟨by rw [e 69 (by omega) (by omega) (by omega) (by omega)]; exact ht.1, fun i hi => by rw [e 84 (by omega) (by omega) (by omega) (by omega)]; exact ht.2 i hi⟩, fun i hi => by rw [e 85 (by omega) (by omega) (by omega) (by omega)]; exact hr i hi⟩
  · rw [hF.2.2]
    obtain ⟨k1, k2, k3⟩ := hk.2 w q
    exact ⟨k1, k2, k3.eqs (fun y hy => by rw [e _ (by omega) (by omega) (by omega) (by omega)]) (fun x h1 h2 => e x (by omega) (by omega) (by omega) (by omega))⟩
  · show SM j (upN (aSh a) s x j) M2
    by_cases q : j = s
    · subst q; rw [upN_eq]; exact hS
    · rw [upN_ne _ _ q]
      unfold SM
      rw [hF.1 70 j (by omega), hF.1 71 j (by omega), hF.1 72 j (by omega), hF.1 83 j (by omega), hF.2.1 (74 + j) (by omega) (by omega)]
      exact hs j hj
theorem OKM.sh {a : AB} {M M2 : Mm} {s : Nat} {x : SV} {r : Int32} (h : RM a M) (h8 : s < 8) (hS : SM s x M2) (hF : FrS s M M2) : OKM (some (M2, r)) M (setSh a s x, r) := ⟨M2, rfl, RM_setSh h h8 hS hF, fun x hx => ⟨funext fun y => hF.1 x y (by omega), hF.2.1 x (by omega) (by omega)⟩, hF.2.2⟩
def oRow (a : AB) (s k n : Int32) : AB × Int32 := if inN s 8 then (if inN k 5 then (if inN n 41 then (setSh a (tn s) (k, tn n, fun _ => 0), 1) else bad a) else bad a) else bad a
def oSet (a : AB) (s i : Int32) (x : Int64) : AB × Int32 := if inN s 8 then (if 10 ≤ (aSh a (tn s)).1 then oth a else if (aSh a (tn s)).1 = -1 then nth a else if inN i (aSh a (tn s)).2.1 then (setSh a (tn s) ((aSh a (tn s)).1, (aSh a (tn s)).2.1, upN (aSh a (tn s)).2.2 (tn i) (fitV (aSh a (tn s)).1 x)), 1) else bad a) else bad a
def oElement (a : AB) (s i : Int32) : Int64 := if inN s 8 then (if inN (aSh a (tn s)).1 5 then (if inN i (aSh a (tn s)).2.1 then (aSh a (tn s)).2.2 (tn i) else 0) else 0) else 0
def oHolds (a : AB) (s : Int32) : Int32 := if inN s 8 then (aSh a (tn s)).1 else -1
def oShow (a : AB) (s p : Int32) : AB × Int32 := if inN s 8 then (if p = -1 then (setSh a (tn s) (-1, 0, (aSh a (tn s)).2.2), 1) else if inN p (pN a.1) then (setSh a (tn s) (10 + p, 0, (aSh a (tn s)).2.2), 1) else bad a) else bad a
def wordV (v : CV) (p : Nat) (k : Int32) : Int32 := if k = 0 then bc (v.2 p 3) else if k = 1 then v.2 p 2 else if k = 2 then v.2 p 1 else if k = 3 then v.2 p 2 else v.2 p 1
def oSays (a : AB) (s k : Int32) : AB × Int32 := if inN s 8 then (if inN k 6 then (if (aSh a (tn s)).1 = -1 then nth a else if inN (aSh a (tn s)).1 5 then oth a else if kindV (a.1.2 (tn ((aSh a (tn s)).1 - 10)) 0) k then (a, wordV a.1 (tn ((aSh a (tn s)).1 - 10)) k) else oth a) else bad a) else bad a
section O4
variable {a : AB} {M : Mm}
theorem X7_holds (h : RC a M) (s : Int32) : f_X7_holds s M = some (oHolds a s) := by
  unfold f_X7_holds oHolds
  rw [isShelf_ok]
  by_cases q : inN s 8
  · obtain ⟨k, hk, rfl⟩ := inN_k (by decide) q
    simp (disch := omega) only [if_pos q, Option.bind_some, i10, if_false, chk_ok, tn_nI, tnn, (h.2.2.1 k hk).1]
  · simp only [if_neg q, Option.bind_some, if_true]
theorem X8_holds (h : RM a M) (hW : WA a) (s : Int32) : f_X8_holds 69 s M = some (oHolds a s) := by
  have h2 := hW.1.n9
  unfold f_X8_holds oHolds
  rw [show f_X8_in s.toInt64 0 7 = _ from in_n s 7 7 rfl (by decide)]
  by_cases q : inN s 8
  · obtain ⟨k, hk, rfl⟩ := inN_k (by decide) q
    simp (disch := omega) only [if_pos q, Option.bind_some, i10, if_false, chk_ok, tn_nI, tnn, Nat.reduceAdd]
    rcases triM (by omega) (hW.2.2.1 k hk) (h.2.2.1 k hk) with t | t | ⟨p, hp, t⟩
    · simp only [t.2.2, if_true, t.1]
    · simp only [t.2.2.1, i10, if_false, if_true, t.2.2.2.1]
    · simp only [t.2.2.1, i20, i21, if_false, t.2.2.2, t.1, (p_facts (show p < 8 by omega)).2.2.2.2.2]
  · simp only [if_neg q, Option.bind_some, if_true]
theorem X7_element (h : RC a M) (hW : WA a) (s i : Int32) : f_X7_element s i M = some (oElement a s i) := by
  have h2 := hW.1.n9
  unfold f_X7_element oElement
  rw [isShelf_ok]
  by_cases q : inN s 8
  · obtain ⟨k, hk, rfl⟩ := inN_k (by decide) q
    have hS := h.2.2.1 k hk
    simp (disch := omega) only [if_pos q, Option.bind_some, i10, if_false, chk_ok, tn_nI, tnn]
    unfold f_X4_holdsRow
    rw [hS.1, wi_n (aSh a k).1 4 4 rfl (by decide)]
    simp only [Option.bind_some, chb_ok]
    by_cases q2 : inN (aSh a k).1 5
    · have h40 : (aSh a k).2.1 ≤ 40 := by
        rcases hW.2.2.1 k hk with t | t | ⟨p, hp, t⟩
        · omega
        · exact t.2
        · omega
      unfold f_X4_elementAt
      rw [hS.2.1, wi_p i (by omega)]
      by_cases q3 : inN i (aSh a k).2.1
      · obtain ⟨j, hj, rfl⟩ := inN_k (by omega) q3
        simp (disch := omega) only [if_pos q2, if_pos q3, Option.bind_some, i10, if_false, chk_ok, tn_nI, tnn, hS.2.2 j (by omega)]
      · simp only [if_pos q2, if_neg q3, Option.bind_some, i10, if_false, if_true]
    · simp only [if_neg q2, if_true]
  · simp only [if_neg q, Option.bind_some, if_true]
theorem X8_element (h : RM a M) (hW : WA a) (s i : Int32) : f_X8_element 69 s i M = some (oElement a s i) := by
  have h2 := hW.1.n9
  unfold f_X8_element oElement
  rw [show f_X8_in s.toInt64 0 7 = _ from in_n s 7 7 rfl (by decide)]
  by_cases q : inN s 8
  · obtain ⟨k, hk, rfl⟩ := inN_k (by decide) q
    simp (disch := omega) only [if_pos q, Option.bind_some, i10, if_false, chk_ok, tn_nI, tnn, Nat.reduceAdd]
    rcases triM (by omega) (hW.2.2.1 k hk) (h.2.2.1 k hk) with t | t | ⟨p, hp, t⟩
    · simp only [t.2.2, i01, if_false, if_neg (e_facts t.1).1]
    · simp only [t.2.2.1, if_true, t.2.2.2.2.1, if_pos t.1]
      rw [in_p i (by omega)]
      by_cases q3 : inN i (aSh a k).2.1
      · obtain ⟨j, hj, rfl⟩ := inN_k (by omega) q3
        simp (disch := omega) only [if_pos q3, Option.bind_some, i10, if_false, chk_ok, tn_nI, tnn, t.2.2.2.2.2 j (by omega)]
      · simp only [if_neg q3, Option.bind_some, if_true]
    · have f := p_facts (show p < 8 by omega)
      simp only [t.2.2.1, i21, if_false, t.1, if_neg f.2.1]
  · simp only [if_neg q, Option.bind_some, if_true]
end O4
