/-! troubles of a row and of a plan -/
def trb (a : AB) (s : Int32) : Int32 := if inN s 8 then (if 10 ≤ (aSh a (tn s)).1 then -3 else if (aSh a (tn s)).1 = -1 then -4 else 0) else -2
def refA (a : AB) (x : Int32) : AB := if x = -2 then rfu a 0 else if x = -3 then rfu a 1 else if x = -4 then rfu a 2 else rfu a 3
theorem n23 : ¬ ((-3 : Int32) = -2) := by decide
theorem n42 : ¬ ((-4 : Int32) = -2) := by decide
theorem n43 : ¬ ((-4 : Int32) = -3) := by decide
theorem n52 : ¬ ((-5 : Int32) = -2) := by decide
theorem n53 : ¬ ((-5 : Int32) = -3) := by decide
theorem n54 : ¬ ((-5 : Int32) = -4) := by decide
theorem refA2 (a : AB) : refA a (-2) = rfu a 0 := if_pos rfl
theorem refA3 (a : AB) : refA a (-3) = rfu a 1 := by unfold refA; rw [if_neg n23, if_pos rfl]
theorem refA4 (a : AB) : refA a (-4) = rfu a 2 := by unfold refA; rw [if_neg n42, if_neg n43, if_pos rfl]
theorem refA5 (a : AB) : refA a (-5) = rfu a 3 := by unfold refA; rw [if_neg n52, if_neg n53, if_neg n54]
section OT
variable {a : AB} {M : Mm}
theorem C_trb (h : RC a M) (hW : WA a) (s : Int32) : f_X7_troubleOfRow s M = some (trb a s) := by
  have h2 := hW.1.n9
  unfold f_X7_troubleOfRow trb
  rw [isShelf_ok]
  by_cases q : inN s 8
  · obtain ⟨s, hs, rfl⟩ := inN_k (by decide) q
    have hS := h.2.2.1 s hs
    have ks : ∀ {α : Type} (X : Option α), chk (nI s) 8 X = X := fun X => chk_ok hs (by decide)
    have es : (nI s).toNatClampNeg = s := tn_nI (by omega)
    simp only [if_pos q, Option.bind_some, i10, if_false, ks, es, holdsP, hS.1]
    rcases hW.2.2.1 s hs with t | t | ⟨p, hp, t⟩
    · have f := e_facts t.1
      simp only [if_neg f.2.1, if_pos t.1, if_true]
    · have f := r_facts t.1
      simp only [if_neg f.2.1, if_neg f.1, if_true]
    · have f := p_facts (show p < 8 by omega)
      rw [t.1]
      simp only [if_pos f.2.2.1, i10, if_false]
  · simp only [if_neg q, Option.bind_some, if_true]
theorem M_trb (h : RM a M) (hW : WA a) (s : Int32) : (trb a s = 0 ∧ f_X8_noRow 69 s M = some (M, 0)) ∨ (trb a s ≠ 0 ∧ OKM (f_X8_noRow 69 s M) M (refA a (trb a s), trb a s)) := by
  have h2 := hW.1.n9
  unfold f_X8_noRow trb
  rw [show f_X8_in s.toInt64 0 7 = _ from in_n s 7 7 rfl (by decide)]
  by_cases q : inN s 8
  · obtain ⟨s, hs, rfl⟩ := inN_k (by decide) q
    have ks : ∀ {α : Type} (X : Option α), chk (nI s) 8 X = X := fun X => chk_ok hs (by decide)
    have es : (nI s).toNatClampNeg = s := tn_nI (by omega)
    simp only [if_pos q, Option.bind_some, i10, if_false, ks, es, Nat.reduceAdd]
    rcases triM (by omega) (hW.2.2.1 s hs) (h.2.2.1 s hs) with t | t | ⟨p, hp, t⟩
    · have f := e_facts t.1
      simp only [t.2.2, i02, if_false, if_true, if_neg f.2.1, if_pos t.1, refA4]
      exact Or.inr ⟨by decide, M_nth h⟩
    · have f := r_facts t.1
      simp only [t.2.2.1, i12, i10, if_false, if_neg f.2.1, if_neg f.1]
      exact Or.inl ⟨trivial, trivial⟩
    · have f := p_facts (show p < 8 by omega)
      rw [t.1]
      simp only [t.2.2.1, if_true, if_pos f.2.2.1, refA3]
      exact Or.inr ⟨by decide, M_oth h⟩
  · simp only [if_neg q, Option.bind_some, if_true, refA2]
    exact Or.inr ⟨by decide, M_bad h⟩
def trbP (a : AB) (s n : Int32) : Int32 := if inN n 41 then (if trb a s = 0 then (if n ≤ nI (aSh a (tn s)).2.1 then 0 else -2) else trb a s) else -2
theorem trb_in {a : AB} {s : Int32} (h : trb a s = 0) : inN s 8 := by
  unfold trb at h
  by_cases q : inN s 8
  · exact q
  · rw [if_neg q] at h
    exact absurd h (by decide)
theorem C_trbP (h : RC a M) (hW : WA a) (s n : Int32) : f_X7_troubleOfPlan s n M = some (trbP a s n) := by
  unfold f_X7_troubleOfPlan trbP
  rw [wi_n n 40 40 rfl (by decide), C_trb h hW]
  by_cases q : inN n 41
  · simp only [if_pos q, Option.bind_some, i10, if_false]
    by_cases q2 : trb a s = 0
    · obtain ⟨s, hs, rfl⟩ := inN_k (by decide) (trb_in q2)
      have hS := h.2.2.1 s hs
      have ks : ∀ {α : Type} (X : Option α), chk (nI s) 8 X = X := fun X => chk_ok hs (by decide)
      have es : (nI s).toNatClampNeg = s := tn_nI (by omega)
      simp only [if_pos q2, ks, es, hS.2.1, q2, tnn (show s < 2 ^ 31 by omega), if_true, apply_ite some]
    · simp only [if_neg q2]
  · simp only [if_neg q, Option.bind_some, if_true, nn2, if_false]
end OT
