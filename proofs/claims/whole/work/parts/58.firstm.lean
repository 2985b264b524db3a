/-! the model's first -/
def mskOK (v : CV) (k : Nat) (x : Int32) : Prop := ∃ m, m < 2 ^ 8 ∧ x = nI m ∧ ∀ j, j < pN v → (m.testBit j = true ↔ rnk v j < k)
theorem bit_p {p : Nat} (h : p < 8) : (1 : Int32) <<< (nI p &&& 31) = nI (2 ^ p) := by
  have : ∀ q : Fin 8, (1 : Int32) <<< (nI q.1 &&& 31) = nI (2 ^ q.1) := by decide
  exact this ⟨p, h⟩
theorem msk_step {v : CV} {k : Nat} {x : Int32} (h2 : pN v < 9) (hk : k < pN v) (h : mskOK v k x) : mskOK v (k + 1) (x ||| (1 <<< (nI (ordN v k) &&& 31))) := by
  obtain ⟨m, hm, rfl, hb⟩ := h
  obtain ⟨o1, o2, o3⟩ := ordN_ok hk
  refine ⟨m ||| 2 ^ ordN v k, Nat.or_lt_two_pow hm (Nat.pow_lt_pow_right (by decide) (by omega)), by rw [bit_p (by omega), nI_or], fun j hj => ?_⟩
  rw [Nat.testBit_or, Nat.testBit_two_pow, Bool.or_eq_true, hb j hj, decide_eq_true_eq]
  constructor
  · rintro (z | z)
    · omega
    · subst z; omega
  · intro z
    by_cases q : rnk v j < k
    · exact Or.inl q
    · exact Or.inr (rnk_inj o1 hj (by omega))
theorem bit_cases (x d : Int32) : (x >>> (d &&& 31)) &&& 1 = 0 ∨ (x >>> (d &&& 31)) &&& 1 = 1 := and1 _
section OA
variable {a : AB} {M : Mm}
theorem M_next {b : Nat} {v : CV} (hV : VM b v M) (hW : WF v) {k : Nat} (hk : k < pN v) {x : Int32} (hm : mskOK v k x) : f_X8_nextAsked b x M = some (nI (ordN v k)) := by
  have h1 := hW.n
  have h2 := hW.n9
  have e : M.1 b 10 = nI (pN v) := hV.n.trans h1
  obtain ⟨m, m8, rfl, mb⟩ := hm
  have m31 : m < 2 ^ 31 := by omega
  have hbs : ∀ j, j < pN v → (hb (nI m) (nI j) ↔ rnk v j < k) := fun j hj => (hb_nI m31 (by omega)).trans (mb j hj)
  obtain ⟨o1, o2, o3⟩ := ordN_ok hk
  have el : ∀ j, j < 8 → M.1 (b + 19) j = nI (lk v j) := fun j hj => (hV.p2 hj).trans (hW.lk hj).1
  obtain ⟨r, e1, e2⟩ := loop_ex (fun n i (s : Int32) => f_X8_nextAsked_L4 b (nI m) M n s (nI i)) (pN v) (fun i s => (s = -1 ∧ ∀ q, q < i → rnk v q < k) ∨ ∃ z, z < i ∧ s = nI z ∧ k ≤ rnk v z ∧ ∀ q, q < i → k ≤ rnk v q → q = z ∨ lx v z q) (fun r => r = nI (ordN v k)) (by
    intro n i s hi h
    show _ ∨ ∃ s2, f_X8_nextAsked_L4 b (nI m) M (n + 1) s (nI i) = f_X8_nextAsked_L4 b (nI m) M n s2 (nI (i + 1)) ∧ _
    rw [f_X8_nextAsked_L4, e, if_neg (nI_ge hi (by omega))]
    by_cases hbit : hb (nI m) (nI i)
    · have hr := (hbs i hi).mp hbit
      have n0 : ¬ ((nI m >>> (nI i &&& 31)) &&& 1 = 0) := by rw [hbit]; decide
      rw [if_neg n0, if_pos rfl]
      refine Or.inr ⟨s, by simp only [bi, nI_1], ?_⟩
      rcases h with ⟨h, h'⟩ | ⟨z, z1, z2, z3, z4⟩
      · exact Or.inl ⟨h, fun q hq => by
          by_cases eq : q = i
          · subst eq; exact hr
          · exact h' q (by omega)⟩
      · exact Or.inr ⟨z, by omega, z2, z3, fun q hq hq2 => by
          by_cases eq : q = i
          · subst eq; omega
          · exact z4 q (by omega) hq2⟩
    · have hr : k ≤ rnk v i := Nat.le_of_not_lt fun z => hbit ((hbs i hi).mpr z)
      have n0 : (nI m >>> (nI i &&& 31)) &&& 1 = 0 := (bit_cases _ _).resolve_right hbit
      rw [if_pos n0, if_neg (show ¬ ((1 : Int32) = 0) by decide)]
      rcases h with ⟨h, h'⟩ | ⟨z, z1, z2, z3, z4⟩
      · rw [if_pos h]
        refine Or.inr ⟨nI i, by simp only [bi, nI_1], Or.inr ⟨i, by omega, rfl, hr, fun q hq hq2 => ?_⟩⟩
        by_cases eq : q = i
        · exact Or.inl eq
        · have := h' q (by omega); omega
      · subst z2
        have zn : ¬ nI z = -1 := fun w => by
          have w2 := nI_pos' (n := z) (by omega)
          rw [w] at w2
          exact absurd w2 (by decide)
        have b1 := (hW.lk (p := i) (by omega)).2
        have b2 := (hW.lk (p := z) (by omega)).2
        rw [if_neg zn, chk_ok (by omega) (by decide), chk_ok (by omega) (by decide), tn_nI (by omega), tn_nI (by omega), el z (by omega), el i (by omega)]
        by_cases q1 : lk v z ≤ lk v i
        · rw [if_pos (nI_le q1 (by omega))]
          refine Or.inr ⟨nI z, by simp only [bi, nI_1], Or.inr ⟨z, by omega, rfl, z3, fun q hq hq2 => ?_⟩⟩
          by_cases eq : q = i
          · subst eq; exact Or.inr (by omega)
          · exact z4 q (by omega) hq2
        · rw [if_neg (nI_ge (by omega) (by omega))]
          refine Or.inr ⟨nI i, by simp only [bi, nI_1], Or.inr ⟨i, by omega, rfl, hr, fun q hq hq2 => ?_⟩⟩
          by_cases eq : q = i
          · exact Or.inl eq
          · rcases z4 q (by omega) hq2 with w | w
            · subst w; exact Or.inr (by omega)
            · exact Or.inr (by omega)) (by
    intro n s h
    refine ⟨s, ?_, ?_⟩
    · show f_X8_nextAsked_L4 b (nI m) M (n + 1) s (nI (pN v)) = _
      rw [f_X8_nextAsked_L4, e, if_pos (Int32.le_refl _)]
    · rcases h with ⟨h, h'⟩ | ⟨z, z1, z2, z3, z4⟩
      · have := h' _ o1; omega
      · rcases z4 _ o1 (by omega) with w | w
        · rw [w]; exact z2
        · have := rnk_lt z1 w; omega) 1000 0 (-1) (by omega) (by omega) (Or.inl ⟨rfl, fun q hq => absurd hq (Nat.not_lt_zero q)⟩)
  unfold f_X8_nextAsked
  rw [show f_X8_nextAsked_L4 b (nI m) M 1000 (-1) 0 = some r from e1, e2]; rfl
theorem M_firstL {v : CV} (hV : VM 69 v M) (hW : WF v) (x : Int32) (hx : x = -1 ∨ ∃ k, k < pN v ∧ x = nI k) : ∃ r, f_X8_first_L53 69 x M 1000 1 0 1 0 0 = some r ∧ ((x = -1 ∧ r = Sum.inl (lN (12 ^ pN v), lN (pX v (pN v)))) ∨ ∃ k, k < pN v ∧ x = nI k ∧ r = Sum.inr (M, nI (ordN v k))) := by
  have h1 := hW.n
  have h2 := hW.n9
  have e : M.1 69 10 = nI (pN v) := hV.n.trans h1
  obtain ⟨r, e1, e2⟩ := loop_ex (fun n i (s : Int64 × Int64 × Int64 × Int32) => f_X8_first_L53 69 x M n s.1 s.2.1 s.2.2.1 s.2.2.2 (nI i)) (pN v) (fun i s => s.1 = lN (12 ^ i) ∧ s.2.1 = lN (pX v i) ∧ s.2.2.1 = lN (pP v i) ∧ mskOK v i s.2.2.2 ∧ ∀ k, k < i → x ≠ nI k) (fun r => (x = -1 ∧ r = Sum.inl (lN (12 ^ pN v), lN (pX v (pN v)))) ∨ ∃ k, k < pN v ∧ x = nI k ∧ r = Sum.inr (M, nI (ordN v k))) (by
    intro n i s hi h
    obtain ⟨s1, s2, s3, s4⟩ := s
    obtain ⟨h3, h4, h5, h6, h7⟩ := h
    replace h3 : s1 = lN (12 ^ i) := h3
    replace h4 : s2 = lN (pX v i) := h4
    replace h5 : s3 = lN (pP v i) := h5
    replace h6 : mskOK v i s4 := h6
    subst h3 h4 h5
    obtain ⟨o1, o2, o3⟩ := ordN_ok hi
    show (∃ r, f_X8_first_L53 69 x M (n + 1) (lN (12 ^ i)) (lN (pX v i)) (lN (pP v i)) s4 (nI i) = some r ∧ _) ∨ ∃ s2 : Int64 × Int64 × Int64 × Int32, f_X8_first_L53 69 x M (n + 1) (lN (12 ^ i)) (lN (pX v i)) (lN (pP v i)) s4 (nI i) = f_X8_first_L53 69 x M n s2.1 s2.2.1 s2.2.2.1 s2.2.2.2 (nI (i + 1)) ∧ _
    rw [f_X8_first_L53, e, if_neg (nI_ge hi (by omega)), M_next hV hW hi h6, Option.bind_some]
    by_cases q : nI i = x
    · rw [if_pos q]
      exact Or.inl ⟨_, rfl, Or.inr ⟨i, hi, q.symm, rfl⟩⟩
    · rw [if_neg q]
      have el : M.1 (69 + 19) (ordN v i) = nI (lk v (ordN v i)) := (hV.p2 (by omega)).trans (hW.lk (by omega)).1
      have bl9 := (hW.lk (p := ordN v i) (by omega)).2
      refine Or.inr ⟨(lN (12 ^ (i + 1)), lN (pX v (i + 1)), lN (pP v (i + 1)), s4 ||| (1 <<< (nI (ordN v i) &&& 31))), ?_, rfl, rfl, rfl, msk_step h2 hi h6, fun k hk => ?_⟩
      · simp only [bl, bi, nI_1]
        rw [chk_ok (by omega) (by decide), tn_nI (by omega), el, nI_l (by omega), show (12 : Int64) = lN 12 from rfl, lN_mul, lN_mul, lN_mul, lN_mul, lN_add, show pX v (i + 1) = 12 * pX v i + 12 * pP v i from rfl, Nat.mul_comm 12, Nat.mul_comm 12, Nat.pow_succ]
        rfl
      · by_cases eq : k = i
        · subst eq; exact fun z => q z.symm
        · exact h7 k (by omega)) (by
    intro n s h
    obtain ⟨h3, h4, h5, h6, h7⟩ := h
    refine ⟨_, ?_, Or.inl ⟨?_, rfl⟩⟩
    · show f_X8_first_L53 69 x M (n + 1) s.1 s.2.1 s.2.2.1 s.2.2.2 (nI (pN v)) = _
      rw [f_X8_first_L53, e, if_pos (Int32.le_refl _), h3, h4]
    · rcases hx with hx | ⟨k, hk, hx⟩
      · exact hx
      · exact absurd hx (h7 k hk)) 1000 0 (1, 0, 1, 0) (by omega) (by omega) ⟨rfl, rfl, rfl, ⟨0, by decide, rfl, fun j _ => by rw [Nat.zero_testBit]; exact ⟨fun z => absurd z (by decide), fun z => absurd z (Nat.not_lt_zero _)⟩⟩, fun k hk => absurd hk (Nat.not_lt_zero k)⟩
  exact ⟨r, e1, e2⟩
theorem in_place {x : Int32} {n : Nat} (hn : n < 2 ^ 31) (h : -1 ≤ x ∧ x ≤ nI n - 1) : x = -1 ∨ ∃ k, k < n ∧ x = nI k := by
  by_cases q3 : x = -1
  · exact Or.inl q3
  · have q5 := h.2
    rw [nI_pred_le hn] at q5
    refine Or.inr (inN_k hn ⟨?_, q5⟩)
    have q6 := h.1
    rw [Int32.le_iff_toInt_le] at q6 ⊢
    have q7 : x.toInt ≠ (-1 : Int32).toInt := fun z => q3 (Int32.toInt_inj.mp z)
    have q8 : (-1 : Int32).toInt = -1 := rfl
    have q9 : (0 : Int32).toInt = 0 := rfl
    omega
theorem nI_ne_neg {k : Nat} (h : k < 2 ^ 31) : ¬ nI k = -1 := fun w => by
  have w2 := nI_pos' h
  rw [w] at w2
  exact absurd w2 (by decide)
theorem lN_pow_ne {n : Nat} (h : n < 9) : ¬ lN (12 ^ n) = 0 := by
  have h3 := pow8 h
  have h4 : 0 < 12 ^ n := Nat.pow_pos (by decide)
  rw [show (0 : Int64) = lN 0 from rfl, lN_eq (by omega) (by decide)]
  omega
theorem X8_first (h : RM a M) (hW : WA a) (x : Int32) : OKM (f_X8_first 69 x M) M (oFirst a x) := by
  have h2 := hW.1.n9
  have e : M.1 69 10 = a.1.1 1 := h.1.n
  have e2 : (a.1.1 1 = 0) = (pN a.1 = 0) := n0 hW.1
  unfold f_X8_first oFirst
  rw [e, show f_X8_in x.toInt64 (-1) ((a.1.1 1 - 1).toInt64) = _ from in_ok32 x (-1) (a.1.1 1 - 1)]
  by_cases q : -1 ≤ x ∧ x ≤ a.1.1 1 - 1
  · simp only [if_pos q, Option.bind_some, i10, if_false, e2]
    by_cases q1 : pN a.1 = 0
    · simp only [if_pos q1]; exact M_stk h
    · have q2 := q
      rw [hW.1.n] at q2
      have hx := in_place (by omega) q2
      obtain ⟨r, r1, r2⟩ := M_firstL h.1 hW.1 x hx
      rw [if_neg q1, if_neg q1, r1]
      rcases r2 with ⟨r2, rfl⟩ | ⟨k, hk, rfl, rfl⟩
      · rw [if_pos r2]
        show OKM (chZ (lN (12 ^ pN a.1)) _) M _
        unfold chZ
        rw [if_neg (lN_pow_ne h2)]
        exact okM h
      · rw [if_neg (nI_ne_neg (by omega)), tnn (by omega)]
        exact okM h
  · simp only [if_neg q, Option.bind_some, i00, if_true]; exact M_bad h
end OA
