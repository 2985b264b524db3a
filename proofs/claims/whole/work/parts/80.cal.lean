/-! what is always so stays so while a tape is read -/
def aw9 (w : CV) : AB := (w, none, (fun _ => (-1, 0, fun _ => 0)), (0, fun _ => 0), fun _ => 0)
theorem aw_WB {w : CV} (hW : WF w) (h0 : H0 w) : WB (aw9 w) := ⟨⟨hW, (fun _ h => by cases h), (fun _ _ => Or.inl ⟨rfl, rfl⟩), Nat.zero_le _, (fun i hi => absurd hi (Nat.not_lt_zero i))⟩, h0, fun _ h => by cases h⟩
def KP9 (w w2 : CV) : Prop := WF w2 ∧ H0 w2 ∧ pN w ≤ pN w2
theorem one_in {T : Nat → Int32} {N : Nat} {t t2 : Tok} {lo hi : Int32} {g : Int32 → CV} {w2 : CV} (h : sOne T N t lo hi g = Sum.inr (w2, t2)) : nB T (nxT T N t) lo hi = true ∧ w2 = g (nvT T (nxT T N t)) ∧ t2 = nxT T N (nxT T N t) := by
  unfold sOne at h
  by_cases q : nB T (nxT T N t) lo hi = true
  · rw [if_pos q] at h; cases h; exact ⟨q, rfl, rfl⟩
  · rw [if_neg q] at h; cases h
theorem two_in {T : Nat → Int32} {N : Nat} {t t2 : Tok} {h1 h2 : Int32} {g : Int32 → Int32 → CV} {w2 : CV} (h : sTwo T N t h1 h2 g = Sum.inr (w2, t2)) : nB T (nxT T N t) 0 h1 = true ∧ nB T (nxT T N (nxT T N t)) 0 h2 = true ∧ w2 = g (nvT T (nxT T N t)) (nvT T (nxT T N (nxT T N t))) ∧ t2 = nxT T N (nxT T N (nxT T N t)) := by
  unfold sTwo at h
  by_cases q : nB T (nxT T N t) 0 h1 = true
  · rw [if_pos q] at h
    by_cases q2 : nB T (nxT T N (nxT T N t)) 0 h2 = true
    · rw [if_pos q2] at h; cases h; exact ⟨q, q2, rfl, rfl⟩
    · rw [if_neg q2] at h; cases h
  · rw [if_neg q] at h; cases h
theorem thr_in {T : Nat → Int32} {N : Nat} {t t2 : Tok} {w w2 : CV} (h : sThree T N t w = Sum.inr (w2, t2)) : nB T (nxT T N t) 0 5 = true ∧ nB T (nxT T N (nxT T N t)) 0 13 = true ∧ nB T (nxT T N (nxT T N (nxT T N t))) 0 12 = true ∧ w2 = sAdd w (nvT T (nxT T N t)) (nvT T (nxT T N (nxT T N t))) (nvT T (nxT T N (nxT T N (nxT T N t)))) ∧ t2 = nxT T N (nxT T N (nxT T N (nxT T N t))) := by
  unfold sThree at h
  by_cases q : nB T (nxT T N t) 0 5 = true
  · rw [if_pos q] at h
    by_cases q2 : nB T (nxT T N (nxT T N t)) 0 13 = true
    · rw [if_pos q2] at h
      by_cases q3 : nB T (nxT T N (nxT T N (nxT T N t))) 0 12 = true
      · rw [if_pos q3] at h; cases h; exact ⟨q, q2, q3, rfl, rfl⟩
      · rw [if_neg q3] at h; cases h
    · rw [if_neg q2] at h; cases h
  · rw [if_neg q] at h; cases h
theorem one_il {T : Nat → Int32} {N : Nat} {t : Tok} {lo hi : Int32} {g : Int32 → CV} {p : Nat} (hN : N ≤ 250) (hv : VT9 T N t) (h : sOne T N t lo hi g = Sum.inl p) : p ≤ N := by
  have f := (hv.nx hN).f hN
  unfold sOne at h
  by_cases q : nB T (nxT T N t) lo hi = true
  · rw [if_pos q] at h; cases h
  · rw [if_neg q] at h; cases h; omega
theorem two_il {T : Nat → Int32} {N : Nat} {t : Tok} {h1 h2 : Int32} {g : Int32 → Int32 → CV} {p : Nat} (hN : N ≤ 250) (hv : VT9 T N t) (h : sTwo T N t h1 h2 g = Sum.inl p) : p ≤ N := by
  have f := (hv.nx hN).f hN
  have f2 := ((hv.nx hN).nx hN).f hN
  unfold sTwo at h
  by_cases q : nB T (nxT T N t) 0 h1 = true
  · rw [if_pos q] at h
    by_cases q2 : nB T (nxT T N (nxT T N t)) 0 h2 = true
    · rw [if_pos q2] at h; cases h
    · rw [if_neg q2] at h; cases h; omega
  · rw [if_neg q] at h; cases h; omega
theorem thr_il {T : Nat → Int32} {N : Nat} {t : Tok} {w : CV} {p : Nat} (hN : N ≤ 250) (hv : VT9 T N t) (h : sThree T N t w = Sum.inl p) : p ≤ N := by
  have f := (hv.nx hN).f hN
  have f2 := ((hv.nx hN).nx hN).f hN
  have f3 := (((hv.nx hN).nx hN).nx hN).f hN
  unfold sThree at h
  by_cases q : nB T (nxT T N t) 0 5 = true
  · rw [if_pos q] at h
    by_cases q2 : nB T (nxT T N (nxT T N t)) 0 13 = true
    · rw [if_pos q2] at h
      by_cases q3 : nB T (nxT T N (nxT T N (nxT T N t))) 0 12 = true
      · rw [if_pos q3] at h; cases h
      · rw [if_neg q3] at h; cases h; omega
    · rw [if_neg q2] at h; cases h; omega
  · rw [if_neg q] at h; cases h; omega
theorem wB_1 {T : Nat → Int32} {t : Tok} {k : Nat} (h : wB T t k = true) : t.1 = 1 := by
  unfold wB at h
  rw [Bool.and_eq_true] at h
  exact (of_decide_eq_true h.1).1
/-- what a statement that holds leaves -/
def Good9 (T : Nat → Int32) (N : Nat) (w : CV) (t : Tok) (r : SR9) : Prop := r.elim (fun p => p ≤ N) (fun q => KP9 w q.1 ∧ VT9 T N q.2 ∧ t.2.2 ≤ q.2.2.1)
section KPS
variable {T : Nat → Int32} {N : Nat} {w : CV} {t : Tok}
theorem VT9.ge2 (hN : N ≤ 250) (h : VT9 T N t) : t.2.2 ≤ (nxT T N (nxT T N t)).2.1 := by
  have h1 := h.ge hN
  have h2 := (h.nx hN).ge hN
  have f := (h.nx hN).f hN
  omega
theorem VT9.ge3 (hN : N ≤ 250) (h : VT9 T N t) : t.2.2 ≤ (nxT T N (nxT T N (nxT T N t))).2.1 := by
  have h1 := h.ge hN
  have h2 := (h.nx hN).ge2 hN
  have f := (h.nx hN).f hN
  omega
theorem VT9.ge4 (hN : N ≤ 250) (h : VT9 T N t) : t.2.2 ≤ (nxT T N (nxT T N (nxT T N (nxT T N t)))).2.1 := by
  have h1 := h.ge hN
  have h2 := (h.nx hN).ge3 hN
  have f := (h.nx hN).f hN
  omega
theorem good_one {lo hi : Int32} {g : Int32 → CV} (hN : N ≤ 250) (hv : VT9 T N t) (h : ∀ x, lo ≤ x → x ≤ hi → KP9 w (g x)) : Good9 T N w t (sOne T N t lo hi g) := by
  cases e : sOne T N t lo hi g with
  | inl p => exact one_il hN hv e
  | inr q =>
    obtain ⟨a1, a2, a3⟩ := one_in (w2 := q.1) (t2 := q.2) e
    have n := nB_nv hN (hv.nx hN) a1
    show KP9 w q.1 ∧ VT9 T N q.2 ∧ t.2.2 ≤ q.2.2.1
    rw [a2, a3]
    exact ⟨h _ n.2.1 n.2.2, (hv.nx hN).nx hN, hv.ge2 hN⟩
theorem good_two {h1 h2 : Int32} {g : Int32 → Int32 → CV} (hN : N ≤ 250) (hv : VT9 T N t) (h : ∀ x y, 0 ≤ x → x ≤ h1 → 0 ≤ y → y ≤ h2 → KP9 w (g x y)) : Good9 T N w t (sTwo T N t h1 h2 g) := by
  cases e : sTwo T N t h1 h2 g with
  | inl p => exact two_il hN hv e
  | inr q =>
    obtain ⟨a1, a2, a3, a4⟩ := two_in (w2 := q.1) (t2 := q.2) e
    have n := nB_nv hN (hv.nx hN) a1
    have n2 := nB_nv hN ((hv.nx hN).nx hN) a2
    show KP9 w q.1 ∧ VT9 T N q.2 ∧ t.2.2 ≤ q.2.2.1
    rw [a3, a4]
    exact ⟨h _ _ n.2.1 n.2.2 n2.2.1 n2.2.2, ((hv.nx hN).nx hN).nx hN, hv.ge3 hN⟩
theorem in_pn (hW : WF w) {x : Int32} (h0 : 0 ≤ x) (h : x ≤ w.1 1 - 1) : inN x (pN w) := by
  have n9 := hW.n9
  rw [hW.n, nI_pred_le (by omega)] at h
  exact ⟨h0, h⟩
theorem in_dn (hW : WF w) {x : Int32} (h0 : 0 ≤ x) (h : x ≤ w.1 0 - 1) : inN x (dN w) := by
  have n9 := hW.d15
  rw [hW.d, nI_pred_le (by omega)] at h
  exact ⟨h0, h⟩
theorem good_stR (hN : N ≤ 250) (hv : VT9 T N t) (hW : WF w) (h0 : H0 w) : Good9 T N w t (stR T N w t) := by
  have hB := aw_WB hW h0
  have ev : ∀ z, Good9 T N w t (sEv T N w t z) := fun z => good_two hN hv fun x y a1 a2 a3 a4 => by
    have k := W_free hB x y z
    unfold oFree at k
    rw [if_pos (show inN x (pN (aw9 w).1) from in_pn hW a1 a2), if_pos (show inN y (dN (aw9 w).1) from in_dn hW a3 a4)] at k
    exact ⟨k.1.1, k.2.1, Nat.le_refl _⟩
  have as : ∀ (j : Int32) (x : Int32) (w2 : CV), (oAsk (aw9 w) j x).1 = setV (aw9 w) w2 → pN w ≤ pN w2 → KP9 w w2 := fun j x w2 e hp => by
    have k := W_ask hB j x
    rw [e] at k
    exact ⟨k.1.1, k.2.1, hp⟩
  unfold stR
  by_cases q2 : wB T t 2 = true
  · rw [if_pos q2]; exact ev 1
  rw [if_neg q2]
  by_cases q3 : wB T t 3 = true
  · rw [if_pos q3]; exact ev 0
  rw [if_neg q3]
  by_cases q4 : wB T t 4 = true
  · rw [if_pos q4]
    refine good_one hN hv fun x a1 a2 => as 0 x _ ?_ (Nat.le_refl _)
    unfold oAsk
    rw [if_pos rfl, if_pos (show inN x (pN (aw9 w).1) from in_pn hW a1 a2)]; rfl
  rw [if_neg q4]
  by_cases q5 : wB T t 5 = true
  · rw [if_pos q5]
    refine good_one hN hv fun x a1 a2 => as 1 x _ ?_ (Nat.le_refl _)
    unfold oAsk
    rw [if_neg (by decide), if_pos rfl, if_pos ⟨a1, a2⟩]; rfl
  rw [if_neg q5]
  by_cases q6 : wB T t 6 = true
  · rw [if_pos q6]
    refine good_one hN hv fun x a1 a2 => as 2 x _ ?_ (Nat.le_refl _)
    unfold oAsk
    have i13 : inN x 13 := by rw [← lt_13]; exact ⟨a1, a2⟩
    rw [if_neg (by decide), if_neg (by decide), if_pos rfl, if_pos i13]; rfl
  rw [if_neg q6]
  by_cases q7 : wB T t 7 = true
  · rw [if_pos q7]
    refine good_two hN hv fun x y a1 a2 a3 a4 => ?_
    have k := W_out hB x y
    have i100 : inN y 100 := by rw [← lt7 y 99 99 rfl (by decide)]; exact ⟨a3, a4⟩
    unfold oOut at k
    rw [if_pos (show inN x (pN (aw9 w).1) from in_pn hW a1 a2), if_pos i100] at k
    exact ⟨k.1.1, k.2.1, Nat.le_refl _⟩
  rw [if_neg q7]
  show t.2.1 ≤ N
  have f := hv.f hN
  omega
theorem good_stm (hN : N ≤ 250) (hv : VT9 T N t) (hW : WF w) (h0 : H0 w) : Good9 T N w t (stm T N w t) := by
  have hB := aw_WB hW h0
  unfold stm
  by_cases q0 : wB T t 0 = true
  · rw [if_pos q0]
    refine good_one hN hv fun x a1 a2 => ?_
    have k := W_days hB x
    unfold oDays at k
    rw [if_pos ⟨a1, a2⟩] at k
    have e1 : (sDaysAre w x).1 = (uS w 0 x).1 := gDays_1 _ _ _
    have en : pN (sDaysAre w x) = pN w := by unfold pN; rw [e1]; rfl
    exact ⟨k.1.1, k.2.1, by rw [en]; exact Nat.le_refl _⟩
  rw [if_neg q0]
  by_cases q1 : wB T t 1 = true
  · rw [if_pos q1]
    by_cases q8 : pN w < 8
    · rw [if_pos q8]
      cases e : sThree T N t w with
      | inl p => exact thr_il hN hv e
      | inr q =>
        obtain ⟨a1, a2, a3, a4, a5⟩ := thr_in (w2 := q.1) (t2 := q.2) e
        have n := nB_nv hN (hv.nx hN) a1
        have n2 := nB_nv hN ((hv.nx hN).nx hN) a2
        have n3 := nB_nv hN (((hv.nx hN).nx hN).nx hN) a3
        show KP9 w q.1 ∧ VT9 T N q.2 ∧ t.2.2 ≤ q.2.2.1
        rw [a4, a5]
        refine ⟨?_, (((hv.nx hN).nx hN).nx hN).nx hN, hv.ge4 hN⟩
        have k := W_person hB (nvT T (nxT T N t)) (nvT T (nxT T N (nxT T N t))) (nvT T (nxT T N (nxT T N (nxT T N t))))
        have i6 : inN (nvT T (nxT T N t)) 6 := by rw [← lt7 _ 5 5 rfl (by decide)]; exact n.2
        have i14 : inN (nvT T (nxT T N (nxT T N t))) 14 := by rw [← lt7 _ 13 13 rfl (by decide)]; exact n2.2
        have i13 : inN (nvT T (nxT T N (nxT T N (nxT T N t)))) 13 := by rw [← lt_13]; exact n3.2
        unfold oPerson at k
        rw [if_pos i6, if_pos i14, if_pos i13, if_pos (show pN (aw9 w).1 < 8 from q8)] at k
        refine ⟨k.1.1, k.2.1, ?_⟩
        show pN w ≤ tn (w.1 1 + 1)
        rw [hW.n, nI_1, tnn (by omega)]; omega
    · rw [if_neg q8]; exact good_stR hN hv hW h0
  · rw [if_neg q1]; exact good_stR hN hv hW h0
theorem stR_w {q : CV × Tok} (h : stR T N w t = Sum.inr q) : t.1 = 1 := by
  unfold stR at h
  by_cases q2 : wB T t 2 = true
  · exact wB_1 q2
  rw [if_neg q2] at h
  by_cases q3 : wB T t 3 = true
  · exact wB_1 q3
  rw [if_neg q3] at h
  by_cases q4 : wB T t 4 = true
  · exact wB_1 q4
  rw [if_neg q4] at h
  by_cases q5 : wB T t 5 = true
  · exact wB_1 q5
  rw [if_neg q5] at h
  by_cases q6 : wB T t 6 = true
  · exact wB_1 q6
  rw [if_neg q6] at h
  by_cases q7 : wB T t 7 = true
  · exact wB_1 q7
  rw [if_neg q7] at h; cases h
theorem stm_w {q : CV × Tok} (h : stm T N w t = Sum.inr q) : t.1 = 1 := by
  unfold stm at h
  by_cases q0 : wB T t 0 = true
  · exact wB_1 q0
  rw [if_neg q0] at h
  by_cases q1 : wB T t 1 = true
  · exact wB_1 q1
  rw [if_neg q1] at h
  exact stR_w h
end KPS
/-- all statements: at k of them, with fuel -/
def rdA (T : Nat → Int32) (N : Nat) : Nat → CV → Tok → Nat → Nat ⊕ (CV × Nat)
  | 0, _, _, _ => Sum.inl 0
  | f + 1, w, t, k => (stm T N w t).elim (fun p => Sum.inl p) (fun q => if q.2.1 = 3 then rdA T N f q.1 (nxT T N q.2) (k + 1) else if q.2.1 = 0 then Sum.inr (q.1, k + 1) else Sum.inl q.2.2.1)
def CEnd (r : Nat ⊕ (CV × Nat)) (k2 : Nat) (M2 : Mm) : Prop := r.elim (fun p => p ≤ 250 ∧ (M2.1 37 2 = nI p ∨ (M2.1 37 2 = -1 ∧ ¬ M2.1 38 2 = 0 ∧ M2.1 38 3 = nI p))) (fun q => k2 = q.2 ∧ VC 40 q.1 M2 ∧ M2.1 37 2 = -1 ∧ M2.1 38 2 = 0)
section CLP
variable {T : Nat → Int32} {N : Nat}
theorem L16_0 {n : Nat} {x : Int32} {M : Mm} : f_X3_readStatements_L16 37 (n + 1) x 0 M = some (x, M) := by
  rw [f_X3_readStatements_L16, if_pos rfl]
theorem C_rdL (hN : N ≤ 250) : ∀ f w t k M n, VT9 T N t → N < t.2.1 + f → f + 1 ≤ n → 2 * k ≤ t.2.1 → WF w → H0 w → RD9 T N w t M → ∃ k2 M2, f_X3_readStatements_L16 37 n (nI k) 1 M = some (nI k2, M2) ∧ FrD M M2 ∧ CEnd (rdA T N f w t k) k2 M2 := by
  intro f
  induction f with
  | zero => intro w t k M n hv h1; have := hv.f hN; omega
  | succ f ih =>
    intro w t k M n hv h1 hn hk hW h0 hR
    have tf := hv.f hN
    obtain ⟨n, rfl⟩ : ∃ m, n = m + 2 := ⟨n - 2, by omega⟩
    have gd := good_stm hN hv hW h0
    obtain ⟨Ma, a1, a2, a3⟩ := C_stmt hN hR hv hW
    have sw : ∀ q, stm T N w t = Sum.inr q → t.1 = 1 := fun q h => stm_w h
    unfold rdA
    generalize stm T N w t = r at gd a3 sw
    cases r with
    | inl p =>
      have gd : p ≤ N := gd
      have a3 : Ma.1 37 2 = nI p := a3
      refine ⟨k + 1, Ma, ?_, a2, by omega, Or.inl a3⟩
      rw [f_X3_readStatements_L16, if_neg (by decide), if_neg (show ¬ (250 : Int32) ≤ nI k from nI_ge (b := 250) (by omega) (by decide)), a1, Option.bind_some]
      simp only [bi]
      rw [a3, if_neg (nI_nm1 (by omega)), if_pos trivial, nI_1, L16_0]
    | inr q =>
      obtain ⟨w2, t2⟩ := q
      have t1 := sw _ rfl
      have gd : KP9 w w2 ∧ VT9 T N t2 ∧ t.2.2 ≤ t2.2.1 := gd
      have a3 : RD9 T N w2 t2 Ma := a3
      have tf2 := gd.2.1.f hN
      have st := (tf.2.2.2.1 (by omega)).1
      have x3 : nI t2.1 = 3 ↔ t2.1 = 3 := nI_eq (b := 3) (by omega) (by decide)
      have x0 : nI t2.1 = 0 ↔ t2.1 = 0 := nI_eq (b := 0) (by omega) (by decide)
      rw [f_X3_readStatements_L16, if_neg (by decide), if_neg (show ¬ (250 : Int32) ≤ nI k from nI_ge (b := 250) (by omega) (by decide)), a1, Option.bind_some]
      simp only [bi]
      rw [a3.2.2.2, if_pos rfl, show Ma.1 (37 + 1) 2 = nI t2.1 from a3.2.2.1.1, nI_1]
      show ∃ k2 M2, _ ∧ FrD M M2 ∧ CEnd (if t2.1 = 3 then rdA T N f w2 (nxT T N t2) (k + 1) else if t2.1 = 0 then Sum.inr (w2, k + 1) else Sum.inl t2.2.1) k2 M2
      by_cases e3 : t2.1 = 3
      · obtain ⟨Mb, b1, b2, b3⟩ := a3.next hN gd.2.1
        have ge := gd.2.1.ge hN
        have st2 := (tf2.2.2.2.1 (by omega)).1
        obtain ⟨k2, M2, c1, c2, c3⟩ := ih w2 (nxT T N t2) (k + 1) Mb (n + 1) (gd.2.1.nx hN) (by omega) (by omega) (by omega) gd.1.1 gd.1.2.1 b2
        rw [if_pos (x3.mpr e3), if_neg (show ¬ (1 : Int32) = 0 by decide), show f_X5_nextToken (37 + 1) Ma = some Mb from b1, Option.bind_some, if_pos e3]
        exact ⟨k2, M2, c1, (a2.tr b3).tr c2, c3⟩
      · rw [if_neg (fun z => e3 (x3.mp z)), if_pos trivial, if_neg e3, L16_0]
        refine ⟨k + 1, Ma, rfl, a2, ?_⟩
        by_cases e0 : t2.1 = 0
        · rw [if_pos e0]
          exact ⟨rfl, a3.1, a3.2.2.2, a3.2.2.1.1.trans (by rw [e0]; rfl)⟩
        · rw [if_neg e0]
          exact ⟨by omega, Or.inr ⟨a3.2.2.2, by rw [a3.2.2.1.1]; exact fun z => e0 (x0.mp z), a3.2.2.1.2.1⟩⟩
def rdAll (T : Nat → Int32) (N : Nat) (v : CV) : Nat ⊕ (CV × Nat) := rdA T N 251 v (tokAt T N 0) 0
theorem C_rdAll {w : CV} {M : Mm} (hN : N ≤ 250) (hV : VC 40 w M) (hW : WF w) (h0 : H0 w) (hT : CT9 T N M) : ∃ k2 M2, f_X3_readStatements 37 M = some (M2, nI k2) ∧ FrD M M2 ∧ (rdAll T N w).elim (fun p => p ≤ 250 ∧ M2.1 37 2 = nI p) (fun q => k2 = q.2 ∧ VC 40 q.1 M2 ∧ M2.1 37 2 = -1) := by
  have hF1 : FrD M (wI (wI M 37 2 (-1)) 38 4 0) := ⟨(Fr.wI (by omega) (by omega)).tr (Fr.wI (by omega) (by omega)), by rw [wI_ne (by decide), wI_ne (by decide)], by rw [wI_off (by omega), wI_off (by omega)]⟩
  have hT1 : CT9 T N (wI (wI M 37 2 (-1)) 38 4 0) := ⟨hF1.2.2.trans hT.1, fun i hi => by rw [hF1.2.1]; exact hT.2 i hi⟩
  obtain ⟨Ma, a1, a2, a3, a4, a5⟩ := C_next hN hT1 (i := 0) (Nat.zero_le _) wI_on
  have hFa : FrD (wI (wI M 37 2 (-1)) 38 4 0) Ma := ⟨⟨fun x hx => ⟨funext fun y => a4 x y (by omega), by rw [a5]⟩, by rw [a5]⟩, funext fun y => a4 39 y (by omega), a4 38 1 (by omega)⟩
  have hv : VT9 T N (tokAt T N 0) := ⟨0, Nat.zero_le _, rfl⟩
  have hF : FrD M Ma := hF1.tr hFa
  have hVa : VC 40 w Ma := hV.eqs fun x h1 h2 => by rw [show Ma.1 x = (wI (wI M 37 2 (-1)) 38 4 0).1 x from funext fun y => a4 x y (by omega), wI_ne (by omega), wI_ne (by omega)]
  obtain ⟨k2, Mb, b1, b2, b3⟩ := C_rdL hN 251 w (tokAt T N 0) 0 Ma 1000 hv (by omega) (by omega) (Nat.zero_le _) hW h0 ⟨hVa, a3, a2, by rw [a4 37 2 (by omega), wI_off (by omega), wI_on]⟩
  unfold f_X3_readStatements f_X5_rewind
  simp only [bm, Nat.reduceAdd]
  rw [a1, Option.bind_some, Option.bind_some, show f_X3_readStatements_L16 37 1000 0 1 Ma = some (nI k2, Mb) from b1]
  simp only [ob2, Option.bind_some]
  unfold rdAll
  generalize rdA T N 251 w (tokAt T N 0) 0 = r at b3
  cases r with
  | inl p =>
    obtain ⟨p250, c⟩ : p ≤ 250 ∧ (Mb.1 37 2 = nI p ∨ (Mb.1 37 2 = -1 ∧ ¬ Mb.1 38 2 = 0 ∧ Mb.1 38 3 = nI p)) := b3
    rcases c with c | ⟨c1, c2, c3⟩
    · rw [c, if_neg (nI_nm1 (by omega))]
      exact ⟨k2, Mb, rfl, hF.tr b2, p250, c⟩
    · rw [c1, if_pos rfl, if_neg c2]
      exact ⟨k2, _, rfl, (hF.tr b2).tr FrD.wI37, p250, by rw [wI_on, c3]⟩
  | inr q =>
    obtain ⟨c1, c2, c3, c4⟩ : k2 = q.2 ∧ VC 40 q.1 Mb ∧ Mb.1 37 2 = -1 ∧ Mb.1 38 2 = 0 := b3
    rw [c3, if_pos rfl, c4, if_pos rfl]
    exact ⟨k2, Mb, rfl, hF.tr b2, c1, c2, c3⟩
end CLP
/-! circles taken over -/
theorem C_become {o0 o1 : Nat} (h : o0 ≠ o1) (M : Mm) : ∃ M2, f_X2_become o0 o1 M = some M2 ∧ (∀ k, k < 5 → M2.1 o0 k = M.1 o1 k) ∧ (∀ x, x ≠ o0 → M2.1 x = M.1 x) ∧ M2.2 = M.2 := by
  have r : ∀ (M9 : Mm) k x, (wI M9 o0 k x).1 o1 = M9.1 o1 := fun M9 k x => wI_ne (Ne.symm h)
  unfold f_X2_become
  simp only [bm, r]
  refine ⟨_, rfl, fun k hk => ?_, fun x hx => ?_, rfl⟩
  · rcases (show k = 0 ∨ k = 1 ∨ k = 2 ∨ k = 3 ∨ k = 4 by omega) with z | z | z | z | z
    · subst z; rw [wI_off (by omega), wI_off (by omega), wI_off (by omega), wI_off (by omega), wI_on]
    · subst z; rw [wI_off (by omega), wI_off (by omega), wI_off (by omega), wI_on]
    · subst z; rw [wI_off (by omega), wI_off (by omega), wI_on]
    · subst z; rw [wI_off (by omega), wI_on]
    · subst z; rw [wI_on]
  · rw [wI_ne hx, wI_ne hx, wI_ne hx, wI_ne hx, wI_ne hx]
theorem C_takeOver {o0 o1 : Nat} {v : CV} {M : Mm} (hV : VC o1 v M) (hd : o0 + 10 ≤ o1 ∨ o1 + 10 ≤ o0) : ∃ M2, f_X1_takeOver o0 o1 M = some M2 ∧ VC o0 v M2 ∧ Fr o0 (o0 + 10) M M2 := by
  have r : ∀ (M9 : Mm) k x, (wI M9 o0 k x).1 o1 = M9.1 o1 := fun M9 k x => wI_ne (by omega)
  unfold f_X1_takeOver
  simp only [bm, r, hV.1 0 (by decide), hV.1 1 (by decide), hV.1 2 (by decide), hV.1 3 (by decide), hV.1 4 (by decide), hV.1 5 (by decide), hV.1 6 (by decide)]
  have n7 : ∀ k, k < 7 → (wI (wI (wI (wI (wI (wI (wI M o0 0 (v.1 0)) o0 1 (v.1 1)) o0 2 (v.1 2)) o0 3 (v.1 3)) o0 4 (v.1 4)) o0 5 (v.1 5)) o0 6 (v.1 6)).1 o0 k = v.1 k := by
    intro k hk
    rcases (show k = 0 ∨ k = 1 ∨ k = 2 ∨ k = 3 ∨ k = 4 ∨ k = 5 ∨ k = 6 by omega) with z | z | z | z | z | z | z
    · subst z; rw [wI_off (by omega), wI_off (by omega), wI_off (by omega), wI_off (by omega), wI_off (by omega), wI_off (by omega), wI_on]
    · subst z; rw [wI_off (by omega), wI_off (by omega), wI_off (by omega), wI_off (by omega), wI_off (by omega), wI_on]
    · subst z; rw [wI_off (by omega), wI_off (by omega), wI_off (by omega), wI_off (by omega), wI_on]
    · subst z; rw [wI_off (by omega), wI_off (by omega), wI_off (by omega), wI_on]
    · subst z; rw [wI_off (by omega), wI_off (by omega), wI_on]
    · subst z; rw [wI_off (by omega), wI_on]
    · subst z; rw [wI_on]
  have f7 : Fr o0 (o0 + 10) M (wI (wI (wI (wI (wI (wI (wI M o0 0 (v.1 0)) o0 1 (v.1 1)) o0 2 (v.1 2)) o0 3 (v.1 3)) o0 4 (v.1 4)) o0 5 (v.1 5)) o0 6 (v.1 6)) := by
    have g : ∀ (M9 : Mm) k x, Fr o0 (o0 + 10) M9 (wI M9 o0 k x) := fun M9 k x => Fr.wI (by omega) (by omega)
    exact ((((((g _ _ _).tr (g _ _ _)).tr (g _ _ _)).tr (g _ _ _)).tr (g _ _ _)).tr (g _ _ _)).tr (g _ _ _)
  generalize wI (wI (wI (wI (wI (wI (wI M o0 0 (v.1 0)) o0 1 (v.1 1)) o0 2 (v.1 2)) o0 3 (v.1 3)) o0 4 (v.1 4)) o0 5 (v.1 5)) o0 6 (v.1 6) = M7 at n7 f7
  obtain ⟨M2, e1, e2, e3⟩ := loop_ex (fun n i (M9 : Mm) => f_X1_takeOver_L58 o0 o1 n (nI i) M9) 8 (fun i M9 => Fr o0 (o0 + 10) M M9 ∧ (∀ k, k < 7 → M9.1 o0 k = v.1 k) ∧ ∀ p k, p < i → k < 5 → M9.1 (o0 + 2 + p) k = v.2 p k) (fun M9 => Fr o0 (o0 + 10) M M9 ∧ VC o0 v M9) (by
    intro n i M9 hi h
    obtain ⟨hF, h7, hp⟩ := h
    have hv9 : VC o1 v M9 := hV.fr hF (by omega)
    obtain ⟨Mb, b1, b2, b3, b4⟩ := C_become (o0 := o0 + 2 + i) (o1 := o1 + 2 + i) (by omega) M9
    refine Or.inr ⟨Mb, ?_, hF.tr ⟨fun x hx => ⟨b3 x (by omega), by rw [b4]⟩, by rw [b4]⟩, fun k hk => by rw [b3 o0 (by omega)]; exact h7 k hk, fun p k hp2 hk => ?_⟩
    · show f_X1_takeOver_L58 o0 o1 (n + 1) (nI i) M9 = _
      rw [f_X1_takeOver_L58, if_neg (show ¬ (8 : Int32) ≤ nI i from nI_ge (b := 8) hi (by decide)), chk_ok hi (by decide), chk_ok hi (by decide), tn_nI (by omega), b1, Option.bind_some]
      simp only [bi, nI_1]
    · by_cases q : p = i
      · subst q; rw [b2 k hk]; exact hv9.2 p k hi hk
      · rw [b3 (o0 + 2 + p) (by omega)]; exact hp p k (by omega) hk) (by
    intro n M9 h
    refine ⟨M9, ?_, h.1, h.2.1, fun p k hp hk => h.2.2 p k hp hk⟩
    show f_X1_takeOver_L58 o0 o1 (n + 1) (nI 8) M9 = _
    rw [f_X1_takeOver_L58]
    exact if_pos (Int32.le_refl _)) 1000 0 M7 (by omega) (by omega) ⟨f7, n7, fun p k hp => absurd hp (Nat.not_lt_zero p)⟩
  rw [show f_X1_takeOver_L58 o0 o1 1000 0 M7 = some M2 from e1]
  exact ⟨M2, rfl, e3, e2⟩
def oCal (a : AB) : AB × Int32 := (rdAll (aT a).2 (aT a).1 a.1).elim (fun p => (rfu (setT a (0, (aT a).2)) 0, -20 - nI p)) (fun q => (setV (setT a (0, (aT a).2)) q.1, nI q.2))
def oImage (a : AB) : AB × Int32 := (setK a a.1, 1)
def bkS (n : Nat) (x : SV) : SV := if 10 ≤ x.1 ∧ ¬ inN (x.1 - 10) n then (-1, 0, x.2.2) else x
def oBack (a : AB) : AB × Int32 := a.2.1.elim (stk a) (fun w => ((w, a.2.1, (fun s => bkS (pN w) (aSh a s)), a.2.2.2), 1))
theorem RC.eqs2 {a : AB} {M M2 : Mm} (h : RC a M) (h0 : ∀ x, (x < 21 ∨ 52 ≤ x ∧ x < 69) → M2.1 x = M.1 x ∧ M2.2.1 x = M.2.1 x) (h9 : M2.1 39 = M.1 39) (h1 : M2.1 38 1 = M.1 38 1) : RC a M2 := by
  obtain ⟨hv, hk, hs, ht, hr⟩ := h
  refine ⟨hv.eqs fun x h1 h2 => (h0 x (by omega)).1, ⟨fun q => ?_, fun w q => ⟨?_, (hk.2 w q).2.eqs fun x h1 h2 => (h0 x (by omega)).1⟩⟩, fun s h8 => ⟨?_, ?_, fun i hi => ?_⟩, ⟨h1.trans ht.1, fun i hi => ?_⟩, fun i hi => ?_⟩
  · rw [(h0 0 (by omega)).1]; exact hk.1 q
  · rw [(h0 0 (by omega)).1]; exact (hk.2 w q).1
  · rw [(h0 _ (by omega)).1]; exact (hs s h8).1
  · rw [(h0 _ (by omega)).1]; exact (hs s h8).2.1
  · rw [(h0 _ (by omega)).2]; exact (hs s h8).2.2 i hi
  · rw [h9]; exact ht.2 i hi
  · rw [(h0 _ (by omega)).1]; exact hr i hi
section CIB
variable {a : AB} {M : Mm}
theorem X7_calendar (h : RC a M) (hW : WB a) : OKC (f_X7_calendar M) M (oCal a) := by
  have h250 := hW.1.2.2.2.1
  obtain ⟨Ma, a1, a2, a3⟩ := C_takeOver (o0 := 40) h.1 (by omega)
  have hTa : CT9 (aT a).2 (aT a).1 Ma := ⟨(a3.i (by omega)).trans h.2.2.2.1.1, fun i hi => (a3.i (by omega)).trans (h.2.2.2.1.2 i hi)⟩
  obtain ⟨k2, Mb, b1, b2, b3⟩ := C_rdAll h250 a2 hW.1.1 hW.2.1 hTa
  have hFb : Fr 37 50 M Mb := (a3.wide (by omega) (by omega)).tr b2.1
  have hRb : RC a Mb := h.eqs2 (fun x hx => hFb.1 x (by omega)) (b2.2.1.trans (a3.1 39 (by omega)).1) (b2.2.2.trans (a3.i (by omega)))
  have hRc : RC (setT a (0, (aT a).2)) (wI Mb 38 1 0) := RC_setT hRb ⟨wI_on, fun i hi => absurd hi (Nat.not_lt_zero i)⟩ (Fr.wI (by omega) (by omega))
  have hFc : FrC M (wI Mb 38 1 0) := (hFb.wide (by omega) (by omega)).tr (Fr.wI (by omega) (by omega))
  have e37 : (wI Mb 38 1 0).1 37 2 = Mb.1 37 2 := wI_off (by omega)
  unfold f_X7_calendar oCal
  rw [a1, Option.bind_some, b1, Option.bind_some]
  simp only [bi, bm]
  rw [e37]
  generalize rdAll (aT a).2 (aT a).1 a.1 = r at b3
  cases r with
  | inl p =>
    obtain ⟨p250, c⟩ : p ≤ 250 ∧ Mb.1 37 2 = nI p := b3
    rw [c, if_neg (nI_nm1 (by omega)), C_refuse hRc (k := 0) (x := -2) (by decide) (by decide), Option.bind_some]
    have e5 : (wI (wI Mb 38 1 0) 52 0 ((wI Mb 38 1 0).1 52 0 + 1)).1 37 2 = nI p := by rw [wI_off (by omega), e37, c]
    show OKC (some (_, -20 - (wI (wI Mb 38 1 0) 52 0 ((wI Mb 38 1 0).1 52 0 + 1)).1 37 2)) M _
    rw [e5]
    exact ⟨_, rfl, RC_rfu hRc (by decide), hFc.tr (Fr.wI (by omega) (by omega))⟩
  | inr q =>
    obtain ⟨c1, c2, c3⟩ : k2 = q.2 ∧ VC 40 q.1 Mb ∧ Mb.1 37 2 = -1 := b3
    have c4 : VC 40 q.1 (wI Mb 38 1 0) := c2.eqs fun x h1 h2 => wI_ne (by omega)
    obtain ⟨Md, d1, d2, d3⟩ := C_takeOver (o0 := 1) c4 (by omega)
    rw [c3, if_pos rfl, d1, Option.bind_some, c1]
    exact ⟨Md, rfl, RC_setV (a := setT a (0, (aT a).2)) (v := q.1) hRc d2 d3, hFc.tr (d3.wide (by omega) (by omega))⟩
theorem X7_image (h : RC a M) : OKC (f_X7_image M) M (oImage a) := by
  obtain ⟨Ma, a1, a2, a3⟩ := C_takeOver (o0 := 11) h.1 (by omega)
  have hF : ∀ x, x ≠ 0 → (x < 11 ∨ 21 ≤ x) → (wI Ma 0 2 1).1 x = M.1 x ∧ (wI Ma 0 2 1).2.1 x = M.2.1 x := fun x h1 h2 => ⟨(wI_ne h1).trans (a3.1 x (by omega)).1, (a3.1 x (by omega)).2⟩
  unfold f_X7_image oImage
  rw [a1, Option.bind_some]
  simp only [bm]
  obtain ⟨hv, hk, hs, ht, hr⟩ := h
  refine ⟨_, rfl, ⟨hv.eqs fun x h1 h2 => (hF x (by omega) (by omega)).1, ⟨(fun q => by cases q), fun w q => ?_⟩, fun s h8 => ⟨?_, ?_, fun i hi => ?_⟩, ⟨?_, fun i hi => ?_⟩, fun i hi => ?_⟩, (a3.wide (by omega) (by omega)).tr (Fr.wI (by omega) (by omega))⟩
  · cases q
    exact ⟨wI_on, a2.eqs fun x h1 h2 => wI_ne (by omega)⟩
  · rw [(hF _ (by omega) (by omega)).1]; exact (hs s h8).1
  · rw [(hF _ (by omega) (by omega)).1]; exact (hs s h8).2.1
  · rw [(hF _ (by omega) (by omega)).2]; exact (hs s h8).2.2 i hi
  · rw [(hF _ (by omega) (by omega)).1]; exact ht.1
  · rw [(hF _ (by omega) (by omega)).1]; exact ht.2 i hi
  · rw [(hF _ (by omega) (by omega)).1]; exact hr i hi
theorem RC.cong {b : AB} (h : RC a M) (e1 : b.1 = a.1) (e2 : b.2.1 = a.2.1) (e3 : ∀ s, s < 8 → aSh b s = aSh a s) (e4 : b.2.2.2 = a.2.2.2) : RC b M := by
  obtain ⟨hv, hk, hs, ht, hr⟩ := h
  refine ⟨by rw [e1]; exact hv, by rw [e2]; exact hk, fun s h8 => by rw [e3 s h8]; exact hs s h8, ?_, ?_⟩
  · show TC b.2.2.2.1 M
    rw [e4]; exact ht
  · intro i hi
    show M.1 52 i = b.2.2.2.2 i
    rw [e4]; exact hr i hi
/-- the shelves of back, up to i -/
def bkA (a : AB) (w : CV) (i : Nat) : AB := (w, a.2.1, (fun s => if s < i then bkS (pN w) (aSh a s) else aSh a s), a.2.2.2)
theorem bkS_keep {n : Nat} {x : SV} (h : ¬ (10 ≤ x.1 ∧ ¬ inN (x.1 - 10) n)) : bkS n x = x := if_neg h
theorem bkA_s {w : CV} {i s : Nat} (hs : s ≠ i) : aSh (bkA a w (i + 1)) s = aSh (bkA a w i) s := by
  show (if s < i + 1 then bkS (pN w) (aSh a s) else aSh a s) = if s < i then bkS (pN w) (aSh a s) else aSh a s
  by_cases q : s < i
  · rw [if_pos q, if_pos (by omega)]
  · rw [if_neg q, if_neg (by omega)]
theorem bkA_i {w : CV} {i : Nat} : aSh (bkA a w i) i = aSh a i := if_neg (Nat.lt_irrefl i)
theorem bkA_n {w : CV} {i : Nat} : aSh (bkA a w (i + 1)) i = bkS (pN w) (aSh a i) := if_pos (Nat.lt_succ_self i)
theorem C_backL {w : CV} (hW : WF w) (h : RC (bkA a w 0) M) (hS : ∀ s, s < 8 → WSh (pN a.1) (aSh a s)) (hn : pN a.1 < 9) : ∃ M2, f_X7_back_L27 1000 0 M = some M2 ∧ RC (bkA a w 8) M2 ∧ FrC M M2 := by
  obtain ⟨r, e1, e2⟩ := loop_ex (fun n i (M9 : Mm) => f_X7_back_L27 n (nI i) M9) 8 (fun i M9 => RC (bkA a w i) M9 ∧ FrC M M9) (fun r => RC (bkA a w 8) r ∧ FrC M r) (by
    intro n i M9 hi h9
    obtain ⟨hR, hF⟩ := h9
    have hSi := hR.2.2.1 i hi
    rw [bkA_i] at hSi
    have k8 : ∀ {α : Type} (X : Option α), chk (nI i) 8 X = X := fun X => chk_ok hi (by decide)
    have ti : (nI i).toNatClampNeg = i := tn_nI (by omega)
    have keep : bkS (pN w) (aSh a i) = aSh a i → RC (bkA a w (i + 1)) M9 := fun e => hR.cong rfl rfl (fun s h8 => by
      by_cases q : s = i
      · subst q; rw [bkA_n, e, bkA_i]
      · exact bkA_s q) rfl
    have un : f_X7_back_L27 (n + 1) (nI i) M9 = (if (if 10 ≤ (aSh a i).1 then (1 : Int32) else 0) = 0 then f_X7_back_L27 n (nI (i + 1)) M9 else (f_X4_personHeld (53 + 2 * i) M9).bind fun q8 => (f_X1_hasPerson 1 q8 M9).bind fun q10 => if q10 = 0 then (f_X4_holdNothing (53 + 2 * i) M9).bind fun q14 => f_X7_back_L27 n (nI (i + 1)) q14 else f_X7_back_L27 n (nI (i + 1)) M9) := by
      rw [f_X7_back_L27, if_neg (show ¬ (8 : Int32) ≤ nI i from nI_ge (b := 8) hi (by decide))]
      simp only [k8, ti, holdsP, hSi.1, Option.bind_some, bi, nI_1]
    show (∃ r, f_X7_back_L27 (n + 1) (nI i) M9 = some r ∧ _) ∨ ∃ s2, f_X7_back_L27 (n + 1) (nI i) M9 = f_X7_back_L27 n (nI (i + 1)) s2 ∧ _
    rw [un]
    rcases hS i hi with t | t | ⟨p, hp, t⟩
    · have f := e_facts t.1
      rw [if_neg f.2.1, if_pos rfl]
      exact Or.inr ⟨M9, rfl, keep (bkS_keep fun z => f.2.1 z.1), hF⟩
    · have f := r_facts t.1
      rw [if_neg f.2.1, if_pos rfl]
      exact Or.inr ⟨M9, rfl, keep (bkS_keep fun z => f.2.1 z.1), hF⟩
    · have f := p_facts (show p < 8 by omega)
      have n9 := hW.n9
      have f10 : 10 ≤ (aSh a i).1 := by rw [t.1]; exact f.2.2.1
      unfold f_X4_personHeld
      rw [if_pos f10, if_neg (show ¬ (1 : Int32) = 0 by decide), holdsP, hSi.1, if_pos f10, Option.bind_some, if_neg (show ¬ (1 : Int32) = 0 by decide), t.1, f.2.2.2.2.1, Option.bind_some, show f_X1_hasPerson 1 (nI p) M9 = _ from C_hasPerson (v := w) hR.1 hW _, Option.bind_some]
      by_cases q : inN (nI p) (pN w)
      · rw [if_pos q, if_neg (show ¬ (1 : Int32) = 0 by decide)]
        exact Or.inr ⟨M9, rfl, keep (bkS_keep fun z => z.2 (by rw [t.1, f.2.2.2.2.1]; exact q)), hF⟩
      · rw [if_neg q, if_pos rfl]
        unfold f_X4_holdNothing
        simp only [bm, Option.bind_some]
        refine Or.inr ⟨_, rfl, ?_, hF.tr ((Fr.wI (by omega) (by omega)).tr (Fr.wI (by omega) (by omega)))⟩
        have k := RC_setSh (x := (-1, 0, (aSh a i).2.2)) hR hi (M2 := wI (wI M9 (53 + 2 * i) 0 (-1)) (53 + 2 * i) 1 0) ⟨by rw [wI_off (by omega), wI_on], wI_on, hSi.2.2⟩ ((Fr.wI (by omega) (by omega)).tr (Fr.wI (by omega) (by omega)))
        refine k.cong rfl rfl (fun s h8 => ?_) rfl
        by_cases z : s = i
        · subst z
          rw [bkA_n]
          show _ = upN (aSh (bkA a w s)) s _ s
          rw [upN_eq]
          exact if_pos ⟨f10, by rw [t.1, f.2.2.2.2.1]; exact q⟩
        · rw [bkA_s z]
          show _ = upN (aSh (bkA a w i)) i _ s
          rw [upN_ne _ _ z]) (by
    intro n M9 h9
    refine ⟨M9, ?_, h9⟩
    show f_X7_back_L27 (n + 1) (nI 8) M9 = _
    rw [f_X7_back_L27]
    exact if_pos (Int32.le_refl _)) 1000 0 M (by omega) (by omega) ⟨h, Fr.rf⟩
  exact ⟨r, e1, e2⟩
theorem X7_back (h : RC a M) (hW : WA a) : OKC (f_X7_back M) M (oBack a) := by
  unfold f_X7_back oBack
  cases e : a.2.1 with
  | none =>
    rw [if_pos (h.2.1.1 e)]
    exact C_stk h
  | some w =>
    have k := h.2.1.2 w e
    have hw : WF w := hW.2.1 w e
    obtain ⟨Ma, a1, a2, a3⟩ := C_takeOver (o0 := 1) k.2 (by omega)
    have hR : RC (bkA a w 0) Ma := (RC_setV h a2 a3).cong rfl rfl (fun s h8 => show (if s < 0 then bkS (pN w) (aSh a s) else aSh a s) = aSh a s from if_neg (Nat.not_lt_zero s)) rfl
    obtain ⟨Mb, b1, b2, b3⟩ := C_backL hw hR hW.2.2.1 hW.1.n9
    rw [k.1, if_neg (show ¬ (1 : Int32) = 0 by decide), a1, Option.bind_some, b1, Option.bind_some]
    exact ⟨Mb, rfl, b2.cong rfl e.symm (fun s h8 => (if_pos h8).symm) rfl, (a3.wide (by omega) (by omega)).tr b3⟩
theorem rdA_good {T : Nat → Int32} {N : Nat} (hN : N ≤ 250) : ∀ f w t k, VT9 T N t → WF w → H0 w → ∀ q, rdA T N f w t k = Sum.inr q → KP9 w q.1 := by
  intro f
  induction f with
  | zero => intro w t k _ _ _ q h; cases h
  | succ f ih =>
    intro w t k hv hW h0 q h
    have gd := good_stm hN hv hW h0
    unfold rdA at h
    generalize stm T N w t = r at gd h
    cases r with
    | inl p => cases h
    | inr z =>
      have gd : KP9 w z.1 ∧ VT9 T N z.2 ∧ t.2.2 ≤ z.2.2.1 := gd
      have h : (if z.2.1 = 3 then rdA T N f z.1 (nxT T N z.2) (k + 1) else if z.2.1 = 0 then Sum.inr (z.1, k + 1) else Sum.inl z.2.2.1) = Sum.inr q := h
      by_cases e3 : z.2.1 = 3
      · rw [if_pos e3] at h
        have k2 := ih z.1 (nxT T N z.2) (k + 1) (gd.2.1.nx hN) gd.1.1 gd.1.2.1 q h
        exact ⟨k2.1, k2.2.1, Nat.le_trans gd.1.2.2 k2.2.2⟩
      · rw [if_neg e3] at h
        by_cases e0 : z.2.1 = 0
        · rw [if_pos e0] at h; cases h; exact gd.1
        · rw [if_neg e0] at h; cases h
theorem W_cal (h : WB a) : WB (oCal a).1 := by
  have h250 := h.1.2.2.2.1
  have hT : WB (setT a (0, (aT a).2)) := WB_setT h (Nat.zero_le _) (fun i hi => absurd hi (Nat.not_lt_zero i))
  unfold oCal
  cases e : rdAll (aT a).2 (aT a).1 a.1 with
  | inl p => exact hT
  | inr q =>
    have k := rdA_good h250 251 a.1 (tokAt (aT a).2 (aT a).1 0) 0 ⟨0, Nat.zero_le _, rfl⟩ h.1.1 h.2.1 q e
    exact WB_setV hT k.1 k.2.1 k.2.2
theorem W_image (h : WB a) : WB (oImage a).1 := ⟨⟨h.1.1, (fun w e => by cases e; exact h.1.1), h.1.2.2⟩, h.2.1, fun w e => by cases e; exact h.2.1⟩
theorem W_back (h : WB a) : WB (oBack a).1 := by
  have n9 := h.1.1.n9
  unfold oBack
  cases e : a.2.1 with
  | none => exact h
  | some w =>
    have hw : WF w := h.1.2.1 w e
    refine ⟨⟨hw, fun w2 e2 => ?_, fun s h8 => ?_, h.1.2.2.2⟩, h.2.2 w e, fun w2 e2 => ?_⟩
    · cases e2; exact hw
    · show WSh (pN w) (bkS (pN w) (aSh a s))
      rcases h.1.2.2.1 s h8 with t | t | ⟨p, hp, t⟩
      · rw [bkS_keep fun z => (e_facts t.1).2.1 z.1]; exact Or.inl t
      · rw [bkS_keep fun z => (r_facts t.1).2.1 z.1]; exact Or.inr (Or.inl t)
      · have f := p_facts (show p < 8 by omega)
        by_cases q : inN (nI p) (pN w)
        · rw [bkS_keep fun z => z.2 (by rw [t.1, f.2.2.2.2.1]; exact q)]
          have wn := hw.n9
          exact Or.inr (Or.inr ⟨p, (inN_nI (by omega) (by omega)).mp q, t⟩)
        · have eb : bkS (pN w) (aSh a s) = (-1, 0, (aSh a s).2.2) := if_pos ⟨by rw [t.1]; exact f.2.2.1, by rw [t.1, f.2.2.2.2.1]; exact q⟩
          rw [eb]
          exact Or.inl ⟨rfl, rfl⟩
    · cases e2; exact h.2.2 w e
end CIB
