/-! most -/
def crow (k : Int32) (f : Nat → Int32) (i : Nat) : Int32 := if i = 0 then f 0 * (12 - k) / 12 else f i * (12 - k) / 12 + f (i - 1) * k / 12
def cr0 (i : Nat) : Int32 := if i = 0 then 1000000 else 0
def crN (k : Int32) (n : Nat) : Nat → Int32 := iter (fun _ => crow k) n cr0
def sMost (n : Nat) (k : Int32) (x : Nat) : Int32 := iter (fun j (s : Int32) => s + crN k n (x + j)) (21 - x) 0
def oMost (a : AB) (n k x : Int32) : AB × Int32 := if inN n 21 then (if inN k 13 then (if inN x 21 then (a, sMost (tn n) k (tn x)) else bad a) else bad a) else bad a
def CR (A : Nat) (f : Nat → Int32) (M : Mm) : Prop := ∀ j, j < 21 → M.1 A j = f j
/-- walked down to 21 less i -/
def CRp (A : Nat) (k : Int32) (f : Nat → Int32) (i : Nat) (M : Mm) : Prop := ∀ j, j < 21 → M.1 A j = if 20 < i + j then crow k f j else f j
theorem CRp_0 {A : Nat} {k : Int32} {f : Nat → Int32} {M : Mm} (h : CR A f M) : CRp A k f 0 M := fun j hj => by rw [if_neg (by omega)]; exact h j hj
theorem CRp_step {A : Nat} {k : Int32} {f : Nat → Int32} {i : Nat} {M : Mm} (hi : i < 20) (h : CRp A k f i M) : CRp A k f (i + 1) (wI M A (20 - i) (M.1 A (20 - i) * (12 - k) / 12 + M.1 A (20 - i - 1) * k / 12)) := by
  intro j hj
  by_cases q : j = 20 - i
  · subst q
    rw [wI_on, h _ (by omega), h _ (by omega), if_neg (by omega), if_neg (by omega), if_pos (by omega)]
    unfold crow
    rw [if_neg (by omega)]
  · rw [wI_off (Or.inr q), h j hj]
    by_cases q2 : 20 < i + j
    · rw [if_pos q2, if_pos (by omega)]
    · rw [if_neg q2, if_neg (by omega)]
theorem CRp_end {A : Nat} {k : Int32} {f : Nat → Int32} {M : Mm} (h : CRp A k f 20 M) : CR A (crow k f) (wI M A 0 (M.1 A 0 * (12 - k) / 12)) := by
  intro j hj
  by_cases q : j = 0
  · subst q
    rw [wI_on, h 0 (by decide), if_neg (by decide)]
    rfl
  · rw [wI_off (Or.inr q), h j hj, if_pos (by omega)]
theorem nI_dec {m : Nat} : nI (m + 1) + -1 = nI m := by rw [← Int32.sub_eq_add_neg, nI_pred]
section OB
variable {a : AB} {M : Mm}
theorem C_crowd1 (k : Int32) {f : Nat → Int32} (h : CR 51 f M) : ∃ M2, f_X7_addToCrowd k M = some M2 ∧ CR 51 (crow k f) M2 ∧ Fr 51 52 M M2 := by
  obtain ⟨r, e1, e2, e3⟩ := loop_ex (fun n i (M9 : Mm) => f_X7_addToCrowd_L3 k n (nI (20 - i)) M9) 20 (fun i M9 => CRp 51 k f i M9 ∧ Fr 51 52 M M9) (fun r => CRp 51 k f 20 r ∧ Fr 51 52 M r) (by
    intro n i M9 hi h
    refine Or.inr ⟨wI M9 51 (20 - i) (M9.1 51 (20 - i) * (12 - k) / 12 + M9.1 51 (20 - i - 1) * k / 12), ?_, CRp_step hi h.1, h.2.tr (Fr.wI (by omega) (by omega))⟩
    show f_X7_addToCrowd_L3 k (n + 1) (nI (20 - i)) M9 = _
    obtain ⟨m, hm⟩ : ∃ m, 20 - i = m + 1 := ⟨20 - i - 1, by omega⟩
    have c1 : ∀ {α : Type} (X : Option α), chk (nI (m + 1)) 21 X = X := fun X => chk_ok (by omega) (by decide)
    have c0 : ∀ {α : Type} (X : Option α), chk (nI m) 21 X = X := fun X => chk_ok (by omega) (by decide)
    have t1 : (nI (m + 1)).toNatClampNeg = m + 1 := tn_nI (by omega)
    have t0 : (nI m).toNatClampNeg = m := tn_nI (by omega)
    rw [show 20 - (i + 1) = m by omega, hm, Nat.add_sub_cancel, f_X7_addToCrowd_L3, if_neg (show ¬ nI (m + 1) ≤ 0 from nI_ge (b := m + 1) (a := 0) (by omega) (by omega)), nI_pred]
    simp only [c1, c0, t1, t0, bi, bm, f_X7_twelfths, Option.bind_some, nI_dec]) (by
    intro n M9 h
    refine ⟨M9, ?_, h⟩
    show f_X7_addToCrowd_L3 k (n + 1) 0 M9 = _
    rw [f_X7_addToCrowd_L3]
    exact if_pos (Int32.le_refl _)) 1000 0 M (by omega) (by omega) ⟨CRp_0 h, Fr.rf⟩
  refine ⟨wI r 51 0 (r.1 51 0 * (12 - k) / 12), ?_, CRp_end e2, e3.tr (Fr.wI (by omega) (by omega))⟩
  unfold f_X7_addToCrowd
  rw [show f_X7_addToCrowd_L3 k 1000 20 M = some r from e1]
  rfl
theorem M_crStep (n : Nat) {m : Nat} (hm : m < 20) (n0 k x i0 : Int32) : f_X8_most_L91 69 n0 k x i0 (n + 1) (nI (m + 1)) M = f_X8_most_L91 69 n0 k x i0 n (nI m) (wI M 103 (m + 1) (M.1 103 (m + 1) * (12 - k) / 12 + M.1 103 m * k / 12)) := by
  have c1 : ∀ {α : Type} (X : Option α), chk (nI (m + 1)) 21 X = X := fun X => chk_ok (by omega) (by decide)
  have c0 : ∀ {α : Type} (X : Option α), chk (nI m) 21 X = X := fun X => chk_ok (by omega) (by decide)
  have t1 : (nI (m + 1)).toNatClampNeg = m + 1 := tn_nI (by omega)
  have t0 : (nI m).toNatClampNeg = m := tn_nI (by omega)
  have nz : ¬ nI (m + 1) = 0 := fun z => by
    rw [show (0 : Int32) = nI 0 from rfl, nI_eq (by omega) (by decide)] at z
    omega
  rw [f_X8_most_L91, if_neg (show ¬ nI (m + 1) < 0 from nI_nlt (a := m + 1) (b := 0) (by omega) (by omega)), if_neg nz, nI_pred]
  simp only [c1, c0, t1, t0, bi, bm, nI_dec, Nat.reduceAdd]
theorem neg1 : nI 0 + -1 < 0 := by decide
theorem M_crEnd (n : Nat) (n0 k x i0 : Int32) : f_X8_most_L91 69 n0 k x i0 (n + 2) (nI 0) M = some (wI M 103 0 (M.1 103 0 * (12 - k) / 12)) := by
  have c0 : ∀ {α : Type} (X : Option α), chk (nI 0) 21 X = X := fun X => chk_ok (by decide) (by decide)
  have t0 : (nI 0).toNatClampNeg = 0 := tn_nI (by decide)
  rw [f_X8_most_L91, if_neg (show ¬ nI 0 < 0 from nI_nlt (a := 0) (b := 0) (by omega) (by omega)), if_pos (show nI 0 = 0 from rfl)]
  simp only [c0, t0, bi, bm, Nat.reduceAdd, Int32.add_zero]
  rw [f_X8_most_L91, if_pos neg1]
theorem M_crowdR (n0 k x i0 : Int32) {f : Nat → Int32} : ∀ (m n : Nat) (M : Mm), m ≤ 20 → m + 2 ≤ n → CRp 103 k f (20 - m) M → ∃ M2, f_X8_most_L91 69 n0 k x i0 n (nI m) M = some M2 ∧ CR 103 (crow k f) M2 ∧ ScM M M2 := by
  intro m
  induction m with
  | zero =>
    intro n M _ hn h
    obtain ⟨n, rfl⟩ : ∃ n2, n = n2 + 2 := ⟨n - 2, by omega⟩
    exact ⟨_, M_crEnd n n0 k x i0, CRp_end h, ScM.wI (by unfold scrM; omega)⟩
  | succ m ih =>
    intro n M hm hn h
    obtain ⟨n, rfl⟩ : ∃ n2, n = n2 + 1 := ⟨n - 1, by omega⟩
    rw [M_crStep n (by omega) n0 k x i0]
    have h3 := CRp_step (i := 20 - (m + 1)) (by omega) h
    rw [show 20 - (m + 1) + 1 = 20 - m by omega, show 20 - (20 - (m + 1)) = m + 1 by omega, Nat.add_sub_cancel] at h3
    obtain ⟨M2, a1, a2, a3⟩ := ih n _ (by omega) (by omega) h3
    exact ⟨M2, a1, a2, (ScM.wI (by unfold scrM; omega)).tr a3⟩
theorem M_crowd1 (n0 k x i0 : Int32) {f : Nat → Int32} (h : CR 103 f M) : ∃ M2, f_X8_most_L91 69 n0 k x i0 1000 (nI 20) M = some M2 ∧ CR 103 (crow k f) M2 ∧ ScM M M2 := M_crowdR n0 k x i0 20 1000 M (by omega) (by omega) (CRp_0 h)
theorem C_crowds (n : Nat) (hn : n < 21) (k x : Int32) (h : CR 51 cr0 M) : ∃ M2, f_X7_most_L56 (nI n) k x 1000 0 M = some M2 ∧ CR 51 (crN k n) M2 ∧ Fr 51 52 M M2 := by
  obtain ⟨r, e1, e2⟩ := loop_ex (fun f i (M9 : Mm) => f_X7_most_L56 (nI n) k x f (nI i) M9) n (fun i M9 => CR 51 (crN k i) M9 ∧ Fr 51 52 M M9) (fun r => CR 51 (crN k n) r ∧ Fr 51 52 M r) (by
    intro f i M9 hi h
    obtain ⟨M2, a1, a2, a3⟩ := C_crowd1 k h.1
    refine Or.inr ⟨M2, ?_, a2, h.2.tr a3⟩
    show f_X7_most_L56 (nI n) k x (f + 1) (nI i) M9 = _
    rw [f_X7_most_L56, if_neg (nI_ge hi (by omega)), a1, Option.bind_some]
    simp only [bi, nI_1]) (by
    intro f M9 h
    refine ⟨M9, ?_, h⟩
    show f_X7_most_L56 (nI n) k x (f + 1) (nI n) M9 = _
    rw [f_X7_most_L56]
    exact if_pos (Int32.le_refl _)) 1000 0 M (by omega) (by omega) ⟨h, Fr.rf⟩
  exact ⟨r, e1, e2⟩
theorem M_crowds (n : Nat) (hn : n < 21) (k x : Int32) (h : CR 103 cr0 M) : ∃ M2, f_X8_most_L81 69 (nI n) k x 1000 0 M = some M2 ∧ CR 103 (crN k n) M2 ∧ ScM M M2 := by
  obtain ⟨r, e1, e2⟩ := loop_ex (fun f i (M9 : Mm) => f_X8_most_L81 69 (nI n) k x f (nI i) M9) n (fun i M9 => CR 103 (crN k i) M9 ∧ ScM M M9) (fun r => CR 103 (crN k n) r ∧ ScM M r) (by
    intro f i M9 hi h
    obtain ⟨M2, a1, a2, a3⟩ := M_crowd1 (nI n) k x (nI i) h.1
    refine Or.inr ⟨M2, ?_, a2, h.2.tr a3⟩
    show f_X8_most_L81 69 (nI n) k x (f + 1) (nI i) M9 = _
    rw [f_X8_most_L81, if_neg (nI_ge hi (by omega)), show (20 : Int32) = nI 20 from rfl, a1, Option.bind_some]
    simp only [bi, nI_1]) (by
    intro f M9 h
    refine ⟨M9, ?_, h⟩
    show f_X8_most_L81 69 (nI n) k x (f + 1) (nI n) M9 = _
    rw [f_X8_most_L81]
    exact if_pos (Int32.le_refl _)) 1000 0 M (by omega) (by omega) ⟨h, ScM.rf⟩
  exact ⟨r, e1, e2⟩
theorem C_fill0 : ∃ M2, f_J7_fill_53178 21 51 0 M = some M2 ∧ (∀ j, j < 21 → M2.1 51 j = 0) ∧ Fr 51 52 M M2 := by
  obtain ⟨r, e1, e2⟩ := loop_ex (fun n i (M9 : Mm) => f_J7_fill_53178_L5 21 51 0 (nI 21) n (nI i) M9) 21 (fun i M9 => (∀ j, j < i → M9.1 51 j = 0) ∧ Fr 51 52 M M9) (fun r => (∀ j, j < 21 → r.1 51 j = 0) ∧ Fr 51 52 M r) (by
    intro n i M9 hi h
    refine Or.inr ⟨wI M9 51 i 0, ?_, fun j hj => ?_, h.2.tr (Fr.wI (by omega) (by omega))⟩
    · show f_J7_fill_53178_L5 21 51 0 (nI 21) (n + 1) (nI i) M9 = _
      rw [f_J7_fill_53178_L5, if_neg (nI_ge hi (by decide)), chk_ok hi (by decide), tn_nI (by omega)]
      simp only [bm, bi, nI_1]
    · by_cases q : j = i
      · subst q; exact wI_on
      · rw [wI_off (Or.inr q)]; exact h.1 j (by omega)) (by
    intro n M9 h
    refine ⟨M9, ?_, h⟩
    show f_J7_fill_53178_L5 21 51 0 (nI 21) (n + 1) (nI 21) M9 = _
    rw [f_J7_fill_53178_L5]
    exact if_pos (Int32.le_refl _)) 1000 0 M (by omega) (by omega) ⟨fun j hj => absurd hj (Nat.not_lt_zero j), Fr.rf⟩
  unfold f_J7_fill_53178
  simp only [bi]
  rw [show f_J7_fill_53178_L5 21 51 0 (Int32.ofNat 21) 1000 0 M = some r from e1]
  exact ⟨r, rfl, e2⟩
theorem M_fill0 (n0 k x : Int32) : ∃ M2, f_X8_most_L46 69 n0 k x 1000 0 M = some M2 ∧ CR 103 cr0 M2 ∧ ScM M M2 := by
  obtain ⟨r, e1, e2⟩ := loop_ex (fun n i (M9 : Mm) => f_X8_most_L46 69 n0 k x n (nI i) M9) 21 (fun i M9 => (∀ j, j < i → M9.1 103 j = cr0 j) ∧ ScM M M9) (fun r => CR 103 cr0 r ∧ ScM M r) (by
    intro n i M9 hi h
    refine Or.inr ⟨wI M9 103 i (cr0 i), ?_, fun j hj => ?_, h.2.tr (ScM.wI (by unfold scrM; omega))⟩
    · show f_X8_most_L46 69 n0 k x (n + 1) (nI i) M9 = _
      rw [f_X8_most_L46, if_neg (show ¬ (20 : Int32) < nI i from nI_nlt (a := 20) (b := i) (by omega) (by decide))]
      by_cases q : i = 0
      · subst q
        rw [if_pos (show nI 0 = 0 from rfl), chk_ok (by decide) (by decide), tn_nI (by decide)]
        simp only [bm, bi, nI_1]; rfl
      · have nz : ¬ nI i = 0 := fun z => by
          rw [show (0 : Int32) = nI 0 from rfl, nI_eq (by omega) (by decide)] at z
          exact q z
        rw [if_neg nz, chk_ok (by omega) (by decide), tn_nI (by omega), show cr0 i = 0 from if_neg q]
        simp only [bm, bi, nI_1]
    · by_cases q : j = i
      · subst q; exact wI_on
      · rw [wI_off (Or.inr q)]; exact h.1 j (by omega)) (by
    intro n M9 h
    refine ⟨M9, ?_, h⟩
    show f_X8_most_L46 69 n0 k x (n + 1) (nI 21) M9 = _
    rw [f_X8_most_L46]
    exact if_pos (by decide)) 1000 0 M (by omega) (by omega) ⟨fun j hj => absurd hj (Nat.not_lt_zero j), ScM.rf⟩
  exact ⟨r, e1, e2⟩
theorem C_sum {x : Nat} {f : Nat → Int32} (hx : x < 21) (h : CR 51 f M) : f_X7_most_L79 M 1000 0 (nI x) = some (iter (fun j (s : Int32) => s + f (x + j)) (21 - x) 0) := by
  have r := loop_run0 (fun n j (s : Int32) => f_X7_most_L79 M n s (nI (x + j))) (21 - x) (fun j (s : Int32) => s + f (x + j)) id 0 (by
    intro n j s hj
    show f_X7_most_L79 M (n + 1) s (nI (x + j)) = _
    rw [f_X7_most_L79, if_neg (show ¬ (20 : Int32) < nI (x + j) from nI_nlt (a := 20) (b := x + j) (by omega) (by decide)), chk_ok (by omega) (by decide), tn_nI (by omega), h _ (by omega)]
    simp only [bi, nI_1]; rfl) (by
    intro n s
    show f_X7_most_L79 M (n + 1) s (nI (x + (21 - x))) = _
    rw [show x + (21 - x) = 21 by omega, f_X7_most_L79]
    exact if_pos (by decide)) 1000 (by omega)
  exact r
theorem M_sum {x : Nat} {f : Nat → Int32} (hx : x < 21) (h : CR 103 f M) : f_X8_most_L164 69 M 1000 0 (nI x) = some (iter (fun j (s : Int32) => s + f (x + j)) (21 - x) 0) := by
  have r := loop_run0 (fun n j (s : Int32) => f_X8_most_L164 69 M n s (nI (x + j))) (21 - x) (fun j (s : Int32) => s + f (x + j)) id 0 (by
    intro n j s hj
    show f_X8_most_L164 69 M (n + 1) s (nI (x + j)) = _
    rw [f_X8_most_L164, if_neg (show ¬ (20 : Int32) < nI (x + j) from nI_nlt (a := 20) (b := x + j) (by omega) (by decide)), chk_ok (by omega) (by decide), tn_nI (by omega), show M.1 (69 + 34) (x + j) = f (x + j) from h _ (by omega)]
    simp only [bi, nI_1]; rfl) (by
    intro n s
    show f_X8_most_L164 69 M (n + 1) s (nI (x + (21 - x))) = _
    rw [show x + (21 - x) = 21 by omega, f_X8_most_L164]
    exact if_pos (by decide)) 1000 (by omega)
  exact r
theorem X7_most (h : RC a M) (n k x : Int32) : OKC (f_X7_most n k x M) M (oMost a n k x) := by
  unfold f_X7_most oMost
  rw [wi_n n 20 20 rfl (by decide), wi_n k 12 12 rfl (by decide), wi_n x 20 20 rfl (by decide)]
  by_cases q : inN n 21
  · by_cases q2 : inN k 13
    · by_cases q3 : inN x 21
      · obtain ⟨n, hn, rfl⟩ := inN_k (by decide) q
        obtain ⟨x, hx, rfl⟩ := inN_k (by decide) q3
        obtain ⟨M2, a1, a2, a3⟩ := C_fill0 (M := M)
        have hc : CR 51 cr0 (wI M2 51 0 1000000) := fun j hj => by
          by_cases e : j = 0
          · subst e; exact wI_on
          · rw [wI_off (Or.inr e), a2 j hj]; exact (if_neg e).symm
        obtain ⟨M3, b1, b2, b3⟩ := C_crowds n hn k (nI x) hc
        simp only [if_pos q, if_pos q2, if_pos q3, Option.bind_some, i10, if_false, a1, bm, b1, C_sum hx b2, tnn (show n < 2 ^ 31 by omega), tnn (show x < 2 ^ 31 by omega)]
        have hF : Fr 51 52 M M3 := (a3.tr (Fr.wI (by omega) (by omega))).tr b3
        exact ⟨M3, rfl, h.fr hF (by omega), hF.wide (by omega) (by omega)⟩
      · simp only [if_pos q, if_pos q2, if_neg q3, Option.bind_some, i10, if_false, if_true]; exact C_bad h
    · simp only [if_pos q, if_neg q2, Option.bind_some, i10, if_false, if_true]; exact C_bad h
  · simp only [if_neg q, Option.bind_some, if_true]; exact C_bad h
theorem X8_most (h : RM a M) (n k x : Int32) : OKM (f_X8_most 69 n k x M) M (oMost a n k x) := by
  unfold f_X8_most oMost
  rw [show f_X8_in n.toInt64 0 20 = _ from in_n n 20 20 rfl (by decide), show f_X8_in k.toInt64 0 12 = _ from in_n k 12 12 rfl (by decide), show f_X8_in x.toInt64 0 20 = _ from in_n x 20 20 rfl (by decide)]
  by_cases q : inN n 21
  · by_cases q2 : inN k 13
    · by_cases q3 : inN x 21
      · obtain ⟨n, hn, rfl⟩ := inN_k (by decide) q
        obtain ⟨x, hx, rfl⟩ := inN_k (by decide) q3
        obtain ⟨M2, a1, a2, a3⟩ := M_fill0 (M := M) (nI n) k (nI x)
        obtain ⟨M3, b1, b2, b3⟩ := M_crowds n hn k (nI x) a2
        simp only [if_pos q, if_pos q2, if_pos q3, Option.bind_some, i10, if_false, a1, b1, M_sum hx b2, tnn (show n < 2 ^ 31 by omega), tnn (show x < 2 ^ 31 by omega)]
        have hF : ScM M M3 := a3.tr b3
        exact ⟨M3, rfl, h.sc hF, hF.fr, hF.2.2⟩
      · simp only [if_pos q, if_pos q2, if_neg q3, Option.bind_some, i10, if_false, if_true]; exact M_bad h
    · simp only [if_pos q, if_neg q2, Option.bind_some, i10, if_false, if_true]; exact M_bad h
  · simp only [if_neg q, Option.bind_some, if_true]; exact M_bad h
end OB
