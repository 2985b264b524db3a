/-! rows of days, in order -/
abbrev Rw : Type := Nat × Nat × Nat
def gt9 (r : Rw) (i : Nat) : Nat := if i = 0 then r.1 else if i = 1 then r.2.1 else r.2.2
def rE (D c d : Nat) : List Rw := (List.range (D - (d + 1))).map fun j => (c, d, d + 1 + j)
def rD (D c : Nat) : List Rw := (List.range (D - (c + 1))).flatMap fun j => rE D c (c + 1 + j)
def rD2 (D c : Nat) : List Rw := (List.range (D - (c + 1))).map fun j => (c, c + 1 + j, 0)
def rows9 (k D : Nat) : List Rw := if k = 1 then (List.range D).map (fun c => (c, 0, 0)) else if k = 2 then (List.range D).flatMap (rD2 D) else (List.range D).flatMap (rD D)
def row0 (k : Nat) : Rw := if k = 1 then (0, 0, 0) else if k = 2 then (0, 1, 0) else (0, 1, 2)
def nxt (k D : Nat) (r : Rw) : Option Rw :=
  if k = 1 then (if r.1 + 1 < D then some (r.1 + 1, r.2.1, r.2.2) else none)
  else if k = 2 then (if r.2.1 + 1 < D then some (r.1, r.2.1 + 1, r.2.2) else if r.1 + 2 < D then some (r.1 + 1, r.1 + 2, r.2.2) else none)
  else if r.2.2 + 1 < D then some (r.1, r.2.1, r.2.2 + 1) else if r.2.1 + 2 < D then some (r.1, r.2.1 + 1, r.2.1 + 2) else if r.1 + 3 < D then some (r.1 + 1, r.1 + 2, r.1 + 3) else none
def chn (k D : Nat) : Rw → List Rw → Bool
  | r, [] => decide (nxt k D r = none)
  | r, r2 :: l => decide (nxt k D r = some r2) && chn k D r2 l
def ckL (k D : Nat) : List Rw → Bool
  | [] => false
  | r :: l => (decide (r = row0 k) && chn k D r l) && (decide (l.length + 1 ≤ 364) && (r :: l).all fun q => decide (∀ i, i < k → gt9 q i < D))
theorem ck_all : ∀ D : Fin 15, ∀ k : Fin 4, 1 ≤ k.1 → k.1 ≤ D.1 → ckL k.1 D.1 (rows9 k.1 D.1) = true := by decide +kernel
theorem rows_ex {k D : Nat} (h1 : 1 ≤ k) (h3 : k ≤ 3) (hk : k ≤ D) (h15 : D < 15) : ∃ l, rows9 k D = row0 k :: l ∧ chn k D (row0 k) l = true ∧ l.length + 1 ≤ 364 ∧ ∀ q, q ∈ row0 k :: l → ∀ i, i < k → gt9 q i < D := by
  have h := ck_all ⟨D, h15⟩ ⟨k, by omega⟩ h1 hk
  replace h : ckL k D (rows9 k D) = true := h
  cases e : rows9 k D with
  | nil => rw [e] at h; cases h
  | cons r l =>
    rw [e] at h
    replace h : ((decide (r = row0 k) && chn k D r l) && (decide (l.length + 1 ≤ 364) && (r :: l).all fun q => decide (∀ i, i < k → gt9 q i < D))) = true := h
    rw [Bool.and_eq_true, Bool.and_eq_true, Bool.and_eq_true] at h
    obtain ⟨⟨a1, a2⟩, a3, a4⟩ := h
    have a1 := of_decide_eq_true a1
    subst a1
    exact ⟨l, rfl, a2, of_decide_eq_true a3, fun q hq => of_decide_eq_true (List.all_eq_true.mp a4 q hq)⟩
/-- the best of the rows seen -/
def vis (bt : Nat → Nat → Bool) (val : Rw → Nat) (s : Option (Nat × Rw)) (r : Rw) : Option (Nat × Rw) := s.elim (some (val r, r)) (fun o => if bt (val r) o.1 = true then some (val r, r) else some o)
def bRow (k D : Nat) (bt : Nat → Nat → Bool) (val : Rw → Nat) : Option (Nat × Rw) := (rows9 k D).foldl (vis bt val) none
theorem vis_b {bt : Nat → Nat → Bool} {val : Rw → Nat} {s : Option (Nat × Rw)} {r : Rw} {B : Nat} (hv : val r < B) (hs : ∀ o, s = some o → o.1 < B) : ∀ o, vis bt val s r = some o → o.1 < B := by
  intro o h
  unfold vis at h
  cases s with
  | none => cases h; exact hv
  | some z =>
    replace h : (if bt (val r) z.1 = true then some (val r, r) else some z) = some o := h
    by_cases q : bt (val r) z.1 = true
    · rw [if_pos q] at h; cases h; exact hv
    · rw [if_neg q] at h; cases h; exact hs _ rfl
theorem vis_some (bt : Nat → Nat → Bool) (val : Rw → Nat) (s : Option (Nat × Rw)) (r : Rw) : ∃ o, vis bt val s r = some o := by
  unfold vis
  cases s with
  | none => exact ⟨_, rfl⟩
  | some z =>
    show ∃ o, (if bt (val r) z.1 = true then some (val r, r) else some z) = some o
    split
    · exact ⟨_, rfl⟩
    · exact ⟨_, rfl⟩
theorem fold_some (bt : Nat → Nat → Bool) (val : Rw → Nat) : ∀ (l : List Rw) (s : Option (Nat × Rw)), (∃ o, s = some o) → ∃ o, l.foldl (vis bt val) s = some o := by
  intro l
  induction l with
  | nil => intro s h; exact h
  | cons r l ih => intro s _; exact ih _ (vis_some bt val s r)
theorem fold_b (bt : Nat → Nat → Bool) (val : Rw → Nat) {B : Nat} (hv : ∀ r, val r < B) : ∀ (l : List Rw) (s : Option (Nat × Rw)), (∀ o, s = some o → o.1 < B) → ∀ o, l.foldl (vis bt val) s = some o → o.1 < B := by
  intro l
  induction l with
  | nil => intro s h; exact h
  | cons r l ih => intro s h; exact ih _ (vis_b (hv r) h)
theorem bRow_some {k D : Nat} (h1 : 1 ≤ k) (h3 : k ≤ 3) (hk : k ≤ D) (h15 : D < 15) (bt : Nat → Nat → Bool) (val : Rw → Nat) : ∃ o, bRow k D bt val = some o := by
  obtain ⟨l, e, _⟩ := rows_ex h1 h3 hk h15
  unfold bRow
  rw [e]
  exact fold_some bt val l _ (vis_some bt val none (row0 k))
/-- the component's walk -/
def CH9 (v : CV) (M : Mm) : Prop := VC 1 v M ∧ ∀ d, d < dN v → M.1 34 d = sThere v (nI d)
def TR9 (k : Nat) (r : Rw) (M : Mm) : Prop := ∀ i, i < k → M.1 35 i = nI (gt9 r i)
def ST9 (wo : Nat → Int32) (k : Nat) (s : Option (Nat × Rw)) (M : Mm) : Prop := M.1 33 3 = s.elim (-1000000) (fun o => wo o.1) ∧ ∀ o, s = some o → ∀ i, i < k → M.1 36 i = nI (gt9 o.2 i)
theorem nI_subN {a b : Nat} (h : b ≤ a) : nI a - nI b = nI (a - b) := by
  have e : nI a = nI (a - b) + nI b := by rw [nI_add, Nat.sub_add_cancel h]
  rw [e, Int32.add_sub_cancel]
section CW
variable {v : CV} {M : Mm}
theorem CH9.fr (h : CH9 v M) {M2 : Mm} (hF : Fr 33 37 M M2) (h34 : M2.1 34 = M.1 34) : CH9 v M2 := ⟨h.1.fr hF (by omega), fun d hd => by rw [h34]; exact h.2 d hd⟩
theorem wIr_on9 {M : Mm} {o : Nat} {f : Nat → Int32} : (wIr M o f).1 o = f := if_pos rfl
theorem wIr_ne9 {M : Mm} {o x : Nat} {f : Nat → Int32} (h : x ≠ o) : (wIr M o f).1 x = M.1 x := if_neg h
theorem cpc3 {α : Type} (X : Option α) : cpc 0 0 3 3 3 X = X := if_neg (by decide)
theorem C_keep9 {wo : Nat → Int32} {bt : Nat → Nat → Bool} {val : Rw → Nat} {k : Nat} {r : Rw} {s : Option (Nat × Rw)} (h3 : k ≤ 3) (w1 : ∀ a b, a < 100000 → b < 100000 → (wo a ≤ wo b ↔ ¬ bt a b = true)) (w2 : ∀ a, a < 100000 → ¬ wo a ≤ -1000000) (hv : val r < 100000) (hs : ∀ o, s = some o → o.1 < 100000) (hT : TR9 k r M) (hS : ST9 wo k s M) : ∃ M2, f_X0_keepIfBetter 33 (wo (val r)) M = some M2 ∧ ST9 wo k (vis bt val s r) M2 ∧ (∀ x, x ≠ 33 → x ≠ 36 → M2.1 x = M.1 x) ∧ M2.2 = M.2 := by
  have t0 : (0 : Int32).toNatClampNeg = 0 := by decide
  have t3 : (3 : Int32).toNatClampNeg = 3 := by decide
  have set : ¬ wo (val r) ≤ M.1 33 3 → ∃ M2, f_X0_keepIfBetter 33 (wo (val r)) M = some M2 ∧ ST9 wo k (some (val r, r)) M2 ∧ (∀ x, x ≠ 33 → x ≠ 36 → M2.1 x = M.1 x) ∧ M2.2 = M.2 := by
    intro q
    refine ⟨wIr (wI M 33 3 (wo (val r))) 36 (va_cpy (M.1 35) (M.1 36) 0 0 3), ?_, ⟨?_, fun o ho i hi => ?_⟩, fun x x1 x2 => ?_, rfl⟩
    · unfold f_X0_keepIfBetter
      rw [if_neg q]
      simp only [bm, cpc3, t0, t3, Nat.reduceAdd, wI_ne (M := M) (a := 33) (k := 3) (v := wo (val r)) (o := 35) (by decide), wI_ne (M := M) (a := 33) (k := 3) (v := wo (val r)) (o := 36) (by decide)]
    · rw [wIr_ne9 (by decide), wI_on]; rfl
    · cases ho
      rw [wIr_on9]
      show (if 0 ≤ i ∧ i < 0 + 3 then M.1 35 (0 + (i - 0)) else M.1 36 i) = _
      rw [if_pos (by omega), show 0 + (i - 0) = i by omega]
      exact hT i hi
    · rw [wIr_ne9 x2, wI_ne x1]
  cases s with
  | none => exact set (by rw [hS.1]; exact w2 _ hv)
  | some o =>
    show ∃ M2, _ ∧ ST9 wo k (if bt (val r) o.1 = true then some (val r, r) else some o) M2 ∧ _
    have e : M.1 33 3 = wo o.1 := hS.1
    by_cases q : bt (val r) o.1 = true
    · rw [if_pos q]
      exact set (by rw [e, w1 _ _ hv (hs _ rfl)]; exact fun z => z q)
    · rw [if_neg q]
      refine ⟨M, ?_, hS, fun _ _ _ => rfl, rfl⟩
      unfold f_X0_keepIfBetter
      rw [if_pos (by rw [e, w1 _ _ hv (hs _ rfl)]; exact q)]
theorem nx_L4 {k D i t : Nat} (hk : k ≤ D) (h15 : D < 15) (h3 : k ≤ 3) (hi : i < 3) (ht : t < 15) (hM : M.1 35 i = nI t) (n : Nat) : f_X0_nextRow_L4 33 (nI k) (nI D) M (n + 1) (nI i) = if t + k < D + i then some (nI i) else f_X0_nextRow_L4 33 (nI k) (nI D) M n (nI i + -1) := by
  have e : M.1 (33 + 2) i = nI t := hM
  rw [f_X0_nextRow_L4, if_neg (nI_pos (by omega)), chk_ok hi (by decide), tn_nI (show i < 2 ^ 31 by omega), e, nI_subN hk, nI_add]
  by_cases q : t + k < D + i
  · rw [if_pos (nI_lt (show t < D - k + i by omega) (by omega)), if_pos q]
  · rw [if_neg (nI_nlt (show D - k + i ≤ t by omega) (by omega)), if_neg q]
    simp only [bi]
theorem nx_neg {k D : Nat} (n : Nat) : f_X0_nextRow_L4 33 (nI k) (nI D) M (n + 1) (nI 0 + -1) = some (nI 0 + -1) := by
  rw [f_X0_nextRow_L4, if_pos neg1]
theorem nx_L49 {k j : Nat} (h3 : k ≤ 3) (hj : j + 1 < k) (n : Nat) : f_X0_nextRow_L49 33 (nI k) (n + 1) (nI (j + 1)) M = f_X0_nextRow_L49 33 (nI k) n (nI (j + 2)) (wI M 35 (j + 1) (M.1 35 j + 1)) := by
  rw [f_X0_nextRow_L49, if_neg (nI_ge hj (by omega)), nI_pred, chk_ok (show j < 3 by omega) (by decide), chk_ok (show j + 1 < 3 by omega) (by decide), tn_nI (show j < 2 ^ 31 by omega), tn_nI (show j + 1 < 2 ^ 31 by omega)]
  simp only [bm, bi, nI_1]
theorem nx_end {k : Nat} (n : Nat) : f_X0_nextRow_L49 33 (nI k) (n + 1) (nI k) M = some M := by
  rw [f_X0_nextRow_L49, if_pos (Int32.le_refl _)]
/-- the row behind one, written -/
theorem nx_up {k D i t n : Nat} {M2 : Mm} (hk1 : 1 ≤ k) (hi : i < 3) (hM : M.1 35 i = nI t) (h1 : f_X0_nextRow_L4 33 (nI k) (nI D) M 1000 (nI (k - 1)) = some (nI i)) (h2 : f_X0_nextRow_L49 33 (nI k) 1000 (nI (i + 1)) (wI M 35 i (nI (t + 1))) = some M2) : f_X0_nextRow 33 (nI k) (nI D) M = some (M2, 1) := by
  have e : M.1 (33 + 2) i = nI t := hM
  have ek : nI k - 1 = nI (k - 1) := by
    obtain ⟨j, rfl⟩ : ∃ j, k = j + 1 := ⟨k - 1, by omega⟩
    rw [nI_pred, Nat.add_sub_cancel]
  unfold f_X0_nextRow
  simp only [bi]
  rw [ek, h1, Option.bind_some, if_pos (nI_pos' (by omega)), chk_ok hi (by decide), chk_ok hi (by decide), tn_nI (by omega), e, nI_1, nI_1]
  simp only [bm]
  rw [show f_X0_nextRow_L49 33 (nI k) 1000 (nI (i + 1)) (wI M (33 + 2) i (nI (t + 1))) = some M2 from h2]
  rfl
theorem nx_no {k D : Nat} (hk1 : 1 ≤ k) (h1 : f_X0_nextRow_L4 33 (nI k) (nI D) M 1000 (nI (k - 1)) = some (nI 0 + -1)) : f_X0_nextRow 33 (nI k) (nI D) M = some (M, 0) := by
  have ek : nI k - 1 = nI (k - 1) := by
    obtain ⟨j, rfl⟩ : ∃ j, k = j + 1 := ⟨k - 1, by omega⟩
    rw [nI_pred, Nat.add_sub_cancel]
  unfold f_X0_nextRow
  simp only [bi]
  rw [ek, h1, Option.bind_some, if_neg (by decide)]
theorem f1000 : ∃ n, 1000 = n + 4 := ⟨996, rfl⟩
def NXT (k D : Nat) (r : Rw) (M : Mm) : Prop := (nxt k D r = none ∧ f_X0_nextRow 33 (nI k) (nI D) M = some (M, 0)) ∨ ∃ r2 M2, nxt k D r = some r2 ∧ f_X0_nextRow 33 (nI k) (nI D) M = some (M2, 1) ∧ TR9 k r2 M2 ∧ (∀ x, x ≠ 35 → M2.1 x = M.1 x) ∧ M2.2 = M.2
theorem C_next1 {D : Nat} {r : Rw} (hk : 1 ≤ D) (h15 : D < 15) (hT : TR9 1 r M) (hr : ∀ i, i < 1 → gt9 r i < D) : NXT 1 D r M := by
  obtain ⟨n, hn⟩ := f1000
  have t0 : M.1 35 0 = nI r.1 := hT 0 (by decide)
  have r0 : r.1 < D := hr 0 (by decide)
  have L := nx_L4 (M := M) (k := 1) (D := D) (i := 0) (t := r.1) hk h15 (by decide) (by decide) (by omega) t0
  by_cases q : r.1 + 1 < D
  · refine Or.inr ⟨(r.1 + 1, r.2.1, r.2.2), wI M 35 0 (nI (r.1 + 1)), if_pos q, nx_up (n := 0) (i := 0) (t := r.1) (by decide) (by decide) t0 ?_ ?_, fun i hi => ?_, fun x hx => wI_ne hx, rfl⟩
    · rw [hn, L, if_pos (by omega)]
    · rw [hn]; exact nx_end (k := 1) _
    · have : i = 0 := by omega
      subst this
      exact wI_on
  · refine Or.inl ⟨if_neg q, nx_no (by decide) ?_⟩
    rw [hn, L, if_neg (by omega), nx_neg]
theorem C_next2 {D : Nat} {r : Rw} (hk : 2 ≤ D) (h15 : D < 15) (hT : TR9 2 r M) (hr : ∀ i, i < 2 → gt9 r i < D) : NXT 2 D r M := by
  obtain ⟨n, hn⟩ := f1000
  have t0 : M.1 35 0 = nI r.1 := hT 0 (by decide)
  have r0 : r.1 < D := hr 0 (by decide)
  have t1 : M.1 35 1 = nI r.2.1 := hT 1 (by decide)
  have r1 : r.2.1 < D := hr 1 (by decide)
  have L0 := nx_L4 (M := M) (k := 2) (D := D) (i := 0) (t := r.1) hk h15 (by decide) (by decide) (by omega) t0
  have L1 := nx_L4 (M := M) (k := 2) (D := D) (i := 1) (t := r.2.1) hk h15 (by decide) (by decide) (by omega) t1
  have d1 : nI 1 + -1 = nI 0 := nI_dec
  by_cases q : r.2.1 + 1 < D
  · refine Or.inr ⟨(r.1, r.2.1 + 1, r.2.2), wI M 35 1 (nI (r.2.1 + 1)), if_pos q, nx_up (n := 0) (i := 1) (t := r.2.1) (by decide) (by decide) t1 ?_ ?_, fun i hi => ?_, fun x hx => wI_ne hx, rfl⟩
    · rw [hn, L1, if_pos (by omega)]
    · rw [hn]; exact nx_end (k := 2) _
    · rcases (show i = 0 ∨ i = 1 by omega) with e | e
      · subst e; rw [wI_off (by omega)]; exact t0
      · subst e; exact wI_on
  · by_cases q2 : r.1 + 2 < D
    · refine Or.inr ⟨(r.1 + 1, r.1 + 2, r.2.2), wI (wI M 35 0 (nI (r.1 + 1))) 35 1 (nI (r.1 + 2)), (if_neg q).trans (if_pos q2), nx_up (n := 0) (i := 0) (t := r.1) (by decide) (by decide) t0 ?_ ?_, fun i hi => ?_, fun x hx => by rw [wI_ne hx, wI_ne hx], rfl⟩
      · rw [hn, L1, if_neg (by omega), d1, L0, if_pos (by omega)]
      · rw [hn, nx_L49 (k := 2) (j := 0) (by decide) (by decide), wI_on, nI_1]; exact nx_end (k := 2) _
      · rcases (show i = 0 ∨ i = 1 by omega) with e | e
        · subst e; rw [wI_off (by omega)]; exact wI_on
        · subst e; exact wI_on
    · refine Or.inl ⟨(if_neg q).trans (if_neg q2), nx_no (by decide) ?_⟩
      rw [hn, L1, if_neg (by omega), d1, L0, if_neg (by omega), nx_neg]
theorem C_next3 {D : Nat} {r : Rw} (hk : 3 ≤ D) (h15 : D < 15) (hT : TR9 3 r M) (hr : ∀ i, i < 3 → gt9 r i < D) : NXT 3 D r M := by
  obtain ⟨n, hn⟩ := f1000
  have t0 : M.1 35 0 = nI r.1 := hT 0 (by decide)
  have r0 : r.1 < D := hr 0 (by decide)
  have t1 : M.1 35 1 = nI r.2.1 := hT 1 (by decide)
  have r1 : r.2.1 < D := hr 1 (by decide)
  have t2 : M.1 35 2 = nI r.2.2 := hT 2 (by decide)
  have r2 : r.2.2 < D := hr 2 (by decide)
  have L0 := nx_L4 (M := M) (k := 3) (D := D) (i := 0) (t := r.1) hk h15 (by decide) (by decide) (by omega) t0
  have L1 := nx_L4 (M := M) (k := 3) (D := D) (i := 1) (t := r.2.1) hk h15 (by decide) (by decide) (by omega) t1
  have L2 := nx_L4 (M := M) (k := 3) (D := D) (i := 2) (t := r.2.2) hk h15 (by decide) (by decide) (by omega) t2
  have d1 : nI 1 + -1 = nI 0 := nI_dec
  have d2 : nI 2 + -1 = nI 1 := nI_dec
  by_cases q : r.2.2 + 1 < D
  · refine Or.inr ⟨(r.1, r.2.1, r.2.2 + 1), wI M 35 2 (nI (r.2.2 + 1)), if_pos q, nx_up (n := 0) (i := 2) (t := r.2.2) (by decide) (by decide) t2 ?_ ?_, fun i hi => ?_, fun x hx => wI_ne hx, rfl⟩
    · rw [hn, L2, if_pos (by omega)]
    · rw [hn]; exact nx_end (k := 3) _
    · rcases (show i = 0 ∨ i = 1 ∨ i = 2 by omega) with e | e | e
      · subst e; rw [wI_off (by omega)]; exact t0
      · subst e; rw [wI_off (by omega)]; exact t1
      · subst e; exact wI_on
  · by_cases q2 : r.2.1 + 2 < D
    · refine Or.inr ⟨(r.1, r.2.1 + 1, r.2.1 + 2), wI (wI M 35 1 (nI (r.2.1 + 1))) 35 2 (nI (r.2.1 + 2)), (if_neg q).trans (if_pos q2), nx_up (n := 0) (i := 1) (t := r.2.1) (by decide) (by decide) t1 ?_ ?_, fun i hi => ?_, fun x hx => by rw [wI_ne hx, wI_ne hx], rfl⟩
      · rw [hn, L2, if_neg (by omega), d2, L1, if_pos (by omega)]
      · rw [hn, nx_L49 (k := 3) (j := 1) (by decide) (by decide), wI_on, nI_1]; exact nx_end (k := 3) _
      · rcases (show i = 0 ∨ i = 1 ∨ i = 2 by omega) with e | e | e
        · subst e; rw [wI_off (by omega), wI_off (by omega)]; exact t0
        · subst e; rw [wI_off (by omega)]; exact wI_on
        · subst e; exact wI_on
    · by_cases q3 : r.1 + 3 < D
      · refine Or.inr ⟨(r.1 + 1, r.1 + 2, r.1 + 3), wI (wI (wI M 35 0 (nI (r.1 + 1))) 35 1 (nI (r.1 + 2))) 35 2 (nI (r.1 + 3)), (if_neg q).trans ((if_neg q2).trans (if_pos q3)), nx_up (n := 0) (i := 0) (t := r.1) (by decide) (by decide) t0 ?_ ?_, fun i hi => ?_, fun x hx => by rw [wI_ne hx, wI_ne hx, wI_ne hx], rfl⟩
        · rw [hn, L2, if_neg (by omega), d2, L1, if_neg (by omega), d1, L0, if_pos (by omega)]
        · rw [hn, nx_L49 (k := 3) (j := 0) (by decide) (by decide), wI_on, nI_1, nx_L49 (k := 3) (j := 1) (by decide) (by decide), wI_on, nI_1]; exact nx_end (k := 3) _
        · rcases (show i = 0 ∨ i = 1 ∨ i = 2 by omega) with e | e | e
          · subst e; rw [wI_off (by omega), wI_off (by omega)]; exact wI_on
          · subst e; rw [wI_off (by omega)]; exact wI_on
          · subst e; exact wI_on
      · refine Or.inl ⟨(if_neg q).trans ((if_neg q2).trans (if_neg q3)), nx_no (by decide) ?_⟩
        rw [hn, L2, if_neg (by omega), d2, L1, if_neg (by omega), d1, L0, if_neg (by omega), nx_neg]
theorem C_next9 {k D : Nat} {r : Rw} (h1 : 1 ≤ k) (h3 : k ≤ 3) (hk : k ≤ D) (h15 : D < 15) (hT : TR9 k r M) (hr : ∀ i, i < k → gt9 r i < D) : NXT k D r M := by
  rcases (show k = 1 ∨ k = 2 ∨ k = 3 by omega) with e | e | e
  · subst e; exact C_next1 hk h15 hT hr
  · subst e; exact C_next2 hk h15 hT hr
  · subst e; exact C_next3 hk h15 hT hr
theorem C_walkMeeting {k : Nat} {wo : Nat → Int32} {bt : Nat → Nat → Bool} {val : Rw → Nat} (hW : WF v) (h1 : 1 ≤ k) (h3 : k ≤ 3) (hk : k ≤ dN v) (w1 : ∀ a b, a < 100000 → b < 100000 → (wo a ≤ wo b ↔ ¬ bt a b = true)) (w2 : ∀ a, a < 100000 → ¬ wo a ≤ -1000000) (hv : ∀ r, val r < 100000) (hval : ∀ (r : Rw) (M : Mm), CH9 v M → TR9 k r M → (∀ i, i < k → gt9 r i < dN v) → f_X0_howManyMeet 33 (nI k) M = some (wo (val r))) :
    ∀ (l : List Rw) (r : Rw) (s : Option (Nat × Rw)) (M : Mm) (x : Nat) (n : Nat), chn k (dN v) r l = true → (∀ q, q ∈ r :: l → ∀ i, i < k → gt9 q i < dN v) → x + (l.length + 1) ≤ 364 → l.length + 2 ≤ n → CH9 v M → TR9 k r M → ST9 wo k s M → (∀ o, s = some o → o.1 < 100000) → ∃ M2, f_X0_chooseMeeting_L11 33 1 (nI k) n 1 (nI x) M = some M2 ∧ ST9 wo k ((r :: l).foldl (vis bt val) s) M2 ∧ Fr 33 37 M M2 := by
  have d15 := hW.d15
  have step : ∀ (r : Rw) (s : Option (Nat × Rw)) (M : Mm) (x n : Nat), (∀ i, i < k → gt9 r i < dN v) → x < 364 → CH9 v M → TR9 k r M → ST9 wo k s M → (∀ o, s = some o → o.1 < 100000) → ∃ Ma, CH9 v Ma ∧ TR9 k r Ma ∧ ST9 wo k (vis bt val s r) Ma ∧ Fr 33 37 M Ma ∧ f_X0_chooseMeeting_L11 33 1 (nI k) (n + 1) 1 (nI x) M = (f_X0_nextRow 33 (nI k) (nI (dN v)) Ma).bind fun q7 => f_X0_chooseMeeting_L11 33 1 (nI k) n q7.2 (nI (x + 1)) q7.1 := by
    intro r s M x n hr hx hC hT hS hs
    obtain ⟨Ma, a1, a2, a3, a4⟩ := C_keep9 (bt := bt) (val := val) h3 w1 w2 (hv r) hs hT hS
    have hF : Fr 33 37 M Ma := ⟨fun x hx => ⟨a3 x (by omega) (by omega), by rw [a4]⟩, by rw [a4]⟩
    have hC2 : CH9 v Ma := hC.fr hF (a3 34 (by omega) (by omega))
    have e0 : Ma.1 1 0 = nI (dN v) := (hC2.1.1 0 (by decide)).trans hW.d
    refine ⟨Ma, hC2, fun i hi => by rw [a3 35 (by omega) (by omega)]; exact hT i hi, a2, hF, ?_⟩
    rw [f_X0_chooseMeeting_L11, if_neg (by decide), if_neg (show ¬ (364 : Int32) ≤ nI x from nI_ge (b := 364) hx (by decide)), hval r M hC hT hr, Option.bind_some, a1, Option.bind_some, e0]
    simp only [bi, nI_1]
  intro l
  induction l with
  | nil =>
    intro r s M x n hc hr hx hn hC hT hS hs
    obtain ⟨n, rfl⟩ : ∃ m, n = m + 2 := ⟨n - 2, by simp only [List.length_nil] at hn; omega⟩
    have hr1 := hr r (List.mem_cons_self ..)
    obtain ⟨Ma, b1, b2, b3, b4, b5⟩ := step r s M x (n + 1) hr1 (by simp only [List.length_nil] at hx; omega) hC hT hS hs
    have hc : nxt k (dN v) r = none := of_decide_eq_true hc
    rcases C_next9 h1 h3 hk d15 b2 hr1 with ⟨c1, c2⟩ | ⟨r2, M2, c1, _⟩
    · refine ⟨Ma, ?_, b3, b4⟩
      rw [b5, c2, Option.bind_some, f_X0_chooseMeeting_L11, if_pos rfl]
    · rw [hc] at c1; cases c1
  | cons r2 l ih =>
    intro r s M x n hc hr hx hn hC hT hS hs
    have hl : (r2 :: l).length = l.length + 1 := rfl
    rw [hl] at hx hn
    obtain ⟨n, rfl⟩ : ∃ m, n = m + 1 := ⟨n - 1, by omega⟩
    have hr1 := hr r (List.mem_cons_self ..)
    obtain ⟨Ma, b1, b2, b3, b4, b5⟩ := step r s M x n hr1 (by omega) hC hT hS hs
    have hc : (decide (nxt k (dN v) r = some r2) && chn k (dN v) r2 l) = true := hc
    rw [Bool.and_eq_true] at hc
    have hc1 := of_decide_eq_true hc.1
    rcases C_next9 h1 h3 hk d15 b2 hr1 with ⟨c1, c2⟩ | ⟨r3, Mb, c1, c2, c3, c4, c5⟩
    · rw [hc1] at c1; cases c1
    · have e : r2 = r3 := by rw [hc1] at c1; cases c1; rfl
      subst e
      have hF : Fr 33 37 Ma Mb := ⟨fun x hx => ⟨c4 x (by omega), by rw [c5]⟩, by rw [c5]⟩
      have hS2 : ST9 wo k (vis bt val s r) Mb := ⟨by rw [c4 33 (by omega)]; exact b3.1, fun o ho i hi => by rw [c4 36 (by omega)]; exact b3.2 o ho i hi⟩
      obtain ⟨M2, d1, d2, d3⟩ := ih r2 (vis bt val s r) Mb (x + 1) n hc.2 (fun q hq => hr q (List.mem_cons_of_mem _ hq)) (by omega) (by omega) (b1.fr hF (c4 34 (by omega))) c3 hS2 (vis_b (hv r) hs)
      refine ⟨M2, ?_, d2, (b4.tr hF).tr d3⟩
      rw [b5, c2, Option.bind_some]; exact d1
theorem C_walkFair {k : Nat} {wo : Nat → Int32} {bt : Nat → Nat → Bool} {val : Rw → Nat} (hW : WF v) (h1 : 1 ≤ k) (h3 : k ≤ 3) (hk : k ≤ dN v) (w1 : ∀ a b, a < 100000 → b < 100000 → (wo a ≤ wo b ↔ ¬ bt a b = true)) (w2 : ∀ a, a < 100000 → ¬ wo a ≤ -1000000) (hv : ∀ r, val r < 100000) (hval : ∀ (r : Rw) (M : Mm), CH9 v M → TR9 k r M → (∀ i, i < k → gt9 r i < dN v) → f_X0_fairness 33 1 (nI k) M = some (wo (val r))) :
    ∀ (l : List Rw) (r : Rw) (s : Option (Nat × Rw)) (M : Mm) (x : Nat) (n : Nat), chn k (dN v) r l = true → (∀ q, q ∈ r :: l → ∀ i, i < k → gt9 q i < dN v) → x + (l.length + 1) ≤ 364 → l.length + 2 ≤ n → CH9 v M → TR9 k r M → ST9 wo k s M → (∀ o, s = some o → o.1 < 100000) → ∃ M2, f_X0_chooseFair_L11 33 1 (nI k) n 1 (nI x) M = some M2 ∧ ST9 wo k ((r :: l).foldl (vis bt val) s) M2 ∧ Fr 33 37 M M2 := by
  have d15 := hW.d15
  have step : ∀ (r : Rw) (s : Option (Nat × Rw)) (M : Mm) (x n : Nat), (∀ i, i < k → gt9 r i < dN v) → x < 364 → CH9 v M → TR9 k r M → ST9 wo k s M → (∀ o, s = some o → o.1 < 100000) → ∃ Ma, CH9 v Ma ∧ TR9 k r Ma ∧ ST9 wo k (vis bt val s r) Ma ∧ Fr 33 37 M Ma ∧ f_X0_chooseFair_L11 33 1 (nI k) (n + 1) 1 (nI x) M = (f_X0_nextRow 33 (nI k) (nI (dN v)) Ma).bind fun q7 => f_X0_chooseFair_L11 33 1 (nI k) n q7.2 (nI (x + 1)) q7.1 := by
    intro r s M x n hr hx hC hT hS hs
    obtain ⟨Ma, a1, a2, a3, a4⟩ := C_keep9 (bt := bt) (val := val) h3 w1 w2 (hv r) hs hT hS
    have hF : Fr 33 37 M Ma := ⟨fun x hx => ⟨a3 x (by omega) (by omega), by rw [a4]⟩, by rw [a4]⟩
    have hC2 : CH9 v Ma := hC.fr hF (a3 34 (by omega) (by omega))
    have e0 : Ma.1 1 0 = nI (dN v) := (hC2.1.1 0 (by decide)).trans hW.d
    refine ⟨Ma, hC2, fun i hi => by rw [a3 35 (by omega) (by omega)]; exact hT i hi, a2, hF, ?_⟩
    rw [f_X0_chooseFair_L11, if_neg (by decide), if_neg (show ¬ (364 : Int32) ≤ nI x from nI_ge (b := 364) hx (by decide)), hval r M hC hT hr, Option.bind_some, a1, Option.bind_some, e0]
    simp only [bi, nI_1]
  intro l
  induction l with
  | nil =>
    intro r s M x n hc hr hx hn hC hT hS hs
    obtain ⟨n, rfl⟩ : ∃ m, n = m + 2 := ⟨n - 2, by simp only [List.length_nil] at hn; omega⟩
    have hr1 := hr r (List.mem_cons_self ..)
    obtain ⟨Ma, b1, b2, b3, b4, b5⟩ := step r s M x (n + 1) hr1 (by simp only [List.length_nil] at hx; omega) hC hT hS hs
    have hc : nxt k (dN v) r = none := of_decide_eq_true hc
    rcases C_next9 h1 h3 hk d15 b2 hr1 with ⟨c1, c2⟩ | ⟨r2, M2, c1, _⟩
    · refine ⟨Ma, ?_, b3, b4⟩
      rw [b5, c2, Option.bind_some, f_X0_chooseFair_L11, if_pos rfl]
    · rw [hc] at c1; cases c1
  | cons r2 l ih =>
    intro r s M x n hc hr hx hn hC hT hS hs
    have hl : (r2 :: l).length = l.length + 1 := rfl
    rw [hl] at hx hn
    obtain ⟨n, rfl⟩ : ∃ m, n = m + 1 := ⟨n - 1, by omega⟩
    have hr1 := hr r (List.mem_cons_self ..)
    obtain ⟨Ma, b1, b2, b3, b4, b5⟩ := step r s M x n hr1 (by omega) hC hT hS hs
    have hc : (decide (nxt k (dN v) r = some r2) && chn k (dN v) r2 l) = true := hc
    rw [Bool.and_eq_true] at hc
    have hc1 := of_decide_eq_true hc.1
    rcases C_next9 h1 h3 hk d15 b2 hr1 with ⟨c1, c2⟩ | ⟨r3, Mb, c1, c2, c3, c4, c5⟩
    · rw [hc1] at c1; cases c1
    · have e : r2 = r3 := by rw [hc1] at c1; cases c1; rfl
      subst e
      have hF : Fr 33 37 Ma Mb := ⟨fun x hx => ⟨c4 x (by omega), by rw [c5]⟩, by rw [c5]⟩
      have hS2 : ST9 wo k (vis bt val s r) Mb := ⟨by rw [c4 33 (by omega)]; exact b3.1, fun o ho i hi => by rw [c4 36 (by omega)]; exact b3.2 o ho i hi⟩
      obtain ⟨M2, d1, d2, d3⟩ := ih r2 (vis bt val s r) Mb (x + 1) n hc.2 (fun q hq => hr q (List.mem_cons_of_mem _ hq)) (by omega) (by omega) (b1.fr hF (c4 34 (by omega))) c3 hS2 (vis_b (hv r) hs)
      refine ⟨M2, ?_, d2, (b4.tr hF).tr d3⟩
      rw [b5, c2, Option.bind_some]; exact d1
theorem C_begin9 {k : Nat} (hV : VC 1 v M) (hW : WF v) (h1 : 1 ≤ k) (h3 : k ≤ 3) (wo : Nat → Int32) : ∃ M2, f_X0_begin 33 1 (nI k) M = some M2 ∧ CH9 v M2 ∧ TR9 k (row0 k) M2 ∧ ST9 wo k none M2 ∧ Fr 33 37 M M2 := by
  have d15 := hW.d15
  obtain ⟨Ma, e1, a1, a2, a3⟩ := loop_ex (fun n i (M9 : Mm) => f_X0_begin_L2 33 1 (nI k) n (nI i) M9) (dN v) (fun i M9 => (∀ d, d < i → M9.1 34 d = sThere v (nI d)) ∧ (∀ x, x ≠ 34 → M9.1 x = M.1 x) ∧ M9.2 = M.2) (fun r => (∀ d, d < dN v → r.1 34 d = sThere v (nI d)) ∧ (∀ x, x ≠ 34 → r.1 x = M.1 x) ∧ r.2 = M.2) (by
    intro n i M9 hi h
    obtain ⟨a1, a2, a3⟩ := h
    have hF : Fr 34 35 M M9 := ⟨fun x hx => ⟨a2 x (by omega), by rw [a3]⟩, by rw [a3]⟩
    have hv : VC 1 v M9 := hV.fr hF (by omega)
    have e0 : M9.1 1 0 = nI (dN v) := (hv.1 0 (by decide)).trans hW.d
    refine Or.inr ⟨wI M9 34 i (sThere v (nI i)), ?_, fun d hd => ?_, fun x hx => (wI_ne hx).trans (a2 x hx), a3⟩
    · show f_X0_begin_L2 33 1 (nI k) (n + 1) (nI i) M9 = _
      rw [f_X0_begin_L2, e0, if_neg (nI_ge hi (by omega)), C_thereOn hv hW, Option.bind_some, chk_ok (show i < 14 by omega) (by decide), tn_nI (by omega)]
      simp only [Nat.reduceAdd, bm, bi, nI_1]
    · by_cases q : d = i
      · subst q; rw [wI_on]
      · rw [wI_off (Or.inr q)]; exact a1 d (by omega)) (by
    intro n M9 h
    refine ⟨M9, ?_, h⟩
    have hF : Fr 34 35 M M9 := ⟨fun x hx => ⟨h.2.1 x (by omega), by rw [h.2.2]⟩, by rw [h.2.2]⟩
    have hv : VC 1 v M9 := hV.fr hF (by omega)
    have e0 : M9.1 1 0 = nI (dN v) := (hv.1 0 (by decide)).trans hW.d
    show f_X0_begin_L2 33 1 (nI k) (n + 1) (nI (dN v)) M9 = _
    rw [f_X0_begin_L2, e0, if_pos (Int32.le_refl _)]) 1000 0 M (by omega) (by omega) ⟨fun d hd => absurd hd (Nat.not_lt_zero d), fun _ _ => rfl, rfl⟩
  obtain ⟨Mb, f1, b1, b2, b3⟩ := loop_ex (fun n i (M9 : Mm) => f_X0_begin_L29 33 (nI k) n (nI i) M9) k (fun i M9 => (∀ d, d < i → M9.1 35 d = nI d) ∧ (∀ x, x ≠ 35 → M9.1 x = Ma.1 x) ∧ M9.2 = Ma.2) (fun r => (∀ d, d < k → r.1 35 d = nI d) ∧ (∀ x, x ≠ 35 → r.1 x = Ma.1 x) ∧ r.2 = Ma.2) (by
    intro n i M9 hi h
    obtain ⟨a1, a2, a3⟩ := h
    refine Or.inr ⟨wI M9 35 i (nI i), ?_, fun d hd => ?_, fun x hx => (wI_ne hx).trans (a2 x hx), a3⟩
    · show f_X0_begin_L29 33 (nI k) (n + 1) (nI i) M9 = _
      rw [f_X0_begin_L29, if_neg (nI_ge hi (by omega)), chk_ok (show i < 3 by omega) (by decide), tn_nI (by omega)]
      simp only [Nat.reduceAdd, bm, bi, nI_1]
    · by_cases q : d = i
      · subst q; rw [wI_on]
      · rw [wI_off (Or.inr q)]; exact a1 d (by omega)) (by
    intro n M9 h
    refine ⟨M9, ?_, h⟩
    show f_X0_begin_L29 33 (nI k) (n + 1) (nI k) M9 = _
    rw [f_X0_begin_L29, if_pos (Int32.le_refl _)]) 1000 0 Ma (by omega) (by omega) ⟨fun d hd => absurd hd (Nat.not_lt_zero d), fun _ _ => rfl, rfl⟩
  have hF : Fr 33 37 M (wI Mb 33 3 (-1000000)) := ⟨fun x hx => ⟨by rw [wI_ne (by omega), b2 x (by omega), a2 x (by omega)], by show Mb.2.1 x = _; rw [b3, a3]⟩, by show Mb.2.2 = _; rw [b3, a3]⟩
  refine ⟨wI Mb 33 3 (-1000000), ?_, ⟨hV.fr hF (by omega), fun d hd => by rw [wI_ne (by decide), b2 34 (by decide)]; exact a1 d hd⟩, fun i hi => ?_, ⟨wI_on, fun o ho => by cases ho⟩, hF⟩
  · unfold f_X0_begin
    rw [show f_X0_begin_L2 33 1 (nI k) 1000 0 M = some Ma from e1, Option.bind_some, show f_X0_begin_L29 33 (nI k) 1000 0 Ma = some Mb from f1]
    rfl
  · rw [wI_ne (by decide), b1 i hi]
    congr 1
    have : ∀ q : Fin 4, ∀ j : Fin 3, j.1 < q.1 → j.1 = gt9 (row0 q.1) j.1 := by decide
    exact this ⟨k, by omega⟩ ⟨i, by omega⟩ hi
theorem C_chooseMeeting {k : Nat} {wo : Nat → Int32} {bt : Nat → Nat → Bool} {val : Rw → Nat} (hV : VC 1 v M) (hW : WF v) (h1 : 1 ≤ k) (h3 : k ≤ 3) (hk : k ≤ dN v) (w1 : ∀ a b, a < 100000 → b < 100000 → (wo a ≤ wo b ↔ ¬ bt a b = true)) (w2 : ∀ a, a < 100000 → ¬ wo a ≤ -1000000) (hv : ∀ r, val r < 100000) (hval : ∀ (r : Rw) (M : Mm), CH9 v M → TR9 k r M → (∀ i, i < k → gt9 r i < dN v) → f_X0_howManyMeet 33 (nI k) M = some (wo (val r))) : ∃ M2, f_X0_chooseMeeting 33 1 (nI k) M = some M2 ∧ ST9 wo k (bRow k (dN v) bt val) M2 ∧ Fr 33 37 M M2 := by
  have d15 := hW.d15
  obtain ⟨Ma, a1, a2, a3, a4, a5⟩ := C_begin9 hV hW h1 h3 wo
  obtain ⟨l, e1, e2, e3, e4⟩ := rows_ex h1 h3 hk d15
  obtain ⟨M2, b1, b2, b3⟩ := C_walkMeeting hW h1 h3 hk w1 w2 hv hval l (row0 k) none Ma 0 1000 e2 e4 (by omega) (by omega) a2 a3 a4 (fun o ho => by cases ho)
  refine ⟨M2, ?_, ?_, a5.tr b3⟩
  · unfold f_X0_chooseMeeting
    rw [a1, Option.bind_some, show f_X0_chooseMeeting_L11 33 1 (nI k) 1000 1 0 Ma = some M2 from b1]; rfl
  · unfold bRow
    rw [e1]; exact b2
theorem C_chooseFair {k : Nat} {wo : Nat → Int32} {bt : Nat → Nat → Bool} {val : Rw → Nat} (hV : VC 1 v M) (hW : WF v) (h1 : 1 ≤ k) (h3 : k ≤ 3) (hk : k ≤ dN v) (w1 : ∀ a b, a < 100000 → b < 100000 → (wo a ≤ wo b ↔ ¬ bt a b = true)) (w2 : ∀ a, a < 100000 → ¬ wo a ≤ -1000000) (hv : ∀ r, val r < 100000) (hval : ∀ (r : Rw) (M : Mm), CH9 v M → TR9 k r M → (∀ i, i < k → gt9 r i < dN v) → f_X0_fairness 33 1 (nI k) M = some (wo (val r))) : ∃ M2, f_X0_chooseFair 33 1 (nI k) M = some M2 ∧ ST9 wo k (bRow k (dN v) bt val) M2 ∧ Fr 33 37 M M2 := by
  have d15 := hW.d15
  obtain ⟨Ma, a1, a2, a3, a4, a5⟩ := C_begin9 hV hW h1 h3 wo
  obtain ⟨l, e1, e2, e3, e4⟩ := rows_ex h1 h3 hk d15
  obtain ⟨M2, b1, b2, b3⟩ := C_walkFair hW h1 h3 hk w1 w2 hv hval l (row0 k) none Ma 0 1000 e2 e4 (by omega) (by omega) a2 a3 a4 (fun o ho => by cases ho)
  refine ⟨M2, ?_, ?_, a5.tr b3⟩
  · unfold f_X0_chooseFair
    rw [a1, Option.bind_some, show f_X0_chooseFair_L11 33 1 (nI k) 1000 1 0 Ma = some M2 from b1]; rfl
  · unfold bRow
    rw [e1]; exact b2
end CW
