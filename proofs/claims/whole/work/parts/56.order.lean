/-! who is asked first: the order by likelihood, then by number -/
def cnt (P : Nat → Bool) : Nat → Nat
  | 0 => 0
  | n + 1 => cnt P n + (if P n = true then 1 else 0)
theorem cnt_le (P : Nat → Bool) : ∀ n, cnt P n ≤ n := by
  intro n
  induction n with
  | zero => exact Nat.le_refl _
  | succ n ih => unfold cnt; split <;> omega
theorem cnt_congr {P Q : Nat → Bool} : ∀ n, (∀ i, i < n → P i = Q i) → cnt P n = cnt Q n := by
  intro n
  induction n with
  | zero => intro _; rfl
  | succ n ih => intro h; unfold cnt; rw [ih (fun i hi => h i (by omega)), h n (by omega)]
theorem cnt_mono {P Q : Nat → Bool} : ∀ n, (∀ i, i < n → P i = true → Q i = true) → cnt P n ≤ cnt Q n := by
  intro n
  induction n with
  | zero => intro _; exact Nat.le_refl _
  | succ n ih =>
    intro h
    have h1 := ih (fun i hi => h i (by omega))
    have h2 := h n (by omega)
    unfold cnt
    by_cases p : P n = true
    · rw [if_pos p, if_pos (h2 p)]; omega
    · rw [if_neg p]; omega
theorem cnt_lt {P Q : Nat → Bool} {m : Nat} : ∀ n, (∀ i, i < n → P i = true → Q i = true) → m < n → P m = false → Q m = true → cnt P n < cnt Q n := by
  intro n
  induction n with
  | zero => intro _ h; omega
  | succ n ih =>
    intro h hm p q
    unfold cnt
    by_cases e : m = n
    · subst e
      have h1 := cnt_mono m (fun i hi => h i (by omega))
      rw [p, q]
      show cnt P m + 0 < cnt Q m + 1
      omega
    · have h1 := ih (fun i hi => h i (by omega)) (by omega) p q
      have h2 := h n (by omega)
      by_cases p : P n = true
      · rw [if_pos p, if_pos (h2 p)]; omega
      · rw [if_neg p]; omega
theorem cnt_ex {P : Nat → Bool} : ∀ n, cnt P n < n → ∃ i, i < n ∧ P i = false := by
  intro n
  induction n with
  | zero => intro h; omega
  | succ n ih =>
    intro h
    cases hp : P n with
    | false => exact ⟨n, by omega, hp⟩
    | true =>
      unfold cnt at h
      rw [hp] at h
      obtain ⟨i, h1, h2⟩ := ih (by simp only [if_true] at h; omega)
      exact ⟨i, by omega, h2⟩
theorem cnt_one {P Q : Nat → Bool} {m : Nat} : ∀ n, (∀ i, i < n → i ≠ m → P i = Q i) → m < n → P m = false → Q m = true → cnt Q n = cnt P n + 1 := by
  intro n
  induction n with
  | zero => intro _ h; omega
  | succ n ih =>
    intro h hm p q
    unfold cnt
    by_cases e : m = n
    · subst e
      rw [cnt_congr m (fun i hi => h i (by omega) (by omega)), p, q]
      rfl
    · rw [ih (fun i hi => h i (by omega)) (by omega) p q, h n (by omega) (by omega)]
      omega
theorem min_ex {S : Nat → Prop} (f : Nat → Nat) : ∀ k p, f p = k → S p → ∃ m, S m ∧ ∀ q, S q → f m ≤ f q := by
  intro k
  induction k using Nat.strongRecOn with
  | ind k ih =>
    intro p hp hs
    by_cases h : ∃ q, S q ∧ f q < f p
    · obtain ⟨q, h1, h2⟩ := h
      exact ih (f q) (by omega) q rfl h1
    · exact ⟨p, hs, fun q hq => Nat.le_of_not_lt fun z => h ⟨q, hq, z⟩⟩
abbrev lk (v : CV) (p : Nat) : Nat := tn (v.2 p 2)
abbrev lx (v : CV) (q p : Nat) : Prop := lk v q < lk v p ∨ (lk v q = lk v p ∧ q < p)
def rnk (v : CV) (p : Nat) : Nat := cnt (fun q => decide (lx v q p)) (pN v)
theorem rnk_lt {v : CV} {q p : Nat} (hq : q < pN v) (h : lx v q p) : rnk v q < rnk v p := by
  unfold rnk
  refine cnt_lt (m := q) (pN v) (fun i _ hi => ?_) hq (decide_eq_false (by omega)) (decide_eq_true h)
  have hi := of_decide_eq_true hi
  exact decide_eq_true (by omega)
theorem rnk_lx {v : CV} {q p : Nat} (hp : p < pN v) (h : rnk v q < rnk v p) : lx v q p := by
  by_cases h1 : lx v q p
  · exact h1
  · by_cases h2 : q = p
    · subst h2; omega
    · have := rnk_lt (v := v) (q := p) (p := q) hp (by omega)
      omega
theorem rnk_inj {v : CV} {q p : Nat} (hq : q < pN v) (hp : p < pN v) (h : rnk v q = rnk v p) : q = p := by
  by_cases h2 : q = p
  · exact h2
  · by_cases h1 : lx v q p
    · have := rnk_lt hq h1; omega
    · have := rnk_lt (v := v) (q := p) (p := q) hp (by omega)
      omega
theorem rnk_n {v : CV} {p : Nat} (hp : p < pN v) : rnk v p < pN v := by
  have h1 : rnk v p < cnt (fun _ => true) (pN v) := cnt_lt (m := p) (pN v) (fun i _ _ => rfl) hp (decide_eq_false (by omega)) rfl
  have h2 := cnt_le (fun _ => true) (pN v)
  omega
/-- of k before the last, one has k before it, and k have less -/
theorem rnk_step {v : CV} (k : Nat) (hk : k < pN v) (hc : cnt (fun q => decide (rnk v q < k)) (pN v) = k) : ∃ m, m < pN v ∧ rnk v m = k := by
  obtain ⟨p, hp, h1⟩ := cnt_ex (P := fun q => decide (rnk v q < k)) (pN v) (by omega)
  have h1 := of_decide_eq_false h1
  obtain ⟨m, ⟨hm, hm2⟩, hmin⟩ := min_ex (S := fun p => p < pN v ∧ k ≤ rnk v p) (rnk v) (rnk v p) p rfl ⟨hp, by omega⟩
  refine ⟨m, hm, ?_⟩
  rw [← hc]
  show cnt _ _ = cnt _ _
  refine cnt_congr (pN v) (fun i hi => ?_)
  refine decide_eq_decide.mpr ⟨fun z => ?_, fun z => rnk_lx hm (by omega)⟩
  have h2 := rnk_lt hi z
  refine Nat.lt_of_not_le fun w => ?_
  have := hmin i ⟨hi, w⟩
  omega
theorem rnk_cnt {v : CV} : ∀ k, k ≤ pN v → cnt (fun q => decide (rnk v q < k)) (pN v) = k := by
  intro k
  induction k with
  | zero =>
    intro _
    have h1 : cnt (fun q => decide (rnk v q < 0)) (pN v) = cnt (fun _ => false) (pN v) := cnt_congr _ (fun i _ => decide_eq_false (by omega))
    rw [h1]
    have h2 : ∀ n, cnt (fun _ => false) n = 0 := fun n => by
      induction n with
      | zero => rfl
      | succ n ih => unfold cnt; rw [ih]; rfl
    exact h2 _
  | succ k ih =>
    intro hk
    have hc := ih (by omega)
    obtain ⟨m, hm, h1⟩ := rnk_step k (by omega) hc
    rw [cnt_one (P := fun q => decide (rnk v q < k)) (m := m) (pN v) (fun i hi hne => ?_) hm (decide_eq_false (by omega)) (decide_eq_true (by omega)), hc]
    have h2 : rnk v i ≠ k := fun z => hne (rnk_inj hi hm (z.trans h1.symm))
    exact decide_eq_decide.mpr (by omega)
def ordO (v : CV) (k : Nat) : Option Nat := fstO (fun p => decide (rnk v p = k)) (pN v) 0
theorem ordO_ok {v : CV} {k : Nat} (hk : k < pN v) : ∃ m, m < pN v ∧ rnk v m = k ∧ ordO v k = some m := by
  obtain ⟨m, hm, h1⟩ := rnk_step k hk (rnk_cnt k (by omega))
  cases e : ordO v k with
  | some j =>
    obtain ⟨_, h2, h3⟩ := fstO_some _ _ _ e
    have h3 := of_decide_eq_true h3
    exact ⟨j, by omega, h3, rfl⟩
  | none =>
    exfalso
    have h4 : ∀ n i, fstO (fun p => decide (rnk v p = k)) n i = none → ∀ j, i ≤ j → j < i + n → rnk v j ≠ k := by
      intro n
      induction n with
      | zero => intro i _ j h1 h2; omega
      | succ n ih =>
        intro i h j h1 h2
        unfold fstO at h
        by_cases q : decide (rnk v i = k) = true
        · rw [if_pos q] at h; cases h
        · rw [if_neg q] at h
          by_cases e : j = i
          · subst e; exact fun z => q (decide_eq_true z)
          · exact ih (i + 1) h j (by omega) (by omega)
    exact h4 _ _ e m (by omega) (by omega) h1
def ordN (v : CV) (k : Nat) : Nat := (ordO v k).getD 0
theorem ordN_ok {v : CV} {k : Nat} (hk : k < pN v) : ordN v k < pN v ∧ rnk v (ordN v k) = k ∧ ordO v k = some (ordN v k) := by
  obtain ⟨m, h1, h2, h3⟩ := ordO_ok hk
  unfold ordN
  rw [h3]
  exact ⟨h1, h2, rfl⟩
