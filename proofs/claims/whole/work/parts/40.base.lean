/-! NUMBERS: small ints, tests, loops -/
abbrev tn (x : Int32) : Nat := x.toNatClampNeg
/-- 0 ≤ x < n -/
abbrev inN (x : Int32) (n : Nat) : Prop := 0 ≤ x ∧ x < nI n
theorem i32_nlt {x y : Int32} : ¬ x < y ↔ y ≤ x := Int32.not_lt
theorem i32_nle {x y : Int32} : ¬ x ≤ y ↔ y < x := Int32.not_le
theorem tn_nI {k : Nat} (h : k < 2 ^ 31) : (nI k).toNatClampNeg = k := nI_clamp h
theorem nI_tn {x : Int32} (h : 0 ≤ x) : nI x.toNatClampNeg = x := by
  apply Int32.toInt_inj.mp
  have h3 : (0 : Int) ≤ x.toInt := by simpa using Int32.le_iff_toInt_le.mp h
  have h4 : x.toInt.toNat = x.toNatClampNeg := rfl
  have h5 : x.toInt < 2 ^ 31 := Int32.toInt_lt x
  rw [nI_toInt (by omega)]
  omega
theorem inN_iff {x : Int32} {n : Nat} (hn : n < 2 ^ 31) : inN x n ↔ ∃ k, k < n ∧ x = nI k := by
  constructor
  · intro ⟨h1, h2⟩
    refine ⟨x.toNatClampNeg, ?_, (nI_tn h1).symm⟩
    have h3 : (0 : Int) ≤ x.toInt := by simpa using Int32.le_iff_toInt_le.mp h1
    have h4 : x.toInt.toNat = x.toNatClampNeg := rfl
    have h5 := Int32.lt_iff_toInt_lt.mp h2
    rw [nI_toInt hn] at h5
    omega
  · rintro ⟨k, hk, rfl⟩
    exact ⟨nI_pos' (by omega), nI_lt hk hn⟩
theorem inN_nI {k n : Nat} (hk : k < 2 ^ 31) (hn : n < 2 ^ 31) : inN (nI k) n ↔ k < n := by
  rw [inN_iff hn]
  constructor
  · rintro ⟨j, hj, e⟩
    rw [(nI_eq hk (by omega)).mp e]
    exact hj
  · intro h
    exact ⟨k, h, rfl⟩
theorem chk_ok {α : Type} {i n : Nat} {X : Option α} (h : i < n) (hn : n < 2 ^ 31) : chk (nI i) n X = X := if_neg (nI_in h hn)
theorem chk_lt {α : Type} {i : Int32} {n : Nat} {X : Option α} (h : inN i n) (hn : n < 2 ^ 31) : chk i n X = X := by
  obtain ⟨k, hk, rfl⟩ := (inN_iff hn).mp h
  exact chk_ok hk hn
theorem and1 (x : Int32) : x &&& 1 = 0 ∨ x &&& 1 = 1 := by
  have h : (x &&& 1).toBitVec = 0#32 ∨ (x &&& 1).toBitVec = 1#32 := by
    rw [Int32.toBitVec_and]
    show x.toBitVec &&& 1#32 = 0#32 ∨ x.toBitVec &&& 1#32 = 1#32
    rw [BitVec.and_one_eq_setWidth_ofBool_getLsbD]
    cases x.toBitVec.getLsbD 0 <;> simp
  rcases h with h | h
  · exact Or.inl (Int32.toBitVec_inj.mp h)
  · exact Or.inr (Int32.toBitVec_inj.mp h)
theorem and1_ne (x : Int32) : ¬ x &&& 1 = 0 ↔ x &&& 1 = 1 := by
  rcases and1 x with h | h <;> rw [h] <;> decide
/-- a run of g, 0, 1, .., n less 1 -/
def iter {σ : Type} (g : Nat → σ → σ) : Nat → σ → σ
  | 0, s => s
  | k + 1, s => g k (iter g k s)
theorem loop_run {σ ρ : Type} (F : Nat → Nat → σ → Option ρ) (N : Nat) (g : Nat → σ → σ) (out : σ → ρ) (Inv : Nat → σ → Prop) (s0 : σ) (h0 : Inv 0 s0)
    (hstep : ∀ n i s, i < N → Inv i s → F (n + 1) i s = F n (i + 1) (g i s)) (hinv : ∀ i s, i < N → Inv i s → Inv (i + 1) (g i s)) (hend : ∀ n s, Inv N s → F (n + 1) N s = some (out s)) (n : Nat) (hn : N < n) : F n 0 s0 = some (out (iter g N s0)) ∧ Inv N (iter g N s0) := by
  have key : ∀ k, k ≤ N → F n 0 s0 = F (n - k) k (iter g k s0) ∧ Inv k (iter g k s0) := by
    intro k
    induction k with
    | zero => intro _; exact ⟨rfl, h0⟩
    | succ k ih =>
      intro hk
      obtain ⟨h1, h2⟩ := ih (by omega)
      refine ⟨?_, hinv k _ (by omega) h2⟩
      rw [h1, show n - k = (n - (k + 1)) + 1 by omega]
      exact hstep _ _ _ (by omega) h2
  obtain ⟨h1, h2⟩ := key N (Nat.le_refl N)
  refine ⟨?_, h2⟩
  rw [h1, show n - N = (n - N - 1) + 1 by omega]
  exact hend _ _ h2
/-- without an invariant -/
theorem loop_run0 {σ ρ : Type} (F : Nat → Nat → σ → Option ρ) (N : Nat) (g : Nat → σ → σ) (out : σ → ρ) (s0 : σ)
    (hstep : ∀ n i s, i < N → F (n + 1) i s = F n (i + 1) (g i s)) (hend : ∀ n s, F (n + 1) N s = some (out s)) (n : Nat) (hn : N < n) : F n 0 s0 = some (out (iter g N s0)) :=
  (loop_run F N g out (fun _ _ => True) s0 trivial (fun n i s h _ => hstep n i s h) (fun _ _ _ _ => trivial) (fun n s _ => hend n s) n hn).1
/-- the first of i .. n less 1 with P -/
def findF (P : Nat → Bool) (N : Nat) : Nat → Nat → Option Nat
  | 0, _ => none
  | k + 1, i => if i < N then (if P i = true then some i else findF P N k (i + 1)) else none
theorem iter_congr {σ : Type} {g g2 : Nat → σ → σ} {N : Nat} (h : ∀ i s, i < N → g i s = g2 i s) : ∀ (k : Nat) (s : σ), k ≤ N → iter g k s = iter g2 k s := by
  intro k
  induction k with
  | zero => intro s _; rfl
  | succ k ih =>
    intro s hk
    show g k (iter g k s) = g2 k (iter g2 k s)
    rw [ih s (by omega), h k _ (by omega)]
/-- memory, read behind a write -/
theorem wI_r (M : Mm) (a k : Nat) (v : Int32) (x y : Nat) : (wI M a k v).1 x y = if x = a ∧ y = k then v else M.1 x y := rfl
theorem wI_2 (M : Mm) (a k : Nat) (v : Int32) : (wI M a k v).2 = M.2 := rfl
theorem wJ_r (M : Mm) (a k : Nat) (v : Int64) (x y : Nat) : (wJ M a k v).2.1 x y = if x = a ∧ y = k then v else M.2.1 x y := rfl
theorem wJ_1 (M : Mm) (a k : Nat) (v : Int64) : (wJ M a k v).1 = M.1 := rfl
theorem wJ_22 (M : Mm) (a k : Nat) (v : Int64) : (wJ M a k v).2.2 = M.2.2 := rfl
/-- all outside places lo .. hi less 1 is as it was -/
def Fr (lo hi : Nat) (M M2 : Mm) : Prop := (∀ x, (x < lo ∨ hi ≤ x) → M2.1 x = M.1 x ∧ M2.2.1 x = M.2.1 x) ∧ M2.2.2 = M.2.2
theorem Fr.rf {lo hi : Nat} {M : Mm} : Fr lo hi M M := ⟨fun _ _ => ⟨rfl, rfl⟩, rfl⟩
theorem Fr.tr {lo hi : Nat} {M M2 M3 : Mm} (h1 : Fr lo hi M M2) (h2 : Fr lo hi M2 M3) : Fr lo hi M M3 := ⟨fun x hx => ⟨(h2.1 x hx).1.trans (h1.1 x hx).1, (h2.1 x hx).2.trans (h1.1 x hx).2⟩, h2.2.trans h1.2⟩
theorem Fr.wide {lo hi lo2 hi2 : Nat} {M M2 : Mm} (h : Fr lo hi M M2) (h1 : lo2 ≤ lo) (h2 : hi ≤ hi2) : Fr lo2 hi2 M M2 := ⟨fun x hx => h.1 x (by omega), h.2⟩
theorem Fr.wI {lo hi a k : Nat} {M : Mm} {v : Int32} (h1 : lo ≤ a) (h2 : a < hi) : Fr lo hi M (wI M a k v) := ⟨fun x hx => ⟨wI_ne (by omega), rfl⟩, rfl⟩
theorem Fr.wJ {lo hi a k : Nat} {M : Mm} {v : Int64} (h1 : lo ≤ a) (h2 : a < hi) : Fr lo hi M (wJ M a k v) := ⟨fun x hx => ⟨rfl, wJ_ne (by omega)⟩, rfl⟩
theorem Fr.i {lo hi : Nat} {M M2 : Mm} (h : Fr lo hi M M2) {x y : Nat} (hx : x < lo ∨ hi ≤ x) : M2.1 x y = M.1 x y := by rw [(h.1 x hx).1]
theorem Fr.j {lo hi : Nat} {M M2 : Mm} (h : Fr lo hi M M2) {x y : Nat} (hx : x < lo ∨ hi ≤ x) : M2.2.1 x y = M.2.1 x y := by rw [(h.1 x hx).2]
/-! the tests of the two -/
theorem within_ok (x a b : Int32) : f_X7_within x a b = some (if a ≤ x ∧ x ≤ b then 1 else 0) := by
  unfold f_X7_within
  by_cases h1 : x < a
  · rw [if_pos h1, if_neg (fun q => i32_nle.mpr h1 q.1)]
  · rw [if_neg h1]
    by_cases h2 : b < x
    · rw [if_pos h2, if_neg (fun q => i32_nle.mpr h2 q.2)]
    · rw [if_neg h2, if_pos ⟨i32_nlt.mp h1, i32_nlt.mp h2⟩]
theorem i64_le {x y : Int32} : x.toInt64 ≤ y.toInt64 ↔ x ≤ y := by
  rw [Int64.le_iff_toInt_le, Int32.le_iff_toInt_le, Int32.toInt_toInt64, Int32.toInt_toInt64]
theorem i64_lt {x y : Int32} : x.toInt64 < y.toInt64 ↔ x < y := by
  rw [Int64.lt_iff_toInt_lt, Int32.lt_iff_toInt_lt, Int32.toInt_toInt64, Int32.toInt_toInt64]
theorem in_ok (x a b : Int64) : f_X8_in x a b = some (if a ≤ x ∧ x ≤ b then 1 else 0) := by
  unfold f_X8_in
  simp only [lg_cmp_lt, lg_cmp_gt]
  by_cases h1 : x < a
  · rw [if_pos h1, if_neg (fun q => Int64.not_le.mpr h1 q.1)]
  · rw [if_neg h1]
    by_cases h2 : b < x
    · rw [if_pos h2, if_neg (fun q => Int64.not_le.mpr h2 q.2)]
    · rw [if_neg h2, if_pos ⟨Int64.not_lt.mp h1, Int64.not_lt.mp h2⟩]
/-- the same, of ints -/
theorem in_ok32 (x a b : Int32) : f_X8_in x.toInt64 a.toInt64 b.toInt64 = some (if a ≤ x ∧ x ≤ b then 1 else 0) := by
  rw [in_ok]
  simp only [i64_le]
theorem nI_pred_le {x : Int32} {n : Nat} (hn : n < 2 ^ 31) : x ≤ nI n - 1 ↔ x < nI n := by
  cases n with
  | zero =>
    rw [Int32.le_iff_toInt_le, Int32.lt_iff_toInt_lt]
    have h1 : (nI 0 - 1).toInt = -1 := by decide
    have h2 : (nI 0).toInt = 0 := by decide
    omega
  | succ k =>
    rw [nI_pred, Int32.le_iff_toInt_le, Int32.lt_iff_toInt_lt, nI_toInt (by omega), nI_toInt hn]
    omega
theorem le_nI {x : Int32} {n : Nat} (hn : n + 1 < 2 ^ 31) : x ≤ nI n ↔ x < nI (n + 1) := by
  have h := nI_pred_le (x := x) (n := n + 1) hn
  rw [nI_pred] at h
  exact h
theorem chb_ok {α : Type} {c : Prop} [Decidable c] {X : Option α} : chb (if c then 1 else 0) X = X := by
  by_cases h : c
  · rw [if_pos h]; exact if_pos (by decide)
  · rw [if_neg h]; exact if_pos (by decide)
theorem ite01 {c : Prop} [Decidable c] : ((if c then (1 : Int32) else 0) = 0) ↔ ¬ c := by
  by_cases h : c
  · rw [if_pos h]; exact ⟨fun q => absurd q (by decide), fun q => absurd h q⟩
  · rw [if_neg h]; exact ⟨fun _ => h, fun _ => rfl⟩
theorem isShelf_ok (s : Int32) : f_X7_isShelf s = some (if inN s 8 then 1 else 0) := by
  unfold f_X7_isShelf
  simp only [within_ok, Option.bind_some, chb_ok]
  have h : s ≤ 7 ↔ s < nI 8 := le_nI (n := 7) (by decide)
  simp only [h]
theorem isKind_ok (s : Int32) : f_X7_isKind s = some (if inN s 6 then 1 else 0) := by
  unfold f_X7_isKind
  simp only [within_ok, Option.bind_some, chb_ok]
  have h : s ≤ 5 ↔ s < nI 6 := le_nI (n := 5) (by decide)
  simp only [h]
