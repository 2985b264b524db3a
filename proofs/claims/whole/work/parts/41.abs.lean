/-! WHAT THE TWO HOLD, as a value. A circle: numbers (0 days, 1 size, 2 host, 3 least, 4 lose, 5 dinners, 6 seed) and of each of the people 0 kind, 1 a, 2 likely, 3 free, 4 out -/
abbrev CV : Type := (Nat → Int32) × (Nat → Nat → Int32)
def dN (v : CV) : Nat := tn (v.1 0)
def pN (v : CV) : Nat := tn (v.1 1)
def uS (v : CV) (k : Nat) (x : Int32) : CV := (fun j => if j = k then x else v.1 j, v.2)
def uP (v : CV) (p k : Nat) (x : Int32) : CV := (v.1, fun q j => if q = p ∧ j = k then x else v.2 q j)
/-- x is a small number below n -/
def sm (x : Int32) (n : Nat) : Prop := x = nI (tn x) ∧ tn x < n
theorem sm_nI {k n : Nat} (h : k < n) (hn : n ≤ 2 ^ 31) : sm (nI k) n := by
  unfold sm
  rw [show tn (nI k) = k from tn_nI (by omega)]
  exact ⟨rfl, h⟩
theorem sm_of {x : Int32} {n : Nat} (hn : n < 2 ^ 31) (h : inN x n) : sm x n := by
  obtain ⟨k, hk, rfl⟩ := (inN_iff hn).mp h
  exact sm_nI hk (by omega)
theorem sm.inN {x : Int32} {n : Nat} (hn : n < 2 ^ 31) (h : sm x n) : inN x n := (inN_iff hn).mpr ⟨tn x, h.2, h.1⟩
def WF (v : CV) : Prop := (sm (v.1 0) 15 ∧ 1 ≤ dN v) ∧ sm (v.1 1) 9 ∧ (sm (v.1 2) 8 ∧ (0 < pN v → tn (v.1 2) < pN v)) ∧ (sm (v.1 3) 9 ∧ 1 ≤ tn (v.1 3)) ∧ sm (v.1 4) 13 ∧ ∀ p, p < 8 → sm (v.2 p 0) 6 ∧ sm (v.2 p 1) 14 ∧ sm (v.2 p 2) 13 ∧ sm (v.2 p 3) 16384 ∧ sm (v.2 p 4) 100 ∧ (p < pN v → sm (v.2 p 3) (2 ^ dN v))
/-- the component's circle at c holds v -/
def VC (c : Nat) (v : CV) (M : Mm) : Prop := (∀ k, k < 7 → M.1 c k = v.1 k) ∧ ∀ p k, p < 8 → k < 5 → M.1 (c + 2 + p) k = v.2 p k
/-- the model at b holds v -/
def VM (b : Nat) (v : CV) (M : Mm) : Prop := (M.1 b 9 = v.1 0 ∧ M.1 b 10 = v.1 1 ∧ M.1 (b + 22) 0 = v.1 2 ∧ M.1 (b + 22) 1 = v.1 3 ∧ M.1 (b + 22) 2 = v.1 4 ∧ M.1 b 17 = v.1 5 ∧ M.1 b 18 = v.1 6) ∧ (∀ p, p < 8 → M.1 (b + 17) p = v.2 p 0) ∧ (∀ p, p < 8 → M.1 (b + 18) p = v.2 p 1) ∧ (∀ p, p < 8 → M.1 (b + 19) p = v.2 p 2) ∧ (∀ p, p < 8 → M.1 (b + 20) p = v.2 p 3) ∧ ∀ p, p < 8 → M.1 (b + 21) p = v.2 p 4
theorem WF.n {v : CV} (h : WF v) : v.1 1 = nI (pN v) := h.2.1.1
theorem WF.n9 {v : CV} (h : WF v) : pN v < 9 := h.2.1.2
theorem WF.d {v : CV} (h : WF v) : v.1 0 = nI (dN v) := h.1.1.1
theorem WF.d15 {v : CV} (h : WF v) : dN v < 15 := h.1.1.2
theorem WF.d1 {v : CV} (h : WF v) : 1 ≤ dN v := h.1.2
section VMS
variable {b : Nat} {v : CV} {M : Mm}
theorem VM.d (h : VM b v M) : M.1 b 9 = v.1 0 := h.1.1
theorem VM.n (h : VM b v M) : M.1 b 10 = v.1 1 := h.1.2.1
theorem VM.ho (h : VM b v M) : M.1 (b + 22) 0 = v.1 2 := h.1.2.2.1
theorem VM.le (h : VM b v M) : M.1 (b + 22) 1 = v.1 3 := h.1.2.2.2.1
theorem VM.lo (h : VM b v M) : M.1 (b + 22) 2 = v.1 4 := h.1.2.2.2.2.1
theorem VM.di (h : VM b v M) : M.1 b 17 = v.1 5 := h.1.2.2.2.2.2.1
theorem VM.se (h : VM b v M) : M.1 b 18 = v.1 6 := h.1.2.2.2.2.2.2
theorem VM.p0 (h : VM b v M) {p : Nat} (hp : p < 8) : M.1 (b + 17) p = v.2 p 0 := h.2.1 p hp
theorem VM.p1 (h : VM b v M) {p : Nat} (hp : p < 8) : M.1 (b + 18) p = v.2 p 1 := h.2.2.1 p hp
theorem VM.p2 (h : VM b v M) {p : Nat} (hp : p < 8) : M.1 (b + 19) p = v.2 p 2 := h.2.2.2.1 p hp
theorem VM.p3 (h : VM b v M) {p : Nat} (hp : p < 8) : M.1 (b + 20) p = v.2 p 3 := h.2.2.2.2.1 p hp
theorem VM.p4 (h : VM b v M) {p : Nat} (hp : p < 8) : M.1 (b + 21) p = v.2 p 4 := h.2.2.2.2.2 p hp
end VMS
theorem nI_leF {a b : Nat} (h : a < b) (hb : b < 2 ^ 31) : (nI b ≤ nI a) = False := eq_false (nI_ge h hb)
theorem nI_leT {a b : Nat} (h : a ≤ b) (hb : b < 2 ^ 31) : (nI a ≤ nI b) = True := eq_true (nI_le h hb)
/-- a bit -/
abbrev hb (x d : Int32) : Prop := (x >>> (d &&& 31)) &&& 1 = 1
theorem loop_ex {σ ρ : Type} (F : Nat → Nat → σ → Option ρ) (N : Nat) (I : Nat → σ → Prop) (Post : ρ → Prop)
    (hstep : ∀ n i s, i < N → I i s → (∃ r, F (n + 1) i s = some r ∧ Post r) ∨ ∃ s2, F (n + 1) i s = F n (i + 1) s2 ∧ I (i + 1) s2)
    (hend : ∀ n s, I N s → ∃ r, F (n + 1) N s = some r ∧ Post r) : ∀ (n i : Nat) (s : σ), i ≤ N → N < n + i → I i s → ∃ r, F n i s = some r ∧ Post r := by
  intro n
  induction n with
  | zero => intro i s h1 h2; omega
  | succ n ih =>
    intro i s h1 h2 h
    by_cases hi : i = N
    · subst hi; exact hend n s h
    · rcases hstep n i s (by omega) h with h3 | ⟨s2, h3, h4⟩
      · exact h3
      · rw [h3]; exact ih (i + 1) s2 (by omega) (by omega) h4
/-! the specification, of a circle -/
def sThere (v : CV) (d : Int32) : Int32 := iter (fun p b => if hb (v.2 p 3) d then b ||| (1 <<< (nI p &&& 31)) else b) (pN v) 0
theorem bitCount_ok (x : Int32) : ∃ y, f_J6_bitCount_0f7a4 x = some y := ⟨_, rfl⟩
abbrev sHow (v : CV) (d : Int32) : Int32 := bc (sThere v d)
abbrev sDays (v : CV) : Int32 := (1 <<< (v.1 0 &&& 31)) - 1
def sWith (v : CV) (k : Int32) : Int32 := iter (fun d b => if sHow v (nI d) < k then b else b ||| (1 <<< (nI d &&& 31))) (dN v) 0
def sAllBut (v : CV) (x : Int32) : Int32 := iter (fun p b => if nI p = x then b else b &&& v.2 p 3) (pN v) (sDays v)
def sShare (v : CV) (p : Nat) : Int32 := iter (fun q s => if q = p then s else if v.2 q 3 &&& v.2 p 3 = 0 then s else s + 1) (pN v) 0
def sOut (v : CV) : Int32 := iter (fun p s => s + v.2 p 4) (pN v) 0
def sWeek (v : CV) (r : Nat) : Int32 := iter (fun i s => s + sHow v (nI (r + 7 * i))) ((dN v + 6 - r) / 7) 0
def sToday (v : CV) (d : Int32) : Int32 := if sHow v d = v.1 1 then 1000000 else 0
def sNext (v : CV) (x : Int32) : Int32 := iter (fun _ s => s * (12 - v.1 4) / 12) (pN v) x
/-! the component's circle: reads -/
section CC
variable {c : Nat} {v : CV} {M : Mm}
theorem hasBit_ok (x d : Int32) : f_X7_hasBit x d = some (if hb x d then 1 else 0) := by
  unfold f_X7_hasBit
  by_cases h : hb x d
  · rw [if_pos h, if_pos h]
  · rw [if_neg h, if_neg h]
theorem isFree_ok (a : Nat) (d : Int32) (M : Mm) : f_X2_isFree a d M = some (if hb (M.1 a 3) d then 1 else 0) := by
  unfold f_X2_isFree
  rw [hasBit_ok]
  simp only [Option.bind_some, chb_ok]
end CC
