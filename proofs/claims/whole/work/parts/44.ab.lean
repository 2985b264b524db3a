/-! THE WHOLE STATE as a value: the circle, what was kept, the shelves (content as holds tells it, length, elements), the tape (size, bytes), how many refusals -/
abbrev SV : Type := Int32 × Nat × (Nat → Int64)
abbrev AB : Type := CV × Option CV × (Nat → SV) × (Nat × (Nat → Int32)) × (Nat → Int32)
def aSh (a : AB) : Nat → SV := a.2.2.1
def aT (a : AB) : Nat × (Nat → Int32) := a.2.2.2.1
def aR (a : AB) : Nat → Int32 := a.2.2.2.2
def upN {α : Type} (f : Nat → α) (k : Nat) (x : α) : Nat → α := fun j => if j = k then x else f j
theorem upN_eq {α : Type} (f : Nat → α) (k : Nat) (x : α) : upN f k x k = x := if_pos rfl
theorem upN_ne {α : Type} (f : Nat → α) {k j : Nat} (x : α) (h : j ≠ k) : upN f k x j = f j := if_neg h
def setV (a : AB) (v : CV) : AB := (v, a.2)
def setK (a : AB) (v : CV) : AB := (a.1, some v, a.2.2)
def setSh (a : AB) (s : Nat) (x : SV) : AB := (a.1, a.2.1, upN (aSh a) s x, a.2.2.2)
def setT (a : AB) (t : Nat × (Nat → Int32)) : AB := (a.1, a.2.1, a.2.2.1, t, a.2.2.2.2)
def rfu (a : AB) (k : Nat) : AB := (a.1, a.2.1, a.2.2.1, a.2.2.2.1, upN (aR a) k (aR a k + 1))
def bad (a : AB) : AB × Int32 := (rfu a 0, -2)
def oth (a : AB) : AB × Int32 := (rfu a 1, -3)
def nth (a : AB) : AB × Int32 := (rfu a 2, -4)
def stk (a : AB) : AB × Int32 := (rfu a 3, -5)
def ful (a : AB) : AB × Int32 := (rfu a 4, -6)
/-- the component -/
def SC (s : Nat) (x : SV) (M : Mm) : Prop := M.1 (53 + 2 * s) 0 = x.1 ∧ M.1 (53 + 2 * s) 1 = nI x.2.1 ∧ ∀ i, i < 40 → M.2.1 (53 + 2 * s + 1) i = x.2.2 i
def KC (k : Option CV) (M : Mm) : Prop := (k = none → M.1 0 2 = 0) ∧ ∀ w, k = some w → M.1 0 2 = 1 ∧ VC 11 w M
def TC (t : Nat × (Nat → Int32)) (M : Mm) : Prop := M.1 38 1 = nI t.1 ∧ ∀ i, i < t.1 → M.1 39 i = t.2 i
def RC (a : AB) (M : Mm) : Prop := VC 1 a.1 M ∧ KC a.2.1 M ∧ (∀ s, s < 8 → SC s (aSh a s) M) ∧ TC (aT a) M ∧ ∀ i, i < 5 → M.1 52 i = aR a i
/-- the model at 69 -/
def SM (s : Nat) (x : SV) (M : Mm) : Prop := (x.1 = -1 ∧ M.1 70 s = 0) ∨ (inN x.1 5 ∧ M.1 70 s = 1 ∧ M.1 71 s = x.1 ∧ M.1 72 s = nI x.2.1 ∧ ∀ i, i < 40 → M.2.1 (74 + s) i = x.2.2 i) ∨ ∃ p, p < 8 ∧ x.1 = nI (10 + p) ∧ M.1 70 s = 2 ∧ M.1 83 s = nI p
def KM (k : Option CV) (M : Mm) : Prop := (k = none → M.2.2 69 19 = 0) ∧ ∀ w, k = some w → M.2.2 69 19 ≠ 0 ∧ 106 ≤ M.2.2 69 19 ∧ VM (M.2.2 69 19) w M
def TM (t : Nat × (Nat → Int32)) (M : Mm) : Prop := M.1 69 7 = nI t.1 ∧ ∀ i, i < t.1 → M.1 84 i = t.2 i
def RM (a : AB) (M : Mm) : Prop := VM 69 a.1 M ∧ KM a.2.1 M ∧ (∀ s, s < 8 → SM s (aSh a s) M) ∧ TM (aT a) M ∧ ∀ i, i < 5 → M.1 85 (2 + i) = aR a i
/-- what is always so -/
def WSh (n : Nat) (x : SV) : Prop := (x.1 = -1 ∧ x.2.1 = 0) ∨ (inN x.1 5 ∧ x.2.1 ≤ 40) ∨ ∃ p, p < n ∧ x.1 = nI (10 + p) ∧ x.2.1 = 0
def WA (a : AB) : Prop := WF a.1 ∧ (∀ w, a.2.1 = some w → WF w) ∧ (∀ s, s < 8 → WSh (pN a.1) (aSh a s)) ∧ (aT a).1 ≤ 250 ∧ ∀ i, i < (aT a).1 → inN ((aT a).2 i) 256
/-- frames -/
abbrev FrC (M M2 : Mm) : Prop := Fr 0 69 M M2
def FrM (M M2 : Mm) : Prop := ∀ x, x < 69 → M2.1 x = M.1 x ∧ M2.2.1 x = M.2.1 x
theorem FrM.rf {M : Mm} : FrM M M := fun _ _ => ⟨rfl, rfl⟩
theorem FrM.tr {M M2 M3 : Mm} (h1 : FrM M M2) (h2 : FrM M2 M3) : FrM M M3 := fun x hx => ⟨(h2 x hx).1.trans (h1 x hx).1, (h2 x hx).2.trans (h1 x hx).2⟩
theorem FrM.wI {M : Mm} {a k : Nat} {v : Int32} (h : 69 ≤ a) : FrM M (wI M a k v) := fun x hx => ⟨wI_ne (by omega), rfl⟩
theorem FrM.wJ {M : Mm} {a k : Nat} {v : Int64} (h : 69 ≤ a) : FrM M (wJ M a k v) := fun x hx => ⟨rfl, wJ_ne (by omega)⟩
theorem VC.fr {c lo hi : Nat} {v : CV} {M M2 : Mm} (h : VC c v M) (hF : Fr lo hi M M2) (hd : c + 10 ≤ lo ∨ hi ≤ c) : VC c v M2 :=
  ⟨fun k hk => (hF.i (by omega)).trans (h.1 k hk), fun p k hp hk => (hF.i (by omega)).trans (h.2 p k hp hk)⟩
theorem VC.eqs {c : Nat} {v : CV} {M M2 : Mm} (h : VC c v M) (hF : ∀ x, c ≤ x → x < c + 10 → M2.1 x = M.1 x) : VC c v M2 :=
  ⟨fun k hk => by rw [hF c (by omega) (by omega)]; exact h.1 k hk, fun p k hp hk => by rw [hF (c + 2 + p) (by omega) (by omega)]; exact h.2 p k hp hk⟩
theorem VM.eqs {b : Nat} {v : CV} {M M2 : Mm} (h : VM b v M) (h0 : ∀ y, y = 9 ∨ y = 10 ∨ y = 17 ∨ y = 18 → M2.1 b y = M.1 b y) (hF : ∀ x, b + 17 ≤ x → x < b + 23 → M2.1 x = M.1 x) : VM b v M2 := by
  refine ⟨⟨(h0 9 (by omega)).trans h.d, (h0 10 (by omega)).trans h.n, ?_, ?_, ?_, (h0 17 (by omega)).trans h.di, (h0 18 (by omega)).trans h.se⟩, fun p hp => ?_, fun p hp => ?_, fun p hp => ?_, fun p hp => ?_, fun p hp => ?_⟩
  · rw [hF _ (by omega) (by omega)]; exact h.ho
  · rw [hF _ (by omega) (by omega)]; exact h.le
  · rw [hF _ (by omega) (by omega)]; exact h.lo
  · rw [hF _ (by omega) (by omega)]; exact h.p0 hp
  · rw [hF _ (by omega) (by omega)]; exact h.p1 hp
  · rw [hF _ (by omega) (by omega)]; exact h.p2 hp
  · rw [hF _ (by omega) (by omega)]; exact h.p3 hp
  · rw [hF _ (by omega) (by omega)]; exact h.p4 hp
/-- the component's value stands where only other places were written -/
theorem RC.eqs {a : AB} {M M2 : Mm} (h : RC a M) (h0 : ∀ x, (x < 21 ∨ x = 39 ∨ 52 ≤ x ∧ x < 69) → M2.1 x = M.1 x ∧ M2.2.1 x = M.2.1 x) (h1 : M2.1 38 1 = M.1 38 1) : RC a M2 := by
  obtain ⟨hv, hk, hs, ht, hr⟩ := h
  refine ⟨hv.eqs fun x h1 h2 => (h0 x (by omega)).1, ⟨fun q => ?_, fun w q => ⟨?_, (hk.2 w q).2.eqs fun x h1 h2 => (h0 x (by omega)).1⟩⟩, fun s h8 => ⟨?_, ?_, fun i hi => ?_⟩, ⟨h1.trans ht.1, fun i hi => ?_⟩, fun i hi => ?_⟩
  · rw [(h0 0 (by omega)).1]; exact hk.1 q
  · rw [(h0 0 (by omega)).1]; exact (hk.2 w q).1
  · rw [(h0 _ (by omega)).1]; exact (hs s h8).1
  · rw [(h0 _ (by omega)).1]; exact (hs s h8).2.1
  · rw [(h0 _ (by omega)).2]; exact (hs s h8).2.2 i hi
  · rw [(h0 _ (by omega)).1]; exact ht.2 i hi
  · rw [(h0 _ (by omega)).1]; exact hr i hi
theorem RC.fr {a : AB} {M M2 : Mm} {lo hi : Nat} (h : RC a M) (hF : Fr lo hi M M2) (hd : (21 ≤ lo ∧ hi ≤ 38) ∨ (40 ≤ lo ∧ hi ≤ 52) ∨ 69 ≤ lo) : RC a M2 := h.eqs (fun x hx => hF.1 x (by omega)) (hF.i (by omega))
/-- the model's scratch -/
def scrM (x y : Nat) : Prop := (x = 69 ∧ ((21 ≤ y ∧ y ≤ 27) ∨ 31 ≤ y)) ∨ (92 ≤ x ∧ x < 106)
def ScM (M M2 : Mm) : Prop := (∀ x y, ¬ scrM x y → M2.1 x y = M.1 x y) ∧ (∀ x, x ≠ 82 → M2.2.1 x = M.2.1 x) ∧ M2.2.2 = M.2.2
theorem ScM.rf {M : Mm} : ScM M M := ⟨fun _ _ _ => rfl, fun _ _ => rfl, rfl⟩
theorem ScM.tr {M M2 M3 : Mm} (h1 : ScM M M2) (h2 : ScM M2 M3) : ScM M M3 := ⟨fun x y h => (h2.1 x y h).trans (h1.1 x y h), fun x h => (h2.2.1 x h).trans (h1.2.1 x h), h2.2.2.trans h1.2.2⟩
theorem ScM.wI {M : Mm} {a k : Nat} {v : Int32} (h : scrM a k) : ScM M (wI M a k v) := ⟨fun x y hn => by
  rw [wI_r, if_neg]
  rintro ⟨rfl, rfl⟩
  exact hn h, fun _ _ => rfl, rfl⟩
theorem ScM.x {M M2 : Mm} (h : ScM M M2) {x : Nat} (hx : x < 92 ∨ 106 ≤ x) (h9 : x ≠ 69) : M2.1 x = M.1 x := by
  funext y
  exact h.1 x y (by unfold scrM; omega)
theorem ScM.fr {M M2 : Mm} (h : ScM M M2) : FrM M M2 := fun x hx => ⟨h.x (by omega) (by omega), h.2.1 x (by omega)⟩
theorem VM.sc {v : CV} {M M2 : Mm} (h : VM 69 v M) (hF : ScM M M2) : VM 69 v M2 := h.eqs (fun y hy => hF.1 69 y (by unfold scrM; omega)) (fun x h1 h2 => hF.x (by omega) (by omega))
theorem RM.sc {a : AB} {M M2 : Mm} (h : RM a M) (hF : ScM M M2) : RM a M2 := by
  obtain ⟨hv, hk, hs, ht, hr⟩ := h
  refine ⟨hv.sc hF, ⟨fun q => by rw [hF.2.2]; exact hk.1 q, fun w q => ?_⟩, fun s h8 => ?_, ⟨(hF.1 69 7 (by unfold scrM; omega)).trans ht.1, fun i hi => ?_⟩, fun i hi => ?_⟩
  · rw [hF.2.2]
    obtain ⟨k1, k2, k3⟩ := hk.2 w q
    exact ⟨k1, k2, k3.eqs (fun y hy => by rw [hF.x (by omega) (by omega)]) (fun x h1 h2 => hF.x (by omega) (by omega))⟩
  · unfold SM
    rw [hF.x (by omega) (by omega), hF.x (by omega) (by omega), hF.x (by omega) (by omega), hF.x (x := 83) (by omega) (by omega), hF.2.1 (74 + s) (by omega)]
    exact hs s h8
  · rw [hF.x (by omega) (by omega)]; exact ht.2 i hi
  · rw [hF.x (by omega) (by omega)]; exact hr i hi
/-- a call's answer and world, as the specification has it -/
def OKC (x : Option (Mm × Int32)) (M : Mm) (q : AB × Int32) : Prop := ∃ M2, x = some (M2, q.2) ∧ RC q.1 M2 ∧ FrC M M2
def OKM (x : Option (Mm × Int32)) (M : Mm) (q : AB × Int32) : Prop := ∃ M2, x = some (M2, q.2) ∧ RM q.1 M2 ∧ FrM M M2 ∧ M2.2.2 = M.2.2
theorem okC {a : AB} {M : Mm} {r : Int32} (h : RC a M) : OKC (some (M, r)) M (a, r) := ⟨M, rfl, h, Fr.rf⟩
theorem okM {a : AB} {M : Mm} {r : Int32} (h : RM a M) : OKM (some (M, r)) M (a, r) := ⟨M, rfl, h, FrM.rf, rfl⟩
theorem RC_rfu {a : AB} {M : Mm} (h : RC a M) {k : Nat} (hk : k < 5) : RC (rfu a k) (wI M 52 k (M.1 52 k + 1)) := by
  obtain ⟨hv, hk9, hs, ht, hr⟩ := h
  have e : ∀ x, x ≠ 52 → (wI M 52 k (M.1 52 k + 1)).1 x = M.1 x := fun x hx => wI_ne hx
  refine ⟨hv.eqs fun x h1 h2 => e x (by omega), ⟨fun q => ?_, fun w q => ⟨?_, (hk9.2 w q).2.eqs fun x h1 h2 => e x (by omega)⟩⟩, fun s h8 => ⟨?_, ?_, (hs s h8).2.2⟩, ⟨?_, fun i hi => ?_⟩, fun i hi => ?_⟩
  · rw [e 0 (by omega)]; exact hk9.1 q
  · rw [e 0 (by omega)]; exact (hk9.2 w q).1
  · rw [e _ (by omega)]; exact (hs s h8).1
  · rw [e _ (by omega)]; exact (hs s h8).2.1
  · rw [e _ (by omega)]; exact ht.1
  · rw [e _ (by omega)]; exact ht.2 i hi
  · show (wI M 52 k (M.1 52 k + 1)).1 52 i = upN (aR a) k (aR a k + 1) i
    rw [wI_r]
    by_cases q : i = k
    · subst q; rw [if_pos ⟨rfl, rfl⟩, upN_eq, hr i hi]
    · rw [if_neg (fun z => q z.2), upN_ne _ _ q]; exact hr i hi
theorem C_refuse {a : AB} {M : Mm} (h : RC a M) {k : Nat} (hk : k < 5) {x : Int32} (hx : (-2) - x = nI k) : f_X7_refuse x M = some (wI M 52 k (M.1 52 k + 1), x) := by
  unfold f_X7_refuse
  rw [hx]
  have h1 : (0 : Int32) ≤ nI k ∧ nI k ≤ 4 := ⟨nI_pos' (by omega), nI_le (b := 4) (by omega) (by decide)⟩
  simp (disch := omega) only [bi, within_ok, Option.bind_some, if_pos h1, chk_ok, bm, tn_nI]
  rw [if_neg (by decide)]
theorem C_ref {a : AB} {M : Mm} (h : RC a M) {k : Nat} (hk : k < 5) {x : Int32} (hx : (-2) - x = nI k) : OKC ((f_X7_refuse x M).bind fun q => some (q.1, q.2)) M (rfu a k, x) := by
  rw [C_refuse h hk hx]
  exact ⟨_, rfl, RC_rfu h hk, Fr.wI (by omega) (by omega)⟩
theorem C_bad {a : AB} {M : Mm} (h : RC a M) : OKC ((f_X7_refuse (-2) M).bind fun q => some (q.1, q.2)) M (bad a) := C_ref h (k := 0) (by decide) (by decide)
theorem C_oth {a : AB} {M : Mm} (h : RC a M) : OKC ((f_X7_refuse (-3) M).bind fun q => some (q.1, q.2)) M (oth a) := C_ref h (k := 1) (by decide) (by decide)
theorem C_nth {a : AB} {M : Mm} (h : RC a M) : OKC ((f_X7_refuse (-4) M).bind fun q => some (q.1, q.2)) M (nth a) := C_ref h (k := 2) (by decide) (by decide)
theorem C_stk {a : AB} {M : Mm} (h : RC a M) : OKC ((f_X7_refuse (-5) M).bind fun q => some (q.1, q.2)) M (stk a) := C_ref h (k := 3) (by decide) (by decide)
theorem C_ful {a : AB} {M : Mm} (h : RC a M) : OKC ((f_X7_refuse (-6) M).bind fun q => some (q.1, q.2)) M (ful a) := C_ref h (k := 4) (by decide) (by decide)
/-- the model's value stands where its state is as it was -/
theorem RM_rfu {a : AB} {M : Mm} (h : RM a M) {k : Nat} (hk : k < 5) : RM (rfu a k) (wI M 85 (2 + k) (M.1 85 (2 + k) + 1)) := by
  obtain ⟨hv, hk9, hs, ht, hr⟩ := h
  have e : ∀ x, x ≠ 85 → (wI M 85 (2 + k) (M.1 85 (2 + k) + 1)).1 x = M.1 x := fun x hx => wI_ne hx
  refine ⟨hv.eqs (fun y _ => by rw [e 69 (by omega)]) (fun x h1 h2 => e x (by omega)), ⟨hk9.1, fun w q => ?_⟩, fun s h8 => ?_, ⟨?_, fun i hi => ?_⟩, fun i hi => ?_⟩
  · obtain ⟨k1, k2, k3⟩ := hk9.2 w q
    exact ⟨k1, k2, k3.eqs (fun y hy => by rw [e _ (by omega)]) (fun x h1 h2 => e x (by omega))⟩
  · unfold SM
    rw [e 70 (by omega), e 71 (by omega), e 72 (by omega), e 83 (by omega)]
    exact hs s h8
  · rw [e _ (by omega)]; exact ht.1
  · rw [e _ (by omega)]; exact ht.2 i hi
  · show (wI M 85 (2 + k) (M.1 85 (2 + k) + 1)).1 85 (2 + i) = upN (aR a) k (aR a k + 1) i
    rw [wI_r]
    by_cases q : i = k
    · subst q; rw [if_pos ⟨rfl, rfl⟩, upN_eq, hr i hi]
    · rw [if_neg (fun z => q (by omega)), upN_ne _ _ q]; exact hr i hi
theorem M_refuse (M : Mm) {k : Nat} (hk : k < 5) {x : Int32} (hx : -x = nI (2 + k)) : f_X8_refuse 69 x M = some (wI M 85 (2 + k) (M.1 85 (2 + k) + 1), x) := by
  unfold f_X8_refuse
  rw [hx]
  simp (disch := omega) only [bi, Option.bind_some, chk_ok, bm, tn_nI]
theorem M_ref {a : AB} {M : Mm} (h : RM a M) {k : Nat} (hk : k < 5) {x : Int32} (hx : -x = nI (2 + k)) : OKM ((f_X8_refuse 69 x M).bind fun q => some (q.1, q.2)) M (rfu a k, x) := by
  rw [M_refuse M hk hx]
  exact ⟨_, rfl, RM_rfu h hk, FrM.wI (by omega), rfl⟩
theorem M_bad {a : AB} {M : Mm} (h : RM a M) : OKM ((f_X8_refuse 69 (-2) M).bind fun q => some (q.1, q.2)) M (bad a) := M_ref h (k := 0) (by decide) (by decide)
theorem M_oth {a : AB} {M : Mm} (h : RM a M) : OKM ((f_X8_refuse 69 (-3) M).bind fun q => some (q.1, q.2)) M (oth a) := M_ref h (k := 1) (by decide) (by decide)
theorem M_nth {a : AB} {M : Mm} (h : RM a M) : OKM ((f_X8_refuse 69 (-4) M).bind fun q => some (q.1, q.2)) M (nth a) := M_ref h (k := 2) (by decide) (by decide)
theorem M_stk {a : AB} {M : Mm} (h : RM a M) : OKM ((f_X8_refuse 69 (-5) M).bind fun q => some (q.1, q.2)) M (stk a) := M_ref h (k := 3) (by decide) (by decide)
theorem M_ful {a : AB} {M : Mm} (h : RM a M) : OKM ((f_X8_refuse 69 (-6) M).bind fun q => some (q.1, q.2)) M (ful a) := M_ref h (k := 4) (by decide) (by decide)
