/-! writes of a circle -/
theorem wI_on {M : Mm} {a k : Nat} {v : Int32} : (wI M a k v).1 a k = v := if_pos ⟨rfl, rfl⟩
theorem wI_off {M : Mm} {a k : Nat} {v : Int32} {x y : Nat} (h : x ≠ a ∨ y ≠ k) : (wI M a k v).1 x y = M.1 x y := if_neg (fun z => h.elim (fun q => q z.1) (fun q => q z.2))
theorem uS_on {v : CV} {k : Nat} {x : Int32} : (uS v k x).1 k = x := if_pos rfl
theorem uS_off {v : CV} {k j : Nat} {x : Int32} (h : j ≠ k) : (uS v k x).1 j = v.1 j := if_neg h
theorem uP_on {v : CV} {p k : Nat} {x : Int32} : (uP v p k x).2 p k = x := if_pos ⟨rfl, rfl⟩
theorem uP_off {v : CV} {p k q j : Nat} {x : Int32} (h : q ≠ p ∨ j ≠ k) : (uP v p k x).2 q j = v.2 q j := if_neg (fun z => h.elim (fun w => w z.1) (fun w => w z.2))
theorem VC.uS {c : Nat} {v : CV} {M : Mm} (h : VC c v M) (k : Nat) (x : Int32) : VC c (uS v k x) (wI M c k x) := by
  refine ⟨fun j hj => ?_, fun p j hp hj => (wI_off (by omega)).trans (h.2 p j hp hj)⟩
  by_cases q : j = k
  · subst q; rw [wI_on, uS_on]
  · rw [wI_off (Or.inr q), uS_off q]; exact h.1 j hj
theorem VC.uP {c : Nat} {v : CV} {M : Mm} (h : VC c v M) (p k : Nat) (x : Int32) : VC c (uP v p k x) (wI M (c + 2 + p) k x) := by
  refine ⟨fun j hj => (wI_off (by omega)).trans (h.1 j hj), fun q j hq hj => ?_⟩
  by_cases z : q = p ∧ j = k
  · obtain ⟨rfl, rfl⟩ := z; rw [wI_on, uP_on]
  · rw [wI_off (by omega), uP_off (by omega)]; exact h.2 q j hq hj
theorem VM.s0 {b : Nat} {v : CV} {M : Mm} (h : VM b v M) (x : Int32) : VM b (uS v 0 x) (wI M b 9 x) := ⟨⟨wI_on, (wI_off (by omega)).trans h.n, (wI_off (by omega)).trans h.ho, (wI_off (by omega)).trans h.le, (wI_off (by omega)).trans h.lo, (wI_off (by omega)).trans h.di, (wI_off (by omega)).trans h.se⟩, fun p hp => (wI_off (by omega)).trans (h.p0 hp), fun p hp => (wI_off (by omega)).trans (h.p1 hp), fun p hp => (wI_off (by omega)).trans (h.p2 hp), fun p hp => (wI_off (by omega)).trans (h.p3 hp), fun p hp => (wI_off (by omega)).trans (h.p4 hp)⟩
theorem VM.s1 {b : Nat} {v : CV} {M : Mm} (h : VM b v M) (x : Int32) : VM b (uS v 1 x) (wI M b 10 x) := ⟨⟨(wI_off (by omega)).trans h.d, wI_on, (wI_off (by omega)).trans h.ho, (wI_off (by omega)).trans h.le, (wI_off (by omega)).trans h.lo, (wI_off (by omega)).trans h.di, (wI_off (by omega)).trans h.se⟩, fun p hp => (wI_off (by omega)).trans (h.p0 hp), fun p hp => (wI_off (by omega)).trans (h.p1 hp), fun p hp => (wI_off (by omega)).trans (h.p2 hp), fun p hp => (wI_off (by omega)).trans (h.p3 hp), fun p hp => (wI_off (by omega)).trans (h.p4 hp)⟩
theorem VM.s2 {b : Nat} {v : CV} {M : Mm} (h : VM b v M) (x : Int32) : VM b (uS v 2 x) (wI M (b + 22) 0 x) := ⟨⟨(wI_off (by omega)).trans h.d, (wI_off (by omega)).trans h.n, wI_on, (wI_off (by omega)).trans h.le, (wI_off (by omega)).trans h.lo, (wI_off (by omega)).trans h.di, (wI_off (by omega)).trans h.se⟩, fun p hp => (wI_off (by omega)).trans (h.p0 hp), fun p hp => (wI_off (by omega)).trans (h.p1 hp), fun p hp => (wI_off (by omega)).trans (h.p2 hp), fun p hp => (wI_off (by omega)).trans (h.p3 hp), fun p hp => (wI_off (by omega)).trans (h.p4 hp)⟩
theorem VM.s3 {b : Nat} {v : CV} {M : Mm} (h : VM b v M) (x : Int32) : VM b (uS v 3 x) (wI M (b + 22) 1 x) := ⟨⟨(wI_off (by omega)).trans h.d, (wI_off (by omega)).trans h.n, (wI_off (by omega)).trans h.ho, wI_on, (wI_off (by omega)).trans h.lo, (wI_off (by omega)).trans h.di, (wI_off (by omega)).trans h.se⟩, fun p hp => (wI_off (by omega)).trans (h.p0 hp), fun p hp => (wI_off (by omega)).trans (h.p1 hp), fun p hp => (wI_off (by omega)).trans (h.p2 hp), fun p hp => (wI_off (by omega)).trans (h.p3 hp), fun p hp => (wI_off (by omega)).trans (h.p4 hp)⟩
theorem VM.s4 {b : Nat} {v : CV} {M : Mm} (h : VM b v M) (x : Int32) : VM b (uS v 4 x) (wI M (b + 22) 2 x) := ⟨⟨(wI_off (by omega)).trans h.d, (wI_off (by omega)).trans h.n, (wI_off (by omega)).trans h.ho, (wI_off (by omega)).trans h.le, wI_on, (wI_off (by omega)).trans h.di, (wI_off (by omega)).trans h.se⟩, fun p hp => (wI_off (by omega)).trans (h.p0 hp), fun p hp => (wI_off (by omega)).trans (h.p1 hp), fun p hp => (wI_off (by omega)).trans (h.p2 hp), fun p hp => (wI_off (by omega)).trans (h.p3 hp), fun p hp => (wI_off (by omega)).trans (h.p4 hp)⟩
theorem VM.s5 {b : Nat} {v : CV} {M : Mm} (h : VM b v M) (x : Int32) : VM b (uS v 5 x) (wI M b 17 x) := ⟨⟨(wI_off (by omega)).trans h.d, (wI_off (by omega)).trans h.n, (wI_off (by omega)).trans h.ho, (wI_off (by omega)).trans h.le, (wI_off (by omega)).trans h.lo, wI_on, (wI_off (by omega)).trans h.se⟩, fun p hp => (wI_off (by omega)).trans (h.p0 hp), fun p hp => (wI_off (by omega)).trans (h.p1 hp), fun p hp => (wI_off (by omega)).trans (h.p2 hp), fun p hp => (wI_off (by omega)).trans (h.p3 hp), fun p hp => (wI_off (by omega)).trans (h.p4 hp)⟩
theorem VM.s6 {b : Nat} {v : CV} {M : Mm} (h : VM b v M) (x : Int32) : VM b (uS v 6 x) (wI M b 18 x) := ⟨⟨(wI_off (by omega)).trans h.d, (wI_off (by omega)).trans h.n, (wI_off (by omega)).trans h.ho, (wI_off (by omega)).trans h.le, (wI_off (by omega)).trans h.lo, (wI_off (by omega)).trans h.di, wI_on⟩, fun p hp => (wI_off (by omega)).trans (h.p0 hp), fun p hp => (wI_off (by omega)).trans (h.p1 hp), fun p hp => (wI_off (by omega)).trans (h.p2 hp), fun p hp => (wI_off (by omega)).trans (h.p3 hp), fun p hp => (wI_off (by omega)).trans (h.p4 hp)⟩
theorem VM.u0 {b : Nat} {v : CV} {M : Mm} (h : VM b v M) (p : Nat) (x : Int32) : VM b (uP v p 0 x) (wI M (b + 17) p x) := ⟨⟨(wI_off (by omega)).trans h.d, (wI_off (by omega)).trans h.n, (wI_off (by omega)).trans h.ho, (wI_off (by omega)).trans h.le, (wI_off (by omega)).trans h.lo, (wI_off (by omega)).trans h.di, (wI_off (by omega)).trans h.se⟩, fun q hq => by
    by_cases z : q = p
    · subst z; rw [wI_on, uP_on]
    · rw [wI_off (by omega), uP_off (by omega)]; exact h.p0 hq, fun q hq => (wI_off (by omega)).trans ((h.p1 hq).trans (uP_off (by omega)).symm), fun q hq => (wI_off (by omega)).trans ((h.p2 hq).trans (uP_off (by omega)).symm), fun q hq => (wI_off (by omega)).trans ((h.p3 hq).trans (uP_off (by omega)).symm), fun q hq => (wI_off (by omega)).trans ((h.p4 hq).trans (uP_off (by omega)).symm)⟩
theorem VM.u1 {b : Nat} {v : CV} {M : Mm} (h : VM b v M) (p : Nat) (x : Int32) : VM b (uP v p 1 x) (wI M (b + 18) p x) := ⟨⟨(wI_off (by omega)).trans h.d, (wI_off (by omega)).trans h.n, (wI_off (by omega)).trans h.ho, (wI_off (by omega)).trans h.le, (wI_off (by omega)).trans h.lo, (wI_off (by omega)).trans h.di, (wI_off (by omega)).trans h.se⟩, fun q hq => (wI_off (by omega)).trans ((h.p0 hq).trans (uP_off (by omega)).symm), fun q hq => by
    by_cases z : q = p
    · subst z; rw [wI_on, uP_on]
    · rw [wI_off (by omega), uP_off (by omega)]; exact h.p1 hq, fun q hq => (wI_off (by omega)).trans ((h.p2 hq).trans (uP_off (by omega)).symm), fun q hq => (wI_off (by omega)).trans ((h.p3 hq).trans (uP_off (by omega)).symm), fun q hq => (wI_off (by omega)).trans ((h.p4 hq).trans (uP_off (by omega)).symm)⟩
theorem VM.u2 {b : Nat} {v : CV} {M : Mm} (h : VM b v M) (p : Nat) (x : Int32) : VM b (uP v p 2 x) (wI M (b + 19) p x) := ⟨⟨(wI_off (by omega)).trans h.d, (wI_off (by omega)).trans h.n, (wI_off (by omega)).trans h.ho, (wI_off (by omega)).trans h.le, (wI_off (by omega)).trans h.lo, (wI_off (by omega)).trans h.di, (wI_off (by omega)).trans h.se⟩, fun q hq => (wI_off (by omega)).trans ((h.p0 hq).trans (uP_off (by omega)).symm), fun q hq => (wI_off (by omega)).trans ((h.p1 hq).trans (uP_off (by omega)).symm), fun q hq => by
    by_cases z : q = p
    · subst z; rw [wI_on, uP_on]
    · rw [wI_off (by omega), uP_off (by omega)]; exact h.p2 hq, fun q hq => (wI_off (by omega)).trans ((h.p3 hq).trans (uP_off (by omega)).symm), fun q hq => (wI_off (by omega)).trans ((h.p4 hq).trans (uP_off (by omega)).symm)⟩
theorem VM.u3 {b : Nat} {v : CV} {M : Mm} (h : VM b v M) (p : Nat) (x : Int32) : VM b (uP v p 3 x) (wI M (b + 20) p x) := ⟨⟨(wI_off (by omega)).trans h.d, (wI_off (by omega)).trans h.n, (wI_off (by omega)).trans h.ho, (wI_off (by omega)).trans h.le, (wI_off (by omega)).trans h.lo, (wI_off (by omega)).trans h.di, (wI_off (by omega)).trans h.se⟩, fun q hq => (wI_off (by omega)).trans ((h.p0 hq).trans (uP_off (by omega)).symm), fun q hq => (wI_off (by omega)).trans ((h.p1 hq).trans (uP_off (by omega)).symm), fun q hq => (wI_off (by omega)).trans ((h.p2 hq).trans (uP_off (by omega)).symm), fun q hq => by
    by_cases z : q = p
    · subst z; rw [wI_on, uP_on]
    · rw [wI_off (by omega), uP_off (by omega)]; exact h.p3 hq, fun q hq => (wI_off (by omega)).trans ((h.p4 hq).trans (uP_off (by omega)).symm)⟩
theorem VM.u4 {b : Nat} {v : CV} {M : Mm} (h : VM b v M) (p : Nat) (x : Int32) : VM b (uP v p 4 x) (wI M (b + 21) p x) := ⟨⟨(wI_off (by omega)).trans h.d, (wI_off (by omega)).trans h.n, (wI_off (by omega)).trans h.ho, (wI_off (by omega)).trans h.le, (wI_off (by omega)).trans h.lo, (wI_off (by omega)).trans h.di, (wI_off (by omega)).trans h.se⟩, fun q hq => (wI_off (by omega)).trans ((h.p0 hq).trans (uP_off (by omega)).symm), fun q hq => (wI_off (by omega)).trans ((h.p1 hq).trans (uP_off (by omega)).symm), fun q hq => (wI_off (by omega)).trans ((h.p2 hq).trans (uP_off (by omega)).symm), fun q hq => (wI_off (by omega)).trans ((h.p3 hq).trans (uP_off (by omega)).symm), fun q hq => by
    by_cases z : q = p
    · subst z; rw [wI_on, uP_on]
    · rw [wI_off (by omega), uP_off (by omega)]; exact h.p4 hq⟩
/-- the model's circle's own cells -/
def stV (b x y : Nat) : Prop := (x = b ∧ (y = 9 ∨ y = 10 ∨ y = 17 ∨ y = 18)) ∨ (b + 17 ≤ x ∧ x < b + 23)
def FrV (b : Nat) (M M2 : Mm) : Prop := (∀ x y, ¬ stV b x y → M2.1 x y = M.1 x y) ∧ M2.2 = M.2
theorem FrV.rf {b : Nat} {M : Mm} : FrV b M M := ⟨fun _ _ _ => rfl, rfl⟩
theorem FrV.tr {b : Nat} {M M2 M3 : Mm} (h1 : FrV b M M2) (h2 : FrV b M2 M3) : FrV b M M3 := ⟨fun x y h => (h2.1 x y h).trans (h1.1 x y h), h2.2.trans h1.2⟩
theorem FrV.wI {b : Nat} {M : Mm} {a k : Nat} {v : Int32} (h : stV b a k) : FrV b M (wI M a k v) := ⟨fun x y hn => wI_off (by
  by_cases q : x = a
  · refine Or.inr fun z => hn ?_
    rw [q, z]; exact h
  · exact Or.inl q), rfl⟩
theorem FrV.m {M M2 : Mm} (h : FrV 69 M M2) : FrM M M2 := fun x hx => ⟨funext fun y => h.1 x y (by unfold stV; omega), by rw [h.2]⟩
theorem RC_setV {a : AB} {M M2 : Mm} {v : CV} (h : RC a M) (hV : VC 1 v M2) (hF : Fr 1 11 M M2) : RC (setV a v) M2 := by
  obtain ⟨hv, hk, hs, ht, hr⟩ := h
  refine ⟨hV, ⟨fun q => ?_, fun w q => ⟨?_, (hk.2 w q).2.fr hF (by omega)⟩⟩, fun s h8 => ⟨?_, ?_, fun i hi => ?_⟩, ⟨?_, fun i hi => ?_⟩, fun i hi => ?_⟩
  · rw [hF.i (by omega)]; exact hk.1 q
  · rw [hF.i (by omega)]; exact (hk.2 w q).1
  · rw [hF.i (by omega)]; exact (hs s h8).1
  · rw [hF.i (by omega)]; exact (hs s h8).2.1
  · rw [hF.j (by omega)]; exact (hs s h8).2.2 i hi
  · rw [hF.i (by omega)]; exact ht.1
  · rw [hF.i (by omega)]; exact ht.2 i hi
  · rw [hF.i (by omega)]; exact hr i hi
theorem RM_setV {a : AB} {M M2 : Mm} {v : CV} (h : RM a M) (hV : VM 69 v M2) (hF : FrV 69 M M2) : RM (setV a v) M2 := by
  obtain ⟨hv, hk, hs, ht, hr⟩ := h
  have e : ∀ x, x ≠ 69 → (x < 86 ∨ 92 ≤ x) → M2.1 x = M.1 x := fun x h1 h2 => funext fun y => hF.1 x y (by unfold stV; omega)
  refine ⟨hV, ⟨fun q => by rw [hF.2]; exact hk.1 q, fun w q => ?_⟩, fun s h8 => ?_, ⟨(hF.1 69 7 (by unfold stV; omega)).trans ht.1, fun i hi => ?_⟩, fun i hi => ?_⟩
  · rw [hF.2]
    obtain ⟨k1, k2, k3⟩ := hk.2 w q
    exact ⟨k1, k2, k3.eqs (fun y hy => by rw [e _ (by omega) (by omega)]) (fun x h1 h2 => e x (by omega) (by omega))⟩
  · unfold SM
    rw [e 70 (by omega) (by omega), e 71 (by omega) (by omega), e 72 (by omega) (by omega), e 83 (by omega) (by omega), hF.2]
    exact hs s h8
  · rw [e _ (by omega) (by omega)]; exact ht.2 i hi
  · rw [e _ (by omega) (by omega)]; exact hr i hi
theorem OKC.v {a : AB} {M M2 : Mm} {v : CV} {r : Int32} (h : RC a M) (hV : VC 1 v M2) (hF : Fr 1 11 M M2) : OKC (some (M2, r)) M (setV a v, r) := ⟨M2, rfl, RC_setV h hV hF, hF.wide (by omega) (by omega)⟩
theorem OKM.v {a : AB} {M M2 : Mm} {v : CV} {r : Int32} (h : RM a M) (hV : VM 69 v M2) (hF : FrV 69 M M2) : OKM (some (M2, r)) M (setV a v, r) := ⟨M2, rfl, RM_setV h hV hF, hF.m, by rw [hF.2]⟩
/-! small writes -/
def oSeed (a : AB) (x : Int32) : AB × Int32 := (setV a (uS a.1 6 x), a.1.1 6)
def oOut (a : AB) (p x : Int32) : AB × Int32 := if inN p (pN a.1) then (if inN x 100 then (setV a (uP a.1 (tn p) 4 x), a.1.2 (tn p) 4) else bad a) else bad a
def oClear (a : AB) (p : Int32) : AB × Int32 := if inN p (pN a.1) then (setV a (uP a.1 (tn p) 3 0), bc (a.1.2 (tn p) 3)) else bad a
def fBit (f d z : Int32) : Int32 := if z = 0 then f &&& ((1 <<< (d &&& 31)) ^^^ (-1)) else f ||| (1 <<< (d &&& 31))
def oFree (a : AB) (p d z : Int32) : AB × Int32 := if inN p (pN a.1) then (if inN d (dN a.1) then (setV a (uP a.1 (tn p) 3 (fBit (a.1.2 (tn p) 3) d z)), if hb (a.1.2 (tn p) 3) d then 1 else 0) else bad a) else bad a
def oAsk (a : AB) (w x : Int32) : AB × Int32 := if w = 0 then (if inN x (pN a.1) then (setV a (uS a.1 2 x), a.1.1 2) else bad a) else if w = 1 then (if 1 ≤ x ∧ x ≤ 8 then (setV a (uS a.1 3 x), a.1.1 3) else bad a) else if w = 2 then (if inN x 13 then (setV a (uS a.1 4 x), a.1.1 4) else bad a) else bad a
section O2
variable {a : AB} {M : Mm}
theorem X7_seed (h : RC a M) (x : Int32) : OKC (f_X7_seed x M) M (oSeed a x) := by
  unfold f_X7_seed oSeed
  simp only [bi, bm]
  rw [h.1.1 6 (by decide)]
  exact OKC.v h (h.1.uS 6 x) (Fr.wI (by omega) (by omega))
theorem X8_seed (h : RM a M) (x : Int32) : OKM (f_X8_seed 69 x M) M (oSeed a x) := by
  unfold f_X8_seed oSeed
  simp only [bi, bm]
  rw [h.1.se]
  exact OKM.v h (h.1.s6 x) (FrV.wI (by unfold stV; omega))
theorem X7_out (h : RC a M) (hW : WA a) (p x : Int32) : OKC (f_X7_out p x M) M (oOut a p x) := by
  have h2 := hW.1.n9
  unfold f_X7_out oOut
  rw [C_hasPerson h.1 hW.1, wi_100]
  by_cases q : inN p (pN a.1)
  · by_cases q2 : inN x 100
    · obtain ⟨k, hk, rfl⟩ := inN_k (by omega) q
      simp (disch := omega) only [if_pos q, if_pos q2, Option.bind_some, i10, if_false, chk_ok, bi, bm, tn_nI, VC3 h.1]
      exact OKC.v h (h.1.uP k 4 x) (Fr.wI (by omega) (by omega))
    · simp only [if_pos q, if_neg q2, Option.bind_some, i10, if_false, if_true]; exact C_bad h
  · simp only [if_neg q, Option.bind_some, if_true]; exact C_bad h
theorem X8_out (h : RM a M) (hW : WA a) (p x : Int32) : OKM (f_X8_out 69 p x M) M (oOut a p x) := by
  have h2 := hW.1.n9
  unfold f_X8_out oOut
  rw [M_isOne h.1 hW.1, in0_100]
  by_cases q : inN p (pN a.1)
  · by_cases q2 : inN x 100
    · obtain ⟨k, hk, rfl⟩ := inN_k (by omega) q
      simp (disch := omega) only [if_pos q, if_pos q2, Option.bind_some, i10, if_false, chk_ok, bi, bm, tn_nI, h.1.p4]
      exact OKM.v h (h.1.u4 k x) (FrV.wI (by unfold stV; omega))
    · simp only [if_pos q, if_neg q2, Option.bind_some, i10, if_false, if_true]; exact M_bad h
  · simp only [if_neg q, Option.bind_some, if_true]; exact M_bad h
theorem X7_clear (h : RC a M) (hW : WA a) (p : Int32) : OKC (f_X7_clear p M) M (oClear a p) := by
  have h2 := hW.1.n9
  unfold f_X7_clear oClear
  rw [C_hasPerson h.1 hW.1]
  by_cases q : inN p (pN a.1)
  · obtain ⟨k, hk, rfl⟩ := inN_k (by omega) q
    simp (disch := omega) only [if_pos q, Option.bind_some, i10, if_false, chk_ok, bm, tn_nI, VC3 h.1, bc_ok]
    exact OKC.v h (h.1.uP k 3 0) (Fr.wI (by omega) (by omega))
  · simp only [if_neg q, Option.bind_some, if_true]; exact C_bad h
theorem X8_clear (h : RM a M) (hW : WA a) (p : Int32) : OKM (f_X8_clear 69 p M) M (oClear a p) := by
  have h2 := hW.1.n9
  unfold f_X8_clear oClear
  rw [M_isOne h.1 hW.1]
  by_cases q : inN p (pN a.1)
  · obtain ⟨k, hk, rfl⟩ := inN_k (by omega) q
    simp (disch := omega) only [if_pos q, Option.bind_some, i10, if_false, chk_ok, bm, tn_nI, h.1.p3, bits_ok (hW.1.f (p := k) (by omega))]
    exact OKM.v h (h.1.u3 k 0) (FrV.wI (by unfold stV; omega))
  · simp only [if_neg q, Option.bind_some, if_true]; exact M_bad h
theorem changeFree_ok (o : Nat) (d z : Int32) (M : Mm) : f_X2_changeFree o d z M = some (wI M o 3 (fBit (M.1 o 3) d z)) := by
  unfold f_X2_changeFree fBit
  by_cases h : z = 0
  · rw [if_pos h, if_pos h]; rfl
  · rw [if_neg h, if_neg h]; rfl
theorem frees_ok {b : Nat} {v : CV} (hV : VM b v M) {p : Nat} (hp : p < 8) (d z : Int32) : f_X8_frees b (nI p) d z M = some (wI M (b + 20) p (fBit (v.2 p 3) d z)) := by
  unfold f_X8_frees fBit
  by_cases h : z = 0
  · simp (disch := omega) only [if_pos h, chk_ok, bm, tn_nI, hV.p3]
  · simp (disch := omega) only [if_neg h, chk_ok, bm, tn_nI, hV.p3]
theorem X7_free (h : RC a M) (hW : WA a) (p d z : Int32) : OKC (f_X7_free p d z M) M (oFree a p d z) := by
  have h2 := hW.1.n9
  unfold f_X7_free oFree
  rw [C_hasPerson h.1 hW.1, C_hasDay h.1 hW.1]
  by_cases q : inN p (pN a.1)
  · by_cases q2 : inN d (dN a.1)
    · obtain ⟨k, hk, rfl⟩ := inN_k (by omega) q
      simp (disch := omega) only [if_pos q, if_pos q2, Option.bind_some, i10, if_false, chk_ok, tn_nI, isFree_ok, changeFree_ok, VC3 h.1, ite01, ite_not]
      by_cases q3 : hb (a.1.2 k 3) d
      · simp only [if_pos q3]
        exact OKC.v h (h.1.uP k 3 _) (Fr.wI (by omega) (by omega))
      · simp only [if_neg q3]
        exact OKC.v h (h.1.uP k 3 _) (Fr.wI (by omega) (by omega))
    · simp only [if_pos q, if_neg q2, Option.bind_some, i10, if_false, if_true]; exact C_bad h
  · simp only [if_neg q, Option.bind_some, if_true]; exact C_bad h
theorem X8_free (h : RM a M) (hW : WA a) (p d z : Int32) : OKM (f_X8_free 69 p d z M) M (oFree a p d z) := by
  have h2 := hW.1.n9
  unfold f_X8_free oFree
  rw [M_isOne h.1 hW.1, M_isDay h.1 hW.1]
  by_cases q : inN p (pN a.1)
  · by_cases q2 : inN d (dN a.1)
    · obtain ⟨k, hk, rfl⟩ := inN_k (by omega) q
      have hk8 : k < 8 := by omega
      simp (disch := omega) only [if_pos q, if_pos q2, Option.bind_some, i10, if_false, tn_nI, M_isFree h.1 hk8, frees_ok h.1 hk8, ite01, ite_not]
      by_cases q3 : hb (a.1.2 k 3) d
      · simp only [if_pos q3]
        exact OKM.v h (h.1.u3 k _) (FrV.wI (by unfold stV; omega))
      · simp only [if_neg q3]
        exact OKM.v h (h.1.u3 k _) (FrV.wI (by unfold stV; omega))
    · simp only [if_pos q, if_neg q2, Option.bind_some, i10, if_false, if_true]; exact M_bad h
  · simp only [if_neg q, Option.bind_some, if_true]; exact M_bad h
theorem chk1_3 {α : Type} {X : Option α} : chk 1 3 X = X := chk_lt (by decide) (by decide)
theorem chk2_3 {α : Type} {X : Option α} : chk 2 3 X = X := chk_lt (by decide) (by decide)
theorem C_badb (h : RC a M) : OKC ((f_X7_refuse (-2) M).bind fun q => bi q.2 fun v => some (q.1, v)) M (bad a) := C_bad h
theorem X7_ask (h : RC a M) (hW : WA a) (w x : Int32) : OKC (f_X7_ask w x M) M (oAsk a w x) := by
  unfold f_X7_ask oAsk
  rw [C_hasPerson h.1 hW.1, within_ok, wi_13, h.1.1 2 (by decide), h.1.1 3 (by decide), h.1.1 4 (by decide)]
  by_cases e0 : w = 0
  · subst e0
    simp only [if_true, Option.bind_some, ite01, ite_not, show ((0 : Int32) = 1) = False from eq_false (by decide), show ((0 : Int32) = 2) = False from eq_false (by decide), if_false]
    by_cases q : inN x (pN a.1)
    · rw [if_pos q, if_pos q]
      exact OKC.v h (h.1.uS 2 x) (Fr.wI (by omega) (by omega))
    · rw [if_neg q, if_neg q]; exact C_badb h
  · rw [if_neg e0, if_neg e0]
    by_cases e1 : w = 1
    · subst e1
      simp only [if_true, Option.bind_some, ite01, ite_not, show ((1 : Int32) = 2) = False from eq_false (by decide), if_false]
      by_cases q : 1 ≤ x ∧ x ≤ 8
      · rw [if_pos q, if_pos q]
        exact OKC.v h (h.1.uS 3 x) (Fr.wI (by omega) (by omega))
      · rw [if_neg q, if_neg q]; exact C_badb h
    · rw [if_neg e1, if_neg e1]
      by_cases e2 : w = 2
      · subst e2
        simp only [if_true, Option.bind_some, ite01, ite_not]
        by_cases q : inN x 13
        · rw [if_pos q, if_pos q]
          exact OKC.v h (h.1.uS 4 x) (Fr.wI (by omega) (by omega))
        · rw [if_neg q, if_neg q]; exact C_badb h
      · rw [if_neg e2, if_neg e2]; exact C_badb h
theorem X8_ask (h : RM a M) (hW : WA a) (w x : Int32) : OKM (f_X8_ask 69 w x M) M (oAsk a w x) := by
  unfold f_X8_ask oAsk
  rw [M_isOne h.1 hW.1, show f_X8_in x.toInt64 1 8 = _ from in_ok32 x 1 8, in0_13]
  by_cases e0 : w = 0
  · subst e0
    simp only [if_true, Option.bind_some, ite01, ite_not]
    by_cases q : inN x (pN a.1)
    · rw [if_pos q, if_pos q, show (0 : Int32) = nI 0 from rfl]
      simp (disch := omega) only [chk_ok, tn_nI, bi, bm, h.1.ho]
      exact OKM.v h (h.1.s2 x) (FrV.wI (by unfold stV; omega))
    · rw [if_neg q, if_neg q]; exact M_bad h
  · rw [if_neg e0, if_neg e0]
    by_cases e1 : w = 1
    · subst e1
      simp only [if_true, Option.bind_some, ite01, ite_not]
      by_cases q : 1 ≤ x ∧ x ≤ 8
      · rw [if_pos q, if_pos q]
        have e : (1 : Int32).toNatClampNeg = 1 := by decide
        simp only [chk1_3, e, bi, bm, h.1.le]
        exact OKM.v h (h.1.s3 x) (FrV.wI (by unfold stV; omega))
      · rw [if_neg q, if_neg q]; exact M_bad h
    · rw [if_neg e1, if_neg e1]
      by_cases e2 : w = 2
      · subst e2
        simp only [if_true, Option.bind_some, ite01, ite_not]
        by_cases q : inN x 13
        · rw [if_pos q, if_pos q]
          have e : (2 : Int32).toNatClampNeg = 2 := by decide
          simp only [chk2_3, e, bi, bm, h.1.lo]
          exact OKM.v h (h.1.s4 x) (FrV.wI (by unfold stV; omega))
        · rw [if_neg q, if_neg q]; exact M_bad h
      · rw [if_neg e2, if_neg e2]; exact M_bad h
theorem X7_personOf (h : RC a M) (hW : WA a) (p w : Int32) : OKC (f_X7_personOf p w M) M (oPersonOf a p w) := by
  have h2 := hW.1.n9
  unfold f_X7_personOf oPersonOf
  rw [C_hasPerson h.1 hW.1]
  by_cases q : inN p (pN a.1)
  · obtain ⟨k, hk, rfl⟩ := inN_k (by omega) q
    simp (disch := omega) only [if_pos q, Option.bind_some, i10, if_false, chk_ok, tn_nI, VC3 h.1]
    repeat' split
    all_goals first | exact okC h | exact C_bad h
  · simp only [if_neg q, Option.bind_some, if_true]; exact C_bad h
theorem X8_personOf (h : RM a M) (hW : WA a) (p w : Int32) : OKM (f_X8_personOf 69 p w M) M (oPersonOf a p w) := by
  have h2 := hW.1.n9
  unfold f_X8_personOf oPersonOf
  rw [M_isOne h.1 hW.1]
  by_cases q : inN p (pN a.1)
  · obtain ⟨k, hk, rfl⟩ := inN_k (by omega) q
    simp (disch := omega) only [if_pos q, Option.bind_some, i10, if_false, chk_ok, tn_nI, h.1.p0, h.1.p1, h.1.p2, h.1.p3, h.1.p4]
    repeat' split
    all_goals first | exact okM h | exact M_bad h
  · simp only [if_neg q, Option.bind_some, if_true]; exact M_bad h
end O2
