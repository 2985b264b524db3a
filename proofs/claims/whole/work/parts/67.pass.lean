/-! bits counted -/
theorem cnt_shift (P : Nat → Bool) : ∀ k, cnt P (k + 1) = cnt (fun j => P (j + 1)) k + (if P 0 = true then 1 else 0) := by
  intro k
  induction k with
  | zero => show 0 + _ = 0 + _; rfl
  | succ k ih =>
    show cnt P (k + 1) + (if P (k + 1) = true then 1 else 0) = cnt (fun j => P (j + 1)) k + (if P (k + 1) = true then 1 else 0) + _
    rw [ih]; omega
theorem pcF_cnt : ∀ (k x : Nat), pcF k x = cnt (fun j => x.testBit j) k := by
  intro k
  induction k with
  | zero => intro x; rfl
  | succ k ih =>
    intro x
    rw [pcF_s, ih, cnt_shift]
    have h1 : (fun j => x.testBit (j + 1)) = fun j => (x / 2).testBit j := funext fun j => Nat.testBit_succ x j
    rw [h1, Nat.testBit_zero]
    congr 1
    rcases Nat.mod_two_eq_zero_or_one x with h | h <;> rw [h] <;> rfl
theorem bc_cnt {m : Nat} (h : m < 16384) : bc (nI m) = nI (cnt (fun j => m.testBit j) 14) := by
  rw [bc_pc h, ← pcF_cnt]; rfl
theorem cnt_cut (Q : Nat → Bool) (N : Nat) : ∀ t, cnt (fun j => decide (j < N) && Q j) (N + t) = cnt Q N := by
  intro t
  induction t with
  | zero => exact cnt_congr N fun i hi => by simp only [decide_eq_true hi, Bool.true_and]
  | succ t ih =>
    show cnt _ (N + t) + (if (decide (N + t < N) && Q (N + t)) = true then 1 else 0) = _
    rw [ih, decide_eq_false (show ¬ N + t < N by omega)]; rfl
theorem bc_mkS (Q : Nat → Bool) {N : Nat} (hN : N ≤ 14) : bc (mkS Q N) = nI (cnt Q N) := by
  obtain ⟨m, h1, h2, h3⟩ := mkS_spec Q N (by omega)
  have h4 : 2 ^ N ≤ 2 ^ 14 := Nat.pow_le_pow_right (by decide) hN
  rw [h1, bc_cnt (by omega)]
  have h5 : (fun j => m.testBit j) = fun j => decide (j < N) && Q j := funext h3
  rw [h5]
  have := cnt_cut Q N (14 - N)
  rw [show N + (14 - N) = 14 by omega] at this
  rw [this]
theorem mkS_ext {x : Int32} {Q : Nat → Bool} {N : Nat} (hN : N ≤ 14) (hx : sm x (2 ^ N)) (h : ∀ j, j < N → (hb x (nI j) ↔ Q j = true)) : x = mkS Q N := by
  obtain ⟨m, h1, h2, h3⟩ := mkS_spec Q N (by omega)
  have h4 : 2 ^ N ≤ 2 ^ 14 := Nat.pow_le_pow_right (by decide) hN
  rw [h1]
  rw [hx.1]
  congr 1
  apply Nat.eq_of_testBit_eq
  intro j
  rw [h3]
  by_cases hj : j < N
  · rw [decide_eq_true hj, Bool.true_and]
    have := (hb_sm (by omega) hx (by omega)).symm.trans (h j hj)
    cases h5 : Q j with
    | true => exact this.mpr h5
    | false =>
      cases h6 : (tn x).testBit j with
      | false => rfl
      | true => rw [this.mp h6] at h5; cases h5
  · rw [decide_eq_false hj, Bool.false_and]
    exact Nat.testBit_lt_two_pow (Nat.lt_of_lt_of_le hx.2 (Nat.pow_le_pow_right (by decide) (by omega)))
theorem and_nat {x y : Int32} {n : Nat} (hn : n ≤ 2 ^ 31) (hx : sm x n) : x &&& y = nI (tn x &&& y.toBitVec.toNat) := by
  have h2 := hx.2
  have h3 : tn x &&& y.toBitVec.toNat ≤ tn x := Nat.and_le_left
  rw [show x &&& y = nI (tn x) &&& y from congrArg (· &&& y) hx.1]
  apply Int32.toBitVec_inj.mp
  rw [Int32.toBitVec_and]
  show BitVec.ofNat 32 (tn x) &&& y.toBitVec = BitVec.ofNat 32 (tn x &&& y.toBitVec.toNat)
  apply BitVec.eq_of_toNat_eq
  rw [BitVec.toNat_and, BitVec.toNat_ofNat, BitVec.toNat_ofNat, Nat.mod_eq_of_lt (by omega), Nat.mod_eq_of_lt (by omega)]
theorem clr_nat {d : Nat} (hd : d < 14) : (((1 : Int32) <<< (nI d &&& 31)) ^^^ (-1)).toBitVec.toNat = 2 ^ 32 - (2 ^ d + 1) := by
  have : ∀ q : Fin 14, (((1 : Int32) <<< (nI q.1 &&& 31)) ^^^ (-1)).toBitVec.toNat = 2 ^ 32 - (2 ^ q.1 + 1) := by decide +kernel
  exact this ⟨d, hd⟩
theorem hb_clr {f : Int32} {d j : Nat} (hf : sm f 16384) (hd : d < 14) (hj : j < 14) : hb (f &&& ((1 <<< (nI d &&& 31)) ^^^ (-1))) (nI j) ↔ hb f (nI j) ∧ j ≠ d := by
  have h1 : tn f &&& (2 ^ 32 - (2 ^ d + 1)) ≤ tn f := Nat.and_le_left
  have h2 := hf.2
  have h3 : 2 ^ d < 2 ^ 32 := Nat.pow_lt_pow_right (by decide) (by omega)
  rw [and_nat (by decide) hf, clr_nat hd, hb_nI (by omega) (by omega), hb_sm (by decide) hf (by omega), Nat.testBit_and, Nat.testBit_two_pow_sub_succ h3, Nat.testBit_two_pow, decide_eq_true (show j < 32 by omega)]
  by_cases e : d = j
  · subst e; simp
  · simp [e, Ne.symm e]
theorem clr_mkS {f : Int32} {d : Nat} (hf : sm f 16384) (hd : d < 14) : f &&& ((1 <<< (nI d &&& 31)) ^^^ (-1)) = mkS (fun j => decide (hb f (nI j) ∧ j ≠ d)) 14 :=
  mkS_ext (by decide) (and_sm (by decide) hf) fun j hj => by rw [hb_clr hf hd hj, decide_eq_true_eq]
theorem any_mkS {f : Int32} (hf : sm f 16384) : f = mkS (fun j => decide (hb f (nI j))) 14 :=
  mkS_ext (by decide) hf fun j hj => by rw [decide_eq_true_eq]
theorem bc_any {f : Int32} (hf : sm f 16384) : bc f = nI (cnt (fun j => decide (hb f (nI j))) 14) := by
  have h := bc_mkS (fun j => decide (hb f (nI j))) (N := 14) (by decide)
  rw [← any_mkS hf] at h
  exact h
theorem bc_clr {f : Int32} {d : Nat} (hf : sm f 16384) (hd : d < 14) (h : hb f (nI d)) : bc f = bc (fBit f (nI d) 0) + 1 := by
  have e : fBit f (nI d) 0 = mkS (fun j => decide (hb f (nI j) ∧ j ≠ d)) 14 := (if_pos rfl).trans (clr_mkS hf hd)
  rw [e, bc_mkS _ (by decide), bc_any hf, nI_1]
  congr 1
  refine cnt_one (m := d) 14 (fun i hi hne => ?_) hd (decide_eq_false fun z => z.2 rfl) (decide_eq_true h)
  exact decide_eq_decide.mpr ⟨fun z => z.1, fun z => ⟨z, hne⟩⟩
theorem sum_ch {f g : Nat → Int32} {p : Nat} : ∀ N, p < N → (∀ q, q ≠ p → f q = g q) → f p = g p + 1 → iter (fun q (s : Int32) => s + f q) N 0 = iter (fun q (s : Int32) => s + g q) N 0 + 1 := by
  intro N
  induction N with
  | zero => intro h; omega
  | succ N ih =>
    intro h h1 h2
    show iter (fun q (s : Int32) => s + f q) N 0 + f N = iter (fun q (s : Int32) => s + g q) N 0 + g N + 1
    by_cases e : p = N
    · subst e
      rw [h2, iter_congr (g := fun q (s : Int32) => s + f q) (g2 := fun q (s : Int32) => s + g q) (N := p) (fun i s hi => by rw [h1 i (by omega)]) p 0 (Nat.le_refl _), Int32.add_assoc]
    · rw [ih (by omega) h1 h2, h1 N (Ne.symm e), Int32.add_assoc, Int32.add_assoc, Int32.add_comm 1]
theorem sFree_clr {W : CV} {p d : Nat} {y : Int32} (hW : WF W) (hp : p < pN W) (hd : d < 14) (h : hb (W.2 p 3) (nI d)) : sFree W = sFree (uP (uS W 6 y) p 3 (fBit (W.2 p 3) (nI d) 0)) + 1 := by
  have h2 := hW.n9
  show iter (fun q (s : Int32) => s + bc (W.2 q 3)) (pN W) 0 = iter (fun q (s : Int32) => s + bc ((uP (uS W 6 y) p 3 (fBit (W.2 p 3) (nI d) 0)).2 q 3)) (pN W) 0 + 1
  refine sum_ch (f := fun q => bc (W.2 q 3)) (g := fun q => bc ((uP (uS W 6 y) p 3 (fBit (W.2 p 3) (nI d) 0)).2 q 3)) (pN W) hp (fun q hq => ?_) ?_
  · show bc (W.2 q 3) = bc ((uP (uS W 6 y) p 3 (fBit (W.2 p 3) (nI d) 0)).2 q 3)
    rw [uP_off (Or.inl hq), uS_2]
  · show bc (W.2 p 3) = bc ((uP (uS W 6 y) p 3 (fBit (W.2 p 3) (nI d) 0)).2 p 3) + 1
    rw [uP_on]; exact bc_clr (hW.f (by omega)) hd h
/-! pass -/
def gPd (p d : Nat) (w : CV) : CV := if hb (w.2 p 3) (nI d) then (if w.1 4 ≤ tw (drw (w.1 6)) then uS w 6 (drw (w.1 6)) else uP (uS w 6 (drw (w.1 6))) p 3 (fBit (w.2 p 3) (nI d) 0)) else w
def gPp (D p : Nat) (w : CV) : CV := iter (gPd p) D w
def sPassDay (v : CV) : CV := iter (gPp (dN v)) (pN v) v
def sPass (n : Nat) (v : CV) : CV := iter (fun _ w => sPassDay w) n v
def oPass (a : AB) (n : Int32) : AB × Int32 := if 1 ≤ n ∧ n ≤ 99 then (setV a (sPass (tn n) a.1), sFree a.1 - sFree (sPass (tn n) a.1)) else bad a
theorem Alike.u6 {v w : CV} (h : Alike v w) (x : Int32) : Alike v (uS w 6 x) := ⟨WF_u6 h.1 _, fun k hk => (uS_off hk).trans (h.2 k hk)⟩
theorem Alike.clr {v w : CV} (h : Alike v w) {p d : Nat} (hd : d < dN v) (z : Int32) : Alike v (uP w p 3 (fBit (w.2 p 3) (nI d) z)) := ⟨WF_free h.1 (show d < dN w by rw [h.d]; exact hd) _, h.2⟩
theorem Alike.pd {v w : CV} (h : Alike v w) {p d : Nat} (hd : d < dN v) : Alike v (gPd p d w) := by
  unfold gPd
  by_cases q : hb (w.2 p 3) (nI d)
  · rw [if_pos q]
    by_cases q2 : w.1 4 ≤ tw (drw (w.1 6))
    · rw [if_pos q2]; exact h.u6 _
    · rw [if_neg q2]; exact (h.u6 (drw (w.1 6))).clr hd 0
  · rw [if_neg q]; exact h
theorem Alike.pds {v w : CV} (h : Alike v w) (p : Nat) : ∀ k, k ≤ dN v → Alike v (iter (gPd p) k w) := by
  intro k
  induction k with
  | zero => intro _; exact h
  | succ k ih => intro hk; exact (ih (by omega)).pd (by omega)
theorem Alike.pps {v w : CV} (h : Alike v w) : ∀ k, Alike v (iter (gPp (dN v)) k w) := by
  intro k
  induction k with
  | zero => exact h
  | succ k ih => exact ih.pds k _ (Nat.le_refl _)
theorem Alike.day {v w : CV} (h : Alike v w) : Alike v (sPassDay w) := by
  unfold sPassDay
  rw [h.d]
  exact h.pps _
theorem Alike.pass {v : CV} (h : WF v) : ∀ n, Alike v (sPass n v) := by
  intro n
  induction n with
  | zero => exact Alike.rf h
  | succ n ih => exact ih.day
section OP1
variable {a : AB} {M : Mm}
theorem C_passE {c : Nat} {v W : CV} {y z : Int32} (hV : VC c W M) (hA : Alike v W) (hy : f_X1_drawTwelfth c M = some (wI M c 6 y, z)) {p d : Nat} (hp : p < 8) (hd : d < dN v) (n : Nat) (x : Int32) : f_X1_passDay_L14 c (nI p) (n + 1) x (nI d) M = if hb (W.2 p 3) (nI d) then (if W.1 4 ≤ z then f_X1_passDay_L14 c (nI p) n x (nI (d + 1)) (wI M c 6 y) else f_X1_passDay_L14 c (nI p) n (x + 1) (nI (d + 1)) (wI (wI M c 6 y) (c + 2 + p) 3 (fBit (W.2 p 3) (nI d) 0))) else f_X1_passDay_L14 c (nI p) n x (nI (d + 1)) M := by
  have k8 : ∀ {α : Type} (X : Option α), chk (nI p) 8 X = X := fun X => chk_ok (by omega) (by decide)
  have tp : (nI p).toNatClampNeg = p := tn_nI (by omega)
  have d9 := hA.1.d15
  rw [hA.d] at d9
  have e0 : M.1 c 0 = nI (dN v) := by rw [hV.1 0 (by decide), hA.1.d, hA.d]
  have v6 := hV.uS 6 y
  have r0 : M.1 (c + 2 + p) 3 = W.2 p 3 := hV.2 p 3 hp (by decide)
  have r3 : (wI M c 6 y).1 (c + 2 + p) 3 = W.2 p 3 := by rw [v6.2 p 3 hp (by decide), uS_2]
  have r4 : (wI M c 6 y).1 c 4 = W.1 4 := by rw [v6.1 4 (by decide), uS_off (by decide)]
  rw [f_X1_passDay_L14, e0, if_neg (nI_ge hd (by omega)), hy]
  simp only [k8, tp, isFree_ok, r0, Option.bind_some, r3, r4, changeFree_ok, bi, nI_1]
  by_cases q : hb (W.2 p 3) (nI d)
  · simp only [if_pos q, i10, if_false]
  · simp only [if_neg q, if_true]
theorem C_passD {c : Nat} {v W : CV} (hV : VC c W M) (hA : Alike v W) {p d : Nat} (hp : p < pN v) (hd : d < dN v) (x : Int32) : ∃ x2 M2, (∀ n, f_X1_passDay_L14 c (nI p) (n + 1) x (nI d) M = f_X1_passDay_L14 c (nI p) n x2 (nI (d + 1)) M2) ∧ VC c (gPd p d W) M2 ∧ Fr c (c + 10) M M2 ∧ x2 + sFree (gPd p d W) = x + sFree W := by
  have n9 := hA.1.n9
  have d15 := hA.1.d15
  rw [hA.n] at n9
  rw [hA.d] at d15
  have hE := fun n => C_passE hV hA (C_draw hV) (p := p) (d := d) (by omega) hd n x
  unfold gPd
  generalize drw (W.1 6) = y at hE ⊢
  generalize tw y = z at hE ⊢
  by_cases q : hb (W.2 p 3) (nI d)
  · by_cases q2 : W.1 4 ≤ z
    · refine ⟨x, wI M c 6 y, fun n => by rw [hE, if_pos q, if_pos q2], ?_, Fr.wI (by omega) (by omega), ?_⟩
      · rw [if_pos q, if_pos q2]; exact hV.uS 6 y
      · rw [if_pos q, if_pos q2]; rfl
    · refine ⟨x + 1, wI (wI M c 6 y) (c + 2 + p) 3 (fBit (W.2 p 3) (nI d) 0), fun n => by rw [hE, if_pos q, if_neg q2], ?_, (Fr.wI (by omega) (by omega)).tr (Fr.wI (by omega) (by omega)), ?_⟩
      · rw [if_pos q, if_neg q2]; exact (hV.uS 6 y).uP p 3 _
      · rw [if_pos q, if_neg q2, sFree_clr (y := y) hA.1 (show p < pN W by rw [hA.n]; exact hp) (by omega) q, Int32.add_assoc, Int32.add_comm 1]
  · refine ⟨x, M, fun n => by rw [hE, if_neg q], ?_, Fr.rf, ?_⟩
    · rw [if_neg q]; exact hV
    · rw [if_neg q]
theorem C_passP {c : Nat} {v w : CV} (hV : VC c w M) (hA : Alike v w) {p : Nat} (hp : p < pN v) (x : Int32) : ∃ x2 M2, f_X1_passDay_L14 c (nI p) 1000 x 0 M = some (x2, M2) ∧ VC c (gPp (dN v) p w) M2 ∧ Fr c (c + 10) M M2 ∧ x2 + sFree (gPp (dN v) p w) = x + sFree w := by
  have d9 := hA.1.d15
  rw [hA.d] at d9
  obtain ⟨r, e1, e2⟩ := loop_ex (fun n i (s : Int32 × Mm) => f_X1_passDay_L14 c (nI p) n s.1 (nI i) s.2) (dN v) (fun i s => VC c (iter (gPd p) i w) s.2 ∧ Fr c (c + 10) M s.2 ∧ s.1 + sFree (iter (gPd p) i w) = x + sFree w) (fun r => VC c (gPp (dN v) p w) r.2 ∧ Fr c (c + 10) M r.2 ∧ r.1 + sFree (gPp (dN v) p w) = x + sFree w) (by
    intro n i s hi h
    obtain ⟨hv, hf, hs⟩ := h
    have hA2 := hA.pds p i (by omega)
    rw [show iter (gPd p) (i + 1) w = gPd p i (iter (gPd p) i w) from rfl]
    generalize iter (gPd p) i w = W at hv hA2 hs ⊢
    obtain ⟨x2, M2, a1, a2, a3, a4⟩ := C_passD hv hA2 hp hi s.1
    exact Or.inr ⟨(x2, M2), a1 n, a2, hf.tr a3, a4.trans hs⟩) (by
    intro n s h
    refine ⟨s, ?_, h⟩
    have hA2 := hA.pds p (dN v) (Nat.le_refl _)
    have e0 : s.2.1 c 0 = nI (dN v) := by rw [h.1.1 0 (by decide), hA2.1.d, hA2.d]
    show f_X1_passDay_L14 c (nI p) (n + 1) s.1 (nI (dN v)) s.2 = _
    rw [f_X1_passDay_L14, e0, if_pos (Int32.le_refl _)]) 1000 0 (x, M) (by omega) (by omega) ⟨hV, Fr.rf, rfl⟩
  exact ⟨r.1, r.2, e1, e2⟩
theorem C_passDay {c : Nat} {w : CV} (hV : VC c w M) (hW : WF w) : ∃ x2 M2, f_X1_passDay c M = some (M2, x2) ∧ VC c (sPassDay w) M2 ∧ Fr c (c + 10) M M2 ∧ x2 + sFree (sPassDay w) = sFree w := by
  have h2 := hW.n9
  obtain ⟨r, e1, e2⟩ := loop_ex (fun n i (s : Int32 × Mm) => f_X1_passDay_L4 c n s.1 (nI i) s.2) (pN w) (fun i s => VC c (iter (gPp (dN w)) i w) s.2 ∧ Fr c (c + 10) M s.2 ∧ s.1 + sFree (iter (gPp (dN w)) i w) = sFree w) (fun r => VC c (sPassDay w) r.2 ∧ Fr c (c + 10) M r.2 ∧ r.1 + sFree (sPassDay w) = sFree w) (by
    intro n i s hi h
    obtain ⟨hv, hf, hs⟩ := h
    have hA2 := (Alike.rf hW).pps i
    have e0 : s.2.1 c 1 = nI (pN w) := by rw [hv.1 1 (by decide), hA2.1.n, hA2.n]
    obtain ⟨x2, M2, a1, a2, a3, a4⟩ := C_passP hv hA2 hi s.1
    refine Or.inr ⟨(x2, M2), ?_, a2, hf.tr a3, a4.trans hs⟩
    show f_X1_passDay_L4 c (n + 1) s.1 (nI i) s.2 = f_X1_passDay_L4 c n x2 (nI (i + 1)) M2
    rw [f_X1_passDay_L4, e0, if_neg (nI_ge hi (by omega)), a1]
    simp only [ob2, Option.bind_some, bi, nI_1]) (by
    intro n s h
    refine ⟨s, ?_, h⟩
    have hA2 := (Alike.rf hW).pps (pN w)
    have e0 : s.2.1 c 1 = nI (pN w) := by rw [h.1.1 1 (by decide), hA2.1.n, hA2.n]
    show f_X1_passDay_L4 c (n + 1) s.1 (nI (pN w)) s.2 = _
    rw [f_X1_passDay_L4, e0, if_pos (Int32.le_refl _)]) 1000 0 (0, M) (by omega) (by omega) ⟨hV, Fr.rf, Int32.zero_add _⟩
  unfold f_X1_passDay
  rw [show f_X1_passDay_L4 c 1000 0 0 M = some r from e1]
  exact ⟨r.1, r.2, rfl, e2⟩
theorem M_passE {b : Nat} {v W : CV} {y z : Int32} (hV : VM b W M) (hA : Alike v W) (hy : f_X8_below b 12 M = some (wI M b 18 y, z)) {p d : Nat} (hp : p < 8) (hd : d < dN v) (n : Nat) (x1 x2 x3 : Int32) : f_X8_pass_L41 b x1 x2 x3 (nI p) (n + 1) (nI d) M = if hb (W.2 p 3) (nI d) then (if W.1 4 ≤ z then f_X8_pass_L41 b x1 x2 x3 (nI p) n (nI (d + 1)) (wI M b 18 y) else f_X8_pass_L41 b x1 x2 x3 (nI p) n (nI (d + 1)) (wI (wI M b 18 y) (b + 20) p (fBit (W.2 p 3) (nI d) 0))) else f_X8_pass_L41 b x1 x2 x3 (nI p) n (nI (d + 1)) M := by
  have d9 := hA.1.d15
  rw [hA.d] at d9
  have e0 : M.1 b 9 = nI (dN v) := by rw [hV.d, hA.1.d, hA.d]
  have v6 := hV.s6 y
  have r4 : (wI M b 18 y).1 (b + 22) 2 = W.1 4 := by rw [v6.lo, uS_off (by decide)]
  rw [f_X8_pass_L41, e0, if_neg (nI_ge hd (by omega)), hy, M_isFree hV hp]
  simp only [Option.bind_some, r4, frees_ok v6 hp, bi, nI_1, uS_2]
  by_cases q : hb (W.2 p 3) (nI d)
  · simp only [if_pos q, i10, if_false]
  · simp only [if_neg q, if_true]
theorem M_passD {b : Nat} {v W : CV} (hV : VM b W M) (hA : Alike v W) {p d : Nat} (hp : p < 8) (hd : d < dN v) (x1 x2 x3 : Int32) : ∃ M2, (∀ n, f_X8_pass_L41 b x1 x2 x3 (nI p) (n + 1) (nI d) M = f_X8_pass_L41 b x1 x2 x3 (nI p) n (nI (d + 1)) M2) ∧ VM b (gPd p d W) M2 ∧ FrV b M M2 := by
  have hE := fun n => M_passE hV hA (M_draw hV) (p := p) (d := d) hp hd n x1 x2 x3
  unfold gPd
  generalize drw (W.1 6) = y at hE ⊢
  generalize tw y = z at hE ⊢
  by_cases q : hb (W.2 p 3) (nI d)
  · by_cases q2 : W.1 4 ≤ z
    · refine ⟨wI M b 18 y, fun n => by rw [hE, if_pos q, if_pos q2], ?_, FrV.wI (by unfold stV; omega)⟩
      rw [if_pos q, if_pos q2]; exact hV.s6 y
    · refine ⟨wI (wI M b 18 y) (b + 20) p (fBit (W.2 p 3) (nI d) 0), fun n => by rw [hE, if_pos q, if_neg q2], ?_, (FrV.wI (by unfold stV; omega)).tr (FrV.wI (by unfold stV; omega))⟩
      rw [if_pos q, if_neg q2]; exact (hV.s6 y).u3 p _
  · refine ⟨M, fun n => by rw [hE, if_neg q], ?_, FrV.rf⟩
    rw [if_neg q]; exact hV
theorem M_passP {b : Nat} {v w : CV} (hV : VM b w M) (hA : Alike v w) {p : Nat} (hp : p < 8) (x1 x2 x3 : Int32) : ∃ M2, f_X8_pass_L41 b x1 x2 x3 (nI p) 1000 0 M = some M2 ∧ VM b (gPp (dN v) p w) M2 ∧ FrV b M M2 := by
  have d9 := hA.1.d15
  rw [hA.d] at d9
  obtain ⟨r, e1, e2⟩ := loop_ex (fun n i (M9 : Mm) => f_X8_pass_L41 b x1 x2 x3 (nI p) n (nI i) M9) (dN v) (fun i M9 => VM b (iter (gPd p) i w) M9 ∧ FrV b M M9) (fun r => VM b (gPp (dN v) p w) r ∧ FrV b M r) (by
    intro n i M9 hi h
    obtain ⟨hv, hf⟩ := h
    have hA2 := hA.pds p i (by omega)
    rw [show iter (gPd p) (i + 1) w = gPd p i (iter (gPd p) i w) from rfl]
    generalize iter (gPd p) i w = W at hv hA2 ⊢
    obtain ⟨M2, a1, a2, a3⟩ := M_passD hv hA2 hp hi x1 x2 x3
    exact Or.inr ⟨M2, a1 n, a2, hf.tr a3⟩) (by
    intro n M9 h
    refine ⟨M9, ?_, h⟩
    have hA2 := hA.pds p (dN v) (Nat.le_refl _)
    have e0 : M9.1 b 9 = nI (dN v) := by rw [h.1.d, hA2.1.d, hA2.d]
    show f_X8_pass_L41 b x1 x2 x3 (nI p) (n + 1) (nI (dN v)) M9 = _
    rw [f_X8_pass_L41, e0, if_pos (Int32.le_refl _)]) 1000 0 M (by omega) (by omega) ⟨hV, FrV.rf⟩
  exact ⟨r, e1, e2⟩
theorem M_passDay {b : Nat} {w : CV} (hV : VM b w M) (hW : WF w) (x1 x2 x3 : Int32) : ∃ M2, f_X8_pass_L29 b x1 x2 x3 1000 0 M = some M2 ∧ VM b (sPassDay w) M2 ∧ FrV b M M2 := by
  have h2 := hW.n9
  obtain ⟨r, e1, e2⟩ := loop_ex (fun n i (M9 : Mm) => f_X8_pass_L29 b x1 x2 x3 n (nI i) M9) (pN w) (fun i M9 => VM b (iter (gPp (dN w)) i w) M9 ∧ FrV b M M9) (fun r => VM b (sPassDay w) r ∧ FrV b M r) (by
    intro n i M9 hi h
    obtain ⟨hv, hf⟩ := h
    have hA2 := (Alike.rf hW).pps i
    have e0 : M9.1 b 10 = nI (pN w) := by rw [hv.n, hA2.1.n, hA2.n]
    obtain ⟨M2, a1, a2, a3⟩ := M_passP hv hA2 (p := i) (by omega) x1 x2 x3
    refine Or.inr ⟨M2, ?_, a2, hf.tr a3⟩
    show f_X8_pass_L29 b x1 x2 x3 (n + 1) (nI i) M9 = f_X8_pass_L29 b x1 x2 x3 n (nI (i + 1)) M2
    rw [f_X8_pass_L29, e0, if_neg (nI_ge hi (by omega)), a1]
    simp only [Option.bind_some, bi, nI_1]) (by
    intro n M9 h
    refine ⟨M9, ?_, h⟩
    have hA2 := (Alike.rf hW).pps (pN w)
    have e0 : M9.1 b 10 = nI (pN w) := by rw [h.1.n, hA2.1.n, hA2.n]
    show f_X8_pass_L29 b x1 x2 x3 (n + 1) (nI (pN w)) M9 = _
    rw [f_X8_pass_L29, e0, if_pos (Int32.le_refl _)]) 1000 0 M (by omega) (by omega) ⟨hV, FrV.rf⟩
  exact ⟨r, e1, e2⟩
theorem X7_pass (h : RC a M) (hW : WA a) (n : Int32) : OKC (f_X7_pass n M) M (oPass a n) := by
  unfold f_X7_pass oPass
  rw [within_ok]
  by_cases q : 1 ≤ n ∧ n ≤ 99
  · obtain ⟨m, m1, m2, rfl⟩ := hundred q
    obtain ⟨r, e1, e2⟩ := loop_ex (fun n i (s : Int32 × Mm) => f_X7_pass_L21 (nI m) n s.1 (nI i) s.2) m (fun i s => VC 1 (sPass i a.1) s.2 ∧ Fr 1 11 M s.2 ∧ s.1 + sFree (sPass i a.1) = sFree a.1) (fun r => VC 1 (sPass m a.1) r.2 ∧ Fr 1 11 M r.2 ∧ r.1 + sFree (sPass m a.1) = sFree a.1) (by
      intro n i s hi h
      obtain ⟨hv, hf, hs⟩ := h
      have hA2 := Alike.pass hW.1 i
      obtain ⟨x2, M2, a1, a2, a3, a4⟩ := C_passDay hv hA2.1
      refine Or.inr ⟨(s.1 + x2, M2), ?_, a2, hf.tr a3, ?_⟩
      · show f_X7_pass_L21 (nI m) (n + 1) s.1 (nI i) s.2 = f_X7_pass_L21 (nI m) n (s.1 + x2) (nI (i + 1)) M2
        rw [f_X7_pass_L21, if_neg (nI_ge hi (by omega)), a1]
        simp only [Option.bind_some, bi, nI_1]
      · show s.1 + x2 + sFree (sPassDay (sPass i a.1)) = _
        rw [Int32.add_assoc, a4]; exact hs) (by
      intro n s h
      refine ⟨s, ?_, h⟩
      show f_X7_pass_L21 (nI m) (n + 1) s.1 (nI m) s.2 = _
      rw [f_X7_pass_L21, if_pos (Int32.le_refl _)]) 1000 0 (0, M) (by omega) (by omega) ⟨h.1, Fr.rf, Int32.zero_add _⟩
    have e3 : r.1 = sFree a.1 - sFree (sPass m a.1) := by
      rw [← e2.2.2, Int32.add_sub_cancel]
    simp only [if_pos q, Option.bind_some, i10, if_false]
    rw [show f_X7_pass_L21 (nI m) 1000 0 0 M = some r from e1, tnn (by omega), ← e3]
    exact OKC.v h e2.1 e2.2.1
  · simp only [if_neg q, Option.bind_some, if_true]; exact C_bad h
theorem X8_pass (h : RM a M) (hW : WA a) (n : Int32) : OKM (f_X8_pass 69 n M) M (oPass a n) := by
  unfold f_X8_pass oPass
  rw [isHundred_ok]
  by_cases q : 1 ≤ n ∧ n ≤ 99
  · obtain ⟨m, m1, m2, rfl⟩ := hundred q
    obtain ⟨r, e1, e2⟩ := loop_ex (fun n i (M9 : Mm) => f_X8_pass_L21 69 (nI m) (sFree a.1) n (nI i) M9) m (fun i M9 => VM 69 (sPass i a.1) M9 ∧ FrV 69 M M9) (fun r => VM 69 (sPass m a.1) r ∧ FrV 69 M r) (by
      intro n i M9 hi h
      obtain ⟨hv, hf⟩ := h
      have hA2 := Alike.pass hW.1 i
      obtain ⟨M2, a1, a2, a3⟩ := M_passDay hv hA2.1 (nI m) (sFree a.1) (nI i)
      refine Or.inr ⟨M2, ?_, a2, hf.tr a3⟩
      show f_X8_pass_L21 69 (nI m) (sFree a.1) (n + 1) (nI i) M9 = f_X8_pass_L21 69 (nI m) (sFree a.1) n (nI (i + 1)) M2
      rw [f_X8_pass_L21, if_neg (nI_ge hi (by omega)), a1]
      simp only [Option.bind_some, bi, nI_1]) (by
      intro n M9 h
      refine ⟨M9, ?_, h⟩
      show f_X8_pass_L21 69 (nI m) (sFree a.1) (n + 1) (nI m) M9 = _
      rw [f_X8_pass_L21, if_pos (Int32.le_refl _)]) 1000 0 M (by omega) (by omega) ⟨h.1, FrV.rf⟩
    simp only [if_pos q, Option.bind_some, i10, if_false, M_freeNow h.1 hW.1]
    rw [show f_X8_pass_L21 69 (nI m) (sFree a.1) 1000 0 M = some r from e1, tnn (by omega), Option.bind_some, M_freeNow e2.1 (Alike.pass hW.1 m).1]
    exact OKM.v h e2.1 e2.2
  · simp only [if_neg q, Option.bind_some, if_true]; exact M_bad h
theorem W_alike {v : CV} (h : WB a) (hA : Alike a.1 v) : WB (setV a v) := WB_setV h hA.1 (fun z => by
  rw [hA.n] at z
  exact (hA.2 2 (by decide)).trans (h.2.1 z)) (by rw [hA.n]; exact Nat.le_refl _)
theorem W_pass (h : WB a) (n : Int32) : WB (oPass a n).1 := by
  unfold oPass
  by_cases q : 1 ≤ n ∧ n ≤ 99
  · rw [if_pos q]; exact W_alike h (Alike.pass h.1.1 _)
  · rw [if_neg q]; exact h
end OP1
