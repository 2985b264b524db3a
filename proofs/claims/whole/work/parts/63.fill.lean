/-! fill -/
def drw (s : Int32) : Int32 := s * 1103515245 + 12345
def tw (s : Int32) : Int32 := ((s.toUInt32 >>> ((16 : Int32).toUInt32 &&& Int32.toUInt32 31)).toInt32) - ((s.toUInt32 >>> ((16 : Int32).toUInt32 &&& Int32.toUInt32 31)).toInt32) / 12 * 12
def gFd (p d : Nat) (w : CV) : CV := uP (uS w 6 (drw (w.1 6))) p 3 (fBit (w.2 p 3) (nI d) (if w.2 p 2 ≤ tw (drw (w.1 6)) then 0 else 1))
def gFp (D p : Nat) (w : CV) : CV := iter (gFd p) D w
def sFil (v : CV) : CV := iter (gFp (dN v)) (pN v) v
def oFill (a : AB) : AB × Int32 := (setV a (sFil a.1), sFree (sFil a.1))
/-- the same circle but for the seed and who is free -/
def Alike (v w : CV) : Prop := WF w ∧ ∀ k, k ≠ 6 → w.1 k = v.1 k
theorem Alike.d {v w : CV} (h : Alike v w) : dN w = dN v := by unfold dN; rw [h.2 0 (by decide)]
theorem Alike.n {v w : CV} (h : Alike v w) : pN w = pN v := by unfold pN; rw [h.2 1 (by decide)]
theorem WF_u6 {v : CV} (h : WF v) (x : Int32) : WF (uS v 6 x) := ⟨h.1, h.2.1, h.2.2.1, h.2.2.2.1, h.2.2.2.2.1, h.2.2.2.2.2⟩
theorem WF_free {v : CV} (h : WF v) {p d : Nat} (hd : d < dN v) (z : Int32) : WF (uP v p 3 (fBit (v.2 p 3) (nI d) z)) := by
  have h3 := h.d15
  refine WF_uP h fun hp => ⟨fun z => absurd z (by decide), fun z => absurd z (by decide), fun z => absurd z (by decide), fun _ => ⟨fBit_sm (k := 14) (by omega) (by decide) (h.2.2.2.2.2 p hp).2.2.2.1, fun hn => fBit_sm hd h3 ((h.2.2.2.2.2 p hp).2.2.2.2.2 hn)⟩, fun z => absurd z (by decide)⟩
theorem Alike.g {v w : CV} (h : Alike v w) {p d : Nat} (hd : d < dN v) : Alike v (gFd p d w) :=
  ⟨WF_free (v := uS w 6 (drw (w.1 6))) (WF_u6 h.1 _) (show d < dN w by rw [h.d]; exact hd) _, fun k hk => (uS_off hk).trans (h.2 k hk)⟩
theorem Alike.gs {v w : CV} (h : Alike v w) (p : Nat) : ∀ k, k ≤ dN v → Alike v (iter (gFd p) k w) := by
  intro k
  induction k with
  | zero => intro _; exact h
  | succ k ih => intro hk; exact (ih (by omega)).g (by omega)
theorem Alike.gp {v w : CV} (h : Alike v w) : ∀ k, Alike v (iter (gFp (dN v)) k w) := by
  intro k
  induction k with
  | zero => exact h
  | succ k ih => exact ih.gs k _ (Nat.le_refl _)
theorem gFd_off {p d q : Nat} {w : CV} (h : q ≠ p) : (gFd p d w).2 q 3 = w.2 q 3 := uP_off (Or.inl h)
theorem gFp_off {D p q : Nat} {w : CV} (h : q ≠ p) : (gFp D p w).2 q 3 = w.2 q 3 := by
  have : ∀ k, (iter (gFd p) k w).2 q 3 = w.2 q 3 := by
    intro k
    induction k with
    | zero => rfl
    | succ k ih => exact (gFd_off h).trans ih
  exact this D
theorem fil_off {D p : Nat} {w : CV} : ∀ j, (iter (gFp D) (p + 1 + j) w).2 p 3 = (iter (gFp D) (p + 1) w).2 p 3 := by
  intro j
  induction j with
  | zero => rfl
  | succ j ih => exact (gFp_off (p := p + 1 + j) (by omega)).trans ih
section OF1
variable {a : AB} {M : Mm}
theorem C_draw {c : Nat} {w : CV} (hV : VC c w M) : f_X1_drawTwelfth c M = some (wI M c 6 (drw (w.1 6)), tw (drw (w.1 6))) := by
  unfold f_X1_drawTwelfth
  rw [hV.1 6 (by decide)]
  simp only [bm, wI_on]
  rfl
theorem n12 : ¬ ((12 : Int32) = 0) := by decide
theorem M_draw {b : Nat} {w : CV} (hV : VM b w M) : f_X8_below b 12 M = some (wI M b 18 (drw (w.1 6)), tw (drw (w.1 6))) := by
  unfold f_X8_below chz
  rw [hV.se]
  simp only [bm, wI_on, if_neg n12]
  rfl
theorem uS_2 (v : CV) (k : Nat) (x : Int32) : (uS v k x).2 = v.2 := rfl
def fDat (W : CV) (p d : Nat) : Int32 := fBit (W.2 p 3) (nI d) (if W.2 p 2 ≤ tw (drw (W.1 6)) then 0 else 1)
theorem C_fillE {c : Nat} {v W : CV} {y z : Int32} (hV : VC c W M) (hA : Alike v W) (hy : f_X1_drawTwelfth c M = some (wI M c 6 y, z)) {p d : Nat} (hp : p < 8) (hd : d < dN v) (n : Nat) (x : Int32) : f_X1_fillByDraws_L14 c x (nI p) (n + 1) (nI d) M = f_X1_fillByDraws_L14 c x (nI p) n (nI (d + 1)) (wI (wI M c 6 y) (c + 2 + p) 3 (fBit (W.2 p 3) (nI d) (if W.2 p 2 ≤ z then 0 else 1))) := by
  have k8 : ∀ {α : Type} (X : Option α), chk (nI p) 8 X = X := fun X => chk_ok (by omega) (by decide)
  have tp : (nI p).toNatClampNeg = p := tn_nI (by omega)
  have d9 := hA.1.d15
  rw [hA.d] at d9
  have e0 : M.1 c 0 = nI (dN v) := by rw [hV.1 0 (by decide), hA.1.d, hA.d]
  have v6 := hV.uS 6 y
  have r2 : (wI M c 6 y).1 (c + 2 + p) 2 = W.2 p 2 := by rw [v6.2 p 2 hp (by decide), uS_2]
  have r3 : (wI M c 6 y).1 (c + 2 + p) 3 = W.2 p 3 := by rw [v6.2 p 3 hp (by decide), uS_2]
  rw [f_X1_fillByDraws_L14, e0, if_neg (nI_ge hd (by omega)), hy]
  simp only [k8, tp, Option.bind_some, r2, changeFree_ok, r3, bi, nI_1]
  by_cases q : W.2 p 2 ≤ z
  · simp only [if_pos q]
  · simp only [if_neg q]
theorem C_fillD {c : Nat} {v W : CV} (hV : VC c W M) (hA : Alike v W) {p d : Nat} (hp : p < 8) (hd : d < dN v) (n : Nat) (x : Int32) : f_X1_fillByDraws_L14 c x (nI p) (n + 1) (nI d) M = f_X1_fillByDraws_L14 c x (nI p) n (nI (d + 1)) (wI (wI M c 6 (drw (W.1 6))) (c + 2 + p) 3 (fDat W p d)) := C_fillE hV hA (C_draw hV) hp hd n x
theorem C_fillP {c : Nat} {v w : CV} (hV : VC c w M) (hA : Alike v w) {p : Nat} (hp : p < 8) (x : Int32) : ∃ M2, f_X1_fillByDraws_L14 c x (nI p) 1000 0 M = some M2 ∧ VC c (gFp (dN v) p w) M2 ∧ Fr c (c + 10) M M2 := by
  have d9 := hA.1.d15
  rw [hA.d] at d9
  obtain ⟨r, e1, e2⟩ := loop_ex (fun n i (M9 : Mm) => f_X1_fillByDraws_L14 c x (nI p) n (nI i) M9) (dN v) (fun i M9 => VC c (iter (gFd p) i w) M9 ∧ Fr c (c + 10) M M9) (fun r => VC c (gFp (dN v) p w) r ∧ Fr c (c + 10) M r) (by
    intro n i M9 hi h
    obtain ⟨hv, hf⟩ := h
    have hA2 := hA.gs p i (by omega)
    rw [show iter (gFd p) (i + 1) w = gFd p i (iter (gFd p) i w) from rfl]
    generalize iter (gFd p) i w = W at hv hA2 ⊢
    exact Or.inr ⟨_, C_fillD hv hA2 hp hi n x, (hv.uS 6 (drw (W.1 6))).uP p 3 (fDat W p i), (hf.tr (Fr.wI (by omega) (by omega))).tr (Fr.wI (by omega) (by omega))⟩) (by
    intro n M9 h
    refine ⟨M9, ?_, h⟩
    have hA2 := hA.gs p (dN v) (Nat.le_refl _)
    have e0 : M9.1 c 0 = nI (dN v) := by rw [h.1.1 0 (by decide), hA2.1.d, hA2.d]
    show f_X1_fillByDraws_L14 c x (nI p) (n + 1) (nI (dN v)) M9 = _
    rw [f_X1_fillByDraws_L14, e0, if_pos (Int32.le_refl _)]) 1000 0 M (by omega) (by omega) ⟨hV, Fr.rf⟩
  exact ⟨r, e1, e2⟩
theorem M_fillE {b : Nat} {v W : CV} {y z : Int32} (hV : VM b W M) (hA : Alike v W) (hy : f_X8_below b 12 M = some (wI M b 18 y, z)) {p d : Nat} (hp : p < 8) (hd : d < dN v) (n : Nat) : f_X8_fills_L12 b (nI p) (n + 1) (nI d) M = f_X8_fills_L12 b (nI p) n (nI (d + 1)) (wI (wI M b 18 y) (b + 20) p (fBit (W.2 p 3) (nI d) (if W.2 p 2 ≤ z then 0 else 1))) := by
  have k8 : ∀ {α : Type} (X : Option α), chk (nI p) 8 X = X := fun X => chk_ok (by omega) (by decide)
  have tp : (nI p).toNatClampNeg = p := tn_nI (by omega)
  have d9 := hA.1.d15
  rw [hA.d] at d9
  have e0 : M.1 b 9 = nI (dN v) := by rw [hV.d, hA.1.d, hA.d]
  have v6 := hV.s6 y
  have r2 : (wI M b 18 y).1 (b + 19) p = W.2 p 2 := by rw [v6.p2 hp, uS_2]
  rw [f_X8_fills_L12, e0, if_neg (nI_ge hd (by omega)), hy]
  simp only [k8, tp, Option.bind_some, r2, frees_ok v6 hp, bi, nI_1, uS_2]
  by_cases q : W.2 p 2 ≤ z
  · simp only [if_pos q]
  · simp only [if_neg q]
theorem M_fillD {b : Nat} {v W : CV} (hV : VM b W M) (hA : Alike v W) {p d : Nat} (hp : p < 8) (hd : d < dN v) (n : Nat) : f_X8_fills_L12 b (nI p) (n + 1) (nI d) M = f_X8_fills_L12 b (nI p) n (nI (d + 1)) (wI (wI M b 18 (drw (W.1 6))) (b + 20) p (fDat W p d)) := M_fillE hV hA (M_draw hV) hp hd n
theorem M_fillP {b : Nat} {v w : CV} (hV : VM b w M) (hA : Alike v w) {p : Nat} (hp : p < 8) : ∃ M2, f_X8_fills_L12 b (nI p) 1000 0 M = some M2 ∧ VM b (gFp (dN v) p w) M2 ∧ FrV b M M2 := by
  have d9 := hA.1.d15
  rw [hA.d] at d9
  obtain ⟨r, e1, e2⟩ := loop_ex (fun n i (M9 : Mm) => f_X8_fills_L12 b (nI p) n (nI i) M9) (dN v) (fun i M9 => VM b (iter (gFd p) i w) M9 ∧ FrV b M M9) (fun r => VM b (gFp (dN v) p w) r ∧ FrV b M r) (by
    intro n i M9 hi h
    obtain ⟨hv, hf⟩ := h
    have hA2 := hA.gs p i (by omega)
    rw [show iter (gFd p) (i + 1) w = gFd p i (iter (gFd p) i w) from rfl]
    generalize iter (gFd p) i w = W at hv hA2 ⊢
    exact Or.inr ⟨_, M_fillD hv hA2 hp hi n, (hv.s6 (drw (W.1 6))).u3 p (fDat W p i), (hf.tr (FrV.wI (by unfold stV; omega))).tr (FrV.wI (by unfold stV; omega))⟩) (by
    intro n M9 h
    refine ⟨M9, ?_, h⟩
    have hA2 := hA.gs p (dN v) (Nat.le_refl _)
    have e0 : M9.1 b 9 = nI (dN v) := by rw [h.1.d, hA2.1.d, hA2.d]
    show f_X8_fills_L12 b (nI p) (n + 1) (nI (dN v)) M9 = _
    rw [f_X8_fills_L12, e0, if_pos (Int32.le_refl _)]) 1000 0 M (by omega) (by omega) ⟨hV, FrV.rf⟩
  exact ⟨r, e1, e2⟩
theorem Alike.rf {v : CV} (h : WF v) : Alike v v := ⟨h, fun _ _ => rfl⟩
theorem sFil_pN {v : CV} (h : WF v) : pN (sFil v) = pN v := ((Alike.rf h).gp _).n
theorem C_fill {c : Nat} {v : CV} (hV : VC c v M) (hW : WF v) : ∃ M2, f_X1_fillByDraws c M = some (M2, sFree (sFil v)) ∧ VC c (sFil v) M2 ∧ Fr c (c + 10) M M2 := by
  have h2 := hW.n9
  obtain ⟨r, e1, e2⟩ := loop_ex (fun n i (s : Int32 × Mm) => f_X1_fillByDraws_L4 c n s.1 (nI i) s.2) (pN v) (fun i s => s.1 = iter (fun p (s : Int32) => s + bc ((sFil v).2 p 3)) i 0 ∧ VC c (iter (gFp (dN v)) i v) s.2 ∧ Fr c (c + 10) M s.2) (fun r => r.1 = iter (fun p (s : Int32) => s + bc ((sFil v).2 p 3)) (pN v) 0 ∧ VC c (sFil v) r.2 ∧ Fr c (c + 10) M r.2) (by
    intro n i s hi h
    obtain ⟨s1, M9⟩ := s
    obtain ⟨hs, hv, hf⟩ := h
    replace hs : s1 = _ := hs
    replace hv : VC c _ M9 := hv
    replace hf : Fr c (c + 10) M M9 := hf
    subst hs
    have hA2 := (Alike.rf hW).gp i
    have e0 : M9.1 c 1 = nI (pN v) := by rw [hv.1 1 (by decide), hA2.1.n, hA2.n]
    obtain ⟨M2, a1, a2, a3⟩ := C_fillP hv hA2 (p := i) (by omega) (iter (fun p (s : Int32) => s + bc ((sFil v).2 p 3)) i 0)
    have f3 : M2.1 (c + 2 + i) 3 = (sFil v).2 i 3 := by
      rw [a2.2 i 3 (by omega) (by decide)]
      have := fil_off (D := dN v) (p := i) (w := v) (pN v - (i + 1))
      rw [show i + 1 + (pN v - (i + 1)) = pN v by omega] at this
      exact this.symm
    refine Or.inr ⟨(_, M2), ?_, rfl, a2, hf.tr a3⟩
    show f_X1_fillByDraws_L4 c (n + 1) _ (nI i) M9 = f_X1_fillByDraws_L4 c n (iter (fun p (s : Int32) => s + bc ((sFil v).2 p 3)) i 0 + bc ((sFil v).2 i 3)) (nI (i + 1)) M2
    rw [f_X1_fillByDraws_L4, e0, if_neg (nI_ge hi (by omega)), a1, Option.bind_some, chk_ok (by omega) (by decide), tn_nI (by omega), f3, bc_ok, Option.bind_some]
    simp only [bi, nI_1]) (by
    intro n s h
    refine ⟨s, ?_, h⟩
    have hA2 := (Alike.rf hW).gp (pN v)
    have e0 : s.2.1 c 1 = nI (pN v) := by rw [h.2.1.1 1 (by decide), hA2.1.n, hA2.n]
    show f_X1_fillByDraws_L4 c (n + 1) s.1 (nI (pN v)) s.2 = _
    rw [f_X1_fillByDraws_L4, e0, if_pos (Int32.le_refl _)]) 1000 0 (0, M) (by omega) (by omega) ⟨rfl, hV, Fr.rf⟩
  unfold f_X1_fillByDraws
  rw [show f_X1_fillByDraws_L4 c 1000 0 0 M = some r from e1]
  refine ⟨r.2, ?_, e2.2⟩
  show some (r.2, r.1) = _
  rw [e2.1]
  unfold sFree
  rw [sFil_pN hW]
theorem M_fill {b : Nat} {v : CV} (hV : VM b v M) (hW : WF v) : ∃ M2, f_X8_fills b M = some M2 ∧ VM b (sFil v) M2 ∧ FrV b M M2 := by
  have h2 := hW.n9
  obtain ⟨r, e1, e2⟩ := loop_ex (fun n i (M9 : Mm) => f_X8_fills_L2 b n (nI i) M9) (pN v) (fun i M9 => VM b (iter (gFp (dN v)) i v) M9 ∧ FrV b M M9) (fun r => VM b (sFil v) r ∧ FrV b M r) (by
    intro n i M9 hi h
    obtain ⟨hv, hf⟩ := h
    have hA2 := (Alike.rf hW).gp i
    have e0 : M9.1 b 10 = nI (pN v) := by rw [hv.n, hA2.1.n, hA2.n]
    obtain ⟨M2, a1, a2, a3⟩ := M_fillP hv hA2 (p := i) (by omega)
    refine Or.inr ⟨M2, ?_, a2, hf.tr a3⟩
    show f_X8_fills_L2 b (n + 1) (nI i) M9 = _
    rw [f_X8_fills_L2, e0, if_neg (nI_ge hi (by omega)), a1, Option.bind_some]
    simp only [bi, nI_1]) (by
    intro n M9 h
    refine ⟨M9, ?_, h⟩
    have hA2 := (Alike.rf hW).gp (pN v)
    have e0 : M9.1 b 10 = nI (pN v) := by rw [h.1.n, hA2.1.n, hA2.n]
    show f_X8_fills_L2 b (n + 1) (nI (pN v)) M9 = _
    rw [f_X8_fills_L2, e0, if_pos (Int32.le_refl _)]) 1000 0 M (by omega) (by omega) ⟨hV, FrV.rf⟩
  unfold f_X8_fills
  rw [show f_X8_fills_L2 b 1000 0 M = some r from e1]
  exact ⟨r, rfl, e2⟩
theorem sFil_WF {v : CV} (h : WF v) : WF (sFil v) := ((Alike.rf h).gp _).1
theorem X7_fill (h : RC a M) (hW : WA a) : OKC (f_X7_fill M) M (oFill a) := by
  unfold f_X7_fill oFill
  obtain ⟨M2, e, hv, hf⟩ := C_fill h.1 hW.1
  rw [e]
  exact OKC.v h hv (hf.wide (by omega) (by omega))
theorem X8_fill (h : RM a M) (hW : WA a) : OKM (f_X8_fill 69 M) M (oFill a) := by
  unfold f_X8_fill oFill
  obtain ⟨M2, e, hv, hf⟩ := M_fill h.1 hW.1
  rw [e, Option.bind_some, M_freeNow hv (sFil_WF hW.1)]
  exact OKM.v h hv hf
theorem W_fill (h : WB a) : WB (oFill a).1 := WB_setV h (sFil_WF h.1.1) (fun z => by
  rw [sFil_pN h.1.1] at z
  exact (((Alike.rf h.1.1).gp (pN a.1)).2 2 (by decide)).trans (h.2.1 z)) (by rw [sFil_pN h.1.1]; exact Nat.le_refl _)
end OF1
