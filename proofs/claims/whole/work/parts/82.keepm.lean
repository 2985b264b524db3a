/-! the model takes over, keeps, comes back -/
theorem FrV.mm {b : Nat} {M M2 : Mm} (h : FrV b M M2) (hb : 69 ≤ b) : FrM M M2 := fun x hx => ⟨funext fun y => h.1 x y (by unfold stV; omega), by rw [h.2]⟩
theorem FrB.m {M M2 : Mm} (h : FrB M M2) : FrM M M2 := fun x hx => ⟨funext fun y => h.1 x y (by unfold rdS stV; omega), by rw [h.2]⟩
theorem M_takeFrom {b t : Nat} {v : CV} {M : Mm} (hV : VM t v M) (hd : b + 37 ≤ t ∨ t + 37 ≤ b) : ∃ M2, f_X8_takeFrom b t M = some M2 ∧ VM b v M2 ∧ FrV b M M2 := by
  obtain ⟨v0, v1, v2, v3, v4, v5⟩ := hV
  have e1 : (wI M b 9 (M.1 t 9)).1 t 10 = M.1 t 10 := wI_off (by omega)
  have e0 : ∀ x, x ≠ b → (wI (wI M b 9 (M.1 t 9)) b 10 (M.1 t 10)).1 x = M.1 x := fun x hx => by rw [wI_ne hx, wI_ne hx]
  obtain ⟨A1, a1, a2, a3, a4⟩ := M_copied (nA := 8) (o0 := t + 17) (o1 := b + 17) (by decide) (by omega) (wI (wI M b 9 (M.1 t 9)) b 10 (M.1 t 10))
  obtain ⟨A2, b1, b2, b3, b4⟩ := M_copied (nA := 8) (o0 := t + 18) (o1 := b + 18) (by decide) (by omega) A1
  obtain ⟨A3, c1, c2, c3, c4⟩ := M_copied (nA := 8) (o0 := t + 19) (o1 := b + 19) (by decide) (by omega) A2
  obtain ⟨A4, d1, d2, d3, d4⟩ := M_copied (nA := 8) (o0 := t + 20) (o1 := b + 20) (by decide) (by omega) A3
  obtain ⟨A5, f1, f2, f3, f4⟩ := M_copied (nA := 8) (o0 := t + 21) (o1 := b + 21) (by decide) (by omega) A4
  obtain ⟨A6, g1, g2, g3, g4⟩ := M_copied (nA := 3) (o0 := t + 22) (o1 := b + 22) (by decide) (by omega) A5
  have o6 : ∀ x, x < b + 17 ∨ b + 23 ≤ x → A6.1 x = (wI (wI M b 9 (M.1 t 9)) b 10 (M.1 t 10)).1 x := fun x hx => by rw [g3 x (by omega), f3 x (by omega), d3 x (by omega), c3 x (by omega), b3 x (by omega), a3 x (by omega)]
  have t17 : A6.1 t 17 = M.1 t 17 := by rw [o6 t (by omega), e0 t (by omega)]
  have t18 : (wI A6 b 17 (M.1 t 17)).1 t 18 = M.1 t 18 := by rw [wI_off (by omega), o6 t (by omega), e0 t (by omega)]
  have k1 : A1.1 (t + 18) = M.1 (t + 18) := by rw [a3 _ (by omega), e0 _ (by omega)]
  have k2 : A2.1 (t + 19) = M.1 (t + 19) := by rw [b3 _ (by omega), a3 _ (by omega), e0 _ (by omega)]
  have k3 : A3.1 (t + 20) = M.1 (t + 20) := by rw [c3 _ (by omega), b3 _ (by omega), a3 _ (by omega), e0 _ (by omega)]
  have k4 : A4.1 (t + 21) = M.1 (t + 21) := by rw [d3 _ (by omega), c3 _ (by omega), b3 _ (by omega), a3 _ (by omega), e0 _ (by omega)]
  have k5 : A5.1 (t + 22) = M.1 (t + 22) := by rw [f3 _ (by omega), d3 _ (by omega), c3 _ (by omega), b3 _ (by omega), a3 _ (by omega), e0 _ (by omega)]
  have z : ∀ x, x ≠ b → (wI (wI A6 b 17 (M.1 t 17)) b 18 (M.1 t 18)).1 x = A6.1 x := fun x hx => by rw [wI_ne hx, wI_ne hx]
  have bb : A6.1 b = (wI (wI M b 9 (M.1 t 9)) b 10 (M.1 t 10)).1 b := o6 b (by omega)
  refine ⟨wI (wI A6 b 17 (M.1 t 17)) b 18 (M.1 t 18), ?_, ⟨⟨?_, ?_, ?_, ?_, ?_, ?_, ?_⟩, fun p hp => ?_, fun p hp => ?_, fun p hp => ?_, fun p hp => ?_, fun p hp => ?_⟩, fun x y hn => ?_, ?_⟩
  · unfold f_X8_takeFrom
    simp only [bm_eq]
    rw [e1, a1, Option.bind_some, b1, Option.bind_some, c1, Option.bind_some, d1, Option.bind_some, f1, Option.bind_some, g1, Option.bind_some, t17, t18]
  · rw [wI_off (by omega), wI_off (by omega), bb, wI_off (by omega), wI_on]; exact v0.1
  · rw [wI_off (by omega), wI_off (by omega), bb, wI_on]; exact v0.2.1
  · rw [z _ (by omega), g2 0 (by omega), k5]; exact v0.2.2.1
  · rw [z _ (by omega), g2 1 (by omega), k5]; exact v0.2.2.2.1
  · rw [z _ (by omega), g2 2 (by omega), k5]; exact v0.2.2.2.2.1
  · rw [wI_off (by omega), wI_on]; exact v0.2.2.2.2.2.1
  · rw [wI_on]; exact v0.2.2.2.2.2.2
  · rw [z _ (by omega), g3 _ (by omega), f3 _ (by omega), d3 _ (by omega), c3 _ (by omega), b3 _ (by omega), a2 p hp, e0 _ (by omega)]; exact v1 p hp
  · rw [z _ (by omega), g3 _ (by omega), f3 _ (by omega), d3 _ (by omega), c3 _ (by omega), b2 p hp, k1]; exact v2 p hp
  · rw [z _ (by omega), g3 _ (by omega), f3 _ (by omega), d3 _ (by omega), c2 p hp, k2]; exact v3 p hp
  · rw [z _ (by omega), g3 _ (by omega), f3 _ (by omega), d2 p hp, k3]; exact v4 p hp
  · rw [z _ (by omega), g3 _ (by omega), f2 p hp, k4]; exact v5 p hp
  · unfold stV at hn
    rw [wI_off (by omega), wI_off (by omega), o6 x (by omega), wI_off (by omega), wI_off (by omega)]
  · show A6.2 = M.2
    rw [g4, f4, d4, c4, b4, a4]; rfl
/-- the model's state but for what it keeps -/
def RN (a : AB) (M : Mm) : Prop := VM 69 a.1 M ∧ (∀ s, s < 8 → SM s (aSh a s) M) ∧ TM (aT a) M ∧ ∀ i, i < 5 → M.1 85 (2 + i) = aR a i
theorem RM.rn {a : AB} {M : Mm} (h : RM a M) : RN a M := ⟨h.1, h.2.2⟩
theorem RN.rm {a : AB} {M : Mm} (h : RN a M) (hk : KM a.2.1 M) : RM a M := ⟨h.1, hk, h.2⟩
theorem RN.gen {a : AB} {M M2 : Mm} {v : CV} {t : Nat × (Nat → Int32)} (h : RN a M) (hV : VM 69 v M2) (hT : TM t M2) (hF : ∀ x, x = 70 ∨ x = 71 ∨ x = 72 ∨ x = 83 ∨ x = 85 → M2.1 x = M.1 x) (hF2 : M2.2 = M.2) : RN (setV (setT a t) v) M2 := by
  obtain ⟨hv, hs, ht, hr⟩ := h
  refine ⟨hV, fun s h8 => ?_, hT, fun i hi => by rw [hF 85 (by omega)]; exact hr i hi⟩
  unfold SM
  rw [hF 70 (by omega), hF 71 (by omega), hF 72 (by omega), hF 83 (by omega), hF2]
  exact hs s h8
theorem VM.off {b t : Nat} {v : CV} {M M2 : Mm} (h : VM t v M) (hF : FrV b M M2) (hd : b + 37 ≤ t ∨ t + 37 ≤ b) : VM t v M2 :=
  h.eqs (fun y hy => hF.1 t y (by unfold stV; omega)) (fun x h1 h2 => funext fun y => hF.1 x y (by unfold stV; omega))
/-- the blocks of the two kept models lie apart -/
def apart (t K : Nat) : Prop := K = 0 ∨ t + 37 ≤ K ∨ K + 37 ≤ t
theorem RM.cong {a b : AB} {M : Mm} (h : RM a M) (e1 : b.1 = a.1) (e2 : b.2.1 = a.2.1) (e3 : ∀ s, s < 8 → aSh b s = aSh a s) (e4 : b.2.2.2 = a.2.2.2) : RM b M := by
  obtain ⟨hv, hk, hs, ht, hr⟩ := h
  refine ⟨by rw [e1]; exact hv, by rw [e2]; exact hk, fun s h8 => by rw [e3 s h8]; exact hs s h8, ?_, ?_⟩
  · show TM b.2.2.2.1 M
    rw [e4]; exact ht
  · intro i hi
    show M.1 85 (2 + i) = b.2.2.2.2 i
    rw [e4]; exact hr i hi
section KPM
variable {a : AB} {M : Mm}
theorem RN.v {t : Nat} {M2 : Mm} (h : RN a M) (hF : FrV t M M2) (ht : 106 ≤ t) : RN a M2 := by
  have e : ∀ x, x < 106 → M2.1 x = M.1 x := fun x hx => funext fun y => hF.1 x y (by unfold stV; omega)
  exact h.gen (v := a.1) (t := aT a) (h.1.off hF (by omega)) ⟨by rw [e 69 (by decide)]; exact h.2.2.1.1, fun i hi => by rw [e 84 (by decide)]; exact h.2.2.1.2 i hi⟩ (fun x hx => e x (by omega)) hF.2
theorem KM.v {t : Nat} {k : Option CV} {M2 : Mm} (h : KM k M) (hF : FrV t M M2) (hd : apart t (M.2.2 69 19)) : KM k M2 := by
  refine ⟨fun q => by rw [hF.2]; exact h.1 q, fun w q => ?_⟩
  rw [hF.2]
  obtain ⟨k1, k2, k3⟩ := h.2 w q
  refine ⟨k1, k2, k3.off hF ?_⟩
  unfold apart at hd
  omega
/-- the model keeps itself at K -/
def g_image (K : Nat) (M : Mm) : Option (Mm × Int32) := (f_X8_takeFrom K 69 M).bind fun M2 => some (M2, 1)
theorem X8_image {K : Nat} (h : RN a M) (hk : M.2.2 69 19 = K) (hK : 106 ≤ K) : OKM (g_image K M) M (oImage a) := by
  obtain ⟨M2, a1, a2, a3⟩ := M_takeFrom (b := K) h.1 (by omega)
  refine ⟨M2, by unfold g_image; rw [a1]; rfl, (RN.rm (a := setK a a.1) (h.v a3 hK) ⟨fun q => (by cases q), fun w q => ?_⟩), a3.mm (by omega), by rw [a3.2]⟩
  cases q
  rw [a3.2, hk]
  exact ⟨by omega, hK, a2⟩
/-- the model reads its tape, with the copy at t -/
def g_cal (t : Nat) (M : Mm) : Option (Mm × Int32) :=
  (f_X8_readAll 69 M).bind fun q2 => bm (wI q2.1 69 7 0) fun M3 => if q2.2 = 0 then (f_X8_takeFrom 69 t M3).bind fun M4 => (f_X8_refuse 69 (-2) M4).bind fun q5 => some (q5.1, -20 - q5.1.1 69 25) else some (M3, M3.1 69 27)
theorem X8_calendar {t : Nat} (h : RM a M) (hW : WB a) (ht : 106 ≤ t) (hd : apart t (M.2.2 69 19)) : OKM ((f_X8_takeFrom t 69 M).bind fun q1 => g_cal t q1) M (oCal a) := by
  obtain ⟨Ma, a1, a2, a3⟩ := M_takeFrom (b := t) h.1 (by omega)
  have hA : RM a Ma := (h.rn.v a3 ht).rm (KM.v h.2.1 a3 hd)
  obtain ⟨Mb, z, b1, b2, b3⟩ := M_rdAll hW.1.2.2.2.1 hA.1 hW.1.1 hW.2.1 hA.2.2.2.1
  have eB : ∀ x, x ≠ 69 → x < 86 ∨ 93 ≤ x → Mb.1 x = Ma.1 x := fun x h1 h2 => funext fun y => b2.1 x y (by unfold rdS stV; omega)
  have e3 : ∀ x, x ≠ 69 → x < 86 ∨ 93 ≤ x → (wI Mb 69 7 0).1 x = Ma.1 x := fun x h1 h2 => (wI_ne h1).trans (eB x h1 h2)
  have K3 : ∀ M4 : Mm, (∀ x, 106 ≤ x → M4.1 x = Ma.1 x) → M4.2 = Ma.2 → KM a.2.1 M4 := fun M4 he he2 => by
    refine ⟨fun q => by rw [he2]; exact hA.2.1.1 q, fun w q => ?_⟩
    rw [he2]
    obtain ⟨k1, k2, k3⟩ := hA.2.1.2 w q
    exact ⟨k1, k2, k3.eqs (fun y hy => by rw [he _ (by omega)]) (fun x h1 h2 => he x (by omega))⟩
  have T3 : TM (0, (aT a).2) (wI Mb 69 7 0) := ⟨wI_on, fun i hi => absurd hi (Nat.not_lt_zero i)⟩
  have F3 : FrM M (wI Mb 69 7 0) := ((a3.mm (by omega)).tr b2.m).tr (FrM.wI (by omega))
  have R3 : (wI Mb 69 7 0).2 = Ma.2 := b2.2
  have k1 : KM a.2.1 (wI Mb 69 7 0) := K3 _ (fun x hx => e3 x (by omega) (by omega)) R3
  rw [a1, Option.bind_some]
  unfold g_cal oCal
  rw [show f_X8_readAll 69 Ma = some (Mb, z) from b1, Option.bind_some]
  simp only [bm_eq]
  cases e : rdAll (aT a).2 (aT a).1 a.1 with
  | inl p =>
    rw [e] at b3
    have b3 : z = 0 ∧ Mb.1 69 25 = nI p := b3
    have hV3 : VM t a.1 (wI Mb 69 7 0) := a2.eqs (fun y hy => by rw [e3 t (by omega) (by omega)]) (fun x h1 h2 => e3 x (by omega) (by omega))
    obtain ⟨Mc, c1, c2, c3⟩ := M_takeFrom (b := 69) hV3 (by omega)
    have cx : ∀ x, x ≠ 69 → x < 86 ∨ 92 ≤ x → Mc.1 x = (wI Mb 69 7 0).1 x := fun x h1 h2 => funext fun y => c3.1 x y (by unfold stV; omega)
    have hC : RM (setT a (0, (aT a).2)) Mc := RN.rm (a := setT a (0, (aT a).2)) (hA.rn.gen (v := a.1) (t := (0, (aT a).2)) c2 ⟨(c3.1 69 7 (by unfold stV; omega)).trans T3.1, fun i hi => absurd hi (Nat.not_lt_zero i)⟩ (fun x hx => (cx x (by omega) (by omega)).trans (e3 x (by omega) (by omega))) (c3.2.trans R3)) (K3 _ (fun x hx => (cx x (by omega) (by omega)).trans (e3 x (by omega) (by omega))) (c3.2.trans R3))
    rw [if_pos b3.1, c1, Option.bind_some, M_refuse Mc (k := 0) (by decide) (by decide), Option.bind_some]
    refine ⟨_, ?_, RM_rfu hC (k := 0) (by decide), (F3.tr (c3.mm (by omega))).tr (FrM.wI (by omega)), ?_⟩
    · have : (wI Mc 85 (2 + 0) (Mc.1 85 (2 + 0) + 1)).1 69 25 = nI p := by rw [wI_ne (by decide), c3.1 69 25 (by unfold stV; omega), wI_off (by omega)]; exact b3.2
      rw [this]; rfl
    · show Mc.2.2 = M.2.2
      rw [c3.2, R3, a3.2]
  | inr q =>
    rw [e] at b3
    have b3 : z = 1 ∧ VM 69 q.1 Mb ∧ Mb.1 69 27 = nI q.2 := b3
    rw [if_neg (by rw [b3.1]; decide)]
    refine ⟨_, ?_, RN.rm (a := setV (setT a (0, (aT a).2)) q.1) (hA.rn.gen (b3.2.1.eqs (fun y hy => wI_off (by omega)) (fun x h1 h2 => wI_ne (by omega))) T3 (fun x hx => e3 x (by omega) (by omega)) R3) k1, F3, ?_⟩
    · rw [wI_off (by omega), b3.2.2]; rfl
    · show Mb.2.2 = M.2.2
      rw [b2.2, a3.2]
/-- the model goes back to what it kept at K -/
def g_backL : Nat → Int32 → Mm → Option Mm
  | 0, _, _ => none
  | n + 1, i, M => if (8 : Int32) ≤ i then some M else chk i 8 <| if M.1 70 i.toNatClampNeg = 2 then (chk i 8 <| if M.1 83 i.toNatClampNeg < M.1 69 10 then g_backL n (i + 1) M else chk i 8 <| g_backL n (i + 1) (wI M 70 i.toNatClampNeg 0)) else g_backL n (i + 1) M
def g_back (K : Nat) (M : Mm) : Option (Mm × Int32) := (f_X8_takeFrom 69 K M).bind fun q => (g_backL 1000 0 q).bind fun r => some (r, 1)
theorem M_backL {w : CV} (hW : WF w) (h : RM (bkA a w 0) M) (hS : ∀ s, s < 8 → WSh (pN a.1) (aSh a s)) (hn : pN a.1 < 9) : ∃ M2, g_backL 1000 0 M = some M2 ∧ RM (bkA a w 8) M2 ∧ FrM M M2 ∧ M2.2.2 = M.2.2 := by
  have wn := hW.n9
  obtain ⟨r, e1, e2⟩ := loop_ex (fun n i (M9 : Mm) => g_backL n (nI i) M9) 8 (fun i M9 => RM (bkA a w i) M9 ∧ FrM M M9 ∧ M9.2.2 = M.2.2) (fun r => RM (bkA a w 8) r ∧ FrM M r ∧ r.2.2 = M.2.2) (by
    intro n i M9 hi hh
    obtain ⟨hR, hF, hF2⟩ := hh
    have hSi := hR.2.2.1 i hi
    rw [bkA_i] at hSi
    have keep : bkS (pN w) (aSh a i) = aSh a i → RM (bkA a w (i + 1)) M9 := fun e => hR.cong rfl rfl (fun s h8 => by
      by_cases q : s = i
      · subst q; rw [bkA_n, e, bkA_i]
      · exact bkA_s q) rfl
    have un : g_backL (n + 1) (nI i) M9 = (if M9.1 70 i = 2 then (if M9.1 83 i < M9.1 69 10 then g_backL n (nI (i + 1)) M9 else g_backL n (nI (i + 1)) (wI M9 70 i 0)) else g_backL n (nI (i + 1)) M9) := by
      rw [g_backL, if_neg (show ¬ (8 : Int32) ≤ nI i from nI_ge (b := 8) hi (by decide)), chk_ok hi (by decide), chk_ok hi (by decide), chk_ok hi (by decide), tn_nI (by omega), nI_1]
    show (∃ r, g_backL (n + 1) (nI i) M9 = some r ∧ _) ∨ ∃ s2, g_backL (n + 1) (nI i) M9 = g_backL n (nI (i + 1)) s2 ∧ _
    rw [un]
    rcases hSi with t | t | ⟨p, hp, t⟩
    · rw [t.2, if_neg (by decide)]
      have f := e_facts t.1
      exact Or.inr ⟨M9, rfl, keep (bkS_keep fun z => f.2.1 z.1), hF, hF2⟩
    · rw [t.2.1, if_neg (by decide)]
      have f := r_facts t.1
      exact Or.inr ⟨M9, rfl, keep (bkS_keep fun z => f.2.1 z.1), hF, hF2⟩
    · have f := p_facts hp
      have n10 : M9.1 69 10 = nI (pN w) := hR.1.n.trans hW.n
      rw [t.2.1, if_pos rfl, t.2.2, n10]
      by_cases q : p < pN w
      · rw [if_pos (nI_lt q (by omega))]
        exact Or.inr ⟨M9, rfl, keep (bkS_keep fun z => z.2 (by rw [t.1, f.2.2.2.2.1]; exact (inN_nI (by omega) (by omega)).mpr q)), hF, hF2⟩
      · rw [if_neg (nI_nlt (Nat.le_of_not_lt q) (by omega))]
        have eb : bkS (pN w) (aSh a i) = (-1, 0, (aSh a i).2.2) := if_pos ⟨by rw [t.1]; exact f.2.2.1, by rw [t.1, f.2.2.2.2.1]; exact fun z => q ((inN_nI (by omega) (by omega)).mp z)⟩
        have hS2 : SM i (-1, 0, (aSh a i).2.2) (wI M9 70 i 0) := Or.inl ⟨rfl, wI_on⟩
        refine Or.inr ⟨_, rfl, (RM_setSh hR hi hS2 (FrS.wI (by omega))).cong rfl rfl (fun s h8 => ?_) rfl, hF.tr (FrM.wI (by omega)), hF2⟩
        by_cases z : s = i
        · subst z
          rw [bkA_n, eb]
          show _ = upN (aSh (bkA a w s)) s _ s
          rw [upN_eq]
        · rw [bkA_s z]
          show _ = upN (aSh (bkA a w i)) i _ s
          rw [upN_ne _ _ z]) (by
    intro n M9 hh
    refine ⟨M9, ?_, hh⟩
    show g_backL (n + 1) (nI 8) M9 = _
    rw [g_backL]
    exact if_pos (by decide)) 1000 0 M (by omega) (by omega) ⟨h, FrM.rf, rfl⟩
  exact ⟨r, e1, e2⟩
theorem X8_back {K : Nat} {w : CV} (h : RM a M) (hW : WA a) (ha : a.2.1 = some w) (hk : M.2.2 69 19 = K) : OKM (g_back K M) M (oBack a) := by
  obtain ⟨k1, k2, k3⟩ := h.2.1.2 w ha
  rw [hk] at k1 k2 k3
  obtain ⟨Ma, a1, a2, a3⟩ := M_takeFrom (b := 69) k3 (by omega)
  have ha9 : RM (bkA a w 0) Ma := (RM_setV h a2 a3).cong rfl rfl (fun s h8 => show (if s < 0 then bkS (pN w) (aSh a s) else aSh a s) = aSh a s from if_neg (Nat.not_lt_zero s)) rfl
  obtain ⟨Mb, b1, b2, b3, b4⟩ := M_backL (hW.2.1 w ha) ha9 hW.2.2.1 hW.1.n9
  unfold g_back oBack
  rw [a1, Option.bind_some, b1, Option.bind_some, ha]
  refine ⟨Mb, rfl, b2.cong rfl ha.symm (fun s h8 => ?_) rfl, (a3.mm (by omega)).tr b3, by rw [b4, a3.2]⟩
  show bkS (pN w) (aSh a s) = if s < 8 then bkS (pN w) (aSh a s) else aSh a s
  rw [if_pos h8]
theorem X8_back0 (h : RM a M) (ha : a.2.1 = none) : OKM ((f_X8_refuse 69 (-5) M).bind fun q => some (q.1, q.2)) M (oBack a) := by
  unfold oBack
  rw [ha]
  exact M_stk h
end KPM
