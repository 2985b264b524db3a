/-! the model reads -/
def MR9 (T : Nat → Int32) (N : Nat) (w : CV) (t : Tok) (M : Mm) : Prop := VM 69 w M ∧ MT9 T N M ∧ MK9 T t M
def rdS (x y : Nat) : Prop := stV 69 x y ∨ (x = 69 ∧ 21 ≤ y ∧ y ≤ 25) ∨ x = 92
def FrK (M M2 : Mm) : Prop := (∀ x y, ¬ rdS x y → M2.1 x y = M.1 x y) ∧ M2.2 = M.2
theorem FrK.rf {M : Mm} : FrK M M := ⟨fun _ _ _ => rfl, rfl⟩
theorem FrK.tr {M M2 M3 : Mm} (h : FrK M M2) (h2 : FrK M2 M3) : FrK M M3 := ⟨fun x y z => (h2.1 x y z).trans (h.1 x y z), h2.2.trans h.2⟩
theorem FrK.wI {M : Mm} {a k : Nat} {x : Int32} (h : rdS a k) : FrK M (wI M a k x) := ⟨fun x y hn => wI_off (by
  by_cases q : x = a
  · refine Or.inr fun z => hn ?_
    rw [q, z]; exact h
  · exact Or.inl q), rfl⟩
theorem FrK.l {M M2 : Mm} (h : FrL M M2) : FrK M M2 := ⟨fun x y hn => h.1 x y (by unfold rdS at hn; omega), h.2⟩
theorem FrK.v {M M2 : Mm} (h : FrV 69 M M2) : FrK M M2 := ⟨fun x y hn => h.1 x y (fun z => hn (Or.inl z)), h.2⟩
def MRes (T : Nat → Int32) (N : Nat) (M : Mm) (r : SR9) (x : Option (Mm × Int32)) : Prop := ∃ M2 z, x = some (M2, z) ∧ FrK M M2 ∧ r.elim (fun p => z = 0 ∧ M2.1 69 25 = nI p) (fun q => z = 1 ∧ MR9 T N q.1 q.2 M2)
theorem chb0 {α : Type} {X : Option α} : chb 0 X = X := if_pos (by decide)
theorem chb1 {α : Type} {X : Option α} : chb 1 X = X := if_pos (by decide)
theorem MRes.ch {T : Nat → Int32} {N : Nat} {M : Mm} {r : SR9} {x : Option (Mm × Int32)} (h : MRes T N M r x) : MRes T N M r (x.bind fun q => chb q.2 <| some (q.1, q.2)) := by
  obtain ⟨M2, z, rfl, h2, h3⟩ := h
  refine ⟨M2, z, ?_, h2, h3⟩
  cases r with
  | inl p => rw [show z = 0 from h3.1, Option.bind_some]; exact chb0
  | inr q => rw [show z = 1 from h3.1, Option.bind_some]; exact chb1
section STM
variable {T : Nat → Int32} {N : Nat} {M : Mm} {w : CV} {t : Tok}
theorem VM.frl {M2 : Mm} (h : VM 69 w M) (hF : ∀ x y, x ≠ 69 ∨ (y < 21 ∨ 25 < y) → x ≠ 92 → M2.1 x y = M.1 x y) : VM 69 w M2 :=
  h.eqs (fun y hy => hF 69 y (Or.inr (by omega)) (by decide)) (fun x h1 h2 => funext fun y => hF x y (Or.inl (by omega)) (by omega))
theorem M_lookR (hN : N ≤ 250) (hR : MR9 T N w t M) (hv : VT9 T N t) : ∃ M2, f_X8_look 69 M = some M2 ∧ MR9 T N w (nxT T N t) M2 ∧ FrL M M2 := by
  obtain ⟨M2, a1, a2, a3, a4⟩ := M_look hN hR.2.1 (hv.f hN).2.1 hR.2.2.2.2.1
  exact ⟨M2, a1, ⟨hR.1.frl fun x y h1 h2 => a4.1 x y (by omega), a3, a2⟩, a4⟩
theorem M_wrong9 (hR : MR9 T N w t M) : MRes T N M (Sum.inl t.2.1) (f_X8_wrong 69 M) := by
  unfold f_X8_wrong
  simp only [bm]
  exact ⟨_, 0, rfl, FrK.wI (Or.inr (Or.inl (by omega))), rfl, by rw [wI_on]; exact hR.2.2.2.1⟩
/-- a number, told at place i -/
theorem M_num9 {i : Nat} (hi : i < 3) {lo hh : Int32} (hk : hh < 1000) (hN : N ≤ 250) (hR : MR9 T N w t M) (hv : VT9 T N t) : (nB T t lo hh = true ∧ ∃ M2, f_X8_number 69 (nI i) lo hh M = some (M2, 1) ∧ MR9 T N w (nxT T N t) M2 ∧ M2.1 92 i = nvT T t ∧ (∀ j, j ≠ i → M2.1 92 j = M.1 92 j) ∧ FrK M M2) ∨ (nB T t lo hh = false ∧ f_X8_number 69 (nI i) lo hh M = some (wI M 69 25 (nI t.2.1), 0)) := by
  have f := hv.f hN
  have x2 : nI t.1 = 2 ↔ t.1 = 2 := nI_eq (b := 2) (by omega) (by decide)
  unfold f_X8_number f_X8_wrong
  rw [hR.2.2.1, hR.2.2.2.1]
  simp only [bm, Option.bind_some, chb0]
  by_cases q : t.1 = 2
  · rw [if_pos (x2.mpr q), hR.2.2.2.2.2 q, in_ok32, Option.bind_some]
    unfold figI
    by_cases q2 : t.2.2 - t.2.1 ≤ 2
    · rw [if_pos q2]
      by_cases q3 : lo ≤ nvT T t ∧ nvT T t ≤ hh
      · rw [if_pos q3, if_neg (by decide), chk_ok hi (by decide), tn_nI (by omega)]
        have hR2 : MR9 T N w t (wI M 92 i (nvT T t)) := ⟨hR.1.frl fun x y h1 h2 => wI_off (Or.inl h2), ⟨(wI_off (by omega)).trans hR.2.1.1, fun j hj => (wI_off (by omega)).trans (hR.2.1.2 j hj)⟩, ⟨(wI_off (by omega)).trans hR.2.2.1, (wI_off (by omega)).trans hR.2.2.2.1, (wI_off (by omega)).trans hR.2.2.2.2.1, fun z => (wI_off (by omega)).trans (hR.2.2.2.2.2 z)⟩⟩
        obtain ⟨M2, a1, a2, a3⟩ := M_lookR hN hR2 hv
        refine Or.inl ⟨decide_eq_true ⟨q, q2, q3⟩, M2, ?_, a2, ?_, fun j hj => ?_, (FrK.wI (Or.inr (Or.inr rfl))).tr (FrK.l a3)⟩
        · rw [show f_X8_look 69 (wI M (69 + 23) i (nvI T t.2.1 (t.2.2 - t.2.1))) = some M2 from a1]; rfl
        · rw [a3.1 92 i (by omega), wI_on]
        · rw [a3.1 92 j (by omega), wI_off (Or.inr hj)]
      · rw [if_neg q3, if_pos rfl]
        exact Or.inr ⟨decide_eq_false fun z => q3 z.2.2, rfl⟩
    · rw [if_neg q2, if_neg (show ¬ (lo ≤ 1000 ∧ 1000 ≤ hh) from fun z => i32_nle.mpr hk z.2), if_pos rfl]
      exact Or.inr ⟨decide_eq_false fun z => q2 z.2.1, rfl⟩
  · rw [if_neg (fun z => q (x2.mp z))]
    exact Or.inr ⟨decide_eq_false fun z => q z.1, rfl⟩
theorem M_tell9 {lo hh : Int32} (hk : hh < 1000) (hN : N ≤ 250) (hR : MR9 T N w t M) (hv : VT9 T N t) : (nB T (nxT T N t) lo hh = true ∧ ∃ M2, f_X8_tells 69 lo hh M = some (M2, 1) ∧ MR9 T N w (nxT T N (nxT T N t)) M2 ∧ M2.1 92 0 = nvT T (nxT T N t) ∧ FrK M M2) ∨ (nB T (nxT T N t) lo hh = false ∧ ∃ M2, f_X8_tells 69 lo hh M = some (M2, 0) ∧ VM 69 w M2 ∧ M2.1 69 25 = nI (nxT T N t).2.1 ∧ FrK M M2) := by
  obtain ⟨Ma, a1, a2, a3⟩ := M_lookR hN hR hv
  unfold f_X8_tells
  rw [a1, Option.bind_some]
  rcases M_num9 (i := 0) (by decide) hk hN a2 (hv.nx hN) with ⟨b1, Mb, b2, b3, b4, b5, b6⟩ | ⟨b1, b2⟩
  · rw [show f_X8_number 69 0 lo hh Ma = some (Mb, 1) from b2, Option.bind_some]
    exact Or.inl ⟨b1, Mb, chb1, b3, b4, (FrK.l a3).tr b6⟩
  · rw [show f_X8_number 69 0 lo hh Ma = some (wI Ma 69 25 (nI (nxT T N t).2.1), 0) from b2, Option.bind_some]
    exact Or.inr ⟨b1, _, chb0, a2.1.frl fun x y h1 h2 => wI_off (by omega), wI_on, (FrK.l a3).tr (FrK.wI (Or.inr (Or.inl (by omega))))⟩
theorem M_isW9 (hN : N ≤ 250) (hR : MR9 T N w t M) (hv : VT9 T N t) {k : Nat} (hw : k < 8) : f_X8_isWord 69 k M = some (M, if wB T t k = true then 1 else 0) := by
  have f := hv.f hN
  have l := len_w hw
  have hT := hR.2.1
  have hk := hR.2.2
  have x1 : nI t.1 = 1 ↔ t.1 = 1 := nI_eq (b := 1) (by omega) (by decide)
  unfold f_X8_isWord wB
  rw [hk.1, hk.2.1, hk.2.2.1, nI_subN f.1]
  by_cases q : t.1 = 1
  · rw [if_pos (x1.mpr q), show f_strLen k = some (nI (lenS.getD k 0)) from rfl, Option.bind_some]
    by_cases q2 : t.2.2 - t.2.1 = lenS.getD k 0
    · rw [if_pos (by rw [q2]), decide_eq_true (p := t.1 = 1 ∧ t.2.2 - t.2.1 = lenS.getD k 0) ⟨q, q2⟩, Bool.true_and]
      have r := loop_fst (fun i => decide (¬ T (t.2.1 + i) = (bytS.getD k []).getD i 0)) (fun n i => f_X8_isWord_L28 69 k n (nI i) M) (lenS.getD k 0) M (fun _ => (M, (0 : Int32))) (by
        intro n i hi
        show f_X8_isWord_L28 69 k (n + 1) (nI i) M = if decide (¬ T (t.2.1 + i) = (bytS.getD k []).getD i 0) = true then some (Sum.inr (M, 0)) else f_X8_isWord_L28 69 k n (nI (i + 1)) M
        rw [f_X8_isWord_L28, show f_strLen k = some (nI (lenS.getD k 0)) from rfl, Option.bind_some, if_neg (nI_ge hi (by omega)), hk.2.1, nI_add, chk_ok (show t.2.1 + i < 250 by omega) (by decide)]
        unfold f_strAt
        rw [chk_ok hi (by omega), Option.bind_some, tn_nI (show i < 2 ^ 31 by omega), tn_nI (show t.2.1 + i < 2 ^ 31 by omega), show M.1 (69 + 15) (t.2.1 + i) = T (t.2.1 + i) from hT.2 _ (by omega)]
        by_cases q3 : T (t.2.1 + i) = (bytS.getD k []).getD i 0
        · rw [if_pos q3, if_neg (fun z => absurd q3 (of_decide_eq_true z))]
          simp only [bi, nI_1]
        · rw [if_neg q3, if_pos (decide_eq_true q3)]) (by
        intro n
        show f_X8_isWord_L28 69 k (n + 1) (nI (lenS.getD k 0)) M = _
        rw [f_X8_isWord_L28, show f_strLen k = some (nI (lenS.getD k 0)) from rfl, Option.bind_some, if_pos (Int32.le_refl _)]) 1000 0 (Nat.zero_le _) (by omega)
      rw [show f_X8_isWord_L28 69 k 1000 0 M = _ from r, obS_elim, Nat.sub_zero]
      cases fstO (fun i => decide (¬ T (t.2.1 + i) = (bytS.getD k []).getD i 0)) (lenS.getD k 0) 0 <;> rfl
    · rw [if_neg (fun z => q2 ((nI_eq (by omega) (by omega)).mp z)), decide_eq_false (p := t.1 = 1 ∧ t.2.2 - t.2.1 = lenS.getD k 0) (fun z => q2 z.2)]; rfl
  · rw [if_neg (fun z => q (x1.mp z)), decide_eq_false (p := t.1 = 1 ∧ t.2.2 - t.2.1 = lenS.getD k 0) (fun z => q z.1)]; rfl
/-- the model's circle changed elsewhere than in the reading -/
theorem MR9.v {w2 : CV} {M2 : Mm} (h : MR9 T N w t M) (hV : VM 69 w2 M2) (hF : FrV 69 M M2) : MR9 T N w2 t M2 := by
  have g : ∀ x y, ¬ stV 69 x y → M2.1 x y = M.1 x y := hF.1
  exact ⟨hV, ⟨(g 69 7 (by unfold stV; omega)).trans h.2.1.1, fun i hi => (g 84 i (by unfold stV; omega)).trans (h.2.1.2 i hi)⟩, ⟨(g 69 22 (by unfold stV; omega)).trans h.2.2.1, (g 69 23 (by unfold stV; omega)).trans h.2.2.2.1, (g 69 21 (by unfold stV; omega)).trans h.2.2.2.2.1, fun z => (g 69 24 (by unfold stV; omega)).trans (h.2.2.2.2.2 z)⟩⟩
theorem M_asks9 {i : Nat} (hi : i < 3) {lo hh : Int32} (hN : N ≤ 250) (hR : MR9 T N w t M) (hv : VT9 T N t) (hW : WF w) (hk : hh < 1000) : MRes T N M (sOne T N t lo hh (uS w (2 + i))) (f_X8_asks 69 (nI i) lo hh M) := by
  have c3 : ∀ {α : Type} (X : Option α), chk (nI i) 3 X = X := fun X => chk_ok hi (by decide)
  have ti : (nI i).toNatClampNeg = i := tn_nI (by omega)
  unfold f_X8_asks sOne
  have put : ∀ (M9 : Mm) (w9 : CV) (x : Int32), VM 69 w9 M9 → VM 69 (uS w9 (2 + i) x) (wI M9 91 i x) := fun M9 w9 x h => by
    rcases (show i = 0 ∨ i = 1 ∨ i = 2 by omega) with z | z | z
    · subst z; exact h.s2 x
    · subst z; exact h.s3 x
    · subst z; exact h.s4 x
  rcases M_tell9 (lo := lo) hk hN hR hv with ⟨b1, Mb, b2, b3, b4, b5⟩ | ⟨b1, Mb, b2, b3, b4, b5⟩
  · rw [b2, if_pos b1, Option.bind_some]
    simp only [bi, bm, c3, ti, Nat.reduceAdd, i10, if_false, chb1, b4]
    have hF : FrV 69 Mb (wI Mb 91 i (nvT T (nxT T N t))) := FrV.wI (by unfold stV; omega)
    exact ⟨_, 1, rfl, b5.tr (FrK.v hF), rfl, b3.v (put _ _ _ b3.1) hF⟩
  · rw [b2, if_neg (by rw [b1]; decide), Option.bind_some]
    simp only [bi, bm, c3, ti, Nat.reduceAdd, if_true, chb0]
    have hF : FrV 69 Mb (wI Mb 91 i (Mb.1 91 i)) := FrV.wI (by unfold stV; omega)
    exact ⟨_, 0, rfl, b5.tr (FrK.v hF), rfl, by rw [wI_off (by omega)]; exact b4⟩
theorem M_days9 (hN : N ≤ 250) (hR : MR9 T N w t M) (hv : VT9 T N t) (hW : WF w) : MRes T N M (sOne T N t 1 14 (sDaysAre w)) ((f_X8_tells 69 1 14 M).bind fun q71 => bi q71.2 fun v73 => if v73 = 0 then (f_X8_daysAre 69 (q71.1.1 69 9) q71.1).bind fun q74 => chb v73 <| some (q74, v73) else (f_X8_daysAre 69 (q71.1.1 92 0) q71.1).bind fun q76 => chb v73 <| some (q76, v73)) := by
  unfold sOne
  rcases M_tell9 (lo := 1) (hh := 14) (by decide) hN hR hv with ⟨b1, Mb, b2, b3, b4, b5⟩ | ⟨b1, Mb, b2, b3, b4, b5⟩
  · obtain ⟨Mc, c1, c2, c3⟩ := M_daysAre b3.1 hW (nvT T (nxT T N t))
    rw [b2, if_pos b1, Option.bind_some]
    simp only [bi, i10, if_false, b4, c1, Option.bind_some, chb1]
    exact ⟨Mc, 1, rfl, b5.tr (FrK.v c3), rfl, b3.v c2 c3⟩
  · obtain ⟨Mc, c1, c2, c3⟩ := M_daysAre b3 hW (Mb.1 69 9)
    rw [b2, if_neg (by rw [b1]; decide), Option.bind_some]
    simp only [bi, if_true, c1, Option.bind_some, chb0]
    exact ⟨Mc, 0, rfl, b5.tr (FrK.v c3), rfl, (c3.1 69 25 (by unfold stV; omega)).trans b4⟩
theorem k1000 {n : Nat} (hn : n < 100) : nI n - 1 < 1000 := by
  have : ∀ q : Fin 100, nI q.1 - 1 < 1000 := by decide
  exact this ⟨n, hn⟩
theorem M_free9 (hN : N ≤ 250) (hR : MR9 T N w t M) (hv : VT9 T N t) (hW : WF w) (z : Int32) : MRes T N M (sEv T N w t z) (f_X8_freeTold 69 z M) := by
  have n9 := hW.n9
  have d15 := hW.d15
  have h1k : w.1 1 - 1 < 1000 := by rw [hW.n]; exact k1000 (by omega)
  have h0k : w.1 0 - 1 < 1000 := by rw [hW.d]; exact k1000 (by omega)
  unfold sEv sTwo f_X8_freeTold
  rw [hR.1.n]
  rcases M_tell9 (lo := 0) h1k hN hR hv with ⟨b1, Mb, b2, b3, b4, b5⟩ | ⟨b1, Mb, b2, b3, b4, b5⟩
  · rw [b2, if_pos b1, Option.bind_some]
    simp only [i10, if_false]
    rw [b3.1.d]
    rcases M_num9 (i := 1) (lo := 0) (by decide) h0k hN b3 ((hv.nx hN).nx hN) with ⟨c1, Mc, c2, c3, c4, c5, c6⟩ | ⟨c1, c2⟩
    · rw [show f_X8_number 69 1 0 (w.1 0 - 1) Mb = some (Mc, 1) from c2, if_pos c1, Option.bind_some]
      have nv := nB_nv hN (hv.nx hN) b1
      obtain ⟨p, hp, e⟩ := one_p hW nv.2.1 nv.2.2
      have e0 : Mc.1 (69 + 23) 0 = nI p := by rw [show Mc.1 (69 + 23) 0 = Mb.1 92 0 from c5 0 (by decide), b4, e]
      have e1 : Mc.1 (69 + 23) 1 = nvT T (nxT T N (nxT T N t)) := c4
      simp only [i10, if_false]
      rw [e0, e1, frees_ok c3.1 (by omega), e, tnn (by omega)]
      have hF : FrV 69 Mc (wI Mc (69 + 20) p (fBit (w.2 p 3) (nvT T (nxT T N (nxT T N t))) z)) := FrV.wI (by unfold stV; omega)
      exact ⟨_, 1, rfl, (b5.tr c6).tr (FrK.v hF), rfl, c3.v (c3.1.u3 p _) hF⟩
    · rw [show f_X8_number 69 1 0 (w.1 0 - 1) Mb = some (wI Mb 69 25 (nI (nxT T N (nxT T N t)).2.1), 0) from c2, if_neg (by rw [c1]; decide), Option.bind_some]
      simp only [if_true]
      exact ⟨_, 0, rfl, b5.tr (FrK.wI (Or.inr (Or.inl (by omega)))), rfl, wI_on⟩
  · rw [b2, if_neg (by rw [b1]; decide), Option.bind_some]
    simp only [if_true]
    exact ⟨Mb, 0, rfl, b5, rfl, b4⟩
theorem M_out9 (hN : N ≤ 250) (hR : MR9 T N w t M) (hv : VT9 T N t) (hW : WF w) : MRes T N M (sTwo T N t (w.1 1 - 1) 99 (fun p x => uP w (tn p) 4 x)) ((f_X8_tells 69 0 (w.1 1 - 1) M).bind fun q25 => if q25.2 = 0 then some (q25.1, 0) else (f_X8_number 69 1 0 99 q25.1).bind fun q27 => if q27.2 = 0 then some (q27.1, 0) else chk (q27.1.1 92 0) 8 <| bm (wI q27.1 90 (q27.1.1 92 0).toNatClampNeg (q27.1.1 92 1)) fun M29 => some (M29, 1)) := by
  have n9 := hW.n9
  have h1k : w.1 1 - 1 < 1000 := by rw [hW.n]; exact k1000 (by omega)
  unfold sTwo
  rcases M_tell9 (lo := 0) h1k hN hR hv with ⟨b1, Mb, b2, b3, b4, b5⟩ | ⟨b1, Mb, b2, b3, b4, b5⟩
  · rw [b2, if_pos b1, Option.bind_some]
    simp only [i10, if_false]
    rcases M_num9 (i := 1) (lo := 0) (hh := 99) (by decide) (by decide) hN b3 ((hv.nx hN).nx hN) with ⟨c1, Mc, c2, c3, c4, c5, c6⟩ | ⟨c1, c2⟩
    · rw [show f_X8_number 69 1 0 99 Mb = some (Mc, 1) from c2, if_pos c1, Option.bind_some]
      have nv := nB_nv hN (hv.nx hN) b1
      obtain ⟨p, hp, e⟩ := one_p hW nv.2.1 nv.2.2
      have e0 : Mc.1 92 0 = nI p := by rw [c5 0 (by decide), b4, e]
      simp only [i10, if_false, bm]
      rw [e0, c4, e, chk_ok (show p < 8 by omega) (by decide), tn_nI (by omega), tnn (by omega)]
      have hF : FrV 69 Mc (wI Mc (69 + 21) p (nvT T (nxT T N (nxT T N t)))) := FrV.wI (by unfold stV; omega)
      exact ⟨_, 1, rfl, (b5.tr c6).tr (FrK.v hF), rfl, c3.v (c3.1.u4 p _) hF⟩
    · rw [show f_X8_number 69 1 0 99 Mb = some (wI Mb 69 25 (nI (nxT T N (nxT T N t)).2.1), 0) from c2, if_neg (by rw [c1]; decide), Option.bind_some]
      simp only [if_true]
      exact ⟨_, 0, rfl, b5.tr (FrK.wI (Or.inr (Or.inl (by omega)))), rfl, wI_on⟩
  · rw [b2, if_neg (by rw [b1]; decide), Option.bind_some]
    simp only [if_true]
    exact ⟨Mb, 0, rfl, b5, rfl, b4⟩
theorem M_per9 (hN : N ≤ 250) (hR : MR9 T N w t M) (hv : VT9 T N t) (hW : WF w) (h8 : pN w < 8) : MRes T N M (sThree T N t w) ((f_X8_tells 69 0 5 M).bind fun q63 => if q63.2 = 0 then some (q63.1, 0) else (f_X8_number 69 1 0 13 q63.1).bind fun q65 => if q65.2 = 0 then some (q65.1, 0) else (f_X8_number 69 2 0 12 q65.1).bind fun q67 => if q67.2 = 0 then some (q67.1, 0) else (f_X8_addPerson 69 (q67.1.1 92 0) (q67.1.1 92 1) (q67.1.1 92 2) q67.1).bind fun q69 => some (q69, 1)) := by
  unfold sThree
  rcases M_tell9 (lo := 0) (hh := 5) (by decide) hN hR hv with ⟨b1, Mb, b2, b3, b4, b5⟩ | ⟨b1, Mb, b2, b3, b4, b5⟩
  · rw [b2, if_pos b1, Option.bind_some]
    simp only [i10, if_false]
    rcases M_num9 (i := 1) (lo := 0) (hh := 13) (by decide) (by decide) hN b3 ((hv.nx hN).nx hN) with ⟨c1, Mc, c2, c3, c4, c5, c6⟩ | ⟨c1, c2⟩
    · rw [show f_X8_number 69 1 0 13 Mb = some (Mc, 1) from c2, if_pos c1, Option.bind_some]
      simp only [i10, if_false]
      rcases M_num9 (i := 2) (lo := 0) (hh := 12) (by decide) (by decide) hN c3 (((hv.nx hN).nx hN).nx hN) with ⟨d1, Md, d2, d3, d4, d5, d6⟩ | ⟨d1, d2⟩
      · rw [show f_X8_number 69 2 0 12 Mc = some (Md, 1) from d2, if_pos d1, Option.bind_some]
        simp only [i10, if_false]
        have e0 : Md.1 92 0 = nvT T (nxT T N t) := by rw [d5 0 (by decide), c5 0 (by decide), b4]
        have e1 : Md.1 92 1 = nvT T (nxT T N (nxT T N t)) := by rw [d5 1 (by decide), c4]
        obtain ⟨Me, g1, g2, g3⟩ := M_addPerson d3.1 hW h8 (nvT T (nxT T N t)) (nvT T (nxT T N (nxT T N t))) (nvT T (nxT T N (nxT T N (nxT T N t))))
        rw [e0, e1, d4, g1]
        exact ⟨Me, 1, rfl, ((b5.tr c6).tr d6).tr (FrK.v g3), rfl, d3.v g2 g3⟩
      · rw [show f_X8_number 69 2 0 12 Mc = some (wI Mc 69 25 (nI (nxT T N (nxT T N (nxT T N t))).2.1), 0) from d2, if_neg (by rw [d1]; decide), Option.bind_some]
        simp only [if_true]
        exact ⟨_, 0, rfl, (b5.tr c6).tr (FrK.wI (Or.inr (Or.inl (by omega)))), rfl, wI_on⟩
    · rw [show f_X8_number 69 1 0 13 Mb = some (wI Mb 69 25 (nI (nxT T N (nxT T N t)).2.1), 0) from c2, if_neg (by rw [c1]; decide), Option.bind_some]
      simp only [if_true]
      exact ⟨_, 0, rfl, b5.tr (FrK.wI (Or.inr (Or.inl (by omega)))), rfl, wI_on⟩
  · rw [b2, if_neg (by rw [b1]; decide), Option.bind_some]
    simp only [if_true]
    exact ⟨Mb, 0, rfl, b5, rfl, b4⟩
theorem wB_x {a b : Nat} (h : wB T t a = true) (h2 : wB T t b = true) (hn : lenS.getD a 0 ≠ lenS.getD b 0) : False := by
  unfold wB at h h2
  rw [Bool.and_eq_true] at h h2
  exact hn ((of_decide_eq_true h.1).2.symm.trans (of_decide_eq_true h2.1).2)
theorem M_stmt (hN : N ≤ 250) (hR : MR9 T N w t M) (hv : VT9 T N t) (hW : WF w) : MRes T N M (stm T N w t) (f_X8_statement 69 M) := by
  have n9 := hW.n9
  have h1k : w.1 1 - 1 < 1000 := by rw [hW.n]; exact k1000 (by omega)
  have e : ∀ k, k < 8 → f_X8_isWord 69 k M = some (M, if wB T t k = true then 1 else 0) := fun k hk => M_isW9 hN hR hv hk
  have en : M.1 69 10 = w.1 1 := hR.1.n
  unfold f_X8_statement stm stR
  simp only [Nat.reduceAdd, e 0 (by decide), e 1 (by decide), e 2 (by decide), e 3 (by decide), e 4 (by decide), e 5 (by decide), e 6 (by decide), e 7 (by decide), en, Option.bind_some, ite01, ite_not]
  by_cases q0 : wB T t 0 = true
  · simp only [if_pos q0]
    exact M_days9 hN hR hv hW
  simp only [if_neg q0]
  by_cases q1 : wB T t 1 = true
  · simp only [if_pos q1]
    by_cases q8 : pN w < 8
    · rw [if_pos q8, if_neg (show ¬ (8 : Int32) ≤ w.1 1 by rw [hW.n]; exact nI_ge (b := 8) q8 (by decide))]
      exact M_per9 hN hR hv hW q8
    rw [if_neg q8, if_pos (show (8 : Int32) ≤ w.1 1 by rw [hW.n]; exact nI_le (a := 8) (by omega) (by omega))]
    by_cases q2 : wB T t 2 = true
    · simp only [if_pos q2]
      exact (M_free9 hN hR hv hW 1).ch
    by_cases q3 : wB T t 3 = true
    · simp only [if_neg q2, if_pos q3]
      exact (M_free9 hN hR hv hW 0).ch
    by_cases q7 : wB T t 7 = true
    · have x4 : ¬ wB T t 4 = true := fun z => wB_x q7 z (by decide)
      have x5 : ¬ wB T t 5 = true := fun z => wB_x q7 z (by decide)
      have x6 : ¬ wB T t 6 = true := fun z => wB_x q7 z (by decide)
      simp only [if_neg q2, if_neg q3, if_neg x4, if_neg x5, if_neg x6, if_pos q7]
      exact M_out9 hN hR hv hW
    by_cases q4 : wB T t 4 = true
    · simp only [if_neg q2, if_neg q3, if_neg q7, if_pos q4]
      exact (M_asks9 (i := 0) (by decide) hN hR hv hW h1k).ch
    by_cases q5 : wB T t 5 = true
    · simp only [if_neg q2, if_neg q3, if_neg q4, if_neg q7, if_pos q5]
      exact (M_asks9 (i := 1) (by decide) hN hR hv hW (by decide)).ch
    by_cases q6 : wB T t 6 = true
    · simp only [if_neg q2, if_neg q3, if_neg q4, if_neg q5, if_neg q7, if_pos q6]
      exact (M_asks9 (i := 2) (by decide) hN hR hv hW (by decide)).ch
    simp only [if_neg q2, if_neg q3, if_neg q4, if_neg q5, if_neg q6, if_neg q7]
    exact (M_wrong9 hR).ch
  simp only [if_neg q1]
  by_cases q2 : wB T t 2 = true
  · simp only [if_pos q2]
    exact (M_free9 hN hR hv hW 1).ch
  by_cases q3 : wB T t 3 = true
  · simp only [if_neg q2, if_pos q3]
    exact (M_free9 hN hR hv hW 0).ch
  by_cases q7 : wB T t 7 = true
  · have x4 : ¬ wB T t 4 = true := fun z => wB_x q7 z (by decide)
    have x5 : ¬ wB T t 5 = true := fun z => wB_x q7 z (by decide)
    have x6 : ¬ wB T t 6 = true := fun z => wB_x q7 z (by decide)
    simp only [if_neg q2, if_neg q3, if_neg x4, if_neg x5, if_neg x6, if_pos q7]
    exact M_out9 hN hR hv hW
  by_cases q4 : wB T t 4 = true
  · simp only [if_neg q2, if_neg q3, if_neg q7, if_pos q4]
    exact (M_asks9 (i := 0) (by decide) hN hR hv hW h1k).ch
  by_cases q5 : wB T t 5 = true
  · simp only [if_neg q2, if_neg q3, if_neg q4, if_neg q7, if_pos q5]
    exact (M_asks9 (i := 1) (by decide) hN hR hv hW (by decide)).ch
  by_cases q6 : wB T t 6 = true
  · simp only [if_neg q2, if_neg q3, if_neg q4, if_neg q5, if_neg q7, if_pos q6]
    exact (M_asks9 (i := 2) (by decide) hN hR hv hW (by decide)).ch
  simp only [if_neg q2, if_neg q3, if_neg q4, if_neg q5, if_neg q6, if_neg q7]
  exact (M_wrong9 hR).ch
end STM
/-- after a statement -/
def rdB (T : Nat → Int32) (N : Nat) (f : Nat) (w : CV) (t : Tok) (k : Nat) : Nat ⊕ (CV × Nat) := if t.1 = 3 then rdA T N f w (nxT T N t) k else if t.1 = 0 then Sum.inr (w, k) else Sum.inl t.2.1
def FrB (M M2 : Mm) : Prop := (∀ x y, ¬ (rdS x y ∨ (x = 69 ∧ y = 27)) → M2.1 x y = M.1 x y) ∧ M2.2 = M.2
theorem FrB.k {M M2 : Mm} (h : FrK M M2) : FrB M M2 := ⟨fun x y z => h.1 x y fun q => z (Or.inl q), h.2⟩
theorem FrB.tr {M M2 M3 : Mm} (h : FrB M M2) (h2 : FrB M2 M3) : FrB M M3 := ⟨fun x y z => (h2.1 x y z).trans (h.1 x y z), h2.2.trans h.2⟩
theorem FrB.rf {M : Mm} : FrB M M := ⟨fun _ _ _ => rfl, rfl⟩
theorem FrB.w27 {M : Mm} {x : Int32} : FrB M (wI M 69 27 x) := ⟨fun x y z => wI_off (by
  by_cases q : x = 69
  · refine Or.inr fun w => z (Or.inr ⟨q, w⟩)
  · exact Or.inl q), rfl⟩
section MLP
variable {T : Nat → Int32} {N : Nat}
theorem M_rdL (hN : N ≤ 250) : ∀ f w t k M n, VT9 T N t → N < t.2.1 + f + 1 → f + 1 ≤ n → WF w → H0 w → MR9 T N w t M → M.1 69 27 = nI k → ∃ M2 r, f_X8_readAll_L23 69 n M = some r ∧ FrB M M2 ∧ (rdB T N f w t k).elim (fun p => r = Sum.inr (M2, 0) ∧ M2.1 69 25 = nI p) (fun q => r = Sum.inl M2 ∧ VM 69 q.1 M2 ∧ M2.1 69 27 = nI q.2) := by
  intro f
  induction f with
  | zero =>
    intro w t k M n hv h1 hn hW h0 hR h27
    have tf := hv.f hN
    obtain ⟨n, rfl⟩ : ∃ m, n = m + 1 := ⟨n - 1, by omega⟩
    have t0 : t.1 = 0 := by
      by_cases z : t.1 = 0
      · exact z
      · have := (tf.2.2.2.1 z).2; omega
    unfold rdB
    rw [if_neg (by omega), if_pos t0]
    refine ⟨M, Sum.inl M, ?_, FrB.rf, rfl, hR.1, h27⟩
    rw [f_X8_readAll_L23, hR.2.2.1, t0, if_pos (show nI 0 = 0 from rfl)]
  | succ f ih =>
    intro w t k M n hv h1 hn hW h0 hR h27
    have tf := hv.f hN
    have x3 : nI t.1 = 3 ↔ t.1 = 3 := nI_eq (b := 3) (by omega) (by decide)
    have x0 : nI t.1 = 0 ↔ t.1 = 0 := nI_eq (b := 0) (by omega) (by decide)
    obtain ⟨n, rfl⟩ : ∃ m, n = m + 1 := ⟨n - 1, by omega⟩
    unfold rdB
    rw [f_X8_readAll_L23, hR.2.2.1]
    by_cases e0 : t.1 = 0
    · rw [if_pos (x0.mpr e0), if_neg (by omega), if_pos e0]
      exact ⟨M, Sum.inl M, rfl, FrB.rf, rfl, hR.1, h27⟩
    · rw [if_neg (fun z => e0 (x0.mp z))]
      by_cases e3 : t.1 = 3
      · rw [if_pos (x3.mpr e3), if_pos e3]
        have st := (tf.2.2.2.1 e0).1
        have ge := hv.ge hN
        obtain ⟨Ma, a1, a2, a3⟩ := M_lookR hN hR hv
        have hv1 := hv.nx hN
        have gd := good_stm hN hv1 hW h0
        have sw : ∀ q, stm T N w (nxT T N t) = Sum.inr q → (nxT T N t).1 = 1 := fun q h => stm_w h
        obtain ⟨Mb, z, b1, b2, b3⟩ := M_stmt hN a2 hv1 hW
        rw [a1, Option.bind_some, b1, Option.bind_some]
        unfold rdA
        generalize stm T N w (nxT T N t) = r at gd b3 sw
        cases r with
        | inl p =>
          have b3 : z = 0 ∧ Mb.1 69 25 = nI p := b3
          rw [if_pos b3.1]
          exact ⟨Mb, _, rfl, FrB.k ((FrK.l a3).tr b2), rfl, b3.2⟩
        | inr q =>
          obtain ⟨w2, t2⟩ := q
          have t1 := sw _ rfl
          have gd : KP9 w w2 ∧ VT9 T N t2 ∧ (nxT T N t).2.2 ≤ t2.2.1 := gd
          have b3 : z = 1 ∧ MR9 T N w2 t2 Mb := b3
          have st2 := ((hv1.f hN).2.2.2.1 (by omega)).1
          have e27 : Mb.1 69 27 = nI k := by rw [b2.1 69 27 (by unfold rdS stV; omega), a3.1 69 27 (by omega)]; exact h27
          have hR2 : MR9 T N w2 t2 (wI Mb 69 27 (nI (k + 1))) := ⟨b3.2.1.eqs (fun y hy => wI_off (by omega)) (fun x h1 h2 => wI_ne (by omega)), b3.2.2.1.put (by decide), ⟨(wI_off (by omega)).trans b3.2.2.2.1, (wI_off (by omega)).trans b3.2.2.2.2.1, (wI_off (by omega)).trans b3.2.2.2.2.2.1, fun z => (wI_off (by omega)).trans (b3.2.2.2.2.2.2 z)⟩⟩
          obtain ⟨M2, r, c1, c2, c3⟩ := ih w2 t2 (k + 1) (wI Mb 69 27 (nI (k + 1))) n gd.2.1 (by omega) (by omega) gd.1.1 gd.1.2.1 hR2 wI_on
          rw [b3.1, if_neg (show ¬ (1 : Int32) = 0 by decide)]
          simp only [bm]
          rw [e27, nI_1, c1]
          exact ⟨M2, r, rfl, ((FrB.k ((FrK.l a3).tr b2)).tr FrB.w27).tr c2, c3⟩
      · rw [if_neg (fun z => e3 (x3.mp z)), if_neg e3, if_neg e0]
        obtain ⟨Ma, z, a1, a2, a3⟩ := M_wrong9 hR
        have a3 : z = 0 ∧ Ma.1 69 25 = nI t.2.1 := a3
        rw [a1, Option.bind_some, a3.1]
        exact ⟨Ma, _, chb0, FrB.k a2, rfl, a3.2⟩
theorem M_rdAll {w : CV} {M : Mm} (hN : N ≤ 250) (hV : VM 69 w M) (hW : WF w) (h0 : H0 w) (hT : MT9 T N M) : ∃ M2 z, f_X8_readAll 69 M = some (M2, z) ∧ FrB M M2 ∧ (rdAll T N w).elim (fun p => z = 0 ∧ M2.1 69 25 = nI p) (fun q => z = 1 ∧ VM 69 q.1 M2 ∧ M2.1 69 27 = nI q.2) := by
  have hF1 : FrB M (wI (wI M 69 27 1) 69 21 0) := FrB.w27.tr (FrB.k (FrK.wI (Or.inr (Or.inl (by omega)))))
  obtain ⟨Ma, a1, a2, a3, a4⟩ := M_look hN ((hT.put (k := 27) (x := 1) (by decide)).put (k := 21) (x := 0) (by decide)) (i := 0) (Nat.zero_le _) wI_on
  have hVa : VM 69 w Ma := hV.eqs (fun y hy => by rw [a4.1 69 y (by omega), wI_off (by omega), wI_off (by omega)]) (fun x h1 h2 => funext fun y => by rw [a4.1 x y (by omega), wI_off (by omega), wI_off (by omega)])
  have hv : VT9 T N (tokAt T N 0) := ⟨0, Nat.zero_le _, rfl⟩
  have gd := good_stm hN hv hW h0
  have sw : ∀ q, stm T N w (tokAt T N 0) = Sum.inr q → (tokAt T N 0).1 = 1 := fun q h => stm_w h
  obtain ⟨Mb, z, b1, b2, b3⟩ := M_stmt hN (w := w) (t := tokAt T N 0) ⟨hVa, a3, a2⟩ hv hW
  unfold f_X8_readAll
  simp only [bm]
  rw [a1, Option.bind_some, b1, Option.bind_some]
  unfold rdAll rdA
  generalize stm T N w (tokAt T N 0) = r at gd b3 sw
  cases r with
  | inl p =>
    have b3 : z = 0 ∧ Mb.1 69 25 = nI p := b3
    rw [if_pos b3.1]
    exact ⟨Mb, 0, rfl, (hF1.tr (FrB.k (FrK.l a4))).tr (FrB.k b2), rfl, b3.2⟩
  | inr q =>
    obtain ⟨w2, t2⟩ := q
    have t1 := sw _ rfl
    have gd : KP9 w w2 ∧ VT9 T N t2 ∧ (tokAt T N 0).2.2 ≤ t2.2.1 := gd
    have b3 : z = 1 ∧ MR9 T N w2 t2 Mb := b3
    have st2 := ((hv.f hN).2.2.2.1 (by omega)).1
    have e27 : Mb.1 69 27 = nI 1 := by rw [b2.1 69 27 (by unfold rdS stV; omega), a4.1 69 27 (by omega), wI_off (by omega), wI_on]; rfl
    obtain ⟨M2, r, c1, c2, c3⟩ := M_rdL hN 250 w2 t2 1 Mb 1000 gd.2.1 (by omega) (by omega) gd.1.1 gd.1.2.1 b3.2 e27
    rw [b3.1, if_neg (show ¬ (1 : Int32) = 0 by decide), c1]
    have hF : FrB M M2 := ((hF1.tr (FrB.k (FrK.l a4))).tr (FrB.k b2)).tr c2
    show ∃ M2 z, obS (some r) (fun r9 => some r9) (fun M16 => some (M16, 1)) = some (M2, z) ∧ FrB M M2 ∧ Sum.elim _ _ (rdB T N 250 w2 t2 1)
    generalize rdB T N 250 w2 t2 1 = rb at c3
    cases rb with
    | inl p =>
      have c3 : r = Sum.inr (M2, 0) ∧ M2.1 69 25 = nI p := c3
      rw [c3.1]
      exact ⟨M2, 0, rfl, hF, rfl, c3.2⟩
    | inr q =>
      have c3 : r = Sum.inl M2 ∧ VM 69 q.1 M2 ∧ M2.1 69 27 = nI q.2 := c3
      rw [c3.1]
      exact ⟨M2, 1, rfl, hF, rfl, c3.2⟩
end MLP
