/-! what is always so stays so: the operations of parts 48 to 59 -/
def H0 (v : CV) : Prop := pN v = 0 → v.1 2 = 0
def WB (a : AB) : Prop := WA a ∧ H0 a.1 ∧ ∀ w, a.2.1 = some w → H0 w
section OW
variable {a : AB} {v : CV}
theorem WB.bad (h : WB a) : WB (bad a).1 := h
theorem WB.oth (h : WB a) : WB (oth a).1 := h
theorem WB.nth (h : WB a) : WB (nth a).1 := h
theorem WB.stk (h : WB a) : WB (stk a).1 := h
theorem WB.ful (h : WB a) : WB (ful a).1 := h
theorem WSh.mono {n m : Nat} {x : SV} (h : WSh n x) (hn : n ≤ m) : WSh m x := by
  rcases h with h | h | ⟨p, hp, h⟩
  · exact Or.inl h
  · exact Or.inr (Or.inl h)
  · exact Or.inr (Or.inr ⟨p, by omega, h⟩)
theorem WB_setV (h : WB a) (hv : WF v) (h0 : H0 v) (hn : pN a.1 ≤ pN v) : WB (setV a v) := ⟨⟨hv, h.1.2.1, fun s hs => (h.1.2.2.1 s hs).mono hn, h.1.2.2.2⟩, h0, h.2.2⟩
theorem WB_setSh {s : Nat} {x : SV} (h : WB a) (hx : WSh (pN a.1) x) : WB (setSh a s x) := ⟨⟨h.1.1, h.1.2.1, fun j hj => by
  show WSh (pN a.1) (upN (aSh a) s x j)
  by_cases q : j = s
  · subst q; rw [upN_eq]; exact hx
  · rw [upN_ne _ _ q]; exact h.1.2.2.1 j hj, h.1.2.2.2⟩, h.2⟩
theorem WB_setT {t : Nat × (Nat → Int32)} (h : WB a) (h1 : t.1 ≤ 250) (h2 : ∀ i, i < t.1 → inN (t.2 i) 256) : WB (setT a t) := ⟨⟨h.1.1, h.1.2.1, h.1.2.2.1, h1, h2⟩, h.2⟩
theorem WF_uP {p k : Nat} {x : Int32} (h : WF v) (hx : p < 8 → (k = 0 → sm x 6) ∧ (k = 1 → sm x 14) ∧ (k = 2 → sm x 13) ∧ (k = 3 → sm x 16384 ∧ (p < pN v → sm x (2 ^ dN v))) ∧ (k = 4 → sm x 100)) : WF (uP v p k x) := by
  refine ⟨h.1, h.2.1, h.2.2.1, h.2.2.2.1, h.2.2.2.2.1, fun q hq => ?_⟩
  have o := h.2.2.2.2.2 q hq
  have g : ∀ j, (uP v p k x).2 q j = if q = p ∧ j = k then x else v.2 q j := fun j => rfl
  rw [g 0, g 1, g 2, g 3, g 4]
  refine ⟨?_, ?_, ?_, ?_, ?_, fun hp => ?_⟩
  · by_cases e : q = p ∧ 0 = k
    · rw [if_pos e]; exact (hx (e.1 ▸ hq)).1 e.2.symm
    · rw [if_neg e]; exact o.1
  · by_cases e : q = p ∧ 1 = k
    · rw [if_pos e]; exact (hx (e.1 ▸ hq)).2.1 e.2.symm
    · rw [if_neg e]; exact o.2.1
  · by_cases e : q = p ∧ 2 = k
    · rw [if_pos e]; exact (hx (e.1 ▸ hq)).2.2.1 e.2.symm
    · rw [if_neg e]; exact o.2.2.1
  · by_cases e : q = p ∧ 3 = k
    · rw [if_pos e]; exact ((hx (e.1 ▸ hq)).2.2.2.1 e.2.symm).1
    · rw [if_neg e]; exact o.2.2.2.1
  · by_cases e : q = p ∧ 4 = k
    · rw [if_pos e]; exact (hx (e.1 ▸ hq)).2.2.2.2 e.2.symm
    · rw [if_neg e]; exact o.2.2.2.2.1
  · by_cases e : q = p ∧ 3 = k
    · rw [if_pos e]; exact ((hx (e.1 ▸ hq)).2.2.2.1 e.2.symm).2 (e.1 ▸ hp)
    · rw [if_neg e]; exact o.2.2.2.2.2 hp
theorem sm_in {x : Int32} {n : Nat} (hn : n < 2 ^ 31) (h : inN x n) : sm x n := sm_of hn h
theorem W_seed (h : WB a) (x : Int32) : WB (oSeed a x).1 := WB_setV h (v := uS a.1 6 x) ⟨h.1.1.1, h.1.1.2.1, h.1.1.2.2.1, h.1.1.2.2.2.1, h.1.1.2.2.2.2.1, h.1.1.2.2.2.2.2⟩ h.2.1 (Nat.le_refl _)
theorem WB_uP {p k : Nat} {x : Int32} (h : WB a) (hx : p < 8 → (k = 0 → sm x 6) ∧ (k = 1 → sm x 14) ∧ (k = 2 → sm x 13) ∧ (k = 3 → sm x 16384 ∧ (p < pN a.1 → sm x (2 ^ dN a.1))) ∧ (k = 4 → sm x 100)) : WB (setV a (uP a.1 p k x)) := WB_setV h (WF_uP h.1.1 hx) h.2.1 (Nat.le_refl _)
theorem W_out (h : WB a) (p x : Int32) : WB (oOut a p x).1 := by
  unfold oOut
  by_cases q : inN p (pN a.1)
  · by_cases q2 : inN x 100
    · rw [if_pos q, if_pos q2]
      refine WB_uP h fun _ => ⟨fun z => absurd z (by decide), fun z => absurd z (by decide), fun z => absurd z (by decide), fun z => absurd z (by decide), fun _ => sm_of (by decide) q2⟩
    · rw [if_pos q, if_neg q2]; exact h
  · rw [if_neg q]; exact h
theorem W_clear (h : WB a) (p : Int32) : WB (oClear a p).1 := by
  unfold oClear
  by_cases q : inN p (pN a.1)
  · rw [if_pos q]
    refine WB_uP h fun _ => ⟨fun z => absurd z (by decide), fun z => absurd z (by decide), fun z => absurd z (by decide), fun _ => ⟨sm0 (by decide) (by decide), fun _ => sm0 (Nat.pow_pos (by decide)) (Nat.pow_le_pow_right (by decide) (by have := h.1.1.d15; omega))⟩, fun z => absurd z (by decide)⟩
  · rw [if_neg q]; exact h
theorem bit_d {d : Nat} (h : d < 15) : (1 : Int32) <<< (nI d &&& 31) = nI (2 ^ d) := by
  have : ∀ q : Fin 15, (1 : Int32) <<< (nI q.1 &&& 31) = nI (2 ^ q.1) := by decide
  exact this ⟨d, h⟩
theorem mask_d {d : Nat} (h : d < 15) : mask (nI d) = nI (2 ^ d - 1) := by
  have h1 : 0 < 2 ^ d := Nat.pow_pos (by decide)
  show (1 : Int32) <<< (nI d &&& 31) - 1 = _
  rw [bit_d h]
  obtain ⟨m, hm⟩ : ∃ m, 2 ^ d = m + 1 := ⟨2 ^ d - 1, by omega⟩
  rw [hm, nI_pred, Nat.add_sub_cancel]
theorem and_sm {x y : Int32} {n : Nat} (hn : n ≤ 2 ^ 31) (hx : sm x n) : sm (x &&& y) n := by
  have e : x &&& y = nI (tn x &&& y.toBitVec.toNat) := by
    have h2 := hx.2
    have h3 : tn x &&& y.toBitVec.toNat ≤ tn x := Nat.and_le_left
    rw [show x &&& y = nI (tn x) &&& y from congrArg (· &&& y) hx.1]
    apply Int32.toBitVec_inj.mp
    rw [Int32.toBitVec_and]
    show BitVec.ofNat 32 (tn x) &&& y.toBitVec = BitVec.ofNat 32 (tn x &&& y.toBitVec.toNat)
    apply BitVec.eq_of_toNat_eq
    rw [BitVec.toNat_and, BitVec.toNat_ofNat, BitVec.toNat_ofNat, Nat.mod_eq_of_lt (by omega), Nat.mod_eq_of_lt (by omega)]
  rw [e]
  exact sm_nI (Nat.lt_of_le_of_lt Nat.and_le_left hx.2) hn
theorem and_mask {x : Int32} {d : Nat} (hd : d < 15) (hx : sm x 16384) : sm (x &&& mask (nI d)) (2 ^ d) := by
  have h1 : 0 < 2 ^ d := Nat.pow_pos (by decide)
  have h2 : 2 ^ d ≤ 2 ^ 14 := Nat.pow_le_pow_right (by decide) (by omega)
  rw [mask_d hd, show x &&& nI (2 ^ d - 1) = nI (tn x) &&& nI (2 ^ d - 1) from congrArg (· &&& nI (2 ^ d - 1)) hx.1, nI_and]
  have h3 : tn x &&& (2 ^ d - 1) ≤ 2 ^ d - 1 := Nat.and_le_right
  exact sm_nI (by omega) (by omega)
theorem fBit_sm {f z : Int32} {d k : Nat} (hd : d < k) (hk : k < 15) (hf : sm f (2 ^ k)) : sm (fBit f (nI d) z) (2 ^ k) := by
  have h2 : 2 ^ k ≤ 2 ^ 14 := Nat.pow_le_pow_right (by decide) (by omega)
  unfold fBit
  by_cases q : z = 0
  · rw [if_pos q]; exact and_sm (by omega) hf
  · rw [if_neg q, bit_d (by omega)]
    exact sm_or (by omega) hf (sm_nI (Nat.pow_lt_pow_right (by decide) hd) (by omega))
theorem W_free (h : WB a) (p d z : Int32) : WB (oFree a p d z).1 := by
  have h2 := h.1.1.n9
  have h3 := h.1.1.d15
  unfold oFree
  by_cases q : inN p (pN a.1)
  · by_cases q2 : inN d (dN a.1)
    · rw [if_pos q, if_pos q2]
      obtain ⟨d, hd, rfl⟩ := inN_k (by omega) q2
      obtain ⟨p, hp, rfl⟩ := inN_k (by omega) q
      have o := h.1.1.2.2.2.2.2 p (by omega)
      rw [tnn (by omega)]
      exact WB_uP h fun _ => ⟨fun z => absurd z (by decide), fun z => absurd z (by decide), fun z => absurd z (by decide), fun _ => ⟨fBit_sm (k := 14) (by omega) (by decide) o.2.2.2.1, fun _ => fBit_sm hd h3 (o.2.2.2.2.2 hp)⟩, fun z => absurd z (by decide)⟩
    · rw [if_pos q, if_neg q2]; exact h
  · rw [if_neg q]; exact h
theorem W_ask (h : WB a) (w x : Int32) : WB (oAsk a w x).1 := by
  have h2 := h.1.1.n9
  unfold oAsk
  by_cases e0 : w = 0
  · rw [if_pos e0]
    by_cases q : inN x (pN a.1)
    · rw [if_pos q]
      obtain ⟨p, hp, rfl⟩ := inN_k (by omega) q
      refine WB_setV h (v := uS a.1 2 (nI p)) ⟨h.1.1.1, h.1.1.2.1, ⟨sm_nI (by omega) (by decide), fun _ => ?_⟩, h.1.1.2.2.2.1, h.1.1.2.2.2.2.1, h.1.1.2.2.2.2.2⟩ (fun z => ?_) (Nat.le_refl _)
      · show tn (nI p) < pN a.1
        rw [tnn (by omega)]; exact hp
      · have z : pN a.1 = 0 := z
        omega
    · rw [if_neg q]; exact h
  · rw [if_neg e0]
    by_cases e1 : w = 1
    · rw [if_pos e1]
      by_cases q : 1 ≤ x ∧ x ≤ 8
      · rw [if_pos q]
        obtain ⟨k, hk, rfl⟩ := (inN_iff (n := 9) (by decide)).mp ⟨Int32.le_trans (by decide) q.1, (le_nI (n := 8) (by decide)).mp q.2⟩
        have k1 : 1 ≤ k := Nat.le_of_not_lt fun z => Int32.not_le.mpr (nI_lt (b := 1) z (by decide)) q.1
        refine WB_setV h (v := uS a.1 3 (nI k)) ⟨h.1.1.1, h.1.1.2.1, h.1.1.2.2.1, ⟨sm_nI hk (by decide), ?_⟩, h.1.1.2.2.2.2.1, h.1.1.2.2.2.2.2⟩ h.2.1 (Nat.le_refl _)
        show 1 ≤ tn (nI k)
        rw [tnn (by omega)]; exact k1
      · rw [if_neg q]; exact h
    · rw [if_neg e1]
      by_cases e2 : w = 2
      · rw [if_pos e2]
        by_cases q : inN x 13
        · rw [if_pos q]
          exact WB_setV h (v := uS a.1 4 x) ⟨h.1.1.1, h.1.1.2.1, h.1.1.2.2.1, h.1.1.2.2.2.1, sm_of (by decide) q, h.1.1.2.2.2.2.2⟩ h.2.1 (Nat.le_refl _)
        · rw [if_neg q]; exact h
      · rw [if_neg e2]; exact h
theorem gDays_2 (x : Int32) (v : CV) : ∀ k p j, (iter (gDays x) k v).2 p j = if p < k ∧ j = 3 then v.2 p 3 &&& mask x else v.2 p j := by
  intro k
  induction k with
  | zero => intro p j; rw [if_neg (fun z => Nat.not_lt_zero _ z.1)]; rfl
  | succ k ih =>
    intro p j
    show (if p = k ∧ j = 3 then (iter (gDays x) k v).2 k 3 &&& mask x else (iter (gDays x) k v).2 p j) = _
    by_cases q : p = k ∧ j = 3
    · rw [if_pos q, ih, if_neg (by omega), if_pos (by omega), q.1]
    · rw [if_neg q, ih]
      by_cases q2 : p < k ∧ j = 3
      · rw [if_pos q2, if_pos (by omega)]
      · rw [if_neg q2, if_neg (by omega)]
theorem W_days (h : WB a) (x : Int32) : WB (oDays a x).1 := by
  have h2 := h.1.1.n9
  unfold oDays
  by_cases q : 1 ≤ x ∧ x ≤ 14
  · rw [if_pos q]
    obtain ⟨d, hd, rfl⟩ := (inN_iff (n := 15) (by decide)).mp ⟨Int32.le_trans (by decide) q.1, (le_nI (n := 14) (by decide)).mp q.2⟩
    have d1 : 1 ≤ d := Nat.le_of_not_lt fun z => Int32.not_le.mpr (nI_lt (b := 1) z (by decide)) q.1
    have e1 : (sDaysAre a.1 (nI d)).1 = (uS a.1 0 (nI d)).1 := gDays_1 _ _ _
    have ed : dN (sDaysAre a.1 (nI d)) = d := by unfold dN; rw [e1]; exact tnn (by omega)
    have en : pN (sDaysAre a.1 (nI d)) = pN a.1 := by unfold pN; rw [e1]; rfl
    refine WB_setV h ⟨⟨⟨?_, ?_⟩, ?_⟩, ?_, ⟨?_, fun z => ?_⟩, ⟨?_, ?_⟩, ?_, fun p hp => ?_⟩ (fun z => ?_) (by omega)
    · show _ = nI (dN _)
      rw [ed, e1]; rfl
    · show dN _ < 15
      rw [ed]; exact hd
    · rw [ed]; exact d1
    · rw [e1]; exact h.1.1.2.1
    · rw [e1]; exact h.1.1.2.2.1.1
    · rw [en] at z ⊢
      rw [e1]; exact h.1.1.2.2.1.2 z
    · rw [e1]; exact h.1.1.2.2.2.1.1
    · rw [e1]; exact h.1.1.2.2.2.1.2
    · rw [e1]; exact h.1.1.2.2.2.2.1
    · have o := h.1.1.2.2.2.2.2 p hp
      have g : ∀ j, (sDaysAre a.1 (nI d)).2 p j = if p < pN a.1 ∧ j = 3 then a.1.2 p 3 &&& mask (nI d) else a.1.2 p j := fun j => gDays_2 (nI d) (uS a.1 0 (nI d)) (pN a.1) p j
      rw [g 0, g 1, g 2, g 3, g 4, if_neg (by omega), if_neg (by omega), if_neg (by omega), if_neg (c := p < pN a.1 ∧ 4 = 3) (by omega), en, ed]
      by_cases hp2 : p < pN a.1
      · rw [if_pos ⟨hp2, rfl⟩]
        exact ⟨o.1, o.2.1, o.2.2.1, and_sm (by decide) o.2.2.2.1, o.2.2.2.2.1, fun _ => and_mask hd o.2.2.2.1⟩
      · rw [if_neg (fun z => hp2 z.1)]
        exact ⟨o.1, o.2.1, o.2.2.1, o.2.2.2.1, o.2.2.2.2.1, fun z => absurd z hp2⟩
    · rw [en] at z
      rw [e1]; exact h.2.1 z
  · rw [if_neg q]; exact h
theorem W_row (h : WB a) (s k n : Int32) : WB (oRow a s k n).1 := by
  unfold oRow
  by_cases q : inN s 8
  · by_cases q2 : inN k 5
    · by_cases q3 : inN n 41
      · rw [if_pos q, if_pos q2, if_pos q3]
        refine WB_setSh h (Or.inr (Or.inl ⟨q2, ?_⟩))
        obtain ⟨n, hn, rfl⟩ := inN_k (by decide) q3
        show tn (nI n) ≤ 40
        rw [tnn (by omega)]; omega
      · rw [if_pos q, if_pos q2, if_neg q3]; exact h
    · rw [if_pos q, if_neg q2]; exact h
  · rw [if_neg q]; exact h
theorem WSh.el {n : Nat} {x : SV} (h : WSh n x) (f : Nat → Int64) : WSh n (x.1, x.2.1, f) := h
theorem W_set (h : WB a) (s i : Int32) (x : Int64) : WB (oSet a s i x).1 := by
  unfold oSet
  by_cases q : inN s 8
  · obtain ⟨s, hs, rfl⟩ := inN_k (by decide) q
    rw [if_pos q, tnn (by omega)]
    split
    · exact h
    · split
      · exact h
      · split
        · exact WB_setSh h ((h.1.2.2.1 s hs).el _)
        · exact h
  · rw [if_neg q]; exact h
theorem W_show (h : WB a) (s p : Int32) : WB (oShow a s p).1 := by
  have h2 := h.1.1.n9
  unfold oShow
  by_cases q : inN s 8
  · by_cases q2 : p = -1
    · rw [if_pos q, if_pos q2]; exact WB_setSh h (Or.inl ⟨rfl, rfl⟩)
    · by_cases q3 : inN p (pN a.1)
      · rw [if_pos q, if_neg q2, if_pos q3]
        obtain ⟨p, hp, rfl⟩ := inN_k (by omega) q3
        exact WB_setSh h (Or.inr (Or.inr ⟨p, hp, (p_facts (show p < 8 by omega)).2.2.2.2.2, rfl⟩))
      · rw [if_pos q, if_neg q2, if_neg q3]; exact h
  · rw [if_neg q]; exact h
theorem W_copy (h : WB a) (s t i j n : Int32) : WB (oCopy a s t i j n).1 := by
  unfold oCopy
  by_cases q : inN s 8
  · by_cases q1 : inN t 8
    · obtain ⟨t, ht, rfl⟩ := inN_k (by decide) q1
      rw [if_pos q, if_pos q1, tnn (show t < 2 ^ 31 by omega)]
      unfold cpBody
      repeat' split
      all_goals first | exact h | exact WB_setSh h ((h.1.2.2.1 t ht).el _)
    · rw [if_pos q, if_neg q1]; exact h
  · rw [if_neg q]; exact h
theorem W_feed (h : WB a) (x : Int32) : WB (oFeed a x).1 := by
  unfold oFeed
  by_cases q : inN x 256
  · by_cases q2 : (aT a).1 < 250
    · rw [if_pos q, if_pos q2]
      refine WB_setT h (by show (aT a).1 + 1 ≤ 250; omega) fun i hi => ?_
      show inN (upN (aT a).2 (aT a).1 x i) 256
      by_cases e : i = (aT a).1
      · subst e; rw [upN_eq]; exact q
      · rw [upN_ne _ _ e]
        have hi : i < (aT a).1 + 1 := hi
        exact h.1.2.2.2.2 i (by omega)
    · rw [if_pos q, if_neg q2]; exact h
  · rw [if_neg q]; exact h
theorem W_wipe (h : WB a) : WB (oWipe a).1 := WB_setT h (Nat.zero_le _) fun i hi => absurd hi (Nat.not_lt_zero i)
end OW
