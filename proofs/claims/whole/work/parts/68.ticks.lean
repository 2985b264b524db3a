/-! ticks: of each of the people, by the yeses of those ahead -/
def tickV (f a k : Int32) (y : Nat → Int32) (fv d : Nat) : Int32 := if k = 1 then 2 else if k = 2 then (if hb f (nI d) then (if y d < a then 1 else 2) else 0) else if k = 3 then (if hb f (nI d) then 2 else 1) else if k = 4 then (if hb f (nI d) then (if d = fv then 2 else 0) else 0) else if k = 5 then (if hb f (nI d) then (if nI d = a then 2 else 0) else 0) else (if hb f (nI d) then 2 else 0)
def yStep (v : CV) (p : Nat) (y : Nat → Int32) : Nat → Int32 := fun d => y d + (if tickV (v.2 p 3) (v.2 p 1) (v.2 p 0) y (amax y (dN v)) d = 2 then 1 else 0)
def yesN (v : CV) (p : Nat) : Nat → Int32 := iter (yStep v) p (fun _ => 0)
def tkN (v : CV) (p d : Nat) : Int32 := tickV (v.2 p 3) (v.2 p 1) (v.2 p 0) (yesN v p) (amax (yesN v p) (dN v)) d
def cntN (v : CV) (p d : Nat) : Int32 := iter (fun q (s : Int32) => s + tkN v q d) p 0
theorem yesN_s (v : CV) (p d : Nat) : yesN v (p + 1) d = yesN v p d + (if tkN v p d = 2 then 1 else 0) := rfl
theorem cntN_s (v : CV) (p d : Nat) : cntN v (p + 1) d = cntN v p d + tkN v p d := rfl
/-- the array at A has the first D of f -/
def YC (D A : Nat) (f : Nat → Int32) (M : Mm) : Prop := ∀ d, d < D → M.1 A d = f d
theorem YC.eq {D A : Nat} {f : Nat → Int32} {M M2 : Mm} (h : YC D A f M) (e : M2.1 A = M.1 A) : YC D A f M2 := fun d hd => by rw [e]; exact h d hd
def TKC (v : CV) (K : Nat) (M : Mm) : Prop := M.1 21 3 = nI (dN v) ∧ (∀ p, p < K → YC (dN v) (23 + p) (tkN v p) M) ∧ YC (dN v) 32 (yesN v K) M ∧ YC (dN v) 31 (cntN v K) M
def TKM (v : CV) (K : Nat) (M : Mm) : Prop := (∀ p, p < K → YC (dN v) (94 + p) (tkN v p) M) ∧ YC (dN v) 102 (yesN v K) M
section TK1
variable {v : CV} {M : Mm}
theorem C_favour {D A : Nat} {f : Nat → Int32} (h3 : M.1 21 3 = nI D) (h1 : 1 ≤ D) (h15 : D < 15) (hY : YC D A f M) : f_X6_dayOfMost 21 A M = some (nI (amax f D)) := by
  have r := loop_amax f (fun n i s => f_X6_dayOfMost_L4 21 A M n (nI s) (nI i)) D h1 nI (by
    intro n i s hi h0 hs
    show f_X6_dayOfMost_L4 21 A M (n + 1) (nI s) (nI i) = f_X6_dayOfMost_L4 21 A M n (nI (if f s < f i then i else s)) (nI (i + 1))
    rw [f_X6_dayOfMost_L4, h3, if_neg (nI_ge hi (by omega)), chk_ok (show i < 14 by omega) (by decide), chk_ok (show s < 14 by omega) (by decide), tn_nI (show i < 2 ^ 31 by omega), tn_nI (show s < 2 ^ 31 by omega), hY i hi, hY s (by omega)]
    by_cases q : f s < f i
    · rw [if_neg (i32_nle.mpr q), if_pos q]; simp only [bi, nI_1]
    · rw [if_pos (i32_nlt.mp q), if_neg q]; simp only [bi, nI_1]) (by
    intro n s hs
    show f_X6_dayOfMost_L4 21 A M (n + 1) (nI s) (nI D) = _
    rw [f_X6_dayOfMost_L4, h3, if_pos (Int32.le_refl _)]) 1000 (by omega)
  unfold f_X6_dayOfMost
  rw [show f_X6_dayOfMost_L4 21 A M 1000 0 1 = _ from r]; rfl
theorem C_tickAs (o : Nat) (k : Int32) (d fv : Nat) (y : Nat → Int32) (M : Mm) : f_X2_tickAs o k (nI d) (y d) (if d = fv then 1 else 0) M = some (tickV (M.1 o 3) (M.1 o 1) k y fv d) := by
  unfold f_X2_tickAs tickV
  rw [isFree_ok, Option.bind_some]
  by_cases q : hb (M.1 o 3) (nI d)
  · by_cases q2 : d = fv
    · simp only [if_pos q, if_pos q2, i10, if_false, apply_ite some]
    · simp only [if_pos q, if_neg q2, i10, i00, if_false, if_true, apply_ite some]
  · simp only [if_neg q, i00, if_true, apply_ite some]
theorem C_tickE {D p d fv : Nat} {y : Nat → Int32} {t : Int32} (hp : p < 8) (hd : d < D) (h15 : D < 15) (hf : fv < 15) (h3 : M.1 21 3 = nI D) (hy : M.1 32 d = y d) (ht : tickV (M.1 (3 + p) 3) (M.1 (3 + p) 1) (M.1 (3 + p) 0) y fv d = t) (n : Nat) : f_X6_tickAll_L12 21 (3 + p) (23 + p) (nI fv) (n + 1) (nI d) M = f_X6_tickAll_L12 21 (3 + p) (23 + p) (nI fv) n (nI (d + 1)) (wI (wI (wI M (23 + p) d t) 31 d (M.1 31 d + t)) 32 d (y d + (if t = 2 then 1 else 0))) := by
  have kd : ∀ {α : Type} (X : Option α), chk (nI d) 14 X = X := fun X => chk_ok (by omega) (by decide)
  have td : (nI d).toNatClampNeg = d := tn_nI (by omega)
  have e := C_tickAs (3 + p) (M.1 (3 + p) 0) d fv y M
  rw [ht] at e
  have r1 : ∀ t, (wI M (23 + p) d t).1 31 d = M.1 31 d := fun t => wI_off (by omega)
  have r2 : ∀ t x, (wI (wI M (23 + p) d t) 31 d x).1 32 d = y d := fun t x => by rw [wI_off (by omega), wI_off (by omega)]; exact hy
  rw [f_X6_tickAll_L12, h3, if_neg (nI_ge hd (by omega)), kd]
  by_cases q : d = fv
  · rw [if_pos q] at e
    rw [if_pos (show nI d = nI fv by rw [q])]
    simp only [Nat.reduceAdd, td, hy, e, Option.bind_some, kd, bm, r1, r2, bi, nI_1]
    by_cases q3 : t = 2
    · simp only [if_pos q3]
    · simp only [if_neg q3]
  · rw [if_neg q] at e
    have nq : ¬ nI d = nI fv := fun z => q ((nI_eq (by omega) (by omega)).mp z)
    rw [if_neg nq]
    simp only [Nat.reduceAdd, td, hy, e, Option.bind_some, kd, bm, r1, r2, bi, nI_1]
    by_cases q3 : t = 2
    · simp only [if_pos q3]
    · simp only [if_neg q3]
theorem C_tickAll {p : Nat} (hV : VC 1 v M) (hW : WF v) (hp : p < 8) (h3 : M.1 21 3 = nI (dN v)) (hy : YC (dN v) 32 (yesN v p) M) (hc : YC (dN v) 31 (cntN v p) M) : ∃ M2, f_X6_tickAll 21 (3 + p) (23 + p) M = some M2 ∧ YC (dN v) (23 + p) (tkN v p) M2 ∧ YC (dN v) 32 (yesN v (p + 1)) M2 ∧ YC (dN v) 31 (cntN v (p + 1)) M2 ∧ (∀ x, x ≠ 23 + p → x ≠ 31 → x ≠ 32 → M2.1 x = M.1 x) ∧ M2.2 = M.2 := by
  have d1 := hW.d1
  have d15 := hW.d15
  have fl := amax_lt (yesN v p) (dN v) d1
  obtain ⟨r, e1, e2⟩ := loop_ex (fun n i (M9 : Mm) => f_X6_tickAll_L12 21 (3 + p) (23 + p) (nI (amax (yesN v p) (dN v))) n (nI i) M9) (dN v)
    (fun i M9 => (∀ d, d < i → M9.1 (23 + p) d = tkN v p d) ∧ (∀ d, d < dN v → M9.1 32 d = if d < i then yesN v (p + 1) d else yesN v p d) ∧ (∀ d, d < dN v → M9.1 31 d = if d < i then cntN v (p + 1) d else cntN v p d) ∧ (∀ x, x ≠ 23 + p → x ≠ 31 → x ≠ 32 → M9.1 x = M.1 x) ∧ M9.2 = M.2)
    (fun r => YC (dN v) (23 + p) (tkN v p) r ∧ YC (dN v) 32 (yesN v (p + 1)) r ∧ YC (dN v) 31 (cntN v (p + 1)) r ∧ (∀ x, x ≠ 23 + p → x ≠ 31 → x ≠ 32 → r.1 x = M.1 x) ∧ r.2 = M.2) (by
    intro n i M9 hi h
    obtain ⟨a1, a2, a3, a4, a5⟩ := h
    have g3 : M9.1 (3 + p) = M.1 (3 + p) := a4 _ (by omega) (by omega) (by omega)
    have g21 : M9.1 21 3 = nI (dN v) := by rw [a4 21 (by omega) (by omega) (by omega)]; exact h3
    have gy : M9.1 32 i = yesN v p i := by rw [a2 i hi, if_neg (Nat.lt_irrefl i)]
    have gc : M9.1 31 i = cntN v p i := by rw [a3 i hi, if_neg (Nat.lt_irrefl i)]
    have gt : tickV (M9.1 (3 + p) 3) (M9.1 (3 + p) 1) (M9.1 (3 + p) 0) (yesN v p) (amax (yesN v p) (dN v)) i = tkN v p i := by
      rw [g3, VC3 hV hp (by decide), VC3 hV hp (by decide), VC3 hV hp (by decide)]; rfl
    refine Or.inr ⟨_, C_tickE hp hi d15 (by omega) g21 gy gt n, fun d hd => ?_, fun d hd => ?_, fun d hd => ?_, fun x x1 x2 x3 => ?_, a5⟩
    · rw [wI_off (by omega), wI_off (by omega)]
      by_cases q : d = i
      · subst q; rw [wI_on]
      · rw [wI_off (Or.inr q)]; exact a1 d (by omega)
    · by_cases q : d = i
      · subst q; rw [wI_on, if_pos (show d < d + 1 by omega), yesN_s]
      · rw [wI_off (Or.inr q), wI_off (by omega), wI_off (by omega), a2 d hd]
        by_cases q2 : d < i
        · rw [if_pos q2, if_pos (by omega)]
        · rw [if_neg q2, if_neg (by omega)]
    · rw [wI_off (by omega)]
      by_cases q : d = i
      · subst q; rw [wI_on, if_pos (show d < d + 1 by omega), gc, cntN_s]
      · rw [wI_off (Or.inr q), wI_off (by omega), a3 d hd]
        by_cases q2 : d < i
        · rw [if_pos q2, if_pos (by omega)]
        · rw [if_neg q2, if_neg (by omega)]
    · rw [wI_ne x3, wI_ne x2, wI_ne x1]; exact a4 x x1 x2 x3) (by
    intro n M9 h
    obtain ⟨a1, a2, a3, a4, a5⟩ := h
    refine ⟨M9, ?_, a1, fun d hd => by rw [a2 d hd, if_pos hd], fun d hd => by rw [a3 d hd, if_pos hd], a4, a5⟩
    have g21 : M9.1 21 3 = nI (dN v) := by rw [a4 21 (by omega) (by omega) (by omega)]; exact h3
    show f_X6_tickAll_L12 21 (3 + p) (23 + p) (nI (amax (yesN v p) (dN v))) (n + 1) (nI (dN v)) M9 = _
    rw [f_X6_tickAll_L12, g21, if_pos (Int32.le_refl _)]) 1000 0 M (by omega) (by omega) ⟨fun d hd => absurd hd (Nat.not_lt_zero d), fun d hd => by rw [if_neg (Nat.not_lt_zero d)]; exact hy d hd, fun d hd => by rw [if_neg (Nat.not_lt_zero d)]; exact hc d hd, fun _ _ _ _ => rfl, rfl⟩
  refine ⟨r, ?_, e2⟩
  unfold f_X6_tickAll
  rw [show f_X6_dayOfMost 21 (21 + 11) M = _ from C_favour (A := 32) h3 d1 d15 hy, Option.bind_some, show f_X6_tickAll_L12 21 (3 + p) (23 + p) (nI (amax (yesN v p) (dN v))) 1000 0 M = some r from e1]; rfl
theorem C_fill14 (A : Nat) (M : Mm) : ∃ M2, f_J7_fill_53178 14 A 0 M = some M2 ∧ (∀ j, j < 14 → M2.1 A j = 0) ∧ (∀ x, x ≠ A → M2.1 x = M.1 x) ∧ M2.2 = M.2 := by
  obtain ⟨r, e1, e2⟩ := loop_ex (fun n i (M9 : Mm) => f_J7_fill_53178_L5 14 A 0 (nI 14) n (nI i) M9) 14 (fun i M9 => (∀ j, j < i → M9.1 A j = 0) ∧ (∀ x, x ≠ A → M9.1 x = M.1 x) ∧ M9.2 = M.2) (fun r => (∀ j, j < 14 → r.1 A j = 0) ∧ (∀ x, x ≠ A → r.1 x = M.1 x) ∧ r.2 = M.2) (by
    intro n i M9 hi h
    refine Or.inr ⟨wI M9 A i 0, ?_, fun j hj => ?_, fun x hx => (wI_ne hx).trans (h.2.1 x hx), h.2.2⟩
    · show f_J7_fill_53178_L5 14 A 0 (nI 14) (n + 1) (nI i) M9 = _
      rw [f_J7_fill_53178_L5, if_neg (nI_ge hi (by decide)), chk_ok hi (by decide), tn_nI (by omega)]
      simp only [bm, bi, nI_1]
    · by_cases q : j = i
      · subst q; exact wI_on
      · rw [wI_off (Or.inr q)]; exact h.1 j (by omega)) (by
    intro n M9 h
    refine ⟨M9, ?_, h⟩
    show f_J7_fill_53178_L5 14 A 0 (nI 14) (n + 1) (nI 14) M9 = _
    rw [f_J7_fill_53178_L5]
    exact if_pos (Int32.le_refl _)) 1000 0 M (by omega) (by omega) ⟨fun j hj => absurd hj (Nat.not_lt_zero j), fun _ _ => rfl, rfl⟩
  unfold f_J7_fill_53178
  simp only [bi]
  rw [show f_J7_fill_53178_L5 14 A 0 (Int32.ofNat 14) 1000 0 M = some r from e1]
  exact ⟨r, rfl, e2⟩
set_option maxHeartbeats 60000 in
theorem C_rkS {K i : Nat} {M9 : Mm} (hv : VC 1 v M9) (hW : WF v) (hi : i < K) (hK : K ≤ 8) (t : TKC v i M9) : ∃ M2, (∀ n, f_X6_reckonAheadOf_L26 21 1 (nI K) (n + 1) (nI i) M9 = f_X6_reckonAheadOf_L26 21 1 (nI K) n (nI (i + 1)) M2) ∧ TKC v (i + 1) M2 ∧ Fr 21 33 M9 M2 := by
  obtain ⟨t1, t2, t3, t4⟩ := t
  obtain ⟨M2, c1, c2, c3, c4, c5, c6⟩ := C_tickAll hv hW (p := i) (by omega) t1 t3 t4
  have k8 : ∀ {α : Type} (X : Option α), chk (nI i) 8 X = X := fun X => chk_ok (by omega) (by decide)
  have c1' : f_X6_tickAll 21 (1 + 2 + i) (21 + 2 + i) M9 = some M2 := c1
  refine ⟨M2, fun n => ?_, ⟨by rw [c5 21 (by omega) (by omega) (by omega)]; exact t1, fun p hp => ?_, c3, c4⟩, ⟨fun x hx => ⟨c5 x (by omega) (by omega) (by omega), by rw [c6]⟩, by rw [c6]⟩⟩
  · rw [f_X6_reckonAheadOf_L26, if_neg (nI_ge hi (by omega)), k8, k8, tn_nI (by omega), c1', Option.bind_some]
    simp only [bi, nI_1]
  · by_cases q : p = i
    · subst q; exact c2
    · exact (t2 p (by omega)).eq (c5 _ (by omega) (by omega) (by omega))
set_option maxHeartbeats 60000 in
theorem C_rkL {K : Nat} {Mb : Mm} (hV : VC 1 v M) (hW : WF v) (hK : K ≤ 8) (hT : TKC v 0 Mb) (hF : Fr 21 33 M Mb) : ∃ M2, f_X6_reckonAheadOf_L26 21 1 (nI K) 1000 0 Mb = some M2 ∧ TKC v K M2 ∧ Fr 21 33 M M2 := by
  obtain ⟨r, e1, e2⟩ := loop_ex (fun n i (M9 : Mm) => f_X6_reckonAheadOf_L26 21 1 (nI K) n (nI i) M9) K (fun i M9 => TKC v i M9 ∧ Fr 21 33 M M9) (fun r => TKC v K r ∧ Fr 21 33 M r) (by
    intro n i M9 hi h
    obtain ⟨t, hf⟩ := h
    obtain ⟨M2, c1, c2, c3⟩ := C_rkS (hV.fr hf (by omega)) hW hi hK t
    exact Or.inr ⟨M2, c1 n, c2, hf.tr c3⟩) (by
    intro n M9 h
    refine ⟨M9, ?_, h⟩
    show f_X6_reckonAheadOf_L26 21 1 (nI K) (n + 1) (nI K) M9 = _
    rw [f_X6_reckonAheadOf_L26, if_pos (Int32.le_refl _)]) 1000 0 Mb (by omega) (by omega) ⟨hT, hF⟩
  exact ⟨r, e1, e2⟩
set_option maxHeartbeats 60000 in
theorem C_rk0 (hV : VC 1 v M) (hW : WF v) : ∃ Ma Mb, f_J7_fill_53178 14 31 0 (wI M 21 3 (v.1 0)) = some Ma ∧ f_J7_fill_53178 14 32 0 Ma = some Mb ∧ TKC v 0 Mb ∧ Fr 21 33 M Mb := by
  have d15 := hW.d15
  obtain ⟨Ma, a1, a2, a3, a4⟩ := C_fill14 31 (wI M 21 3 (v.1 0))
  obtain ⟨Mb, b1, b2, b3, b4⟩ := C_fill14 32 Ma
  have hF : Fr 21 33 M Mb := ⟨fun x hx => ⟨by rw [b3 x (by omega), a3 x (by omega), wI_ne (by omega)], by rw [b4, a4]; rfl⟩, by rw [b4, a4]; rfl⟩
  have y0 : ∀ d, yesN v 0 d = 0 := fun d => rfl
  have c0 : ∀ d, cntN v 0 d = 0 := fun d => rfl
  exact ⟨Ma, Mb, a1, b1, ⟨by rw [b3 21 (by omega), a3 21 (by omega), wI_on]; exact hW.d, fun p hp => absurd hp (Nat.not_lt_zero p), fun d hd => by rw [y0]; exact b2 d (by omega), fun d hd => by rw [b3 31 (by omega), c0]; exact a2 d (by omega)⟩, hF⟩
set_option maxHeartbeats 20000 in
theorem bm_eq {α : Type} (M : Mm) (F : Mm → Option α) : bm M F = F M := rfl
set_option maxHeartbeats 20000 in
theorem rk_unf (x : Int32) (M : Mm) : f_X6_reckonAheadOf 21 1 x M = bm (wI M 21 3 (M.1 1 0)) fun M1 => (f_J7_fill_53178 14 31 0 M1).bind fun q2 => (f_J7_fill_53178 14 32 0 q2).bind fun q4 => (f_X6_reckonAheadOf_L26 21 1 x 1000 0 q4).bind fun M13 => some M13 := rfl
set_option maxHeartbeats 20000 in
theorem rk_asm {x : Int32} {M Ma Mb r : Mm} (a1 : f_J7_fill_53178 14 31 0 (wI M 21 3 (M.1 1 0)) = some Ma) (b1 : f_J7_fill_53178 14 32 0 Ma = some Mb) (e1 : f_X6_reckonAheadOf_L26 21 1 x 1000 0 Mb = some r) : f_X6_reckonAheadOf 21 1 x M = some r := by
  rw [rk_unf, bm_eq, a1, Option.bind_some, b1, Option.bind_some, e1, Option.bind_some]
set_option maxHeartbeats 20000 in
theorem C_reckonA {K : Nat} (hV : VC 1 v M) (hW : WF v) (hK : K ≤ 8) : ∃ M2, f_X6_reckonAheadOf 21 1 (nI K) M = some M2 ∧ TKC v K M2 ∧ Fr 21 33 M M2 := by
  obtain ⟨Ma, Mb, a1, b1, hT, hF⟩ := C_rk0 hV hW
  obtain ⟨r, e1, e2⟩ := C_rkL hV hW hK hT hF
  have h0 : M.1 1 0 = v.1 0 := hV.1 0 (by decide)
  rw [← h0] at a1
  exact ⟨r, rk_asm a1 b1 e1, e2⟩
theorem C_reckon (hV : VC 1 v M) (hW : WF v) : ∃ M2, f_X6_reckon 21 1 M = some M2 ∧ TKC v (pN v) M2 ∧ Fr 21 33 M M2 := by
  have n9 := hW.n9
  obtain ⟨M2, e1, e2⟩ := C_reckonA hV hW (K := pN v) (by omega)
  refine ⟨M2, ?_, e2⟩
  unfold f_X6_reckon
  rw [hV.1 1 (by decide), hW.n, e1]; rfl
/-! the model's -/
theorem M_favour {D : Nat} {f : Nat → Int32} (h3 : M.1 69 9 = nI D) (h1 : 1 ≤ D) (h15 : D < 15) (hY : YC D 102 f M) : f_X8_mostYes 69 M = some (nI (amax f D)) := by
  have r := loop_amax f (fun n i s => f_X8_mostYes_L4 69 M n (nI s) (nI i)) D h1 nI (by
    intro n i s hi h0 hs
    show f_X8_mostYes_L4 69 M (n + 1) (nI s) (nI i) = f_X8_mostYes_L4 69 M n (nI (if f s < f i then i else s)) (nI (i + 1))
    have y1 : M.1 (69 + 33) i = f i := hY i hi
    have y2 : M.1 (69 + 33) s = f s := hY s (by omega)
    rw [f_X8_mostYes_L4, h3, if_neg (nI_ge hi (by omega)), chk_ok (show i < 14 by omega) (by decide), chk_ok (show s < 14 by omega) (by decide), tn_nI (show i < 2 ^ 31 by omega), tn_nI (show s < 2 ^ 31 by omega), y1, y2]
    by_cases q : f s < f i
    · rw [if_neg (i32_nle.mpr q), if_pos q]; simp only [bi, nI_1]
    · rw [if_pos (i32_nlt.mp q), if_neg q]; simp only [bi, nI_1]) (by
    intro n s hs
    show f_X8_mostYes_L4 69 M (n + 1) (nI s) (nI D) = _
    rw [f_X8_mostYes_L4, h3, if_pos (Int32.le_refl _)]) 1000 (by omega)
  unfold f_X8_mostYes
  rw [show f_X8_mostYes_L4 69 M 1000 0 1 = _ from r]; rfl
theorem M_tickBy {p d : Nat} {y : Nat → Int32} (hV : VM 69 v M) (hW : WF v) (hp : p < 8) (hd : d < dN v) (hY : YC (dN v) 102 y M) (k : Int32) : f_X8_tickBy 69 (nI p) k (nI d) M = some (tickV (v.2 p 3) (v.2 p 1) k y (amax y (dN v)) d) := by
  have d1 := hW.d1
  have d15 := hW.d15
  have fl := amax_lt y (dN v) d1
  have k8 : ∀ {α : Type} (X : Option α), chk (nI p) 8 X = X := fun X => chk_ok hp (by decide)
  have kd : ∀ {α : Type} (X : Option α), chk (nI d) 14 X = X := fun X => chk_ok (by omega) (by decide)
  have tp : (nI p).toNatClampNeg = p := tn_nI (by omega)
  have td : (nI d).toNatClampNeg = d := tn_nI (by omega)
  have y1 : M.1 102 d = y d := hY d hd
  have b1 : M.1 87 p = v.2 p 1 := hV.p1 hp
  have eq : (nI d = nI (amax y (dN v))) = (d = amax y (dN v)) := propext (nI_eq (by omega) (by omega))
  unfold f_X8_tickBy tickV
  rw [M_isFree hV hp, M_favour (hV.d.trans hW.d) d1 d15 hY]
  simp only [Option.bind_some, k8, kd, tp, td, Nat.reduceAdd, y1, b1, eq]
  by_cases q : hb (v.2 p 3) (nI d)
  · simp only [if_pos q, i10, if_false, apply_ite some]
  · simp only [if_neg q, i00, if_true, apply_ite some]
theorem M_tk1 {p : Nat} (hV : VM 69 v M) (hW : WF v) (hp : p < 8) (hY : YC (dN v) 102 (yesN v p) M) (x1 : Int32) : ∃ M2, f_X8_findTicks_L32 69 x1 (nI p) 1000 0 M = some M2 ∧ YC (dN v) (94 + p) (tkN v p) M2 ∧ (∀ x, x ≠ 94 + p → M2.1 x = M.1 x) ∧ M2.2 = M.2 := by
  have d15 := hW.d15
  have k8 : ∀ {α : Type} (X : Option α), chk (nI p) 8 X = X := fun X => chk_ok hp (by decide)
  have tp : (nI p).toNatClampNeg = p := tn_nI (by omega)
  obtain ⟨r, e1, e2⟩ := loop_ex (fun n i (M9 : Mm) => f_X8_findTicks_L32 69 x1 (nI p) n (nI i) M9) (dN v) (fun i M9 => (∀ d, d < i → M9.1 (94 + p) d = tkN v p d) ∧ (∀ x, x ≠ 94 + p → M9.1 x = M.1 x) ∧ M9.2 = M.2) (fun r => YC (dN v) (94 + p) (tkN v p) r ∧ (∀ x, x ≠ 94 + p → r.1 x = M.1 x) ∧ r.2 = M.2) (by
    intro n i M9 hi h
    obtain ⟨a1, a2, a3⟩ := h
    have hv : VM 69 v M9 := hV.eqs (fun y _ => by rw [a2 69 (by omega)]) (fun x h1 h2 => a2 x (by omega))
    have hy : YC (dN v) 102 (yesN v p) M9 := hY.eq (a2 102 (by omega))
    have e0 : M9.1 69 9 = nI (dN v) := hv.d.trans hW.d
    have f0 : M9.1 86 p = v.2 p 0 := hv.p0 hp
    have et := M_tickBy hv hW hp hi hy (v.2 p 0)
    refine Or.inr ⟨wI M9 (94 + p) i (tkN v p i), ?_, fun d hd => ?_, fun x hx => (wI_ne hx).trans (a2 x hx), a3⟩
    · show f_X8_findTicks_L32 69 x1 (nI p) (n + 1) (nI i) M9 = _
      rw [f_X8_findTicks_L32, e0, if_neg (nI_ge hi (by omega)), k8, k8]
      simp only [Nat.reduceAdd, tp, f0, et, Option.bind_some]
      rw [chk_ok (show i < 14 by omega) (by decide), tn_nI (by omega)]
      simp only [bm, bi, nI_1]; rfl
    · by_cases q : d = i
      · subst q; rw [wI_on]
      · rw [wI_off (Or.inr q)]; exact a1 d (by omega)) (by
    intro n M9 h
    refine ⟨M9, ?_, h⟩
    have e0 : M9.1 69 9 = nI (dN v) := by rw [h.2.1 69 (by omega)]; exact hV.d.trans hW.d
    show f_X8_findTicks_L32 69 x1 (nI p) (n + 1) (nI (dN v)) M9 = _
    rw [f_X8_findTicks_L32, e0, if_pos (Int32.le_refl _)]) 1000 0 M (by omega) (by omega) ⟨fun d hd => absurd hd (Nat.not_lt_zero d), fun _ _ => rfl, rfl⟩
  exact ⟨r, e1, e2⟩
theorem M_tk2 {p : Nat} (hV : VM 69 v M) (hW : WF v) (hp : p < 8) (hY : YC (dN v) 102 (yesN v p) M) (hT : YC (dN v) (94 + p) (tkN v p) M) (x1 : Int32) : ∃ M2, f_X8_findTicks_L68 69 x1 (nI p) 1000 0 M = some M2 ∧ YC (dN v) 102 (yesN v (p + 1)) M2 ∧ (∀ x, x ≠ 102 → M2.1 x = M.1 x) ∧ M2.2 = M.2 := by
  have d15 := hW.d15
  have k8 : ∀ {α : Type} (X : Option α), chk (nI p) 8 X = X := fun X => chk_ok hp (by decide)
  have tp : (nI p).toNatClampNeg = p := tn_nI (by omega)
  obtain ⟨r, e1, e2⟩ := loop_ex (fun n i (M9 : Mm) => f_X8_findTicks_L68 69 x1 (nI p) n (nI i) M9) (dN v) (fun i M9 => (∀ d, d < dN v → M9.1 102 d = if d < i then yesN v (p + 1) d else yesN v p d) ∧ (∀ x, x ≠ 102 → M9.1 x = M.1 x) ∧ M9.2 = M.2) (fun r => YC (dN v) 102 (yesN v (p + 1)) r ∧ (∀ x, x ≠ 102 → r.1 x = M.1 x) ∧ r.2 = M.2) (by
    intro n i M9 hi h
    obtain ⟨a1, a2, a3⟩ := h
    have e0 : M9.1 69 9 = nI (dN v) := by rw [a2 69 (by omega)]; exact hV.d.trans hW.d
    have ki : ∀ {α : Type} (X : Option α), chk (nI i) 14 X = X := fun X => chk_ok (by omega) (by decide)
    have ti : (nI i).toNatClampNeg = i := tn_nI (by omega)
    have f0 : M9.1 (94 + p) i = tkN v p i := by rw [a2 (94 + p) (by omega)]; exact hT i hi
    have y0 : M9.1 102 i = yesN v p i := by rw [a1 i hi, if_neg (Nat.lt_irrefl i)]
    refine Or.inr ⟨wI M9 102 i (yesN v (p + 1) i), ?_, fun d hd => ?_, fun x hx => (wI_ne hx).trans (a2 x hx), a3⟩
    · show f_X8_findTicks_L68 69 x1 (nI p) (n + 1) (nI i) M9 = _
      rw [f_X8_findTicks_L68, e0, if_neg (nI_ge hi (by omega))]
      simp only [ki, k8, Nat.reduceAdd, tp, ti, f0, y0, bm, bi, nI_1, yesN_s]
      by_cases q : tkN v p i = 2
      · simp only [if_pos q]
      · simp only [if_neg q]
    · by_cases q : d = i
      · subst q; rw [wI_on, if_pos (by omega)]
      · rw [wI_off (Or.inr q), a1 d hd]
        by_cases q2 : d < i
        · rw [if_pos q2, if_pos (by omega)]
        · rw [if_neg q2, if_neg (by omega)]) (by
    intro n M9 h
    refine ⟨M9, ?_, fun d hd => by rw [h.1 d hd, if_pos hd], h.2⟩
    have e0 : M9.1 69 9 = nI (dN v) := by rw [h.2.1 69 (by omega)]; exact hV.d.trans hW.d
    show f_X8_findTicks_L68 69 x1 (nI p) (n + 1) (nI (dN v)) M9 = _
    rw [f_X8_findTicks_L68, e0, if_pos (Int32.le_refl _)]) 1000 0 M (by omega) (by omega) ⟨fun d hd => by rw [if_neg (Nat.not_lt_zero d)]; exact hY d hd, fun _ _ => rfl, rfl⟩
  exact ⟨r, e1, e2⟩
theorem M_tk0 (hV : VM 69 v M) (hW : WF v) (x1 : Int32) : ∃ M2, f_X8_findTicks_L2 69 x1 1000 0 M = some M2 ∧ YC (dN v) 102 (fun _ => 0) M2 ∧ (∀ x, x ≠ 102 → M2.1 x = M.1 x) ∧ M2.2 = M.2 := by
  have d15 := hW.d15
  obtain ⟨r, e1, e2⟩ := loop_ex (fun n i (M9 : Mm) => f_X8_findTicks_L2 69 x1 n (nI i) M9) (dN v) (fun i M9 => (∀ d, d < i → M9.1 102 d = 0) ∧ (∀ x, x ≠ 102 → M9.1 x = M.1 x) ∧ M9.2 = M.2) (fun r => YC (dN v) 102 (fun _ => 0) r ∧ (∀ x, x ≠ 102 → r.1 x = M.1 x) ∧ r.2 = M.2) (by
    intro n i M9 hi h
    obtain ⟨a1, a2, a3⟩ := h
    have e0 : M9.1 69 9 = nI (dN v) := by rw [a2 69 (by omega)]; exact hV.d.trans hW.d
    refine Or.inr ⟨wI M9 102 i 0, ?_, fun d hd => ?_, fun x hx => (wI_ne hx).trans (a2 x hx), a3⟩
    · show f_X8_findTicks_L2 69 x1 (n + 1) (nI i) M9 = _
      rw [f_X8_findTicks_L2, e0, if_neg (nI_ge hi (by omega)), chk_ok (show i < 14 by omega) (by decide), tn_nI (by omega)]
      simp only [Nat.reduceAdd, bm, bi, nI_1]
    · by_cases q : d = i
      · subst q; rw [wI_on]
      · rw [wI_off (Or.inr q)]; exact a1 d (by omega)) (by
    intro n M9 h
    refine ⟨M9, ?_, h⟩
    have e0 : M9.1 69 9 = nI (dN v) := by rw [h.2.1 69 (by omega)]; exact hV.d.trans hW.d
    show f_X8_findTicks_L2 69 x1 (n + 1) (nI (dN v)) M9 = _
    rw [f_X8_findTicks_L2, e0, if_pos (Int32.le_refl _)]) 1000 0 M (by omega) (by omega) ⟨fun d hd => absurd hd (Nat.not_lt_zero d), fun _ _ => rfl, rfl⟩
  exact ⟨r, e1, e2⟩
theorem M_findTicks {K : Nat} (hV : VM 69 v M) (hW : WF v) (hK : K ≤ 8) : ∃ M2, f_X8_findTicks 69 (nI K) M = some M2 ∧ TKM v K M2 ∧ ScM M M2 := by
  obtain ⟨Ma, a1, a2, a3, a4⟩ := M_tk0 hV hW (nI K)
  have hS : ScM M Ma := ⟨fun x y h => by rw [a3 x (fun z => h (by unfold scrM; omega))], fun x _ => by rw [a4], by rw [a4]⟩
  obtain ⟨r, e1, e2⟩ := loop_ex (fun n i (M9 : Mm) => f_X8_findTicks_L25 69 (nI K) n (nI i) M9) K (fun i M9 => TKM v i M9 ∧ ScM M M9) (fun r => TKM v K r ∧ ScM M r) (by
    intro n i M9 hi h
    obtain ⟨⟨t1, t2⟩, hs⟩ := h
    have hv := hV.sc hs
    obtain ⟨Mb, b1, b2, b3, b4⟩ := M_tk1 hv hW (p := i) (by omega) t2 (nI K)
    have hs2 : ScM M9 Mb := ⟨fun x y h => by rw [b3 x (fun z => h (by unfold scrM; omega))], fun x _ => by rw [b4], by rw [b4]⟩
    obtain ⟨Mc, c1, c2, c3, c4⟩ := M_tk2 (hv.sc hs2) hW (p := i) (by omega) (t2.eq (b3 102 (by omega))) b2 (nI K)
    have hs3 : ScM Mb Mc := ⟨fun x y h => by rw [c3 x (fun z => h (by unfold scrM; omega))], fun x _ => by rw [c4], by rw [c4]⟩
    refine Or.inr ⟨Mc, ?_, ⟨fun p hp => ?_, c2⟩, (hs.tr hs2).tr hs3⟩
    · show f_X8_findTicks_L25 69 (nI K) (n + 1) (nI i) M9 = _
      rw [f_X8_findTicks_L25, if_neg (nI_ge hi (by omega)), b1, Option.bind_some, c1, Option.bind_some]
      simp only [bi, nI_1]
    · refine YC.eq (M := Mb) ?_ (c3 _ (by omega))
      by_cases q : p = i
      · subst q; exact b2
      · exact (t1 p (by omega)).eq (b3 _ (by omega))) (by
    intro n M9 h
    refine ⟨M9, ?_, h⟩
    show f_X8_findTicks_L25 69 (nI K) (n + 1) (nI K) M9 = _
    rw [f_X8_findTicks_L25, if_pos (Int32.le_refl _)]) 1000 0 Ma (by omega) (by omega) ⟨⟨fun p hp => absurd hp (Nat.not_lt_zero p), a2⟩, hS⟩
  refine ⟨r, ?_, e2⟩
  unfold f_X8_findTicks
  rw [a1, Option.bind_some, show f_X8_findTicks_L25 69 (nI K) 1000 0 Ma = some r from e1]; rfl
theorem M_find (hV : VM 69 v M) (hW : WF v) : ∃ M2, f_X8_findTicks 69 (M.1 69 10) M = some M2 ∧ TKM v (pN v) M2 ∧ ScM M M2 := by
  have n9 := hW.n9
  rw [hV.n, hW.n]
  exact M_findTicks hV hW (by omega)
end TK1
