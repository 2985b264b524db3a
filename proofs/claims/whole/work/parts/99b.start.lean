/-! what holds at the law's entry -/
def tmS (i : Nat) : Term := .string RX3 ([44, 53, 62, 68, 70, 75, 80, 85].getD i 0)
def tmM (i : Nat) : Term := .string RX8 ([198, 203, 205, 211, 215, 220, 222, 213].getD i 0)
abbrev FLT : List Cond := flatC (Jvm.Cond.and given_1 narrow_1)
theorem fl_ex : ∀ i, i < 8 → Cond.exactly (tmS i) "java/lang/String" ∈ FLT := by decide +kernel
theorem fl_co : ∀ i, i < 8 → Cond.eq (.field (tmS i) "java/lang/String" "coder" "B") (.int 0) ∈ FLT := by decide +kernel
theorem fl_ar : ∀ i, i < 8 → Cond.arrayOf (.field (tmS i) "java/lang/String" "value" "[B") .byte ∈ FLT := by decide +kernel
theorem fl_le : ∀ i, i < 8 → Cond.eq (.length (.field (tmS i) "java/lang/String" "value" "[B")) (.int (Int32.ofNat (lenS.getD i 0))) ∈ FLT := by decide +kernel
theorem fl_el : ∀ i, i < 8 → ∀ j, j < lenS.getD i 0 → Cond.eq (.elem (.field (tmS i) "java/lang/String" "value" "[B") (.int (Int32.ofNat j))) (.int ((bytS.getD i []).getD j 0)) ∈ FLT := by decide +kernel
theorem fl_ne : ∀ i, i < 8 → ∀ j, j < 8 → i ≠ j → (Cond.not (Cond.eq (tmS i) (tmS j)) ∈ FLT ∨ Cond.not (Cond.eq (tmS j) (tmS i)) ∈ FLT) := by decide +kernel
theorem fl_eq : ∀ i, i < 8 → Cond.eq (tmS i) (tmM i) ∈ FLT := by decide +kernel
theorem fl_cs : Cond.eq (.static "java/lang/String" "COMPACT_STRINGS" "Z") (.int 1) ∈ FLT := by decide +kernel
theorem fl_fm : Cond.isRef (.static "jdk/internal/util/Preconditions" "SIOOBE_FORMATTER" "Ljava/util/function/BiFunction;") ∈ FLT := by decide +kernel
theorem sr_w : ∀ q ∈ SR, Cond.stringRef q.1 q.2.1 (txS.getD q.2.2 "") ∈ lw_tbl := List.forall_mem_cons.mpr ⟨(List.mem_append_right _ (in_t2 (List.mem_of_getElem? (i := 221) (by decide +kernel)))), List.forall_mem_cons.mpr ⟨(List.mem_append_right _ (in_t3 (List.mem_of_getElem? (i := 49) (by decide +kernel)))), List.forall_mem_cons.mpr ⟨(List.mem_append_right _ (in_t3 (List.mem_of_getElem? (i := 56) (by decide +kernel)))), List.forall_mem_cons.mpr ⟨(List.mem_append_right _ (in_t3 (List.mem_of_getElem? (i := 62) (by decide +kernel)))), List.forall_mem_cons.mpr ⟨(List.mem_append_right _ (in_t3 (List.mem_of_getElem? (i := 63) (by decide +kernel)))), List.forall_mem_cons.mpr ⟨(List.mem_append_right _ (in_t3 (List.mem_of_getElem? (i := 68) (by decide +kernel)))), List.forall_mem_cons.mpr ⟨(List.mem_append_right _ (in_t3 (List.mem_of_getElem? (i := 73) (by decide +kernel)))), List.forall_mem_cons.mpr ⟨(List.mem_append_right _ (in_t3 (List.mem_of_getElem? (i := 78) (by decide +kernel)))), List.forall_mem_cons.mpr ⟨(List.mem_append_right _ (in_t6 (List.mem_of_getElem? (i := 63) (by decide +kernel)))), List.forall_mem_cons.mpr ⟨(List.mem_append_right _ (in_t6 (List.mem_of_getElem? (i := 82) (by decide +kernel)))), List.forall_mem_cons.mpr ⟨(List.mem_append_right _ (in_t6 (List.mem_of_getElem? (i := 83) (by decide +kernel)))), List.forall_mem_cons.mpr ⟨(List.mem_append_right _ (in_t6 (List.mem_of_getElem? (i := 88) (by decide +kernel)))), List.forall_mem_cons.mpr ⟨(List.mem_append_right _ (in_t6 (List.mem_of_getElem? (i := 90) (by decide +kernel)))), List.forall_mem_cons.mpr ⟨(List.mem_append_right _ (in_t6 (List.mem_of_getElem? (i := 95) (by decide +kernel)))), List.forall_mem_cons.mpr ⟨(List.mem_append_right _ (in_t6 (List.mem_of_getElem? (i := 96) (by decide +kernel)))), List.forall_mem_cons.mpr ⟨(List.mem_append_right _ (in_t6 (List.mem_of_getElem? (i := 89) (by decide +kernel)))), fun _ h => absurd h List.not_mem_nil⟩⟩⟩⟩⟩⟩⟩⟩⟩⟩⟩⟩⟩⟩⟩⟩
theorem ao_w : (Cond.arrayOver (.object RX2)) ∈ lw_tbl ∧ (Cond.arrayOver (.object RX4)) ∈ lw_tbl ∧ (Cond.arrayOver (.array .int)) ∈ lw_tbl ∧ (Cond.arrayOver (.array .long)) ∈ lw_tbl := ⟨(List.mem_append_right _ (in_t1 (List.mem_of_getElem? (i := 33) (by decide +kernel)))), (List.mem_append_right _ (in_t1 (List.mem_of_getElem? (i := 202) (by decide +kernel)))), (List.mem_append_right _ (in_t1 (List.mem_of_getElem? (i := 117) (by decide +kernel)))), (List.mem_append_right _ (in_t5 (List.mem_of_getElem? (i := 44) (by decide +kernel))))⟩
theorem ls_cs : Cond.laysStatic "java/lang/String" "COMPACT_STRINGS" "Z" ∈ lw_tbl := (List.mem_append_right _ (in_t2 (List.mem_of_getElem? (i := 235) (by decide +kernel))))
theorem ls_fm : Cond.laysStatic "jdk/internal/util/Preconditions" "SIOOBE_FORMATTER" "Ljava/util/function/BiFunction;" ∈ lw_tbl := (List.mem_append_right _ (in_t3 (List.mem_of_getElem? (i := 11) (by decide +kernel))))
theorem in_cs : Cond.initialized "java/lang/String" ∈ lw_tbl := (List.mem_append_right _ (in_t1 (List.mem_of_getElem? (i := 14) (by decide +kernel))))
theorem in_fm : Cond.initialized "jdk/internal/util/Preconditions" ∈ lw_tbl := (List.mem_append_right _ (in_t1 (List.mem_of_getElem? (i := 16) (by decide +kernel))))
section LST
variable {s : State} {args : Array Value}
theorem st_arr {cA comp : ClassId} {k : Class} {ty : FieldType} (h2 : s.vm.classes[cA]? = some k) (h3 : k.kind = .array comp ty) : ArrOfT s cA ty := fun n z => ⟨fun k h => (by cases h), k, h2, comp, h3⟩
theorem st_ao {C : String} (h : (Cond.arrayOver (.object C)).before args s = true) : ∃ cA, ArrOfT s cA (.object C) ∧ va_RA s cA (.object C) := by
  obtain ⟨comp, cA, k, h1, h2, h3, h4, h5⟩ := Cond.arrayOver_spec h
  exact ⟨cA, st_arr h3 h4, k, comp, h3, h4, h1, h5⟩
theorem st_aa {t : FieldType} (h : (Cond.arrayOver (.array t)).before args s = true) : ∃ cA, ArrOfT s cA (.array t) ∧ va_RA s cA (.array t) := by
  obtain ⟨comp, cA, k, h1, h2, h3, h4, h5⟩ := arrayOverA_spec h
  exact ⟨cA, st_arr h3 h4, h5⟩
theorem st_ac {t : FieldType} (h : (Cond.arrayClass t).before args s = true) : ∃ cA, ArrOfT s cA t ∧ s.vm.findClass ("[" ++ t.toString) = some cA := by
  obtain ⟨cA, k, comp, h1, h2, h3⟩ := Cond.arrayClass_spec h
  exact ⟨cA, st_arr h2 h3, h1⟩
theorem st_K (hts : ∀ w ∈ lw_tbl, w.before args s = true) : ∃ (D : va_G) (g : Nat → ClassId), ∀ G : GG, gD G = D → gC G = g → va_K (gD G) vwCl (TYS G) s := by
  have hTW : ∀ w ∈ TW, w.before args s = true := fun w hw => hts w (List.mem_filter.mp hw).1
  obtain ⟨c0, i0, n0⟩ := u_known (C := RX0) (T := TX0) (N := 4) (n := 4) hTW tU_X0 (hTW _ tIN_X0)
  obtain ⟨c1, i1, n1⟩ := u_known (C := RX1) (T := TX1) (N := 8) (n := 8) hTW tU_X1 (hTW _ tIN_X1)
  obtain ⟨c2, i2, n2⟩ := u_known (C := RX2) (T := TX2) (N := 5) (n := 5) hTW tU_X2 (hTW _ tIN_X2)
  obtain ⟨c3, i3, n3⟩ := u_known (C := RX3) (T := TX3) (N := 3) (n := 3) hTW tU_X3 (hTW _ tIN_X3)
  obtain ⟨c4, i4, n4⟩ := u_known (C := RX4) (T := TX4) (N := 3) (n := 3) hTW tU_X4 (hTW _ tIN_X4)
  obtain ⟨c5, i5, n5⟩ := u_known (C := RX5) (T := TX5) (N := 5) (n := 5) hTW tU_X5 (hTW _ tIN_X5)
  obtain ⟨c6, i6, n6⟩ := u_known (C := RX6) (T := TX6) (N := 4) (n := 4) hTW tU_X6 (hTW _ tIN_X6)
  obtain ⟨c7, i7, n7⟩ := u_known (C := RX7) (T := TX7) (N := 9) (n := 9) hTW tU_X7 (hTW _ tIN_X7)
  obtain ⟨c8, i8, n8⟩ := u_known (C := RX8) (T := TX8) (N := 37) (n := 37) hTW tU_X8 (hTW _ tIN_X8)
  obtain ⟨a0, b0, d0⟩ := st_ac (hTW _ tAC_int)
  obtain ⟨a1, b1, d1⟩ := st_ac (hTW _ tAC_long)
  obtain ⟨a2, b2, d2⟩ := st_ao (hts _ ao_w.1)
  obtain ⟨a3, b3, d3⟩ := st_ao (hts _ ao_w.2.1)
  obtain ⟨a4, b4, d4⟩ := st_aa (hts _ ao_w.2.2.1)
  obtain ⟨a5, b5, d5⟩ := st_aa (hts _ ao_w.2.2.2)
  refine ⟨(fun k => [c0, c1, c2, c3, c4, c5, c6, c7, c8].getD k 0, fun k => [i0, i1, i2, i3, i4, i5, i6, i7, i8].getD k (fun _ => 0)), fun k => [a0, a1, a2, a3, a4, a5].getD k 0, fun G hD hC => ⟨fun k q hq => ?_, fun k q hq => ?_⟩⟩
  · rw [hD]
    match k, hq with
    | 0, hq => cases hq; exact n0
    | 1, hq => cases hq; exact n1
    | 2, hq => cases hq; exact n2
    | 3, hq => cases hq; exact n3
    | 4, hq => cases hq; exact n4
    | 5, hq => cases hq; exact n5
    | 6, hq => cases hq; exact n6
    | 7, hq => cases hq; exact n7
    | 8, hq => cases hq; exact n8
    | k + 9, hq => cases hq
  · unfold TYS at hq
    rw [hC] at hq
    match k, hq with
    | 0, hq => cases hq; exact ⟨b0, d0⟩
    | 1, hq => cases hq; exact ⟨b1, d1⟩
    | 2, hq => cases hq; exact ⟨b2, d2⟩
    | 3, hq => cases hq; exact ⟨b3, d3⟩
    | 4, hq => cases hq; exact ⟨b4, d4⟩
    | 5, hq => cases hq; exact ⟨b5, d5⟩
    | k + 6, hq => cases hq
theorem st_N (hts : ∀ w ∈ lw_tbl, w.before args s = true) : NN s := fun w hw => by
  have h1 := hts w (List.mem_append_right _ (List.mem_filter.mp hw).1)
  have h2 := (List.mem_filter.mp hw).2
  cases w <;> first | (cases h2; done) | exact va_any rfl h1
theorem st_E (hts : ∀ w ∈ lw_tbl, w.before args s = true) (hgv : (Jvm.Cond.and given_1 narrow_1).before args s = true) : ∃ adK adV : Nat → Nat, ∀ G : GG, gK G = adK → gV G = adV → gB G = s.heap.size → EX G s s.heap := by
  have hs := flat_of_before _ hgv
  have hA : ∀ a : Nat, a < s.heap.size → ¬ (fun q : Nat => s.heap.size ≤ q) a := fun a ha => Nat.not_le.mpr ha
  obtain ⟨adK, adV, h1, h2⟩ := vk_Sof (args := args) (s := s) (N := 8) (tm := tmS) (len := lenS) (byt := bytS) (A := fun q : Nat => s.heap.size ≤ q) len_ok (fun i hi => hs _ (fl_ex i hi)) (fun i hi => hs _ (fl_co i hi)) (fun i hi => hs _ (fl_ar i hi)) (fun i hi => hs _ (fl_le i hi)) (fun i hi j hj => hs _ (fl_el i hi j hj)) (fun i j hi hj hne => (fl_ne i hi j hj hne).elim (fun z => Or.inl (hs _ z)) (fun z => Or.inr (hs _ z))) hA
  have h3 : ∀ i, i < 8 → (tmM i).eval args s none [] s = some (.ref (adK i)) := fun i hi => va_eqR (hs _ (fl_eq i hi)) (h2 i hi)
  have h4 : ∀ q ∈ SR, (Term.string q.1 q.2.1).eval args s none [] s = some (.ref (adK q.2.2)) := List.forall_mem_cons.mpr ⟨h2 0 (by decide), List.forall_mem_cons.mpr ⟨h2 1 (by decide), List.forall_mem_cons.mpr ⟨h2 2 (by decide), List.forall_mem_cons.mpr ⟨h2 3 (by decide), List.forall_mem_cons.mpr ⟨h2 4 (by decide), List.forall_mem_cons.mpr ⟨h2 5 (by decide), List.forall_mem_cons.mpr ⟨h2 6 (by decide), List.forall_mem_cons.mpr ⟨h2 7 (by decide), List.forall_mem_cons.mpr ⟨h3 0 (by decide), List.forall_mem_cons.mpr ⟨h3 1 (by decide), List.forall_mem_cons.mpr ⟨h3 2 (by decide), List.forall_mem_cons.mpr ⟨h3 3 (by decide), List.forall_mem_cons.mpr ⟨h3 4 (by decide), List.forall_mem_cons.mpr ⟨h3 5 (by decide), List.forall_mem_cons.mpr ⟨h3 6 (by decide), List.forall_mem_cons.mpr ⟨h3 7 (by decide), fun _ h => absurd h List.not_mem_nil⟩⟩⟩⟩⟩⟩⟩⟩⟩⟩⟩⟩⟩⟩⟩⟩
  refine ⟨adK, adV, fun G e1 e2 e3 => ?_⟩
  have eA : gA G = fun q : Nat => s.heap.size ≤ q := by funext q; show (gB G ≤ q) = _; rw [e3]
  refine ⟨by rw [e1, e2, eA]; exact h1, fun q hq => by rw [e1]; exact vk_R.of (hts _ (sr_w q hq)) (h4 q hq), ?_, ?_, va_AO.of (hts _ ao_w.1), va_AO.of (hts _ ao_w.2.1), over_moved (Vm.Alike.refl s.vm) (hts _ ao_w.2.2.1), over_moved (Vm.Alike.refl s.vm) (hts _ ao_w.2.2.2)⟩
  · rw [eA]; exact va_Zof (hts _ ls_cs) (hts _ in_cs) (va_eqi (hs _ fl_cs)) hA
  · rw [eA]; exact va_Zqof (hts _ ls_fm) (hts _ in_fm) (hs _ fl_fm) hA
end LST
/-! the values at the start -/
def vIni : CV := (cIni, fun _ _ => 0)
def aIni : AB := (vIni, none, fun _ => (-1, 0, fun _ => 0), (0, fun _ => 0), fun _ => 0)
def mZero : Mm := (fun _ _ => 0, fun _ _ => 0, fun _ _ => 0)
def mOne : Mm := addM mZero 0 xIni
def mTwo : Mm := addM mOne 69 mIni
theorem sm_0 (n : Nat) (h : 0 < n) : sm (0 : Int32) n := ⟨by decide, by rw [show tn 0 = 0 from by decide]; exact h⟩
theorem wf_ini : WF vIni := ⟨⟨⟨by decide, by decide⟩, by decide⟩, ⟨by decide, by decide⟩, ⟨⟨by decide, by decide⟩, fun h => absurd h (by decide)⟩, ⟨⟨by decide, by decide⟩, by decide⟩, ⟨by decide, by decide⟩, fun p _ => ⟨sm_0 6 (by decide), sm_0 14 (by decide), sm_0 13 (by decide), sm_0 16384 (by decide), sm_0 100 (by decide), fun h => (by rw [show pN vIni = 0 from by decide] at h; exact absurd h (Nat.not_lt_zero p))⟩⟩
theorem wb_ini : WB aIni := ⟨⟨wf_ini, (fun w h => by cases h), (fun s _ => Or.inl ⟨rfl, rfl⟩), Nat.zero_le _, fun i hi => absurd hi (Nat.not_lt_zero i)⟩, fun _ => rfl, fun w h => by cases h⟩
theorem two_c {x : Nat} (h : x < 69) : mTwo.1 x = xIni x ∧ mTwo.2.1 x = fun _ => 0 := by
  refine ⟨(addM_lo (M := mOne) (f := mIni) h).1.trans ?_, (addM_lo (M := mOne) (f := mIni) h).2.1.trans ?_⟩
  · have := (addM_hi (M := mZero) (b := 0) (j := x) (f := xIni)).1
    rwa [Nat.zero_add] at this
  · have := (addM_hi (M := mZero) (b := 0) (j := x) (f := xIni)).2.1
    rwa [Nat.zero_add] at this
theorem x_zero {x : Nat} (h : ¬ (x = 1 ∨ x = 11 ∨ x = 40)) (h2 : ¬ (x = 53 ∨ x = 55 ∨ x = 57 ∨ x = 59 ∨ x = 61 ∨ x = 63 ∨ x = 65 ∨ x = 67)) : xIni x = fun _ => 0 := by
  unfold xIni
  rw [if_neg h, if_neg h2]
theorem x_sh {s : Nat} (h : s < 8) : xIni (53 + 2 * s) = sIni := by
  unfold xIni
  rw [if_neg (by omega), if_pos (by omega)]
theorem rc_ini : RC aIni mTwo := by
  refine ⟨⟨fun k hk => by rw [(two_c (x := 1) (by decide)).1]; rfl, fun p k hp hk => ?_⟩, ⟨fun _ => ?_, fun w h => by cases h⟩, fun s h8 => ⟨?_, ?_, fun i hi => ?_⟩, ⟨?_, fun i hi => absurd hi (Nat.not_lt_zero i)⟩, fun i hi => ?_⟩
  · rw [(two_c (x := 1 + 2 + p) (by omega)).1, x_zero (by omega) (by omega)]; rfl
  · rw [(two_c (x := 0) (by decide)).1]; rfl
  · rw [(two_c (x := 53 + 2 * s) (by omega)).1, x_sh h8]; rfl
  · rw [(two_c (x := 53 + 2 * s) (by omega)).1, x_sh h8]; rfl
  · rw [(two_c (x := 53 + 2 * s + 1) (by omega)).2]; rfl
  · rw [(two_c (x := 38) (by decide)).1]; rfl
  · rw [(two_c (x := 52) (by decide)).1]; rfl
theorem two_m (j : Nat) : mTwo.1 (69 + j) = mIni j ∧ mTwo.2.1 (69 + j) = (fun _ => 0) ∧ mTwo.2.2 (69 + j) = fun _ => 0 := addM_hi
theorem m_zero {x : Nat} (h : x ≠ 0) (h2 : x ≠ 22) : mIni x = fun _ => 0 := by
  unfold mIni
  rw [if_neg h, if_neg h2]
theorem rm_ini : RM aIni mTwo := by
  have z : ∀ j : Nat, j ≠ 0 → j ≠ 22 → mTwo.1 (69 + j) = fun _ => 0 := fun j h1 h2 => (two_m j).1.trans (m_zero h1 h2)
  have z0 : mTwo.1 69 = mIni 0 := (two_m 0).1
  have z22 : mTwo.1 (69 + 22) = mIni 22 := (two_m 22).1
  refine ⟨⟨⟨by rw [z0]; rfl, by rw [z0]; rfl, by rw [z22]; rfl, by rw [z22]; rfl, by rw [z22]; rfl, by rw [z0]; rfl, by rw [z0]; rfl⟩, fun p hp => by rw [z 17 (by decide) (by decide)]; rfl, fun p hp => by rw [z 18 (by decide) (by decide)]; rfl, fun p hp => by rw [z 19 (by decide) (by decide)]; rfl, fun p hp => by rw [z 20 (by decide) (by decide)]; rfl, fun p hp => by rw [z 21 (by decide) (by decide)]; rfl⟩, ⟨fun _ => ?_, fun w h => by cases h⟩, fun s h8 => Or.inl ⟨rfl, by rw [show mTwo.1 70 = fun _ => 0 from z 1 (by decide) (by decide)]⟩, ⟨by rw [z0]; rfl, fun i hi => absurd hi (Nat.not_lt_zero i)⟩, fun i hi => by rw [show mTwo.1 85 = fun _ => 0 from z 16 (by decide) (by decide)]; rfl⟩
  rw [show mTwo.2.2 69 = fun _ => 0 from (two_m 0).2.2]
theorem inv_ini : Inv (shX ++ shM) aIni mTwo := ⟨isX_0.app, isM_new shX, rc_ini, rm_ini, wb_ini, Or.inl (by rw [show mTwo.2.2 69 = fun _ => 0 from (two_m 0).2.2]), Or.inl (by rw [show mTwo.2.2 69 = fun _ => 0 from (two_m 0).2.2])⟩
