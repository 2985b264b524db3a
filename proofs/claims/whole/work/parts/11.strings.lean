section KSTR
variable {p : Program} {l : Launch} {e : Env} {R : Room} {s : State} {m : MethodId} {args : Array Value} {below : List Frame} {meth : Method} {c : Code} {G : GG} {own : String} {cc : ByteArray} {nL : Nat} {ret : Option FieldType} {Q : State → Prop} {sh : List (Nat × Nat)} {xs : List va_E} {ck cn : Nat} {M : Mm} {pc pc2 : Nat} {lv : List (Nat × Value)} {st : List Value}
theorem kc_Str (C : Cx p s m c args meth G own cc nL ret) {y : MethodName} {cc2 : ByteArray} {nL2 index na : Nat} {rt : Option FieldType} {rm : Room} {st0 rest As st2 : List Value} {ov : Option Value} {M2 : Mm} {i : Nat} (hM : Ct l y cc2 nL2 rt rm G (.ref (gK G i) :: As) sh M xs ov sh M2 xs 0 0) (cw : CallW R s args own RJ0 index y cc2 nL2 rt (.code y cc2 nL2 rt :: TW) rm 0 0 na) (hi : i < 8) (hn : As.length = na) (hst : st0 = As.reverse ++ .ref (gK G i) :: rest) (hW : (rest.map fun v => v.category).sum ≤ 8) (hd : decode cc pc = .ok (.invokevirtual index, 3)) (hf : ck ≤ R.cells ∧ cn ≤ R.slots) (hp : pc + 3 = pc2) (hk : ov.toList ++ rest = st2) (kk : KW p l e R s m args below meth c G nL Q sh xs ck cn M2 pc2 lv st2) : KW p l e R s m args below meth c G nL Q sh xs ck cn M pc lv st0 := by
  subst hk
  subst hp
  subst hst
  exact k_call_of (fun H locs ls hP hS hl => va_runV C.1 hM cw ⟨ws_blind, vk_recv C.2.2.2.2.2.1.1 hi hS, fun U hU hW9 => ⟨rfl, ws_call C hP hS U hU hW9⟩⟩ rfl hn hl.1 rfl (lv_room hW) hd hf) kk
theorem k_zretT {ty : FieldType} {v r : Int32} {sh2 : List (Nat × Nat)} {M2 : Mm} {xs2 : List va_E} (C : Cx p s m c args meth G own cc nL (some ty)) (hd : decode cc pc = .ok (.ireturn, 1)) (hn : narrow ty (.int v) = .int v) (hv : v = r) (h1 : sh = sh2) (h2 : M = M2) (h3 : xs = xs2) : KW p l e R s m args below meth c G nL (MQ below (QO G (some (.int r)) sh2 M2 xs2) args s ck cn (gA G)) sh xs ck cn M pc lv [.int v] := by
  subst hv; subst h1; subst h2; subst h3
  exact fun H locs ls hP hS hl => W.zret (ty := ty) C.1.1 C.1.2.1 C.2.1 hn (fun t ht hW => ⟨rfl, by rw [ht]; exact hP, hS.F ht⟩) hS.2.2 hd C.2.2.1
theorem k_sval (C : Cx p s m c args meth G own cc nL ret) {w index : Nat} (hw : w < 8) (hlink : Cond.fieldLink own index "java/lang/String" "value" "[B" ∈ TW) (hd : decode cc pc = .ok (.getfield index, 3)) (hn : pc + 3 = pc2) (k : KW p l e R s m args below meth c G nL Q sh xs ck cn M pc2 lv (.ref (gV G w) :: st)) : KW p l e R s m args below meth c G nL Q sh xs ck cn M pc lv (.ref (gK G w) :: st) := by
  subst hn
  exact fun H locs ls hP hS hl => vk_getf C.1.1 C.1.2.1 (C.2.2.2.2.2.1.1.1 w hw).2.2.1 hS C.1.2.2.2.1 (hts_of C _ hlink) (fun _ h9 => h9) hd (k H locs ls hP hS hl)
theorem k_scod (C : Cx p s m c args meth G own cc nL ret) {w index : Nat} (hw : w < 8) (hlink : Cond.fieldLink own index "java/lang/String" "coder" "B" ∈ TW) (hd : decode cc pc = .ok (.getfield index, 3)) (hn : pc + 3 = pc2) (k : KW p l e R s m args below meth c G nL Q sh xs ck cn M pc2 lv (.int 0 :: st)) : KW p l e R s m args below meth c G nL Q sh xs ck cn M pc lv (.ref (gK G w) :: st) := by
  subst hn
  exact fun H locs ls hP hS hl => vk_getf C.1.1 C.1.2.1 (C.2.2.2.2.2.1.1.1 w hw).2.1 hS C.1.2.2.2.1 (hts_of C _ hlink) (fun _ h9 => h9) hd (k H locs ls hP hS hl)
theorem k_slen (C : Cx p s m c args meth G own cc nL ret) {w : Nat} (hw : w < 8) (hd : decode cc pc = .ok (.arraylength, 1)) (hn : pc + 1 = pc2) (k : KW p l e R s m args below meth c G nL Q sh xs ck cn M pc2 lv (.int (Int32.ofNat (lenS.getD w 0)) :: st)) : KW p l e R s m args below meth c G nL Q sh xs ck cn M pc lv (.ref (gV G w) :: st) := by
  subst hn
  intro H locs ls hP hS hl
  obtain ⟨cell, h1, h2, h3, h4, h5, h6⟩ := (C.2.2.2.2.2.1.1.1 w hw).2.2.2.kept hS.2.1
  exact W.alen C.1.1 C.1.2.1 h1 h2 h5 rfl rfl hd (k H locs ls hP hS hl)
theorem k_sbyt (C : Cx p s m c args meth G own cc nL ret) {w : Nat} {i : Int32} (hw : w < 8) (hi : vp_in i (lenS.getD w 0)) (hd : decode cc pc = .ok (.baload, 1)) (hn : pc + 1 = pc2) (k : KW p l e R s m args below meth c G nL Q sh xs ck cn M pc2 lv (.int ((bytS.getD w []).getD i.toNatClampNeg 0) :: st)) : KW p l e R s m args below meth c G nL Q sh xs ck cn M pc lv (.int i :: .ref (gV G w) :: st) := by
  subst hn
  exact fun H locs ls hP hS hl => va_tb C.1.1 C.1.2.1 (C.2.2.2.2.2.1.1.1 w hw).2.2.2 hS hi rfl hd (k H locs ls hP hS hl)
theorem k_compact (C : Cx p s m c args meth G own cc nL ret) {index : Nat} (hlink : Cond.fieldLink own index "java/lang/String" "COMPACT_STRINGS" "Z" ∈ TW) (hd : decode cc pc = .ok (.getstatic index, 3)) (hn : pc + 3 = pc2) (k : KW p l e R s m args below meth c G nL Q sh xs ck cn M pc2 lv (.int 1 :: st)) : KW p l e R s m args below meth c G nL Q sh xs ck cn M pc lv st := by
  subst hn
  exact fun H locs ls hP hS hl => va_gets C.1.1 C.1.2.1 C.2.2.2.2.2.1.2.2.1 hS C.1.2.2.2.1 (hts_of C _ hlink) (fun _ h9 => h9) hd (k H locs ls hP hS hl)
theorem k_fmt (C : Cx p s m c args meth G own cc nL ret) {index : Nat} (hlink : Cond.fieldLink own index "jdk/internal/util/Preconditions" "SIOOBE_FORMATTER" "Ljava/util/function/BiFunction;" ∈ TW) (hd : decode cc pc = .ok (.getstatic index, 3)) (hn : pc + 3 = pc2) (k : ∀ v : Value, v = .null ∨ (∃ t : Nat, v = .ref t) → KW p l e R s m args below meth c G nL Q sh xs ck cn M pc2 lv (v :: st)) : KW p l e R s m args below meth c G nL Q sh xs ck cn M pc lv st := by
  subst hn
  rcases C.2.2.2.2.2.1.2.2.2.1 with ht | ⟨t, ht⟩
  · exact fun H locs ls hP hS hl => va_gets C.1.1 C.1.2.1 ht hS C.1.2.2.2.1 (hts_of C _ hlink) (fun _ h9 => h9) hd (k _ (Or.inl rfl) H locs ls hP hS hl)
  · exact fun H locs ls hP hS hl => va_gets C.1.1 C.1.2.1 ht hS C.1.2.2.2.1 (hts_of C _ hlink) (fun _ h9 => h9) hd (k _ (Or.inr ⟨t, rfl⟩) H locs ls hP hS hl)
end KSTR
theorem ct_coder (l : Launch) (G : GG) (sh : Sh) (xs : List va_E) (w : Nat) (hw : w < 8) (M : Mm) : Ct l yJ0_coder_7d493 cJ0_coder_7d493 1 (some .byte) { frames := 0, cells := 0, slots := 0, locals := 0 } G [.ref (gK G w)] sh M xs (some (.int 0)) sh M xs 0 0 := by
  refine ct_of (by decide) (Nat.le_of_ble_eq_true rfl) ?_
  intro p e s m args below meth c hnm C
  refine k_lv [0] (lv2 := [(0, .ref (gK G w))]) rfl ?_
  refine k_compact C (pc2 := 3) tF_J0_38 (dkAt dkJ0_coder_7d493 0 (q := (0, .getstatic 38, 3)) rfl) rfl ?_
  refine k_if_eq C (tgt := 13) (pc2 := 6) (α := Unit) (A := none) (B := some ()) (r := ()) (dkAt dkJ0_coder_7d493 1 (q := (3, .ifCond .eq 10, 3)) rfl) (by decide) rfl (by decide) (fun h => by cases h) (fun _ => ?_)
  refine k_aload_n C (pc2 := 7) (dkAt dkJ0_coder_7d493 2 (q := (6, .aload_n 0, 1)) rfl) rfl rfl 0 rfl ?_
  refine k_scod C (pc2 := 10) hw tF_J0_15 (dkAt dkJ0_coder_7d493 3 (q := (7, .getfield 15, 3)) rfl) rfl ?_
  refine k_goto C (tgt := 14) (dkAt dkJ0_coder_7d493 4 (q := (10, .goto 4, 3)) rfl) (by decide) ?_
  exact k_zretT C (dkAt dkJ0_coder_7d493 6 (q := (14, .ireturn, 1)) rfl) rfl rfl rfl rfl rfl
theorem ct_isLatin1 (l : Launch) (G : GG) (sh : Sh) (xs : List va_E) (w : Nat) (hw : w < 8) (M : Mm) : Ct l yJ0_isLatin1_aae02 cJ0_isLatin1_aae02 1 (some .boolean) { frames := 0, cells := 0, slots := 0, locals := 0 } G [.ref (gK G w)] sh M xs (some (.int 1)) sh M xs 0 0 := by
  refine ct_of (by decide) (Nat.le_of_ble_eq_true rfl) ?_
  intro p e s m args below meth c hnm C
  refine k_lv [0] (lv2 := [(0, .ref (gK G w))]) rfl ?_
  refine k_compact C (pc2 := 3) tF_J0_38 (dkAt dkJ0_isLatin1_aae02 0 (q := (0, .getstatic 38, 3)) rfl) rfl ?_
  refine k_if_eq C (tgt := 17) (pc2 := 6) (α := Unit) (A := none) (B := some ()) (r := ()) (dkAt dkJ0_isLatin1_aae02 1 (q := (3, .ifCond .eq 14, 3)) rfl) (by decide) rfl (by decide) (fun h => by cases h) (fun _ => ?_)
  refine k_aload_n C (pc2 := 7) (dkAt dkJ0_isLatin1_aae02 2 (q := (6, .aload_n 0, 1)) rfl) rfl rfl 0 rfl ?_
  refine k_scod C (pc2 := 10) hw tF_J0_15 (dkAt dkJ0_isLatin1_aae02 3 (q := (7, .getfield 15, 3)) rfl) rfl ?_
  refine k_if_ne C (tgt := 17) (pc2 := 13) (α := Unit) (A := none) (B := some ()) (r := ()) (dkAt dkJ0_isLatin1_aae02 4 (q := (10, .ifCond .ne 7, 3)) rfl) (by decide) rfl (by decide) (fun h => by cases h) (fun _ => ?_)
  refine k_iconst C (pc2 := 14) (dkAt dkJ0_isLatin1_aae02 5 (q := (13, .iconst 1, 1)) rfl) rfl (v := 1) rfl ?_
  refine k_goto C (tgt := 18) (dkAt dkJ0_isLatin1_aae02 6 (q := (14, .goto 4, 3)) rfl) (by decide) ?_
  exact k_zretT C (dkAt dkJ0_isLatin1_aae02 8 (q := (18, .ireturn, 1)) rfl) rfl rfl rfl rfl rfl
/-- String.length() of a word -/
def rm_strLen : Room := { frames := 1, cells := 0, slots := 0, locals := 20 }
def rm_strAt : Room := { frames := 4, cells := 0, slots := 0, locals := 100 }
theorem ct_strLen (l : Launch) (G : GG) (sh : Sh) (xs : List va_E) (w : Nat) (hw : w < 8) (M : Mm) (r : Int32) (h : f_strLen w = some r) : Ct l yJ0_length_8abf5 cJ0_length_8abf5 1 (some .int) rm_strLen G [.ref (gK G w)] sh M xs (some (.int r)) sh M xs 0 0 := by
  refine ct_of (by decide) (Nat.le_of_ble_eq_true rfl) ?_
  intro p e s m args below meth c hnm C
  refine k_lv [0] (lv2 := [(0, .ref (gK G w))]) rfl ?_
  refine k_aload_n C (pc2 := 1) (dkAt dkJ0_length_8abf5 0 (q := (0, .aload_n 0, 1)) rfl) rfl rfl 0 rfl ?_
  refine k_sval C (pc2 := 4) hw tF_J0_9 (dkAt dkJ0_length_8abf5 1 (q := (1, .getfield 9, 3)) rfl) rfl ?_
  refine k_slen C (pc2 := 5) hw (dkAt dkJ0_length_8abf5 2 (q := (4, .arraylength, 1)) rfl) rfl ?_
  refine k_aload_n C (pc2 := 6) (dkAt dkJ0_length_8abf5 3 (q := (5, .aload_n 0, 1)) rfl) rfl rfl 0 rfl ?_
  refine kc_Str C (i := w) (As := []) (st2 := [.int 0, .int (Int32.ofNat (lenS.getD w 0))]) (ct_coder l G sh xs w hw M) (cl_J0_335 (hts_of C) ⟨Nat.le_of_ble_eq_true rfl, Nat.le_of_ble_eq_true rfl⟩ rfl rfl) hw rfl rfl (Nat.le_of_ble_eq_true rfl) (dkAt dkJ0_length_8abf5 4 (q := (6, .invokevirtual 335, 3)) rfl) ⟨Nat.zero_le _, Nat.zero_le _⟩ (pc2 := 9) rfl rfl ?_
  refine k_ishr C (pc2 := 10) (dkAt dkJ0_length_8abf5 5 (q := (9, .ishr, 1)) rfl) rfl ?_
  refine k_iret C (dkAt dkJ0_length_8abf5 6 (q := (10, .ireturn, 1)) rfl) ?_ rfl rfl rfl
  rw [← Option.some.inj h]
  exact (by decide +kernel : ∀ w, w < 8 → Int32.ofNat (lenS.getD w 0) >>> ((0 : Int32) &&& 31) = Int32.ofNat (lenS.getD w 0)) w hw
theorem vp_in_lt {i : Int32} {n : Nat} (hn : n < 2 ^ 31) (h : vp_in i n) : ¬ i < 0 ∧ i < Int32.ofNat n := by
  have h1 : ¬ i < 0 := fun z => h (Or.inl z)
  have h2 : i.toNatClampNeg < n := Nat.not_le.mp fun z => h (Or.inr z)
  refine ⟨h1, Int32.lt_iff_toInt_lt.mpr ?_⟩
  rw [Int32.toInt_ofNat_of_lt hn]
  have h3 : (0 : Int) ≤ i.toInt := by
    have := Int32.not_lt.mp h1
    simpa using Int32.le_iff_toInt_le.mp this
  have h4 : i.toInt.toNat = i.toNatClampNeg := rfl
  omega
theorem ct_chk3 (l : Launch) (G : GG) (sh : Sh) (xs : List va_E) (i n : Int32) (t : Nat) (h : ¬ i < 0 ∧ i < n) (M : Mm) : Ct l yJ3_checkIndex_8e157 cJ3_checkIndex_8e157 3 (some .int) { frames := 0, cells := 0, slots := 0, locals := 0 } G [.int i, .int n, .ref t] sh M xs (some (.int i)) sh M xs 0 0 := by
  refine ct_of (by decide) (Nat.le_of_ble_eq_true rfl) ?_
  intro p e s m args below meth c hnm C
  refine k_lv [0, 1] (lv2 := [(0, .int i), (1, .int n)]) rfl ?_
  refine k_iload_n C (pc2 := 1) (dkAt dkJ3_checkIndex_8e157 0 (q := (0, .iload_n 0, 1)) rfl) rfl rfl 0 rfl ?_
  refine k_if_lt C (tgt := 9) (pc2 := 4) (α := Unit) (A := none) (B := some ()) (r := ()) (dkAt dkJ3_checkIndex_8e157 1 (q := (1, .ifCond .lt 8, 3)) rfl) (by decide) rfl (if_neg h.1) (fun h => by cases h) (fun _ => ?_)
  refine k_iload_n C (pc2 := 5) (dkAt dkJ3_checkIndex_8e157 2 (q := (4, .iload_n 0, 1)) rfl) rfl rfl 0 rfl ?_
  refine k_iload_n C (pc2 := 6) (dkAt dkJ3_checkIndex_8e157 3 (q := (5, .iload_n 1, 1)) rfl) rfl rfl 1 rfl ?_
  refine k_icmp_lt C (tgt := 16) (pc2 := 9) (α := Unit) (A := some ()) (B := none) (r := ()) (dkAt dkJ3_checkIndex_8e157 4 (q := (6, .if_icmp .lt 10, 3)) rfl) (by decide) rfl (if_pos h.2) (fun _ => ?_) (fun h => by cases h)
  refine k_iload_n C (pc2 := 17) (dkAt dkJ3_checkIndex_8e157 10 (q := (16, .iload_n 0, 1)) rfl) rfl rfl 0 rfl ?_
  exact k_iret C (dkAt dkJ3_checkIndex_8e157 11 (q := (17, .ireturn, 1)) rfl) rfl rfl rfl rfl
theorem ct_chk3N (l : Launch) (G : GG) (sh : Sh) (xs : List va_E) (i n : Int32) (h : ¬ i < 0 ∧ i < n) (M : Mm) : Ct l yJ3_checkIndex_8e157 cJ3_checkIndex_8e157 3 (some .int) { frames := 0, cells := 0, slots := 0, locals := 0 } G [.int i, .int n, .null] sh M xs (some (.int i)) sh M xs 0 0 := by
  refine ct_of (by decide) (Nat.le_of_ble_eq_true rfl) ?_
  intro p e s m args below meth c hnm C
  refine k_lv [0, 1] (lv2 := [(0, .int i), (1, .int n)]) rfl ?_
  refine k_iload_n C (pc2 := 1) (dkAt dkJ3_checkIndex_8e157 0 (q := (0, .iload_n 0, 1)) rfl) rfl rfl 0 rfl ?_
  refine k_if_lt C (tgt := 9) (pc2 := 4) (α := Unit) (A := none) (B := some ()) (r := ()) (dkAt dkJ3_checkIndex_8e157 1 (q := (1, .ifCond .lt 8, 3)) rfl) (by decide) rfl (if_neg h.1) (fun h => by cases h) (fun _ => ?_)
  refine k_iload_n C (pc2 := 5) (dkAt dkJ3_checkIndex_8e157 2 (q := (4, .iload_n 0, 1)) rfl) rfl rfl 0 rfl ?_
  refine k_iload_n C (pc2 := 6) (dkAt dkJ3_checkIndex_8e157 3 (q := (5, .iload_n 1, 1)) rfl) rfl rfl 1 rfl ?_
  refine k_icmp_lt C (tgt := 16) (pc2 := 9) (α := Unit) (A := some ()) (B := none) (r := ()) (dkAt dkJ3_checkIndex_8e157 4 (q := (6, .if_icmp .lt 10, 3)) rfl) (by decide) rfl (if_pos h.2) (fun _ => ?_) (fun h => by cases h)
  refine k_iload_n C (pc2 := 17) (dkAt dkJ3_checkIndex_8e157 10 (q := (16, .iload_n 0, 1)) rfl) rfl rfl 0 rfl ?_
  exact k_iret C (dkAt dkJ3_checkIndex_8e157 11 (q := (17, .ireturn, 1)) rfl) rfl rfl rfl rfl
theorem ct_chk0 (l : Launch) (G : GG) (sh : Sh) (xs : List va_E) (i n : Int32) (h : ¬ i < 0 ∧ i < n) (M : Mm) : Ct l yJ0_checkIndex_df160 cJ0_checkIndex_df160 2 none { frames := 1, cells := 0, slots := 0, locals := 22 } G [.int i, .int n] sh M xs none sh M xs 0 0 := by
  refine ct_of (by decide) (Nat.le_of_ble_eq_true rfl) ?_
  intro p e s m args below meth c hnm C
  refine k_lv [0, 1] (lv2 := [(0, .int i), (1, .int n)]) rfl ?_
  refine k_iload_n C (pc2 := 1) (dkAt dkJ0_checkIndex_df160 0 (q := (0, .iload_n 0, 1)) rfl) rfl rfl 0 rfl ?_
  refine k_iload_n C (pc2 := 2) (dkAt dkJ0_checkIndex_df160 1 (q := (1, .iload_n 1, 1)) rfl) rfl rfl 1 rfl ?_
  refine k_fmt C (pc2 := 5) tF_J0_1053 (dkAt dkJ0_checkIndex_df160 2 (q := (2, .getstatic 1053, 3)) rfl) rfl (fun v hv => ?_)
  rcases hv with rfl | ⟨t, rfl⟩
  · refine kc_S C (As := [.int i, .int n, .null]) (st2 := [.int i]) (ct_chk3N l G sh xs i n h M) (cl_J0_1059 (hts_of C) ⟨Nat.le_of_ble_eq_true rfl, Nat.le_of_ble_eq_true rfl⟩ rfl rfl) rfl rfl (Nat.le_of_ble_eq_true rfl) (dkAt dkJ0_checkIndex_df160 3 (q := (5, .invokestatic 1059, 3)) rfl) ⟨Nat.zero_le _, Nat.zero_le _⟩ (pc2 := 8) rfl rfl ?_
    refine k_pop C (pc2 := 9) (dkAt dkJ0_checkIndex_df160 4 (q := (8, .pop, 1)) rfl) rfl rfl ?_
    exact k_vret C (dkAt dkJ0_checkIndex_df160 5 (q := (9, .return_, 1)) rfl) rfl rfl rfl
  · refine kc_S C (As := [.int i, .int n, .ref t]) (st2 := [.int i]) (ct_chk3 l G sh xs i n t h M) (cl_J0_1059 (hts_of C) ⟨Nat.le_of_ble_eq_true rfl, Nat.le_of_ble_eq_true rfl⟩ rfl rfl) rfl rfl (Nat.le_of_ble_eq_true rfl) (dkAt dkJ0_checkIndex_df160 3 (q := (5, .invokestatic 1059, 3)) rfl) ⟨Nat.zero_le _, Nat.zero_le _⟩ (pc2 := 8) rfl rfl ?_
    refine k_pop C (pc2 := 9) (dkAt dkJ0_checkIndex_df160 4 (q := (8, .pop, 1)) rfl) rfl rfl ?_
    exact k_vret C (dkAt dkJ0_checkIndex_df160 5 (q := (9, .return_, 1)) rfl) rfl rfl rfl
theorem byt_ok : ∀ w, w < 8 → ∀ j, j < lenS.getD w 0 → (((bytS.getD w []).getD j 0 &&& 255).toUInt32 % 65536).toInt32 = (bytS.getD w []).getD j 0 ∧ narrow .char (.int ((bytS.getD w []).getD j 0)) = .int ((bytS.getD w []).getD j 0) := by decide +kernel
theorem len_ok : ∀ w, w < 8 → lenS.getD w 0 < 2 ^ 31 := by decide +kernel
theorem ct_lat1At (l : Launch) (G : GG) (sh : Sh) (xs : List va_E) (w : Nat) (hw : w < 8) (i : Int32) (hi : vp_in i (lenS.getD w 0)) (M : Mm) : Ct l yJ1_charAt_3b067 cJ1_charAt_3b067 2 (some .char) { frames := 2, cells := 0, slots := 0, locals := 50 } G [.ref (gV G w), .int i] sh M xs (some (.int ((bytS.getD w []).getD i.toNatClampNeg 0))) sh M xs 0 0 := by
  refine ct_of (by decide) (Nat.le_of_ble_eq_true rfl) ?_
  intro p e s m args below meth c hnm C
  have hj : i.toNatClampNeg < lenS.getD w 0 := Nat.not_le.mp fun z => hi (Or.inr z)
  refine k_lv [0, 1] (lv2 := [(0, .ref (gV G w)), (1, .int i)]) rfl ?_
  refine k_iload_n C (pc2 := 1) (dkAt dkJ1_charAt_3b067 0 (q := (0, .iload_n 1, 1)) rfl) rfl rfl 1 rfl ?_
  refine k_aload_n C (pc2 := 2) (dkAt dkJ1_charAt_3b067 1 (q := (1, .aload_n 0, 1)) rfl) rfl rfl 0 rfl ?_
  refine k_slen C (pc2 := 3) hw (dkAt dkJ1_charAt_3b067 2 (q := (2, .arraylength, 1)) rfl) rfl ?_
  refine kc_S C (As := [.int i, .int (Int32.ofNat (lenS.getD w 0))]) (st2 := []) (ct_chk0 l G sh xs i _ (vp_in_lt (len_ok w hw) hi) M) (cl_J1_9 (hts_of C) ⟨Nat.le_of_ble_eq_true rfl, Nat.le_of_ble_eq_true rfl⟩ rfl rfl) rfl rfl (Nat.le_of_ble_eq_true rfl) (dkAt dkJ1_charAt_3b067 3 (q := (3, .invokestatic 9, 3)) rfl) ⟨Nat.zero_le _, Nat.zero_le _⟩ (pc2 := 6) rfl rfl ?_
  refine k_aload_n C (pc2 := 7) (dkAt dkJ1_charAt_3b067 4 (q := (6, .aload_n 0, 1)) rfl) rfl rfl 0 rfl ?_
  refine k_iload_n C (pc2 := 8) (dkAt dkJ1_charAt_3b067 5 (q := (7, .iload_n 1, 1)) rfl) rfl rfl 1 rfl ?_
  refine k_sbyt C (pc2 := 9) hw hi (dkAt dkJ1_charAt_3b067 6 (q := (8, .baload, 1)) rfl) rfl ?_
  refine k_sipush C (pc2 := 12) (dkAt dkJ1_charAt_3b067 7 (q := (9, .sipush 255, 3)) rfl) rfl (v := 255) rfl ?_
  refine k_iand C (pc2 := 13) (dkAt dkJ1_charAt_3b067 8 (q := (12, .iand, 1)) rfl) rfl ?_
  refine k_i2c C (pc2 := 14) (dkAt dkJ1_charAt_3b067 9 (q := (13, .i2c, 1)) rfl) rfl ?_
  rw [(byt_ok w hw _ hj).1]
  exact k_zretT C (dkAt dkJ1_charAt_3b067 10 (q := (14, .ireturn, 1)) rfl) (byt_ok w hw _ hj).2 rfl rfl rfl rfl
theorem ct_strAt (l : Launch) (G : GG) (sh : Sh) (xs : List va_E) (w : Nat) (hw : w < 8) (i : Int32) (M : Mm) (r : Int32) (h : f_strAt w i = some r) : Ct l yJ0_charAt_5068e cJ0_charAt_5068e 2 (some .char) rm_strAt G [.ref (gK G w), .int i] sh M xs (some (.int r)) sh M xs 0 0 := by
  obtain ⟨hi, h⟩ := chk_inv h
  have hj : i.toNatClampNeg < lenS.getD w 0 := Nat.not_le.mp fun z => hi (Or.inr z)
  refine ct_of (by decide) (Nat.le_of_ble_eq_true rfl) ?_
  intro p e s m args below meth c hnm C
  refine k_lv [0, 1] (lv2 := [(0, .ref (gK G w)), (1, .int i)]) rfl ?_
  refine k_aload_n C (pc2 := 1) (dkAt dkJ0_charAt_5068e 0 (q := (0, .aload_n 0, 1)) rfl) rfl rfl 0 rfl ?_
  refine kc_Str C (i := w) (As := []) (st2 := [.int 1]) (ct_isLatin1 l G sh xs w hw M) (cl_J0_492 (hts_of C) ⟨Nat.le_of_ble_eq_true rfl, Nat.le_of_ble_eq_true rfl⟩ rfl rfl) hw rfl rfl (Nat.le_of_ble_eq_true rfl) (dkAt dkJ0_charAt_5068e 1 (q := (1, .invokevirtual 492, 3)) rfl) ⟨Nat.zero_le _, Nat.zero_le _⟩ (pc2 := 4) rfl rfl ?_
  refine k_if_eq C (tgt := 16) (pc2 := 7) (α := Unit) (A := none) (B := some ()) (r := ()) (dkAt dkJ0_charAt_5068e 2 (q := (4, .ifCond .eq 12, 3)) rfl) (by decide) rfl (by decide) (fun h => by cases h) (fun _ => ?_)
  refine k_aload_n C (pc2 := 8) (dkAt dkJ0_charAt_5068e 3 (q := (7, .aload_n 0, 1)) rfl) rfl rfl 0 rfl ?_
  refine k_sval C (pc2 := 11) hw tF_J0_9 (dkAt dkJ0_charAt_5068e 4 (q := (8, .getfield 9, 3)) rfl) rfl ?_
  refine k_iload_n C (pc2 := 12) (dkAt dkJ0_charAt_5068e 5 (q := (11, .iload_n 1, 1)) rfl) rfl rfl 1 rfl ?_
  refine kc_S C (As := [.ref (gV G w), .int i]) (st2 := [.int ((bytS.getD w []).getD i.toNatClampNeg 0)]) (ct_lat1At l G sh xs w hw i hi M) (cl_J0_495 (hts_of C) ⟨Nat.le_of_ble_eq_true rfl, Nat.le_of_ble_eq_true rfl⟩ rfl rfl) rfl rfl (Nat.le_of_ble_eq_true rfl) (dkAt dkJ0_charAt_5068e 6 (q := (12, .invokestatic 495, 3)) rfl) ⟨Nat.zero_le _, Nat.zero_le _⟩ (pc2 := 15) rfl rfl ?_
  exact k_zretT C (dkAt dkJ0_charAt_5068e 7 (q := (15, .ireturn, 1)) rfl) (byt_ok w hw _ hj).2 (Option.some.inj h) rfl rfl rfl
