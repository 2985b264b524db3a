set_option maxRecDepth 100000 in
set_option maxHeartbeats 4000000 in
theorem ct_X8_noRow (l : Launch) (G : GG) (sh : Sh) (xs : List va_E) (o0 : Nat) (h0 : isM sh o0) (x1 : Int32) (M : Mm) (r : Mm × Int32) (h : f_X8_noRow o0 x1 M = some r) : Ct l yX8_noRow cX8_noRow 2 (some .int) rm_X8_noRow G [rA G o0, .int x1] sh M xs (some (.int r.2)) sh r.1 xs 0 0 := by
  refine ct_of (by decide) (Nat.le_of_ble_eq_true rfl) ?_
  intro p e s m args below meth c hnm C
  refine k_lv [0, 1] (lv2 := [(0, rA G o0), (1, .int x1)]) rfl ?_
  unfold f_X8_noRow at h
  refine k_iload_n C (pc2 := 1) (dkAt dkX8_noRow 0 (q := (0, .iload_n 1, 1)) rfl) rfl rfl 1 rfl ?_
  refine k_i2l C (pc2 := 2) (dkAt dkX8_noRow 1 (q := (1, .i2l, 1)) rfl) rfl ?_
  refine k_lconst C (pc2 := 3) (dkAt dkX8_noRow 2 (q := (2, .lconst 0, 1)) rfl) rfl (v := 0) rfl ?_
  refine k_ldc2 C (pc2 := 6) (dkAt dkX8_noRow 3 (q := (3, .ldc2_w 91, 3)) rfl) rfl (v := 7) tL_X8_91 ?_
  obtain ⟨q1, e2, h⟩ := ob_inv h
  refine kc_S C (As := [.long x1.toInt64, .long 0, .long 7]) (st2 := [.int q1]) (ct_X8_in l G sh xs x1.toInt64 0 7 M q1 e2) (cl_X8_85 (hts_of C) ⟨Nat.le_of_ble_eq_true rfl, Nat.le_of_ble_eq_true rfl⟩ rfl rfl) rfl rfl (Nat.le_of_ble_eq_true rfl) (dkAt dkX8_noRow 4 (q := (6, .invokestatic 85, 3)) rfl) ⟨Nat.zero_le _, Nat.zero_le _⟩ (pc2 := 9) rfl rfl ?_
  refine k_if_ne C (tgt := 19) (pc2 := 12) (dkAt dkX8_noRow 5 (q := (9, .ifCond .ne 10, 3)) rfl) (by decide) rfl h (fun h => ?_) (fun h => ?_)
  · refine k_aload_n C (pc2 := 20) (dkAt dkX8_noRow 10 (q := (19, .aload_n 0, 1)) rfl) rfl rfl 0 rfl ?_
    refine kf_X8_7 C (pc2 := 23) (o := o0) (o2 := o0 + 1) h0.1 rfl (dkAt dkX8_noRow 11 (q := (20, .getfield 7, 3)) rfl) rfl ?_
    refine k_iload_n C (pc2 := 24) (dkAt dkX8_noRow 12 (q := (23, .iload_n 1, 1)) rfl) rfl rfl 1 rfl ?_
    refine k_iald C (pc2 := 25) (o := o0 + 1) (nA := 8) (isM_shelf h0) (dkAt dkX8_noRow 13 (q := (24, .iaload, 1)) rfl) rfl h (fun h => ?_)
    refine k_iconst C (pc2 := 26) (dkAt dkX8_noRow 14 (q := (25, .iconst 2, 1)) rfl) rfl (v := 2) rfl ?_
    refine k_icmp_ne C (tgt := 36) (pc2 := 29) (dkAt dkX8_noRow 15 (q := (26, .if_icmp .ne 10, 3)) rfl) (by decide) rfl h (fun h => ?_) (fun h => ?_)
    · refine k_aload_n C (pc2 := 37) (dkAt dkX8_noRow 20 (q := (36, .aload_n 0, 1)) rfl) rfl rfl 0 rfl ?_
      refine kf_X8_7 C (pc2 := 40) (o := o0) (o2 := o0 + 1) h0.1 rfl (dkAt dkX8_noRow 21 (q := (37, .getfield 7, 3)) rfl) rfl ?_
      refine k_iload_n C (pc2 := 41) (dkAt dkX8_noRow 22 (q := (40, .iload_n 1, 1)) rfl) rfl rfl 1 rfl ?_
      refine k_iald C (pc2 := 42) (o := o0 + 1) (nA := 8) (isM_shelf h0) (dkAt dkX8_noRow 23 (q := (41, .iaload, 1)) rfl) rfl h (fun h => ?_)
      refine k_if_ne C (tgt := 54) (pc2 := 45) (dkAt dkX8_noRow 24 (q := (42, .ifCond .ne 12, 3)) rfl) (by decide) rfl h (fun h => ?_) (fun h => ?_)
      · refine k_iconst C (pc2 := 55) (dkAt dkX8_noRow 29 (q := (54, .iconst 0, 1)) rfl) rfl (v := 0) rfl ?_
        exact k_iret C (dkAt dkX8_noRow 30 (q := (55, .ireturn, 1)) rfl) (pe2 (Option.some.inj h)) rfl (pe1 (Option.some.inj h)) rfl
      · refine k_aload_n C (pc2 := 46) (dkAt dkX8_noRow 25 (q := (45, .aload_n 0, 1)) rfl) rfl rfl 0 rfl ?_
        refine k_bipush C (pc2 := 48) (dkAt dkX8_noRow 26 (q := (46, .bipush (-4), 2)) rfl) rfl (v := (-4)) rfl ?_
        obtain ⟨q3, e4, h⟩ := ob_inv h
        refine kc_V C (As := [.int (-4)]) (st2 := [.int q3.2]) (ct_X8_refuse l G sh xs o0 h0 (-4) M q3 e4) (cl_X8_97 (hts_of C) ⟨Nat.le_of_ble_eq_true rfl, Nat.le_of_ble_eq_true rfl⟩ rfl rfl) h0.1 rfl rfl rfl rfl rfl (Nat.le_of_ble_eq_true rfl) (dkAt dkX8_noRow 27 (q := (48, .invokevirtual 97, 3)) rfl) ⟨Nat.zero_le _, Nat.zero_le _⟩ (pc2 := 51) rfl rfl ?_
        refine k_goto C (tgt := 55) (dkAt dkX8_noRow 28 (q := (51, .goto 4, 3)) rfl) (by decide) ?_
        exact k_iret C (dkAt dkX8_noRow 30 (q := (55, .ireturn, 1)) rfl) (pe2 (Option.some.inj h)) rfl (pe1 (Option.some.inj h)) rfl
    · refine k_aload_n C (pc2 := 30) (dkAt dkX8_noRow 16 (q := (29, .aload_n 0, 1)) rfl) rfl rfl 0 rfl ?_
      refine k_bipush C (pc2 := 32) (dkAt dkX8_noRow 17 (q := (30, .bipush (-3), 2)) rfl) rfl (v := (-3)) rfl ?_
      obtain ⟨q5, e6, h⟩ := ob_inv h
      refine kc_V C (As := [.int (-3)]) (st2 := [.int q5.2]) (ct_X8_refuse l G sh xs o0 h0 (-3) M q5 e6) (cl_X8_97 (hts_of C) ⟨Nat.le_of_ble_eq_true rfl, Nat.le_of_ble_eq_true rfl⟩ rfl rfl) h0.1 rfl rfl rfl rfl rfl (Nat.le_of_ble_eq_true rfl) (dkAt dkX8_noRow 18 (q := (32, .invokevirtual 97, 3)) rfl) ⟨Nat.zero_le _, Nat.zero_le _⟩ (pc2 := 35) rfl rfl ?_
      exact k_iret C (dkAt dkX8_noRow 19 (q := (35, .ireturn, 1)) rfl) (pe2 (Option.some.inj h)) rfl (pe1 (Option.some.inj h)) rfl
  · refine k_aload_n C (pc2 := 13) (dkAt dkX8_noRow 6 (q := (12, .aload_n 0, 1)) rfl) rfl rfl 0 rfl ?_
    refine k_bipush C (pc2 := 15) (dkAt dkX8_noRow 7 (q := (13, .bipush (-2), 2)) rfl) rfl (v := (-2)) rfl ?_
    obtain ⟨q7, e8, h⟩ := ob_inv h
    refine kc_V C (As := [.int (-2)]) (st2 := [.int q7.2]) (ct_X8_refuse l G sh xs o0 h0 (-2) M q7 e8) (cl_X8_97 (hts_of C) ⟨Nat.le_of_ble_eq_true rfl, Nat.le_of_ble_eq_true rfl⟩ rfl rfl) h0.1 rfl rfl rfl rfl rfl (Nat.le_of_ble_eq_true rfl) (dkAt dkX8_noRow 8 (q := (15, .invokevirtual 97, 3)) rfl) ⟨Nat.zero_le _, Nat.zero_le _⟩ (pc2 := 18) rfl rfl ?_
    exact k_iret C (dkAt dkX8_noRow 9 (q := (18, .ireturn, 1)) rfl) (pe2 (Option.some.inj h)) rfl (pe1 (Option.some.inj h)) rfl
set_option maxRecDepth 100000 in
set_option maxHeartbeats 4000000 in
theorem ct_X8_set (l : Launch) (G : GG) (sh : Sh) (xs : List va_E) (o0 : Nat) (h0 : isM sh o0) (x1 : Int32) (x2 : Int32) (x3 : Int64) (M : Mm) (r : Mm × Int32) (h : f_X8_set o0 x1 x2 x3 M = some r) : Ct l yX8_set cX8_set 6 (some .int) rm_X8_set G [rA G o0, .int x1, .int x2, .long x3] sh M xs (some (.int r.2)) sh r.1 xs 0 0 := by
  refine ct_of (by decide) (Nat.le_of_ble_eq_true rfl) ?_
  intro p e s m args below meth c hnm C
  refine k_lv [0, 1, 2, 3] (lv2 := [(0, rA G o0), (1, .int x1), (2, .int x2), (3, .long x3)]) rfl ?_
  unfold f_X8_set at h
  refine k_aload_n C (pc2 := 1) (dkAt dkX8_set 0 (q := (0, .aload_n 0, 1)) rfl) rfl rfl 0 rfl ?_
  refine k_iload_n C (pc2 := 2) (dkAt dkX8_set 1 (q := (1, .iload_n 1, 1)) rfl) rfl rfl 1 rfl ?_
  obtain ⟨q1, e2, h⟩ := ob_inv h
  refine kc_V C (As := [.int x1]) (st2 := [.int q1.2]) (ct_X8_noRow l G sh xs o0 h0 x1 M q1 e2) (cl_X8_101 (hts_of C) ⟨Nat.le_of_ble_eq_true rfl, Nat.le_of_ble_eq_true rfl⟩ rfl rfl) h0.1 rfl rfl rfl rfl rfl (Nat.le_of_ble_eq_true rfl) (dkAt dkX8_set 2 (q := (2, .invokevirtual 101, 3)) rfl) ⟨Nat.zero_le _, Nat.zero_le _⟩ (pc2 := 5) rfl rfl ?_
  refine kb_istore C (pc2 := 7) (dkAt dkX8_set 3 (q := (5, .istore 5, 2)) rfl) rfl (by decide) (lv2 := fun v3 => [(5, .int v3), (0, rA G o0), (1, .int x1), (2, .int x2), (3, .long x3)]) (fun _ => rfl) h (fun v3 h => ?_)
  refine k_iload C (pc2 := 9) (dkAt dkX8_set 4 (q := (7, .iload 5, 2)) rfl) rfl 0 rfl ?_
  refine k_if_eq C (tgt := 15) (pc2 := 12) (dkAt dkX8_set 5 (q := (9, .ifCond .eq 6, 3)) rfl) (by decide) rfl h (fun h => ?_) (fun h => ?_)
  · refine k_iload_n C (pc2 := 16) (dkAt dkX8_set 8 (q := (15, .iload_n 2, 1)) rfl) rfl rfl 3 rfl ?_
    refine k_i2l C (pc2 := 17) (dkAt dkX8_set 9 (q := (16, .i2l, 1)) rfl) rfl ?_
    refine k_lconst C (pc2 := 18) (dkAt dkX8_set 10 (q := (17, .lconst 0, 1)) rfl) rfl (v := 0) rfl ?_
    refine k_aload_n C (pc2 := 19) (dkAt dkX8_set 11 (q := (18, .aload_n 0, 1)) rfl) rfl rfl 1 rfl ?_
    refine kf_X8_16 C (pc2 := 22) (o := o0) (o2 := o0 + 3) h0.1 rfl (dkAt dkX8_set 12 (q := (19, .getfield 16, 3)) rfl) rfl ?_
    refine k_iload_n C (pc2 := 23) (dkAt dkX8_set 13 (q := (22, .iload_n 1, 1)) rfl) rfl rfl 2 rfl ?_
    refine k_iald C (pc2 := 24) (o := o0 + 3) (nA := 8) (isM_rowSize h0) (dkAt dkX8_set 14 (q := (23, .iaload, 1)) rfl) rfl h (fun h => ?_)
    refine k_iconst C (pc2 := 25) (dkAt dkX8_set 15 (q := (24, .iconst 1, 1)) rfl) rfl (v := 1) rfl ?_
    refine k_isub C (pc2 := 26) (dkAt dkX8_set 16 (q := (25, .isub, 1)) rfl) rfl ?_
    refine k_i2l C (pc2 := 27) (dkAt dkX8_set 17 (q := (26, .i2l, 1)) rfl) rfl ?_
    obtain ⟨q4, e5, h⟩ := ob_inv h
    refine kc_S C (As := [.long x2.toInt64, .long 0, .long (((q1.1.1 (o0 + 3) x1.toNatClampNeg) - 1).toInt64)]) (st2 := [.int q4]) (ct_X8_in l G sh xs x2.toInt64 0 (((q1.1.1 (o0 + 3) x1.toNatClampNeg) - 1).toInt64) q1.1 q4 e5) (cl_X8_85 (hts_of C) ⟨Nat.le_of_ble_eq_true rfl, Nat.le_of_ble_eq_true rfl⟩ rfl rfl) rfl rfl (Nat.le_of_ble_eq_true rfl) (dkAt dkX8_set 18 (q := (27, .invokestatic 85, 3)) rfl) ⟨Nat.zero_le _, Nat.zero_le _⟩ (pc2 := 30) rfl rfl ?_
    refine k_if_ne C (tgt := 40) (pc2 := 33) (dkAt dkX8_set 19 (q := (30, .ifCond .ne 10, 3)) rfl) (by decide) rfl h (fun h => ?_) (fun h => ?_)
    · refine k_aload_n C (pc2 := 41) (dkAt dkX8_set 24 (q := (40, .aload_n 0, 1)) rfl) rfl rfl 1 rfl ?_
      refine kf_X8_21 C (pc2 := 44) (o := o0) (o2 := o0 + 4) h0.1 rfl (dkAt dkX8_set 25 (q := (41, .getfield 21, 3)) rfl) rfl ?_
      refine k_iload_n C (pc2 := 45) (dkAt dkX8_set 26 (q := (44, .iload_n 1, 1)) rfl) rfl rfl 2 rfl ?_
      refine k_aa14 C (pc2 := 46) (o := o0 + 4) (o2 := o0 + 5 + x1.toNatClampNeg) (nA := 8) (isM_rows h0) rfl (dkAt dkX8_set 27 (q := (45, .aaload, 1)) rfl) rfl h (fun h hl6 => ?_)
      refine k_iload_n C (pc2 := 47) (dkAt dkX8_set 28 (q := (46, .iload_n 2, 1)) rfl) rfl rfl 3 rfl ?_
      refine k_aload_n C (pc2 := 48) (dkAt dkX8_set 29 (q := (47, .aload_n 0, 1)) rfl) rfl rfl 1 rfl ?_
      refine kf_X8_13 C (pc2 := 51) (o := o0) (o2 := o0 + 2) h0.1 rfl (dkAt dkX8_set 30 (q := (48, .getfield 13, 3)) rfl) rfl ?_
      refine k_iload_n C (pc2 := 52) (dkAt dkX8_set 31 (q := (51, .iload_n 1, 1)) rfl) rfl rfl 2 rfl ?_
      refine k_iald C (pc2 := 53) (o := o0 + 2) (nA := 8) (isM_rowSort h0) (dkAt dkX8_set 32 (q := (52, .iaload, 1)) rfl) rfl h (fun h => ?_)
      refine k_lload_n C (pc2 := 54) (dkAt dkX8_set 33 (q := (53, .lload_n 3, 1)) rfl) rfl rfl 4 rfl ?_
      obtain ⟨q7, e8, h⟩ := ob_inv h
      refine kc_S C (As := [.int (q1.1.1 (o0 + 2) x1.toNatClampNeg), .long x3]) (st2 := [.long q7, .int x2, rA G (o0 + 5 + x1.toNatClampNeg)]) (ct_X8_fit l G sh xs (q1.1.1 (o0 + 2) x1.toNatClampNeg) x3 q1.1 q7 e8) (cl_X8_104 (hts_of C) ⟨Nat.le_of_ble_eq_true rfl, Nat.le_of_ble_eq_true rfl⟩ rfl rfl) rfl rfl (Nat.le_of_ble_eq_true rfl) (dkAt dkX8_set 34 (q := (54, .invokestatic 104, 3)) rfl) ⟨Nat.zero_le _, Nat.zero_le _⟩ (pc2 := 57) rfl rfl ?_
      refine k_last C (pc2 := 58) (o := o0 + 5 + x1.toNatClampNeg) (nA := 40) (isM_rowsI h0 _ hl6) (dkAt dkX8_set 35 (q := (57, .lastore, 1)) rfl) rfl h (fun M9 h => ?_)
      refine k_iconst C (pc2 := 59) (dkAt dkX8_set 36 (q := (58, .iconst 1, 1)) rfl) rfl (v := 1) rfl ?_
      exact k_iret C (dkAt dkX8_set 37 (q := (59, .ireturn, 1)) rfl) (pe2 (Option.some.inj h)) rfl (pe1 (Option.some.inj h)) rfl
    · refine k_aload_n C (pc2 := 34) (dkAt dkX8_set 20 (q := (33, .aload_n 0, 1)) rfl) rfl rfl 1 rfl ?_
      refine k_bipush C (pc2 := 36) (dkAt dkX8_set 21 (q := (34, .bipush (-2), 2)) rfl) rfl (v := (-2)) rfl ?_
      obtain ⟨q10, e11, h⟩ := ob_inv h
      refine kc_V C (As := [.int (-2)]) (st2 := [.int q10.2]) (ct_X8_refuse l G sh xs o0 h0 (-2) q1.1 q10 e11) (cl_X8_97 (hts_of C) ⟨Nat.le_of_ble_eq_true rfl, Nat.le_of_ble_eq_true rfl⟩ rfl rfl) h0.1 rfl rfl rfl rfl rfl (Nat.le_of_ble_eq_true rfl) (dkAt dkX8_set 22 (q := (36, .invokevirtual 97, 3)) rfl) ⟨Nat.zero_le _, Nat.zero_le _⟩ (pc2 := 39) rfl rfl ?_
      exact k_iret C (dkAt dkX8_set 23 (q := (39, .ireturn, 1)) rfl) (pe2 (Option.some.inj h)) rfl (pe1 (Option.some.inj h)) rfl
  · refine k_iload C (pc2 := 14) (dkAt dkX8_set 6 (q := (12, .iload 5, 2)) rfl) rfl 0 rfl ?_
    exact k_iret C (dkAt dkX8_set 7 (q := (14, .ireturn, 1)) rfl) (pe2 (Option.some.inj h)) rfl (pe1 (Option.some.inj h)) rfl
set_option maxRecDepth 100000 in
set_option maxHeartbeats 4000000 in
theorem kl_X8_copy_L191 {p : Program} {l : Launch} {e : Env} {s : State} {m : MethodId} {args : Array Value} {below : List Frame} {meth : Method} {c : Code} {G : GG} {sh : Sh} {xs : List va_E} {Q : State → Prop} (C : Cx p s m c args meth G RX8 cX8_copy 7 (some .int)) (o0 : Nat) (h0 : isM sh o0) (x1 : Int32) (x2 : Int32) (x3 : Int32) (x4 : Int32) (x5 : Int32) (M2 : Mm) (hcont : KW p l e rm_X8_copy s m args below meth c G 7 Q sh xs 0 0 M2 222 [(0, rA G o0), (2, .int x2), (4, .int x4), (5, .int x5)] []) : ∀ (n : Nat) (x6 : Int32) (M : Mm), f_X8_copy_L191 o0 x1 x2 x3 x4 x5 n x6 M = some M2 → KW p l e rm_X8_copy s m args below meth c G 7 Q sh xs 0 0 M 191 [(0, rA G o0), (1, .int x1), (2, .int x2), (3, .int x3), (4, .int x4), (5, .int x5), (6, .int x6)] [] := by
  intro n
  induction n with
  | zero =>
    intro x6 M h
    cases h
  | succ n ih =>
    intro x6 M h
    unfold f_X8_copy_L191 at h
    refine k_iload C (pc2 := 193) (dkAt dkX8_copy 107 (q := (191, .iload 6, 2)) rfl) rfl 6 rfl ?_
    refine k_iload C (pc2 := 195) (dkAt dkX8_copy 108 (q := (193, .iload 5, 2)) rfl) rfl 5 rfl ?_
    refine k_icmp_ge C (tgt := 222) (pc2 := 198) (dkAt dkX8_copy 109 (q := (195, .if_icmp .ge 27, 3)) rfl) (by decide) rfl h (fun h => ?_) (fun h => ?_)
    · refine k_lv [0, 2, 4, 5] (lv2 := [(0, rA G o0), (2, .int x2), (4, .int x4), (5, .int x5)]) rfl ?_
      cases h
      exact hcont
    · refine k_aload_n C (pc2 := 199) (dkAt dkX8_copy 110 (q := (198, .aload_n 0, 1)) rfl) rfl rfl 0 rfl ?_
      refine kf_X8_24 C (pc2 := 202) (o := o0) (o2 := o0 + 13) h0.1 rfl (dkAt dkX8_copy 111 (q := (199, .getfield 24, 3)) rfl) rfl ?_
      refine k_iload C (pc2 := 204) (dkAt dkX8_copy 112 (q := (202, .iload 6, 2)) rfl) rfl 6 rfl ?_
      refine k_aload_n C (pc2 := 205) (dkAt dkX8_copy 113 (q := (204, .aload_n 0, 1)) rfl) rfl rfl 0 rfl ?_
      refine kf_X8_21 C (pc2 := 208) (o := o0) (o2 := o0 + 4) h0.1 rfl (dkAt dkX8_copy 114 (q := (205, .getfield 21, 3)) rfl) rfl ?_
      refine k_iload_n C (pc2 := 209) (dkAt dkX8_copy 115 (q := (208, .iload_n 1, 1)) rfl) rfl rfl 1 rfl ?_
      refine k_aa14 C (pc2 := 210) (o := o0 + 4) (o2 := o0 + 5 + x1.toNatClampNeg) (nA := 8) (isM_rows h0) rfl (dkAt dkX8_copy 116 (q := (209, .aaload, 1)) rfl) rfl h (fun h hl25 => ?_)
      refine k_iload_n C (pc2 := 211) (dkAt dkX8_copy 117 (q := (210, .iload_n 3, 1)) rfl) rfl rfl 3 rfl ?_
      refine k_iload C (pc2 := 213) (dkAt dkX8_copy 118 (q := (211, .iload 6, 2)) rfl) rfl 6 rfl ?_
      refine k_iadd C (pc2 := 214) (dkAt dkX8_copy 119 (q := (213, .iadd, 1)) rfl) rfl ?_
      refine k_lald C (pc2 := 215) (o := o0 + 5 + x1.toNatClampNeg) (nA := 40) (isM_rowsI h0 _ hl25) (dkAt dkX8_copy 120 (q := (214, .laload, 1)) rfl) rfl h (fun h => ?_)
      refine k_last C (pc2 := 216) (o := o0 + 13) (nA := 40) (isM_moved h0) (dkAt dkX8_copy 121 (q := (215, .lastore, 1)) rfl) rfl h (fun M26 h => ?_)
      refine kb_iinc C (pc2 := 219) (dkAt dkX8_copy 122 (q := (216, .iinc 6 1, 3)) rfl) rfl (j := 6) rfl (v := x6 + 1) rfl (by decide) (lv2 := fun v27 => [(6, .int v27), (0, rA G o0), (1, .int x1), (2, .int x2), (3, .int x3), (4, .int x4), (5, .int x5)]) (fun _ => rfl) h (fun v27 h => ?_)
      refine k_goto C (tgt := 191) (dkAt dkX8_copy 123 (q := (219, .goto (-28), 3)) rfl) (by decide) ?_
      refine k_lv [1, 2, 3, 4, 5, 6, 0] (lv2 := [(0, rA G o0), (1, .int x1), (2, .int x2), (3, .int x3), (4, .int x4), (5, .int x5), (6, .int v27)]) rfl ?_
      exact ih v27 M26 h
set_option maxRecDepth 100000 in
set_option maxHeartbeats 4000000 in
theorem kl_X8_copy_L225 {p : Program} {l : Launch} {e : Env} {s : State} {m : MethodId} {args : Array Value} {below : List Frame} {meth : Method} {c : Code} {G : GG} {sh : Sh} {xs : List va_E} {Q : State → Prop} (C : Cx p s m c args meth G RX8 cX8_copy 7 (some .int)) (o0 : Nat) (h0 : isM sh o0) (x2 : Int32) (x4 : Int32) (x5 : Int32) (M2 : Mm) (hcont : KW p l e rm_X8_copy s m args below meth c G 7 Q sh xs 0 0 M2 257 [(5, .int x5)] []) : ∀ (n : Nat) (x6 : Int32) (M : Mm), f_X8_copy_L225 o0 x2 x4 x5 n x6 M = some M2 → KW p l e rm_X8_copy s m args below meth c G 7 Q sh xs 0 0 M 225 [(0, rA G o0), (2, .int x2), (4, .int x4), (5, .int x5), (6, .int x6)] [] := by
  intro n
  induction n with
  | zero =>
    intro x6 M h
    cases h
  | succ n ih =>
    intro x6 M h
    unfold f_X8_copy_L225 at h
    refine k_iload C (pc2 := 227) (dkAt dkX8_copy 126 (q := (225, .iload 6, 2)) rfl) rfl 4 rfl ?_
    refine k_iload C (pc2 := 229) (dkAt dkX8_copy 127 (q := (227, .iload 5, 2)) rfl) rfl 3 rfl ?_
    refine k_icmp_ge C (tgt := 257) (pc2 := 232) (dkAt dkX8_copy 128 (q := (229, .if_icmp .ge 28, 3)) rfl) (by decide) rfl h (fun h => ?_) (fun h => ?_)
    · refine k_lv [3] (lv2 := [(5, .int x5)]) rfl ?_
      cases h
      exact hcont
    · refine k_aload_n C (pc2 := 233) (dkAt dkX8_copy 129 (q := (232, .aload_n 0, 1)) rfl) rfl rfl 0 rfl ?_
      refine kf_X8_21 C (pc2 := 236) (o := o0) (o2 := o0 + 4) h0.1 rfl (dkAt dkX8_copy 130 (q := (233, .getfield 21, 3)) rfl) rfl ?_
      refine k_iload_n C (pc2 := 237) (dkAt dkX8_copy 131 (q := (236, .iload_n 2, 1)) rfl) rfl rfl 1 rfl ?_
      refine k_aa14 C (pc2 := 238) (o := o0 + 4) (o2 := o0 + 5 + x2.toNatClampNeg) (nA := 8) (isM_rows h0) rfl (dkAt dkX8_copy 132 (q := (237, .aaload, 1)) rfl) rfl h (fun h hl31 => ?_)
      refine k_iload C (pc2 := 240) (dkAt dkX8_copy 133 (q := (238, .iload 4, 2)) rfl) rfl 2 rfl ?_
      refine k_iload C (pc2 := 242) (dkAt dkX8_copy 134 (q := (240, .iload 6, 2)) rfl) rfl 4 rfl ?_
      refine k_iadd C (pc2 := 243) (dkAt dkX8_copy 135 (q := (242, .iadd, 1)) rfl) rfl ?_
      refine k_aload_n C (pc2 := 244) (dkAt dkX8_copy 136 (q := (243, .aload_n 0, 1)) rfl) rfl rfl 0 rfl ?_
      refine kf_X8_24 C (pc2 := 247) (o := o0) (o2 := o0 + 13) h0.1 rfl (dkAt dkX8_copy 137 (q := (244, .getfield 24, 3)) rfl) rfl ?_
      refine k_iload C (pc2 := 249) (dkAt dkX8_copy 138 (q := (247, .iload 6, 2)) rfl) rfl 4 rfl ?_
      refine k_lald C (pc2 := 250) (o := o0 + 13) (nA := 40) (isM_moved h0) (dkAt dkX8_copy 139 (q := (249, .laload, 1)) rfl) rfl h (fun h => ?_)
      refine k_last C (pc2 := 251) (o := o0 + 5 + x2.toNatClampNeg) (nA := 40) (isM_rowsI h0 _ hl31) (dkAt dkX8_copy 140 (q := (250, .lastore, 1)) rfl) rfl h (fun M32 h => ?_)
      refine kb_iinc C (pc2 := 254) (dkAt dkX8_copy 141 (q := (251, .iinc 6 1, 3)) rfl) rfl (j := 4) rfl (v := x6 + 1) rfl (by decide) (lv2 := fun v33 => [(6, .int v33), (0, rA G o0), (2, .int x2), (4, .int x4), (5, .int x5)]) (fun _ => rfl) h (fun v33 h => ?_)
      refine k_goto C (tgt := 225) (dkAt dkX8_copy 142 (q := (254, .goto (-29), 3)) rfl) (by decide) ?_
      refine k_lv [1, 2, 3, 4, 0] (lv2 := [(0, rA G o0), (2, .int x2), (4, .int x4), (5, .int x5), (6, .int v33)]) rfl ?_
      exact ih v33 M32 h
set_option maxRecDepth 100000 in
set_option maxHeartbeats 4000000 in
theorem ct_X8_copy (l : Launch) (G : GG) (sh : Sh) (xs : List va_E) (o0 : Nat) (h0 : isM sh o0) (x1 : Int32) (x2 : Int32) (x3 : Int32) (x4 : Int32) (x5 : Int32) (M : Mm) (r : Mm × Int32) (h : f_X8_copy o0 x1 x2 x3 x4 x5 M = some r) : Ct l yX8_copy cX8_copy 7 (some .int) rm_X8_copy G [rA G o0, .int x1, .int x2, .int x3, .int x4, .int x5] sh M xs (some (.int r.2)) sh r.1 xs 0 0 := by
  refine ct_of (by decide) (Nat.le_of_ble_eq_true rfl) ?_
  intro p e s m args below meth c hnm C
  refine k_lv [0, 1, 2, 3, 4, 5] (lv2 := [(0, rA G o0), (1, .int x1), (2, .int x2), (3, .int x3), (4, .int x4), (5, .int x5)]) rfl ?_
  unfold f_X8_copy at h
  refine k_iload_n C (pc2 := 1) (dkAt dkX8_copy 0 (q := (0, .iload_n 1, 1)) rfl) rfl rfl 1 rfl ?_
  refine k_i2l C (pc2 := 2) (dkAt dkX8_copy 1 (q := (1, .i2l, 1)) rfl) rfl ?_
  refine k_lconst C (pc2 := 3) (dkAt dkX8_copy 2 (q := (2, .lconst 0, 1)) rfl) rfl (v := 0) rfl ?_
  refine k_ldc2 C (pc2 := 6) (dkAt dkX8_copy 3 (q := (3, .ldc2_w 91, 3)) rfl) rfl (v := 7) tL_X8_91 ?_
  obtain ⟨q1, e2, h⟩ := ob_inv h
  refine kc_S C (As := [.long x1.toInt64, .long 0, .long 7]) (st2 := [.int q1]) (ct_X8_in l G sh xs x1.toInt64 0 7 M q1 e2) (cl_X8_85 (hts_of C) ⟨Nat.le_of_ble_eq_true rfl, Nat.le_of_ble_eq_true rfl⟩ rfl rfl) rfl rfl (Nat.le_of_ble_eq_true rfl) (dkAt dkX8_copy 4 (q := (6, .invokestatic 85, 3)) rfl) ⟨Nat.zero_le _, Nat.zero_le _⟩ (pc2 := 9) rfl rfl ?_
  refine k_if_eq C (tgt := 24) (pc2 := 12) (dkAt dkX8_copy 5 (q := (9, .ifCond .eq 15, 3)) rfl) (by decide) rfl h (fun h => ?_) (fun h => ?_)
  · refine k_aload_n C (pc2 := 25) (dkAt dkX8_copy 12 (q := (24, .aload_n 0, 1)) rfl) rfl rfl 0 rfl ?_
    refine k_bipush C (pc2 := 27) (dkAt dkX8_copy 13 (q := (25, .bipush (-2), 2)) rfl) rfl (v := (-2)) rfl ?_
    obtain ⟨q3, e4, h⟩ := ob_inv h
    refine kc_V C (As := [.int (-2)]) (st2 := [.int q3.2]) (ct_X8_refuse l G sh xs o0 h0 (-2) M q3 e4) (cl_X8_97 (hts_of C) ⟨Nat.le_of_ble_eq_true rfl, Nat.le_of_ble_eq_true rfl⟩ rfl rfl) h0.1 rfl rfl rfl rfl rfl (Nat.le_of_ble_eq_true rfl) (dkAt dkX8_copy 14 (q := (27, .invokevirtual 97, 3)) rfl) ⟨Nat.zero_le _, Nat.zero_le _⟩ (pc2 := 30) rfl rfl ?_
    exact k_iret C (dkAt dkX8_copy 15 (q := (30, .ireturn, 1)) rfl) (pe2 (Option.some.inj h)) rfl (pe1 (Option.some.inj h)) rfl
  · refine k_iload_n C (pc2 := 13) (dkAt dkX8_copy 6 (q := (12, .iload_n 2, 1)) rfl) rfl rfl 2 rfl ?_
    refine k_i2l C (pc2 := 14) (dkAt dkX8_copy 7 (q := (13, .i2l, 1)) rfl) rfl ?_
    refine k_lconst C (pc2 := 15) (dkAt dkX8_copy 8 (q := (14, .lconst 0, 1)) rfl) rfl (v := 0) rfl ?_
    refine k_ldc2 C (pc2 := 18) (dkAt dkX8_copy 9 (q := (15, .ldc2_w 91, 3)) rfl) rfl (v := 7) tL_X8_91 ?_
    obtain ⟨q5, e6, h⟩ := ob_inv h
    refine kc_S C (As := [.long x2.toInt64, .long 0, .long 7]) (st2 := [.int q5]) (ct_X8_in l G sh xs x2.toInt64 0 7 M q5 e6) (cl_X8_85 (hts_of C) ⟨Nat.le_of_ble_eq_true rfl, Nat.le_of_ble_eq_true rfl⟩ rfl rfl) rfl rfl (Nat.le_of_ble_eq_true rfl) (dkAt dkX8_copy 10 (q := (18, .invokestatic 85, 3)) rfl) ⟨Nat.zero_le _, Nat.zero_le _⟩ (pc2 := 21) rfl rfl ?_
    refine k_if_ne C (tgt := 31) (pc2 := 24) (dkAt dkX8_copy 11 (q := (21, .ifCond .ne 10, 3)) rfl) (by decide) rfl h (fun h => ?_) (fun h => ?_)
    · refine k_aload_n C (pc2 := 32) (dkAt dkX8_copy 16 (q := (31, .aload_n 0, 1)) rfl) rfl rfl 0 rfl ?_
      refine kf_X8_7 C (pc2 := 35) (o := o0) (o2 := o0 + 1) h0.1 rfl (dkAt dkX8_copy 17 (q := (32, .getfield 7, 3)) rfl) rfl ?_
      refine k_iload_n C (pc2 := 36) (dkAt dkX8_copy 18 (q := (35, .iload_n 1, 1)) rfl) rfl rfl 1 rfl ?_
      refine k_iald C (pc2 := 37) (o := o0 + 1) (nA := 8) (isM_shelf h0) (dkAt dkX8_copy 19 (q := (36, .iaload, 1)) rfl) rfl h (fun h => ?_)
      refine k_iconst C (pc2 := 38) (dkAt dkX8_copy 20 (q := (37, .iconst 2, 1)) rfl) rfl (v := 2) rfl ?_
      refine k_icmp_eq C (tgt := 86) (pc2 := 41) (dkAt dkX8_copy 21 (q := (38, .if_icmp .eq 48, 3)) rfl) (by decide) rfl h (fun h => ?_) (fun h => ?_)
      · refine k_aload_n C (pc2 := 87) (dkAt dkX8_copy 49 (q := (86, .aload_n 0, 1)) rfl) rfl rfl 0 rfl ?_
        refine k_bipush C (pc2 := 89) (dkAt dkX8_copy 50 (q := (87, .bipush (-3), 2)) rfl) rfl (v := (-3)) rfl ?_
        obtain ⟨q7, e8, h⟩ := ob_inv h
        refine kc_V C (As := [.int (-3)]) (st2 := [.int q7.2]) (ct_X8_refuse l G sh xs o0 h0 (-3) M q7 e8) (cl_X8_97 (hts_of C) ⟨Nat.le_of_ble_eq_true rfl, Nat.le_of_ble_eq_true rfl⟩ rfl rfl) h0.1 rfl rfl rfl rfl rfl (Nat.le_of_ble_eq_true rfl) (dkAt dkX8_copy 51 (q := (89, .invokevirtual 97, 3)) rfl) ⟨Nat.zero_le _, Nat.zero_le _⟩ (pc2 := 92) rfl rfl ?_
        exact k_iret C (dkAt dkX8_copy 52 (q := (92, .ireturn, 1)) rfl) (pe2 (Option.some.inj h)) rfl (pe1 (Option.some.inj h)) rfl
      · refine k_aload_n C (pc2 := 42) (dkAt dkX8_copy 22 (q := (41, .aload_n 0, 1)) rfl) rfl rfl 0 rfl ?_
        refine kf_X8_7 C (pc2 := 45) (o := o0) (o2 := o0 + 1) h0.1 rfl (dkAt dkX8_copy 23 (q := (42, .getfield 7, 3)) rfl) rfl ?_
        refine k_iload_n C (pc2 := 46) (dkAt dkX8_copy 24 (q := (45, .iload_n 2, 1)) rfl) rfl rfl 2 rfl ?_
        refine k_iald C (pc2 := 47) (o := o0 + 1) (nA := 8) (isM_shelf h0) (dkAt dkX8_copy 25 (q := (46, .iaload, 1)) rfl) rfl h (fun h => ?_)
        refine k_iconst C (pc2 := 48) (dkAt dkX8_copy 26 (q := (47, .iconst 2, 1)) rfl) rfl (v := 2) rfl ?_
        refine k_icmp_eq C (tgt := 86) (pc2 := 51) (dkAt dkX8_copy 27 (q := (48, .if_icmp .eq 38, 3)) rfl) (by decide) rfl h (fun h => ?_) (fun h => ?_)
        · refine k_aload_n C (pc2 := 87) (dkAt dkX8_copy 49 (q := (86, .aload_n 0, 1)) rfl) rfl rfl 0 rfl ?_
          refine k_bipush C (pc2 := 89) (dkAt dkX8_copy 50 (q := (87, .bipush (-3), 2)) rfl) rfl (v := (-3)) rfl ?_
          obtain ⟨q9, e10, h⟩ := ob_inv h
          refine kc_V C (As := [.int (-3)]) (st2 := [.int q9.2]) (ct_X8_refuse l G sh xs o0 h0 (-3) M q9 e10) (cl_X8_97 (hts_of C) ⟨Nat.le_of_ble_eq_true rfl, Nat.le_of_ble_eq_true rfl⟩ rfl rfl) h0.1 rfl rfl rfl rfl rfl (Nat.le_of_ble_eq_true rfl) (dkAt dkX8_copy 51 (q := (89, .invokevirtual 97, 3)) rfl) ⟨Nat.zero_le _, Nat.zero_le _⟩ (pc2 := 92) rfl rfl ?_
          exact k_iret C (dkAt dkX8_copy 52 (q := (92, .ireturn, 1)) rfl) (pe2 (Option.some.inj h)) rfl (pe1 (Option.some.inj h)) rfl
        · refine k_aload_n C (pc2 := 52) (dkAt dkX8_copy 28 (q := (51, .aload_n 0, 1)) rfl) rfl rfl 0 rfl ?_
          refine kf_X8_7 C (pc2 := 55) (o := o0) (o2 := o0 + 1) h0.1 rfl (dkAt dkX8_copy 29 (q := (52, .getfield 7, 3)) rfl) rfl ?_
          refine k_iload_n C (pc2 := 56) (dkAt dkX8_copy 30 (q := (55, .iload_n 1, 1)) rfl) rfl rfl 1 rfl ?_
          refine k_iald C (pc2 := 57) (o := o0 + 1) (nA := 8) (isM_shelf h0) (dkAt dkX8_copy 31 (q := (56, .iaload, 1)) rfl) rfl h (fun h => ?_)
          refine k_iconst C (pc2 := 58) (dkAt dkX8_copy 32 (q := (57, .iconst 1, 1)) rfl) rfl (v := 1) rfl ?_
          refine k_icmp_ne C (tgt := 93) (pc2 := 61) (dkAt dkX8_copy 33 (q := (58, .if_icmp .ne 35, 3)) rfl) (by decide) rfl h (fun h => ?_) (fun h => ?_)
          · refine k_aload_n C (pc2 := 94) (dkAt dkX8_copy 53 (q := (93, .aload_n 0, 1)) rfl) rfl rfl 0 rfl ?_
            refine kf_X8_7 C (pc2 := 97) (o := o0) (o2 := o0 + 1) h0.1 rfl (dkAt dkX8_copy 54 (q := (94, .getfield 7, 3)) rfl) rfl ?_
            refine k_iload_n C (pc2 := 98) (dkAt dkX8_copy 55 (q := (97, .iload_n 1, 1)) rfl) rfl rfl 1 rfl ?_
            refine k_iald C (pc2 := 99) (o := o0 + 1) (nA := 8) (isM_shelf h0) (dkAt dkX8_copy 56 (q := (98, .iaload, 1)) rfl) rfl h (fun h => ?_)
            refine k_if_eq C (tgt := 111) (pc2 := 102) (dkAt dkX8_copy 57 (q := (99, .ifCond .eq 12, 3)) rfl) (by decide) rfl h (fun h => ?_) (fun h => ?_)
            · refine k_aload_n C (pc2 := 112) (dkAt dkX8_copy 63 (q := (111, .aload_n 0, 1)) rfl) rfl rfl 0 rfl ?_
              refine k_bipush C (pc2 := 114) (dkAt dkX8_copy 64 (q := (112, .bipush (-4), 2)) rfl) rfl (v := (-4)) rfl ?_
              obtain ⟨q11, e12, h⟩ := ob_inv h
              refine kc_V C (As := [.int (-4)]) (st2 := [.int q11.2]) (ct_X8_refuse l G sh xs o0 h0 (-4) M q11 e12) (cl_X8_97 (hts_of C) ⟨Nat.le_of_ble_eq_true rfl, Nat.le_of_ble_eq_true rfl⟩ rfl rfl) h0.1 rfl rfl rfl rfl rfl (Nat.le_of_ble_eq_true rfl) (dkAt dkX8_copy 65 (q := (114, .invokevirtual 97, 3)) rfl) ⟨Nat.zero_le _, Nat.zero_le _⟩ (pc2 := 117) rfl rfl ?_
              exact k_iret C (dkAt dkX8_copy 66 (q := (117, .ireturn, 1)) rfl) (pe2 (Option.some.inj h)) rfl (pe1 (Option.some.inj h)) rfl
            · refine k_aload_n C (pc2 := 103) (dkAt dkX8_copy 58 (q := (102, .aload_n 0, 1)) rfl) rfl rfl 0 rfl ?_
              refine kf_X8_7 C (pc2 := 106) (o := o0) (o2 := o0 + 1) h0.1 rfl (dkAt dkX8_copy 59 (q := (103, .getfield 7, 3)) rfl) rfl ?_
              refine k_iload_n C (pc2 := 107) (dkAt dkX8_copy 60 (q := (106, .iload_n 2, 1)) rfl) rfl rfl 2 rfl ?_
              refine k_iald C (pc2 := 108) (o := o0 + 1) (nA := 8) (isM_shelf h0) (dkAt dkX8_copy 61 (q := (107, .iaload, 1)) rfl) rfl h (fun h => ?_)
              refine k_if_ne C (tgt := 118) (pc2 := 111) (dkAt dkX8_copy 62 (q := (108, .ifCond .ne 10, 3)) rfl) (by decide) rfl h (fun h => ?_) (fun h => ?_)
              · refine k_iload C (pc2 := 120) (dkAt dkX8_copy 67 (q := (118, .iload 5, 2)) rfl) rfl 5 rfl ?_
                refine k_if_lt C (tgt := 181) (pc2 := 123) (dkAt dkX8_copy 68 (q := (120, .ifCond .lt 61, 3)) rfl) (by decide) rfl h (fun h => ?_) (fun h => ?_)
                · refine k_aload_n C (pc2 := 182) (dkAt dkX8_copy 101 (q := (181, .aload_n 0, 1)) rfl) rfl rfl 0 rfl ?_
                  refine k_bipush C (pc2 := 184) (dkAt dkX8_copy 102 (q := (182, .bipush (-2), 2)) rfl) rfl (v := (-2)) rfl ?_
                  obtain ⟨q13, e14, h⟩ := ob_inv h
                  refine kc_V C (As := [.int (-2)]) (st2 := [.int q13.2]) (ct_X8_refuse l G sh xs o0 h0 (-2) M q13 e14) (cl_X8_97 (hts_of C) ⟨Nat.le_of_ble_eq_true rfl, Nat.le_of_ble_eq_true rfl⟩ rfl rfl) h0.1 rfl rfl rfl rfl rfl (Nat.le_of_ble_eq_true rfl) (dkAt dkX8_copy 103 (q := (184, .invokevirtual 97, 3)) rfl) ⟨Nat.zero_le _, Nat.zero_le _⟩ (pc2 := 187) rfl rfl ?_
                  exact k_iret C (dkAt dkX8_copy 104 (q := (187, .ireturn, 1)) rfl) (pe2 (Option.some.inj h)) rfl (pe1 (Option.some.inj h)) rfl
                · refine k_iload_n C (pc2 := 124) (dkAt dkX8_copy 69 (q := (123, .iload_n 3, 1)) rfl) rfl rfl 3 rfl ?_
                  refine k_if_lt C (tgt := 181) (pc2 := 127) (dkAt dkX8_copy 70 (q := (124, .ifCond .lt 57, 3)) rfl) (by decide) rfl h (fun h => ?_) (fun h => ?_)
                  · refine k_aload_n C (pc2 := 182) (dkAt dkX8_copy 101 (q := (181, .aload_n 0, 1)) rfl) rfl rfl 0 rfl ?_
                    refine k_bipush C (pc2 := 184) (dkAt dkX8_copy 102 (q := (182, .bipush (-2), 2)) rfl) rfl (v := (-2)) rfl ?_
                    obtain ⟨q15, e16, h⟩ := ob_inv h
                    refine kc_V C (As := [.int (-2)]) (st2 := [.int q15.2]) (ct_X8_refuse l G sh xs o0 h0 (-2) M q15 e16) (cl_X8_97 (hts_of C) ⟨Nat.le_of_ble_eq_true rfl, Nat.le_of_ble_eq_true rfl⟩ rfl rfl) h0.1 rfl rfl rfl rfl rfl (Nat.le_of_ble_eq_true rfl) (dkAt dkX8_copy 103 (q := (184, .invokevirtual 97, 3)) rfl) ⟨Nat.zero_le _, Nat.zero_le _⟩ (pc2 := 187) rfl rfl ?_
                    exact k_iret C (dkAt dkX8_copy 104 (q := (187, .ireturn, 1)) rfl) (pe2 (Option.some.inj h)) rfl (pe1 (Option.some.inj h)) rfl
                  · refine k_iload C (pc2 := 129) (dkAt dkX8_copy 71 (q := (127, .iload 4, 2)) rfl) rfl 4 rfl ?_
                    refine k_if_lt C (tgt := 181) (pc2 := 132) (dkAt dkX8_copy 72 (q := (129, .ifCond .lt 52, 3)) rfl) (by decide) rfl h (fun h => ?_) (fun h => ?_)
                    · refine k_aload_n C (pc2 := 182) (dkAt dkX8_copy 101 (q := (181, .aload_n 0, 1)) rfl) rfl rfl 0 rfl ?_
                      refine k_bipush C (pc2 := 184) (dkAt dkX8_copy 102 (q := (182, .bipush (-2), 2)) rfl) rfl (v := (-2)) rfl ?_
                      obtain ⟨q17, e18, h⟩ := ob_inv h
                      refine kc_V C (As := [.int (-2)]) (st2 := [.int q17.2]) (ct_X8_refuse l G sh xs o0 h0 (-2) M q17 e18) (cl_X8_97 (hts_of C) ⟨Nat.le_of_ble_eq_true rfl, Nat.le_of_ble_eq_true rfl⟩ rfl rfl) h0.1 rfl rfl rfl rfl rfl (Nat.le_of_ble_eq_true rfl) (dkAt dkX8_copy 103 (q := (184, .invokevirtual 97, 3)) rfl) ⟨Nat.zero_le _, Nat.zero_le _⟩ (pc2 := 187) rfl rfl ?_
                      exact k_iret C (dkAt dkX8_copy 104 (q := (187, .ireturn, 1)) rfl) (pe2 (Option.some.inj h)) rfl (pe1 (Option.some.inj h)) rfl
                    · refine k_iload C (pc2 := 134) (dkAt dkX8_copy 73 (q := (132, .iload 5, 2)) rfl) rfl 5 rfl ?_
                      refine k_aload_n C (pc2 := 135) (dkAt dkX8_copy 74 (q := (134, .aload_n 0, 1)) rfl) rfl rfl 0 rfl ?_
                      refine kf_X8_16 C (pc2 := 138) (o := o0) (o2 := o0 + 3) h0.1 rfl (dkAt dkX8_copy 75 (q := (135, .getfield 16, 3)) rfl) rfl ?_
                      refine k_iload_n C (pc2 := 139) (dkAt dkX8_copy 76 (q := (138, .iload_n 1, 1)) rfl) rfl rfl 1 rfl ?_
                      refine k_iald C (pc2 := 140) (o := o0 + 3) (nA := 8) (isM_rowSize h0) (dkAt dkX8_copy 77 (q := (139, .iaload, 1)) rfl) rfl h (fun h => ?_)
                      refine k_icmp_gt C (tgt := 181) (pc2 := 143) (dkAt dkX8_copy 78 (q := (140, .if_icmp .gt 41, 3)) rfl) (by decide) rfl h (fun h => ?_) (fun h => ?_)
                      · refine k_aload_n C (pc2 := 182) (dkAt dkX8_copy 101 (q := (181, .aload_n 0, 1)) rfl) rfl rfl 0 rfl ?_
                        refine k_bipush C (pc2 := 184) (dkAt dkX8_copy 102 (q := (182, .bipush (-2), 2)) rfl) rfl (v := (-2)) rfl ?_
                        obtain ⟨q19, e20, h⟩ := ob_inv h
                        refine kc_V C (As := [.int (-2)]) (st2 := [.int q19.2]) (ct_X8_refuse l G sh xs o0 h0 (-2) M q19 e20) (cl_X8_97 (hts_of C) ⟨Nat.le_of_ble_eq_true rfl, Nat.le_of_ble_eq_true rfl⟩ rfl rfl) h0.1 rfl rfl rfl rfl rfl (Nat.le_of_ble_eq_true rfl) (dkAt dkX8_copy 103 (q := (184, .invokevirtual 97, 3)) rfl) ⟨Nat.zero_le _, Nat.zero_le _⟩ (pc2 := 187) rfl rfl ?_
                        exact k_iret C (dkAt dkX8_copy 104 (q := (187, .ireturn, 1)) rfl) (pe2 (Option.some.inj h)) rfl (pe1 (Option.some.inj h)) rfl
                      · refine k_iload C (pc2 := 145) (dkAt dkX8_copy 79 (q := (143, .iload 5, 2)) rfl) rfl 5 rfl ?_
                        refine k_aload_n C (pc2 := 146) (dkAt dkX8_copy 80 (q := (145, .aload_n 0, 1)) rfl) rfl rfl 0 rfl ?_
                        refine kf_X8_16 C (pc2 := 149) (o := o0) (o2 := o0 + 3) h0.1 rfl (dkAt dkX8_copy 81 (q := (146, .getfield 16, 3)) rfl) rfl ?_
                        refine k_iload_n C (pc2 := 150) (dkAt dkX8_copy 82 (q := (149, .iload_n 2, 1)) rfl) rfl rfl 2 rfl ?_
                        refine k_iald C (pc2 := 151) (o := o0 + 3) (nA := 8) (isM_rowSize h0) (dkAt dkX8_copy 83 (q := (150, .iaload, 1)) rfl) rfl h (fun h => ?_)
                        refine k_icmp_gt C (tgt := 181) (pc2 := 154) (dkAt dkX8_copy 84 (q := (151, .if_icmp .gt 30, 3)) rfl) (by decide) rfl h (fun h => ?_) (fun h => ?_)
                        · refine k_aload_n C (pc2 := 182) (dkAt dkX8_copy 101 (q := (181, .aload_n 0, 1)) rfl) rfl rfl 0 rfl ?_
                          refine k_bipush C (pc2 := 184) (dkAt dkX8_copy 102 (q := (182, .bipush (-2), 2)) rfl) rfl (v := (-2)) rfl ?_
                          obtain ⟨q21, e22, h⟩ := ob_inv h
                          refine kc_V C (As := [.int (-2)]) (st2 := [.int q21.2]) (ct_X8_refuse l G sh xs o0 h0 (-2) M q21 e22) (cl_X8_97 (hts_of C) ⟨Nat.le_of_ble_eq_true rfl, Nat.le_of_ble_eq_true rfl⟩ rfl rfl) h0.1 rfl rfl rfl rfl rfl (Nat.le_of_ble_eq_true rfl) (dkAt dkX8_copy 103 (q := (184, .invokevirtual 97, 3)) rfl) ⟨Nat.zero_le _, Nat.zero_le _⟩ (pc2 := 187) rfl rfl ?_
                          exact k_iret C (dkAt dkX8_copy 104 (q := (187, .ireturn, 1)) rfl) (pe2 (Option.some.inj h)) rfl (pe1 (Option.some.inj h)) rfl
                        · refine k_iload_n C (pc2 := 155) (dkAt dkX8_copy 85 (q := (154, .iload_n 3, 1)) rfl) rfl rfl 3 rfl ?_
                          refine k_aload_n C (pc2 := 156) (dkAt dkX8_copy 86 (q := (155, .aload_n 0, 1)) rfl) rfl rfl 0 rfl ?_
                          refine kf_X8_16 C (pc2 := 159) (o := o0) (o2 := o0 + 3) h0.1 rfl (dkAt dkX8_copy 87 (q := (156, .getfield 16, 3)) rfl) rfl ?_
                          refine k_iload_n C (pc2 := 160) (dkAt dkX8_copy 88 (q := (159, .iload_n 1, 1)) rfl) rfl rfl 1 rfl ?_
                          refine k_iald C (pc2 := 161) (o := o0 + 3) (nA := 8) (isM_rowSize h0) (dkAt dkX8_copy 89 (q := (160, .iaload, 1)) rfl) rfl h (fun h => ?_)
                          refine k_iload C (pc2 := 163) (dkAt dkX8_copy 90 (q := (161, .iload 5, 2)) rfl) rfl 5 rfl ?_
                          refine k_isub C (pc2 := 164) (dkAt dkX8_copy 91 (q := (163, .isub, 1)) rfl) rfl ?_
                          refine k_icmp_gt C (tgt := 181) (pc2 := 167) (dkAt dkX8_copy 92 (q := (164, .if_icmp .gt 17, 3)) rfl) (by decide) rfl h (fun h => ?_) (fun h => ?_)
                          · refine k_aload_n C (pc2 := 182) (dkAt dkX8_copy 101 (q := (181, .aload_n 0, 1)) rfl) rfl rfl 0 rfl ?_
                            refine k_bipush C (pc2 := 184) (dkAt dkX8_copy 102 (q := (182, .bipush (-2), 2)) rfl) rfl (v := (-2)) rfl ?_
                            obtain ⟨q23, e24, h⟩ := ob_inv h
                            refine kc_V C (As := [.int (-2)]) (st2 := [.int q23.2]) (ct_X8_refuse l G sh xs o0 h0 (-2) M q23 e24) (cl_X8_97 (hts_of C) ⟨Nat.le_of_ble_eq_true rfl, Nat.le_of_ble_eq_true rfl⟩ rfl rfl) h0.1 rfl rfl rfl rfl rfl (Nat.le_of_ble_eq_true rfl) (dkAt dkX8_copy 103 (q := (184, .invokevirtual 97, 3)) rfl) ⟨Nat.zero_le _, Nat.zero_le _⟩ (pc2 := 187) rfl rfl ?_
                            exact k_iret C (dkAt dkX8_copy 104 (q := (187, .ireturn, 1)) rfl) (pe2 (Option.some.inj h)) rfl (pe1 (Option.some.inj h)) rfl
                          · refine k_iload C (pc2 := 169) (dkAt dkX8_copy 93 (q := (167, .iload 4, 2)) rfl) rfl 4 rfl ?_
                            refine k_aload_n C (pc2 := 170) (dkAt dkX8_copy 94 (q := (169, .aload_n 0, 1)) rfl) rfl rfl 0 rfl ?_
                            refine kf_X8_16 C (pc2 := 173) (o := o0) (o2 := o0 + 3) h0.1 rfl (dkAt dkX8_copy 95 (q := (170, .getfield 16, 3)) rfl) rfl ?_
                            refine k_iload_n C (pc2 := 174) (dkAt dkX8_copy 96 (q := (173, .iload_n 2, 1)) rfl) rfl rfl 2 rfl ?_
                            refine k_iald C (pc2 := 175) (o := o0 + 3) (nA := 8) (isM_rowSize h0) (dkAt dkX8_copy 97 (q := (174, .iaload, 1)) rfl) rfl h (fun h => ?_)
                            refine k_iload C (pc2 := 177) (dkAt dkX8_copy 98 (q := (175, .iload 5, 2)) rfl) rfl 5 rfl ?_
                            refine k_isub C (pc2 := 178) (dkAt dkX8_copy 99 (q := (177, .isub, 1)) rfl) rfl ?_
                            refine k_icmp_le C (tgt := 188) (pc2 := 181) (dkAt dkX8_copy 100 (q := (178, .if_icmp .le 10, 3)) rfl) (by decide) rfl h (fun h => ?_) (fun h => ?_)
                            · refine k_iconst C (pc2 := 189) (dkAt dkX8_copy 105 (q := (188, .iconst 0, 1)) rfl) rfl (v := 0) rfl ?_
                              refine k_istore C (pc2 := 191) (dkAt dkX8_copy 106 (q := (189, .istore 6, 2)) rfl) rfl (by decide) (lv2 := [(6, .int 0), (0, rA G o0), (1, .int x1), (2, .int x2), (3, .int x3), (4, .int x4), (5, .int x5)]) rfl ?_
                              refine k_lv [1, 2, 3, 4, 5, 6, 0] (lv2 := [(0, rA G o0), (1, .int x1), (2, .int x2), (3, .int x3), (4, .int x4), (5, .int x5), (6, .int 0)]) rfl ?_
                              obtain ⟨M30, e29, h⟩ := ob_inv h
                              refine kl_X8_copy_L191 C o0 h0 x1 x2 x3 x4 x5 M30 ?_ 1000 0 M e29
                              refine k_iconst C (pc2 := 223) (dkAt dkX8_copy 124 (q := (222, .iconst 0, 1)) rfl) rfl (v := 0) rfl ?_
                              refine k_istore C (pc2 := 225) (dkAt dkX8_copy 125 (q := (223, .istore 6, 2)) rfl) rfl (by decide) (lv2 := [(6, .int 0), (0, rA G o0), (2, .int x2), (4, .int x4), (5, .int x5)]) rfl ?_
                              refine k_lv [1, 2, 3, 4, 0] (lv2 := [(0, rA G o0), (2, .int x2), (4, .int x4), (5, .int x5), (6, .int 0)]) rfl ?_
                              obtain ⟨M36, e35, h⟩ := ob_inv h
                              refine kl_X8_copy_L225 C o0 h0 x2 x4 x5 M36 ?_ 1000 0 M30 e35
                              refine k_iload C (pc2 := 259) (dkAt dkX8_copy 143 (q := (257, .iload 5, 2)) rfl) rfl 0 rfl ?_
                              exact k_iret C (dkAt dkX8_copy 144 (q := (259, .ireturn, 1)) rfl) (pe2 (Option.some.inj h)) rfl (pe1 (Option.some.inj h)) rfl
                            · refine k_aload_n C (pc2 := 182) (dkAt dkX8_copy 101 (q := (181, .aload_n 0, 1)) rfl) rfl rfl 0 rfl ?_
                              refine k_bipush C (pc2 := 184) (dkAt dkX8_copy 102 (q := (182, .bipush (-2), 2)) rfl) rfl (v := (-2)) rfl ?_
                              obtain ⟨q37, e38, h⟩ := ob_inv h
                              refine kc_V C (As := [.int (-2)]) (st2 := [.int q37.2]) (ct_X8_refuse l G sh xs o0 h0 (-2) M q37 e38) (cl_X8_97 (hts_of C) ⟨Nat.le_of_ble_eq_true rfl, Nat.le_of_ble_eq_true rfl⟩ rfl rfl) h0.1 rfl rfl rfl rfl rfl (Nat.le_of_ble_eq_true rfl) (dkAt dkX8_copy 103 (q := (184, .invokevirtual 97, 3)) rfl) ⟨Nat.zero_le _, Nat.zero_le _⟩ (pc2 := 187) rfl rfl ?_
                              exact k_iret C (dkAt dkX8_copy 104 (q := (187, .ireturn, 1)) rfl) (pe2 (Option.some.inj h)) rfl (pe1 (Option.some.inj h)) rfl
              · refine k_aload_n C (pc2 := 112) (dkAt dkX8_copy 63 (q := (111, .aload_n 0, 1)) rfl) rfl rfl 0 rfl ?_
                refine k_bipush C (pc2 := 114) (dkAt dkX8_copy 64 (q := (112, .bipush (-4), 2)) rfl) rfl (v := (-4)) rfl ?_
                obtain ⟨q39, e40, h⟩ := ob_inv h
                refine kc_V C (As := [.int (-4)]) (st2 := [.int q39.2]) (ct_X8_refuse l G sh xs o0 h0 (-4) M q39 e40) (cl_X8_97 (hts_of C) ⟨Nat.le_of_ble_eq_true rfl, Nat.le_of_ble_eq_true rfl⟩ rfl rfl) h0.1 rfl rfl rfl rfl rfl (Nat.le_of_ble_eq_true rfl) (dkAt dkX8_copy 65 (q := (114, .invokevirtual 97, 3)) rfl) ⟨Nat.zero_le _, Nat.zero_le _⟩ (pc2 := 117) rfl rfl ?_
                exact k_iret C (dkAt dkX8_copy 66 (q := (117, .ireturn, 1)) rfl) (pe2 (Option.some.inj h)) rfl (pe1 (Option.some.inj h)) rfl
          · refine k_aload_n C (pc2 := 62) (dkAt dkX8_copy 34 (q := (61, .aload_n 0, 1)) rfl) rfl rfl 0 rfl ?_
            refine kf_X8_7 C (pc2 := 65) (o := o0) (o2 := o0 + 1) h0.1 rfl (dkAt dkX8_copy 35 (q := (62, .getfield 7, 3)) rfl) rfl ?_
            refine k_iload_n C (pc2 := 66) (dkAt dkX8_copy 36 (q := (65, .iload_n 2, 1)) rfl) rfl rfl 2 rfl ?_
            refine k_iald C (pc2 := 67) (o := o0 + 1) (nA := 8) (isM_shelf h0) (dkAt dkX8_copy 37 (q := (66, .iaload, 1)) rfl) rfl h (fun h => ?_)
            refine k_iconst C (pc2 := 68) (dkAt dkX8_copy 38 (q := (67, .iconst 1, 1)) rfl) rfl (v := 1) rfl ?_
            refine k_icmp_ne C (tgt := 93) (pc2 := 71) (dkAt dkX8_copy 39 (q := (68, .if_icmp .ne 25, 3)) rfl) (by decide) rfl h (fun h => ?_) (fun h => ?_)
            · refine k_aload_n C (pc2 := 94) (dkAt dkX8_copy 53 (q := (93, .aload_n 0, 1)) rfl) rfl rfl 0 rfl ?_
              refine kf_X8_7 C (pc2 := 97) (o := o0) (o2 := o0 + 1) h0.1 rfl (dkAt dkX8_copy 54 (q := (94, .getfield 7, 3)) rfl) rfl ?_
              refine k_iload_n C (pc2 := 98) (dkAt dkX8_copy 55 (q := (97, .iload_n 1, 1)) rfl) rfl rfl 1 rfl ?_
              refine k_iald C (pc2 := 99) (o := o0 + 1) (nA := 8) (isM_shelf h0) (dkAt dkX8_copy 56 (q := (98, .iaload, 1)) rfl) rfl h (fun h => ?_)
              refine k_if_eq C (tgt := 111) (pc2 := 102) (dkAt dkX8_copy 57 (q := (99, .ifCond .eq 12, 3)) rfl) (by decide) rfl h (fun h => ?_) (fun h => ?_)
              · refine k_aload_n C (pc2 := 112) (dkAt dkX8_copy 63 (q := (111, .aload_n 0, 1)) rfl) rfl rfl 0 rfl ?_
                refine k_bipush C (pc2 := 114) (dkAt dkX8_copy 64 (q := (112, .bipush (-4), 2)) rfl) rfl (v := (-4)) rfl ?_
                obtain ⟨q41, e42, h⟩ := ob_inv h
                refine kc_V C (As := [.int (-4)]) (st2 := [.int q41.2]) (ct_X8_refuse l G sh xs o0 h0 (-4) M q41 e42) (cl_X8_97 (hts_of C) ⟨Nat.le_of_ble_eq_true rfl, Nat.le_of_ble_eq_true rfl⟩ rfl rfl) h0.1 rfl rfl rfl rfl rfl (Nat.le_of_ble_eq_true rfl) (dkAt dkX8_copy 65 (q := (114, .invokevirtual 97, 3)) rfl) ⟨Nat.zero_le _, Nat.zero_le _⟩ (pc2 := 117) rfl rfl ?_
                exact k_iret C (dkAt dkX8_copy 66 (q := (117, .ireturn, 1)) rfl) (pe2 (Option.some.inj h)) rfl (pe1 (Option.some.inj h)) rfl
              · refine k_aload_n C (pc2 := 103) (dkAt dkX8_copy 58 (q := (102, .aload_n 0, 1)) rfl) rfl rfl 0 rfl ?_
                refine kf_X8_7 C (pc2 := 106) (o := o0) (o2 := o0 + 1) h0.1 rfl (dkAt dkX8_copy 59 (q := (103, .getfield 7, 3)) rfl) rfl ?_
                refine k_iload_n C (pc2 := 107) (dkAt dkX8_copy 60 (q := (106, .iload_n 2, 1)) rfl) rfl rfl 2 rfl ?_
                refine k_iald C (pc2 := 108) (o := o0 + 1) (nA := 8) (isM_shelf h0) (dkAt dkX8_copy 61 (q := (107, .iaload, 1)) rfl) rfl h (fun h => ?_)
                refine k_if_ne C (tgt := 118) (pc2 := 111) (dkAt dkX8_copy 62 (q := (108, .ifCond .ne 10, 3)) rfl) (by decide) rfl h (fun h => ?_) (fun h => ?_)
                · refine k_iload C (pc2 := 120) (dkAt dkX8_copy 67 (q := (118, .iload 5, 2)) rfl) rfl 5 rfl ?_
                  refine k_if_lt C (tgt := 181) (pc2 := 123) (dkAt dkX8_copy 68 (q := (120, .ifCond .lt 61, 3)) rfl) (by decide) rfl h (fun h => ?_) (fun h => ?_)
                  · refine k_aload_n C (pc2 := 182) (dkAt dkX8_copy 101 (q := (181, .aload_n 0, 1)) rfl) rfl rfl 0 rfl ?_
                    refine k_bipush C (pc2 := 184) (dkAt dkX8_copy 102 (q := (182, .bipush (-2), 2)) rfl) rfl (v := (-2)) rfl ?_
                    obtain ⟨q43, e44, h⟩ := ob_inv h
                    refine kc_V C (As := [.int (-2)]) (st2 := [.int q43.2]) (ct_X8_refuse l G sh xs o0 h0 (-2) M q43 e44) (cl_X8_97 (hts_of C) ⟨Nat.le_of_ble_eq_true rfl, Nat.le_of_ble_eq_true rfl⟩ rfl rfl) h0.1 rfl rfl rfl rfl rfl (Nat.le_of_ble_eq_true rfl) (dkAt dkX8_copy 103 (q := (184, .invokevirtual 97, 3)) rfl) ⟨Nat.zero_le _, Nat.zero_le _⟩ (pc2 := 187) rfl rfl ?_
                    exact k_iret C (dkAt dkX8_copy 104 (q := (187, .ireturn, 1)) rfl) (pe2 (Option.some.inj h)) rfl (pe1 (Option.some.inj h)) rfl
                  · refine k_iload_n C (pc2 := 124) (dkAt dkX8_copy 69 (q := (123, .iload_n 3, 1)) rfl) rfl rfl 3 rfl ?_
                    refine k_if_lt C (tgt := 181) (pc2 := 127) (dkAt dkX8_copy 70 (q := (124, .ifCond .lt 57, 3)) rfl) (by decide) rfl h (fun h => ?_) (fun h => ?_)
                    · refine k_aload_n C (pc2 := 182) (dkAt dkX8_copy 101 (q := (181, .aload_n 0, 1)) rfl) rfl rfl 0 rfl ?_
                      refine k_bipush C (pc2 := 184) (dkAt dkX8_copy 102 (q := (182, .bipush (-2), 2)) rfl) rfl (v := (-2)) rfl ?_
                      obtain ⟨q45, e46, h⟩ := ob_inv h
                      refine kc_V C (As := [.int (-2)]) (st2 := [.int q45.2]) (ct_X8_refuse l G sh xs o0 h0 (-2) M q45 e46) (cl_X8_97 (hts_of C) ⟨Nat.le_of_ble_eq_true rfl, Nat.le_of_ble_eq_true rfl⟩ rfl rfl) h0.1 rfl rfl rfl rfl rfl (Nat.le_of_ble_eq_true rfl) (dkAt dkX8_copy 103 (q := (184, .invokevirtual 97, 3)) rfl) ⟨Nat.zero_le _, Nat.zero_le _⟩ (pc2 := 187) rfl rfl ?_
                      exact k_iret C (dkAt dkX8_copy 104 (q := (187, .ireturn, 1)) rfl) (pe2 (Option.some.inj h)) rfl (pe1 (Option.some.inj h)) rfl
                    · refine k_iload C (pc2 := 129) (dkAt dkX8_copy 71 (q := (127, .iload 4, 2)) rfl) rfl 4 rfl ?_
                      refine k_if_lt C (tgt := 181) (pc2 := 132) (dkAt dkX8_copy 72 (q := (129, .ifCond .lt 52, 3)) rfl) (by decide) rfl h (fun h => ?_) (fun h => ?_)
                      · refine k_aload_n C (pc2 := 182) (dkAt dkX8_copy 101 (q := (181, .aload_n 0, 1)) rfl) rfl rfl 0 rfl ?_
                        refine k_bipush C (pc2 := 184) (dkAt dkX8_copy 102 (q := (182, .bipush (-2), 2)) rfl) rfl (v := (-2)) rfl ?_
                        obtain ⟨q47, e48, h⟩ := ob_inv h
                        refine kc_V C (As := [.int (-2)]) (st2 := [.int q47.2]) (ct_X8_refuse l G sh xs o0 h0 (-2) M q47 e48) (cl_X8_97 (hts_of C) ⟨Nat.le_of_ble_eq_true rfl, Nat.le_of_ble_eq_true rfl⟩ rfl rfl) h0.1 rfl rfl rfl rfl rfl (Nat.le_of_ble_eq_true rfl) (dkAt dkX8_copy 103 (q := (184, .invokevirtual 97, 3)) rfl) ⟨Nat.zero_le _, Nat.zero_le _⟩ (pc2 := 187) rfl rfl ?_
                        exact k_iret C (dkAt dkX8_copy 104 (q := (187, .ireturn, 1)) rfl) (pe2 (Option.some.inj h)) rfl (pe1 (Option.some.inj h)) rfl
                      · refine k_iload C (pc2 := 134) (dkAt dkX8_copy 73 (q := (132, .iload 5, 2)) rfl) rfl 5 rfl ?_
                        refine k_aload_n C (pc2 := 135) (dkAt dkX8_copy 74 (q := (134, .aload_n 0, 1)) rfl) rfl rfl 0 rfl ?_
                        refine kf_X8_16 C (pc2 := 138) (o := o0) (o2 := o0 + 3) h0.1 rfl (dkAt dkX8_copy 75 (q := (135, .getfield 16, 3)) rfl) rfl ?_
                        refine k_iload_n C (pc2 := 139) (dkAt dkX8_copy 76 (q := (138, .iload_n 1, 1)) rfl) rfl rfl 1 rfl ?_
                        refine k_iald C (pc2 := 140) (o := o0 + 3) (nA := 8) (isM_rowSize h0) (dkAt dkX8_copy 77 (q := (139, .iaload, 1)) rfl) rfl h (fun h => ?_)
                        refine k_icmp_gt C (tgt := 181) (pc2 := 143) (dkAt dkX8_copy 78 (q := (140, .if_icmp .gt 41, 3)) rfl) (by decide) rfl h (fun h => ?_) (fun h => ?_)
                        · refine k_aload_n C (pc2 := 182) (dkAt dkX8_copy 101 (q := (181, .aload_n 0, 1)) rfl) rfl rfl 0 rfl ?_
                          refine k_bipush C (pc2 := 184) (dkAt dkX8_copy 102 (q := (182, .bipush (-2), 2)) rfl) rfl (v := (-2)) rfl ?_
                          obtain ⟨q49, e50, h⟩ := ob_inv h
                          refine kc_V C (As := [.int (-2)]) (st2 := [.int q49.2]) (ct_X8_refuse l G sh xs o0 h0 (-2) M q49 e50) (cl_X8_97 (hts_of C) ⟨Nat.le_of_ble_eq_true rfl, Nat.le_of_ble_eq_true rfl⟩ rfl rfl) h0.1 rfl rfl rfl rfl rfl (Nat.le_of_ble_eq_true rfl) (dkAt dkX8_copy 103 (q := (184, .invokevirtual 97, 3)) rfl) ⟨Nat.zero_le _, Nat.zero_le _⟩ (pc2 := 187) rfl rfl ?_
                          exact k_iret C (dkAt dkX8_copy 104 (q := (187, .ireturn, 1)) rfl) (pe2 (Option.some.inj h)) rfl (pe1 (Option.some.inj h)) rfl
                        · refine k_iload C (pc2 := 145) (dkAt dkX8_copy 79 (q := (143, .iload 5, 2)) rfl) rfl 5 rfl ?_
                          refine k_aload_n C (pc2 := 146) (dkAt dkX8_copy 80 (q := (145, .aload_n 0, 1)) rfl) rfl rfl 0 rfl ?_
                          refine kf_X8_16 C (pc2 := 149) (o := o0) (o2 := o0 + 3) h0.1 rfl (dkAt dkX8_copy 81 (q := (146, .getfield 16, 3)) rfl) rfl ?_
                          refine k_iload_n C (pc2 := 150) (dkAt dkX8_copy 82 (q := (149, .iload_n 2, 1)) rfl) rfl rfl 2 rfl ?_
                          refine k_iald C (pc2 := 151) (o := o0 + 3) (nA := 8) (isM_rowSize h0) (dkAt dkX8_copy 83 (q := (150, .iaload, 1)) rfl) rfl h (fun h => ?_)
                          refine k_icmp_gt C (tgt := 181) (pc2 := 154) (dkAt dkX8_copy 84 (q := (151, .if_icmp .gt 30, 3)) rfl) (by decide) rfl h (fun h => ?_) (fun h => ?_)
                          · refine k_aload_n C (pc2 := 182) (dkAt dkX8_copy 101 (q := (181, .aload_n 0, 1)) rfl) rfl rfl 0 rfl ?_
                            refine k_bipush C (pc2 := 184) (dkAt dkX8_copy 102 (q := (182, .bipush (-2), 2)) rfl) rfl (v := (-2)) rfl ?_
                            obtain ⟨q51, e52, h⟩ := ob_inv h
                            refine kc_V C (As := [.int (-2)]) (st2 := [.int q51.2]) (ct_X8_refuse l G sh xs o0 h0 (-2) M q51 e52) (cl_X8_97 (hts_of C) ⟨Nat.le_of_ble_eq_true rfl, Nat.le_of_ble_eq_true rfl⟩ rfl rfl) h0.1 rfl rfl rfl rfl rfl (Nat.le_of_ble_eq_true rfl) (dkAt dkX8_copy 103 (q := (184, .invokevirtual 97, 3)) rfl) ⟨Nat.zero_le _, Nat.zero_le _⟩ (pc2 := 187) rfl rfl ?_
                            exact k_iret C (dkAt dkX8_copy 104 (q := (187, .ireturn, 1)) rfl) (pe2 (Option.some.inj h)) rfl (pe1 (Option.some.inj h)) rfl
                          · refine k_iload_n C (pc2 := 155) (dkAt dkX8_copy 85 (q := (154, .iload_n 3, 1)) rfl) rfl rfl 3 rfl ?_
                            refine k_aload_n C (pc2 := 156) (dkAt dkX8_copy 86 (q := (155, .aload_n 0, 1)) rfl) rfl rfl 0 rfl ?_
                            refine kf_X8_16 C (pc2 := 159) (o := o0) (o2 := o0 + 3) h0.1 rfl (dkAt dkX8_copy 87 (q := (156, .getfield 16, 3)) rfl) rfl ?_
                            refine k_iload_n C (pc2 := 160) (dkAt dkX8_copy 88 (q := (159, .iload_n 1, 1)) rfl) rfl rfl 1 rfl ?_
                            refine k_iald C (pc2 := 161) (o := o0 + 3) (nA := 8) (isM_rowSize h0) (dkAt dkX8_copy 89 (q := (160, .iaload, 1)) rfl) rfl h (fun h => ?_)
                            refine k_iload C (pc2 := 163) (dkAt dkX8_copy 90 (q := (161, .iload 5, 2)) rfl) rfl 5 rfl ?_
                            refine k_isub C (pc2 := 164) (dkAt dkX8_copy 91 (q := (163, .isub, 1)) rfl) rfl ?_
                            refine k_icmp_gt C (tgt := 181) (pc2 := 167) (dkAt dkX8_copy 92 (q := (164, .if_icmp .gt 17, 3)) rfl) (by decide) rfl h (fun h => ?_) (fun h => ?_)
                            · refine k_aload_n C (pc2 := 182) (dkAt dkX8_copy 101 (q := (181, .aload_n 0, 1)) rfl) rfl rfl 0 rfl ?_
                              refine k_bipush C (pc2 := 184) (dkAt dkX8_copy 102 (q := (182, .bipush (-2), 2)) rfl) rfl (v := (-2)) rfl ?_
                              obtain ⟨q53, e54, h⟩ := ob_inv h
                              refine kc_V C (As := [.int (-2)]) (st2 := [.int q53.2]) (ct_X8_refuse l G sh xs o0 h0 (-2) M q53 e54) (cl_X8_97 (hts_of C) ⟨Nat.le_of_ble_eq_true rfl, Nat.le_of_ble_eq_true rfl⟩ rfl rfl) h0.1 rfl rfl rfl rfl rfl (Nat.le_of_ble_eq_true rfl) (dkAt dkX8_copy 103 (q := (184, .invokevirtual 97, 3)) rfl) ⟨Nat.zero_le _, Nat.zero_le _⟩ (pc2 := 187) rfl rfl ?_
                              exact k_iret C (dkAt dkX8_copy 104 (q := (187, .ireturn, 1)) rfl) (pe2 (Option.some.inj h)) rfl (pe1 (Option.some.inj h)) rfl
                            · refine k_iload C (pc2 := 169) (dkAt dkX8_copy 93 (q := (167, .iload 4, 2)) rfl) rfl 4 rfl ?_
                              refine k_aload_n C (pc2 := 170) (dkAt dkX8_copy 94 (q := (169, .aload_n 0, 1)) rfl) rfl rfl 0 rfl ?_
                              refine kf_X8_16 C (pc2 := 173) (o := o0) (o2 := o0 + 3) h0.1 rfl (dkAt dkX8_copy 95 (q := (170, .getfield 16, 3)) rfl) rfl ?_
                              refine k_iload_n C (pc2 := 174) (dkAt dkX8_copy 96 (q := (173, .iload_n 2, 1)) rfl) rfl rfl 2 rfl ?_
                              refine k_iald C (pc2 := 175) (o := o0 + 3) (nA := 8) (isM_rowSize h0) (dkAt dkX8_copy 97 (q := (174, .iaload, 1)) rfl) rfl h (fun h => ?_)
                              refine k_iload C (pc2 := 177) (dkAt dkX8_copy 98 (q := (175, .iload 5, 2)) rfl) rfl 5 rfl ?_
                              refine k_isub C (pc2 := 178) (dkAt dkX8_copy 99 (q := (177, .isub, 1)) rfl) rfl ?_
                              refine k_icmp_le C (tgt := 188) (pc2 := 181) (dkAt dkX8_copy 100 (q := (178, .if_icmp .le 10, 3)) rfl) (by decide) rfl h (fun h => ?_) (fun h => ?_)
                              · refine k_iconst C (pc2 := 189) (dkAt dkX8_copy 105 (q := (188, .iconst 0, 1)) rfl) rfl (v := 0) rfl ?_
                                refine k_istore C (pc2 := 191) (dkAt dkX8_copy 106 (q := (189, .istore 6, 2)) rfl) rfl (by decide) (lv2 := [(6, .int 0), (0, rA G o0), (1, .int x1), (2, .int x2), (3, .int x3), (4, .int x4), (5, .int x5)]) rfl ?_
                                refine k_lv [1, 2, 3, 4, 5, 6, 0] (lv2 := [(0, rA G o0), (1, .int x1), (2, .int x2), (3, .int x3), (4, .int x4), (5, .int x5), (6, .int 0)]) rfl ?_
                                obtain ⟨M57, e56, h⟩ := ob_inv h
                                refine kl_X8_copy_L191 C o0 h0 x1 x2 x3 x4 x5 M57 ?_ 1000 0 M e56
                                refine k_iconst C (pc2 := 223) (dkAt dkX8_copy 124 (q := (222, .iconst 0, 1)) rfl) rfl (v := 0) rfl ?_
                                refine k_istore C (pc2 := 225) (dkAt dkX8_copy 125 (q := (223, .istore 6, 2)) rfl) rfl (by decide) (lv2 := [(6, .int 0), (0, rA G o0), (2, .int x2), (4, .int x4), (5, .int x5)]) rfl ?_
                                refine k_lv [1, 2, 3, 4, 0] (lv2 := [(0, rA G o0), (2, .int x2), (4, .int x4), (5, .int x5), (6, .int 0)]) rfl ?_
                                obtain ⟨M60, e59, h⟩ := ob_inv h
                                refine kl_X8_copy_L225 C o0 h0 x2 x4 x5 M60 ?_ 1000 0 M57 e59
                                refine k_iload C (pc2 := 259) (dkAt dkX8_copy 143 (q := (257, .iload 5, 2)) rfl) rfl 0 rfl ?_
                                exact k_iret C (dkAt dkX8_copy 144 (q := (259, .ireturn, 1)) rfl) (pe2 (Option.some.inj h)) rfl (pe1 (Option.some.inj h)) rfl
                              · refine k_aload_n C (pc2 := 182) (dkAt dkX8_copy 101 (q := (181, .aload_n 0, 1)) rfl) rfl rfl 0 rfl ?_
                                refine k_bipush C (pc2 := 184) (dkAt dkX8_copy 102 (q := (182, .bipush (-2), 2)) rfl) rfl (v := (-2)) rfl ?_
                                obtain ⟨q61, e62, h⟩ := ob_inv h
                                refine kc_V C (As := [.int (-2)]) (st2 := [.int q61.2]) (ct_X8_refuse l G sh xs o0 h0 (-2) M q61 e62) (cl_X8_97 (hts_of C) ⟨Nat.le_of_ble_eq_true rfl, Nat.le_of_ble_eq_true rfl⟩ rfl rfl) h0.1 rfl rfl rfl rfl rfl (Nat.le_of_ble_eq_true rfl) (dkAt dkX8_copy 103 (q := (184, .invokevirtual 97, 3)) rfl) ⟨Nat.zero_le _, Nat.zero_le _⟩ (pc2 := 187) rfl rfl ?_
                                exact k_iret C (dkAt dkX8_copy 104 (q := (187, .ireturn, 1)) rfl) (pe2 (Option.some.inj h)) rfl (pe1 (Option.some.inj h)) rfl
                · refine k_aload_n C (pc2 := 112) (dkAt dkX8_copy 63 (q := (111, .aload_n 0, 1)) rfl) rfl rfl 0 rfl ?_
                  refine k_bipush C (pc2 := 114) (dkAt dkX8_copy 64 (q := (112, .bipush (-4), 2)) rfl) rfl (v := (-4)) rfl ?_
                  obtain ⟨q63, e64, h⟩ := ob_inv h
                  refine kc_V C (As := [.int (-4)]) (st2 := [.int q63.2]) (ct_X8_refuse l G sh xs o0 h0 (-4) M q63 e64) (cl_X8_97 (hts_of C) ⟨Nat.le_of_ble_eq_true rfl, Nat.le_of_ble_eq_true rfl⟩ rfl rfl) h0.1 rfl rfl rfl rfl rfl (Nat.le_of_ble_eq_true rfl) (dkAt dkX8_copy 65 (q := (114, .invokevirtual 97, 3)) rfl) ⟨Nat.zero_le _, Nat.zero_le _⟩ (pc2 := 117) rfl rfl ?_
                  exact k_iret C (dkAt dkX8_copy 66 (q := (117, .ireturn, 1)) rfl) (pe2 (Option.some.inj h)) rfl (pe1 (Option.some.inj h)) rfl
            · refine k_aload_n C (pc2 := 72) (dkAt dkX8_copy 40 (q := (71, .aload_n 0, 1)) rfl) rfl rfl 0 rfl ?_
              refine kf_X8_13 C (pc2 := 75) (o := o0) (o2 := o0 + 2) h0.1 rfl (dkAt dkX8_copy 41 (q := (72, .getfield 13, 3)) rfl) rfl ?_
              refine k_iload_n C (pc2 := 76) (dkAt dkX8_copy 42 (q := (75, .iload_n 1, 1)) rfl) rfl rfl 1 rfl ?_
              refine k_iald C (pc2 := 77) (o := o0 + 2) (nA := 8) (isM_rowSort h0) (dkAt dkX8_copy 43 (q := (76, .iaload, 1)) rfl) rfl h (fun h => ?_)
              refine k_aload_n C (pc2 := 78) (dkAt dkX8_copy 44 (q := (77, .aload_n 0, 1)) rfl) rfl rfl 0 rfl ?_
              refine kf_X8_13 C (pc2 := 81) (o := o0) (o2 := o0 + 2) h0.1 rfl (dkAt dkX8_copy 45 (q := (78, .getfield 13, 3)) rfl) rfl ?_
              refine k_iload_n C (pc2 := 82) (dkAt dkX8_copy 46 (q := (81, .iload_n 2, 1)) rfl) rfl rfl 2 rfl ?_
              refine k_iald C (pc2 := 83) (o := o0 + 2) (nA := 8) (isM_rowSort h0) (dkAt dkX8_copy 47 (q := (82, .iaload, 1)) rfl) rfl h (fun h => ?_)
              refine k_icmp_eq C (tgt := 93) (pc2 := 86) (dkAt dkX8_copy 48 (q := (83, .if_icmp .eq 10, 3)) rfl) (by decide) rfl h (fun h => ?_) (fun h => ?_)
              · refine k_aload_n C (pc2 := 94) (dkAt dkX8_copy 53 (q := (93, .aload_n 0, 1)) rfl) rfl rfl 0 rfl ?_
                refine kf_X8_7 C (pc2 := 97) (o := o0) (o2 := o0 + 1) h0.1 rfl (dkAt dkX8_copy 54 (q := (94, .getfield 7, 3)) rfl) rfl ?_
                refine k_iload_n C (pc2 := 98) (dkAt dkX8_copy 55 (q := (97, .iload_n 1, 1)) rfl) rfl rfl 1 rfl ?_
                refine k_iald C (pc2 := 99) (o := o0 + 1) (nA := 8) (isM_shelf h0) (dkAt dkX8_copy 56 (q := (98, .iaload, 1)) rfl) rfl h (fun h => ?_)
                refine k_if_eq C (tgt := 111) (pc2 := 102) (dkAt dkX8_copy 57 (q := (99, .ifCond .eq 12, 3)) rfl) (by decide) rfl h (fun h => ?_) (fun h => ?_)
                · refine k_aload_n C (pc2 := 112) (dkAt dkX8_copy 63 (q := (111, .aload_n 0, 1)) rfl) rfl rfl 0 rfl ?_
                  refine k_bipush C (pc2 := 114) (dkAt dkX8_copy 64 (q := (112, .bipush (-4), 2)) rfl) rfl (v := (-4)) rfl ?_
                  obtain ⟨q65, e66, h⟩ := ob_inv h
                  refine kc_V C (As := [.int (-4)]) (st2 := [.int q65.2]) (ct_X8_refuse l G sh xs o0 h0 (-4) M q65 e66) (cl_X8_97 (hts_of C) ⟨Nat.le_of_ble_eq_true rfl, Nat.le_of_ble_eq_true rfl⟩ rfl rfl) h0.1 rfl rfl rfl rfl rfl (Nat.le_of_ble_eq_true rfl) (dkAt dkX8_copy 65 (q := (114, .invokevirtual 97, 3)) rfl) ⟨Nat.zero_le _, Nat.zero_le _⟩ (pc2 := 117) rfl rfl ?_
                  exact k_iret C (dkAt dkX8_copy 66 (q := (117, .ireturn, 1)) rfl) (pe2 (Option.some.inj h)) rfl (pe1 (Option.some.inj h)) rfl
                · refine k_aload_n C (pc2 := 103) (dkAt dkX8_copy 58 (q := (102, .aload_n 0, 1)) rfl) rfl rfl 0 rfl ?_
                  refine kf_X8_7 C (pc2 := 106) (o := o0) (o2 := o0 + 1) h0.1 rfl (dkAt dkX8_copy 59 (q := (103, .getfield 7, 3)) rfl) rfl ?_
                  refine k_iload_n C (pc2 := 107) (dkAt dkX8_copy 60 (q := (106, .iload_n 2, 1)) rfl) rfl rfl 2 rfl ?_
                  refine k_iald C (pc2 := 108) (o := o0 + 1) (nA := 8) (isM_shelf h0) (dkAt dkX8_copy 61 (q := (107, .iaload, 1)) rfl) rfl h (fun h => ?_)
                  refine k_if_ne C (tgt := 118) (pc2 := 111) (dkAt dkX8_copy 62 (q := (108, .ifCond .ne 10, 3)) rfl) (by decide) rfl h (fun h => ?_) (fun h => ?_)
                  · refine k_iload C (pc2 := 120) (dkAt dkX8_copy 67 (q := (118, .iload 5, 2)) rfl) rfl 5 rfl ?_
                    refine k_if_lt C (tgt := 181) (pc2 := 123) (dkAt dkX8_copy 68 (q := (120, .ifCond .lt 61, 3)) rfl) (by decide) rfl h (fun h => ?_) (fun h => ?_)
                    · refine k_aload_n C (pc2 := 182) (dkAt dkX8_copy 101 (q := (181, .aload_n 0, 1)) rfl) rfl rfl 0 rfl ?_
                      refine k_bipush C (pc2 := 184) (dkAt dkX8_copy 102 (q := (182, .bipush (-2), 2)) rfl) rfl (v := (-2)) rfl ?_
                      obtain ⟨q67, e68, h⟩ := ob_inv h
                      refine kc_V C (As := [.int (-2)]) (st2 := [.int q67.2]) (ct_X8_refuse l G sh xs o0 h0 (-2) M q67 e68) (cl_X8_97 (hts_of C) ⟨Nat.le_of_ble_eq_true rfl, Nat.le_of_ble_eq_true rfl⟩ rfl rfl) h0.1 rfl rfl rfl rfl rfl (Nat.le_of_ble_eq_true rfl) (dkAt dkX8_copy 103 (q := (184, .invokevirtual 97, 3)) rfl) ⟨Nat.zero_le _, Nat.zero_le _⟩ (pc2 := 187) rfl rfl ?_
                      exact k_iret C (dkAt dkX8_copy 104 (q := (187, .ireturn, 1)) rfl) (pe2 (Option.some.inj h)) rfl (pe1 (Option.some.inj h)) rfl
                    · refine k_iload_n C (pc2 := 124) (dkAt dkX8_copy 69 (q := (123, .iload_n 3, 1)) rfl) rfl rfl 3 rfl ?_
                      refine k_if_lt C (tgt := 181) (pc2 := 127) (dkAt dkX8_copy 70 (q := (124, .ifCond .lt 57, 3)) rfl) (by decide) rfl h (fun h => ?_) (fun h => ?_)
                      · refine k_aload_n C (pc2 := 182) (dkAt dkX8_copy 101 (q := (181, .aload_n 0, 1)) rfl) rfl rfl 0 rfl ?_
                        refine k_bipush C (pc2 := 184) (dkAt dkX8_copy 102 (q := (182, .bipush (-2), 2)) rfl) rfl (v := (-2)) rfl ?_
                        obtain ⟨q69, e70, h⟩ := ob_inv h
                        refine kc_V C (As := [.int (-2)]) (st2 := [.int q69.2]) (ct_X8_refuse l G sh xs o0 h0 (-2) M q69 e70) (cl_X8_97 (hts_of C) ⟨Nat.le_of_ble_eq_true rfl, Nat.le_of_ble_eq_true rfl⟩ rfl rfl) h0.1 rfl rfl rfl rfl rfl (Nat.le_of_ble_eq_true rfl) (dkAt dkX8_copy 103 (q := (184, .invokevirtual 97, 3)) rfl) ⟨Nat.zero_le _, Nat.zero_le _⟩ (pc2 := 187) rfl rfl ?_
                        exact k_iret C (dkAt dkX8_copy 104 (q := (187, .ireturn, 1)) rfl) (pe2 (Option.some.inj h)) rfl (pe1 (Option.some.inj h)) rfl
                      · refine k_iload C (pc2 := 129) (dkAt dkX8_copy 71 (q := (127, .iload 4, 2)) rfl) rfl 4 rfl ?_
                        refine k_if_lt C (tgt := 181) (pc2 := 132) (dkAt dkX8_copy 72 (q := (129, .ifCond .lt 52, 3)) rfl) (by decide) rfl h (fun h => ?_) (fun h => ?_)
                        · refine k_aload_n C (pc2 := 182) (dkAt dkX8_copy 101 (q := (181, .aload_n 0, 1)) rfl) rfl rfl 0 rfl ?_
                          refine k_bipush C (pc2 := 184) (dkAt dkX8_copy 102 (q := (182, .bipush (-2), 2)) rfl) rfl (v := (-2)) rfl ?_
                          obtain ⟨q71, e72, h⟩ := ob_inv h
                          refine kc_V C (As := [.int (-2)]) (st2 := [.int q71.2]) (ct_X8_refuse l G sh xs o0 h0 (-2) M q71 e72) (cl_X8_97 (hts_of C) ⟨Nat.le_of_ble_eq_true rfl, Nat.le_of_ble_eq_true rfl⟩ rfl rfl) h0.1 rfl rfl rfl rfl rfl (Nat.le_of_ble_eq_true rfl) (dkAt dkX8_copy 103 (q := (184, .invokevirtual 97, 3)) rfl) ⟨Nat.zero_le _, Nat.zero_le _⟩ (pc2 := 187) rfl rfl ?_
                          exact k_iret C (dkAt dkX8_copy 104 (q := (187, .ireturn, 1)) rfl) (pe2 (Option.some.inj h)) rfl (pe1 (Option.some.inj h)) rfl
                        · refine k_iload C (pc2 := 134) (dkAt dkX8_copy 73 (q := (132, .iload 5, 2)) rfl) rfl 5 rfl ?_
                          refine k_aload_n C (pc2 := 135) (dkAt dkX8_copy 74 (q := (134, .aload_n 0, 1)) rfl) rfl rfl 0 rfl ?_
                          refine kf_X8_16 C (pc2 := 138) (o := o0) (o2 := o0 + 3) h0.1 rfl (dkAt dkX8_copy 75 (q := (135, .getfield 16, 3)) rfl) rfl ?_
                          refine k_iload_n C (pc2 := 139) (dkAt dkX8_copy 76 (q := (138, .iload_n 1, 1)) rfl) rfl rfl 1 rfl ?_
                          refine k_iald C (pc2 := 140) (o := o0 + 3) (nA := 8) (isM_rowSize h0) (dkAt dkX8_copy 77 (q := (139, .iaload, 1)) rfl) rfl h (fun h => ?_)
                          refine k_icmp_gt C (tgt := 181) (pc2 := 143) (dkAt dkX8_copy 78 (q := (140, .if_icmp .gt 41, 3)) rfl) (by decide) rfl h (fun h => ?_) (fun h => ?_)
                          · refine k_aload_n C (pc2 := 182) (dkAt dkX8_copy 101 (q := (181, .aload_n 0, 1)) rfl) rfl rfl 0 rfl ?_
                            refine k_bipush C (pc2 := 184) (dkAt dkX8_copy 102 (q := (182, .bipush (-2), 2)) rfl) rfl (v := (-2)) rfl ?_
                            obtain ⟨q73, e74, h⟩ := ob_inv h
                            refine kc_V C (As := [.int (-2)]) (st2 := [.int q73.2]) (ct_X8_refuse l G sh xs o0 h0 (-2) M q73 e74) (cl_X8_97 (hts_of C) ⟨Nat.le_of_ble_eq_true rfl, Nat.le_of_ble_eq_true rfl⟩ rfl rfl) h0.1 rfl rfl rfl rfl rfl (Nat.le_of_ble_eq_true rfl) (dkAt dkX8_copy 103 (q := (184, .invokevirtual 97, 3)) rfl) ⟨Nat.zero_le _, Nat.zero_le _⟩ (pc2 := 187) rfl rfl ?_
                            exact k_iret C (dkAt dkX8_copy 104 (q := (187, .ireturn, 1)) rfl) (pe2 (Option.some.inj h)) rfl (pe1 (Option.some.inj h)) rfl
                          · refine k_iload C (pc2 := 145) (dkAt dkX8_copy 79 (q := (143, .iload 5, 2)) rfl) rfl 5 rfl ?_
                            refine k_aload_n C (pc2 := 146) (dkAt dkX8_copy 80 (q := (145, .aload_n 0, 1)) rfl) rfl rfl 0 rfl ?_
                            refine kf_X8_16 C (pc2 := 149) (o := o0) (o2 := o0 + 3) h0.1 rfl (dkAt dkX8_copy 81 (q := (146, .getfield 16, 3)) rfl) rfl ?_
                            refine k_iload_n C (pc2 := 150) (dkAt dkX8_copy 82 (q := (149, .iload_n 2, 1)) rfl) rfl rfl 2 rfl ?_
                            refine k_iald C (pc2 := 151) (o := o0 + 3) (nA := 8) (isM_rowSize h0) (dkAt dkX8_copy 83 (q := (150, .iaload, 1)) rfl) rfl h (fun h => ?_)
                            refine k_icmp_gt C (tgt := 181) (pc2 := 154) (dkAt dkX8_copy 84 (q := (151, .if_icmp .gt 30, 3)) rfl) (by decide) rfl h (fun h => ?_) (fun h => ?_)
                            · refine k_aload_n C (pc2 := 182) (dkAt dkX8_copy 101 (q := (181, .aload_n 0, 1)) rfl) rfl rfl 0 rfl ?_
                              refine k_bipush C (pc2 := 184) (dkAt dkX8_copy 102 (q := (182, .bipush (-2), 2)) rfl) rfl (v := (-2)) rfl ?_
                              obtain ⟨q75, e76, h⟩ := ob_inv h
                              refine kc_V C (As := [.int (-2)]) (st2 := [.int q75.2]) (ct_X8_refuse l G sh xs o0 h0 (-2) M q75 e76) (cl_X8_97 (hts_of C) ⟨Nat.le_of_ble_eq_true rfl, Nat.le_of_ble_eq_true rfl⟩ rfl rfl) h0.1 rfl rfl rfl rfl rfl (Nat.le_of_ble_eq_true rfl) (dkAt dkX8_copy 103 (q := (184, .invokevirtual 97, 3)) rfl) ⟨Nat.zero_le _, Nat.zero_le _⟩ (pc2 := 187) rfl rfl ?_
                              exact k_iret C (dkAt dkX8_copy 104 (q := (187, .ireturn, 1)) rfl) (pe2 (Option.some.inj h)) rfl (pe1 (Option.some.inj h)) rfl
                            · refine k_iload_n C (pc2 := 155) (dkAt dkX8_copy 85 (q := (154, .iload_n 3, 1)) rfl) rfl rfl 3 rfl ?_
                              refine k_aload_n C (pc2 := 156) (dkAt dkX8_copy 86 (q := (155, .aload_n 0, 1)) rfl) rfl rfl 0 rfl ?_
                              refine kf_X8_16 C (pc2 := 159) (o := o0) (o2 := o0 + 3) h0.1 rfl (dkAt dkX8_copy 87 (q := (156, .getfield 16, 3)) rfl) rfl ?_
                              refine k_iload_n C (pc2 := 160) (dkAt dkX8_copy 88 (q := (159, .iload_n 1, 1)) rfl) rfl rfl 1 rfl ?_
                              refine k_iald C (pc2 := 161) (o := o0 + 3) (nA := 8) (isM_rowSize h0) (dkAt dkX8_copy 89 (q := (160, .iaload, 1)) rfl) rfl h (fun h => ?_)
                              refine k_iload C (pc2 := 163) (dkAt dkX8_copy 90 (q := (161, .iload 5, 2)) rfl) rfl 5 rfl ?_
                              refine k_isub C (pc2 := 164) (dkAt dkX8_copy 91 (q := (163, .isub, 1)) rfl) rfl ?_
                              refine k_icmp_gt C (tgt := 181) (pc2 := 167) (dkAt dkX8_copy 92 (q := (164, .if_icmp .gt 17, 3)) rfl) (by decide) rfl h (fun h => ?_) (fun h => ?_)
                              · refine k_aload_n C (pc2 := 182) (dkAt dkX8_copy 101 (q := (181, .aload_n 0, 1)) rfl) rfl rfl 0 rfl ?_
                                refine k_bipush C (pc2 := 184) (dkAt dkX8_copy 102 (q := (182, .bipush (-2), 2)) rfl) rfl (v := (-2)) rfl ?_
                                obtain ⟨q77, e78, h⟩ := ob_inv h
                                refine kc_V C (As := [.int (-2)]) (st2 := [.int q77.2]) (ct_X8_refuse l G sh xs o0 h0 (-2) M q77 e78) (cl_X8_97 (hts_of C) ⟨Nat.le_of_ble_eq_true rfl, Nat.le_of_ble_eq_true rfl⟩ rfl rfl) h0.1 rfl rfl rfl rfl rfl (Nat.le_of_ble_eq_true rfl) (dkAt dkX8_copy 103 (q := (184, .invokevirtual 97, 3)) rfl) ⟨Nat.zero_le _, Nat.zero_le _⟩ (pc2 := 187) rfl rfl ?_
                                exact k_iret C (dkAt dkX8_copy 104 (q := (187, .ireturn, 1)) rfl) (pe2 (Option.some.inj h)) rfl (pe1 (Option.some.inj h)) rfl
                              · refine k_iload C (pc2 := 169) (dkAt dkX8_copy 93 (q := (167, .iload 4, 2)) rfl) rfl 4 rfl ?_
                                refine k_aload_n C (pc2 := 170) (dkAt dkX8_copy 94 (q := (169, .aload_n 0, 1)) rfl) rfl rfl 0 rfl ?_
                                refine kf_X8_16 C (pc2 := 173) (o := o0) (o2 := o0 + 3) h0.1 rfl (dkAt dkX8_copy 95 (q := (170, .getfield 16, 3)) rfl) rfl ?_
                                refine k_iload_n C (pc2 := 174) (dkAt dkX8_copy 96 (q := (173, .iload_n 2, 1)) rfl) rfl rfl 2 rfl ?_
                                refine k_iald C (pc2 := 175) (o := o0 + 3) (nA := 8) (isM_rowSize h0) (dkAt dkX8_copy 97 (q := (174, .iaload, 1)) rfl) rfl h (fun h => ?_)
                                refine k_iload C (pc2 := 177) (dkAt dkX8_copy 98 (q := (175, .iload 5, 2)) rfl) rfl 5 rfl ?_
                                refine k_isub C (pc2 := 178) (dkAt dkX8_copy 99 (q := (177, .isub, 1)) rfl) rfl ?_
                                refine k_icmp_le C (tgt := 188) (pc2 := 181) (dkAt dkX8_copy 100 (q := (178, .if_icmp .le 10, 3)) rfl) (by decide) rfl h (fun h => ?_) (fun h => ?_)
                                · refine k_iconst C (pc2 := 189) (dkAt dkX8_copy 105 (q := (188, .iconst 0, 1)) rfl) rfl (v := 0) rfl ?_
                                  refine k_istore C (pc2 := 191) (dkAt dkX8_copy 106 (q := (189, .istore 6, 2)) rfl) rfl (by decide) (lv2 := [(6, .int 0), (0, rA G o0), (1, .int x1), (2, .int x2), (3, .int x3), (4, .int x4), (5, .int x5)]) rfl ?_
                                  refine k_lv [1, 2, 3, 4, 5, 6, 0] (lv2 := [(0, rA G o0), (1, .int x1), (2, .int x2), (3, .int x3), (4, .int x4), (5, .int x5), (6, .int 0)]) rfl ?_
                                  obtain ⟨M81, e80, h⟩ := ob_inv h
                                  refine kl_X8_copy_L191 C o0 h0 x1 x2 x3 x4 x5 M81 ?_ 1000 0 M e80
                                  refine k_iconst C (pc2 := 223) (dkAt dkX8_copy 124 (q := (222, .iconst 0, 1)) rfl) rfl (v := 0) rfl ?_
                                  refine k_istore C (pc2 := 225) (dkAt dkX8_copy 125 (q := (223, .istore 6, 2)) rfl) rfl (by decide) (lv2 := [(6, .int 0), (0, rA G o0), (2, .int x2), (4, .int x4), (5, .int x5)]) rfl ?_
                                  refine k_lv [1, 2, 3, 4, 0] (lv2 := [(0, rA G o0), (2, .int x2), (4, .int x4), (5, .int x5), (6, .int 0)]) rfl ?_
                                  obtain ⟨M84, e83, h⟩ := ob_inv h
                                  refine kl_X8_copy_L225 C o0 h0 x2 x4 x5 M84 ?_ 1000 0 M81 e83
                                  refine k_iload C (pc2 := 259) (dkAt dkX8_copy 143 (q := (257, .iload 5, 2)) rfl) rfl 0 rfl ?_
                                  exact k_iret C (dkAt dkX8_copy 144 (q := (259, .ireturn, 1)) rfl) (pe2 (Option.some.inj h)) rfl (pe1 (Option.some.inj h)) rfl
                                · refine k_aload_n C (pc2 := 182) (dkAt dkX8_copy 101 (q := (181, .aload_n 0, 1)) rfl) rfl rfl 0 rfl ?_
                                  refine k_bipush C (pc2 := 184) (dkAt dkX8_copy 102 (q := (182, .bipush (-2), 2)) rfl) rfl (v := (-2)) rfl ?_
                                  obtain ⟨q85, e86, h⟩ := ob_inv h
                                  refine kc_V C (As := [.int (-2)]) (st2 := [.int q85.2]) (ct_X8_refuse l G sh xs o0 h0 (-2) M q85 e86) (cl_X8_97 (hts_of C) ⟨Nat.le_of_ble_eq_true rfl, Nat.le_of_ble_eq_true rfl⟩ rfl rfl) h0.1 rfl rfl rfl rfl rfl (Nat.le_of_ble_eq_true rfl) (dkAt dkX8_copy 103 (q := (184, .invokevirtual 97, 3)) rfl) ⟨Nat.zero_le _, Nat.zero_le _⟩ (pc2 := 187) rfl rfl ?_
                                  exact k_iret C (dkAt dkX8_copy 104 (q := (187, .ireturn, 1)) rfl) (pe2 (Option.some.inj h)) rfl (pe1 (Option.some.inj h)) rfl
                  · refine k_aload_n C (pc2 := 112) (dkAt dkX8_copy 63 (q := (111, .aload_n 0, 1)) rfl) rfl rfl 0 rfl ?_
                    refine k_bipush C (pc2 := 114) (dkAt dkX8_copy 64 (q := (112, .bipush (-4), 2)) rfl) rfl (v := (-4)) rfl ?_
                    obtain ⟨q87, e88, h⟩ := ob_inv h
                    refine kc_V C (As := [.int (-4)]) (st2 := [.int q87.2]) (ct_X8_refuse l G sh xs o0 h0 (-4) M q87 e88) (cl_X8_97 (hts_of C) ⟨Nat.le_of_ble_eq_true rfl, Nat.le_of_ble_eq_true rfl⟩ rfl rfl) h0.1 rfl rfl rfl rfl rfl (Nat.le_of_ble_eq_true rfl) (dkAt dkX8_copy 65 (q := (114, .invokevirtual 97, 3)) rfl) ⟨Nat.zero_le _, Nat.zero_le _⟩ (pc2 := 117) rfl rfl ?_
                    exact k_iret C (dkAt dkX8_copy 66 (q := (117, .ireturn, 1)) rfl) (pe2 (Option.some.inj h)) rfl (pe1 (Option.some.inj h)) rfl
              · refine k_aload_n C (pc2 := 87) (dkAt dkX8_copy 49 (q := (86, .aload_n 0, 1)) rfl) rfl rfl 0 rfl ?_
                refine k_bipush C (pc2 := 89) (dkAt dkX8_copy 50 (q := (87, .bipush (-3), 2)) rfl) rfl (v := (-3)) rfl ?_
                obtain ⟨q89, e90, h⟩ := ob_inv h
                refine kc_V C (As := [.int (-3)]) (st2 := [.int q89.2]) (ct_X8_refuse l G sh xs o0 h0 (-3) M q89 e90) (cl_X8_97 (hts_of C) ⟨Nat.le_of_ble_eq_true rfl, Nat.le_of_ble_eq_true rfl⟩ rfl rfl) h0.1 rfl rfl rfl rfl rfl (Nat.le_of_ble_eq_true rfl) (dkAt dkX8_copy 51 (q := (89, .invokevirtual 97, 3)) rfl) ⟨Nat.zero_le _, Nat.zero_le _⟩ (pc2 := 92) rfl rfl ?_
                exact k_iret C (dkAt dkX8_copy 52 (q := (92, .ireturn, 1)) rfl) (pe2 (Option.some.inj h)) rfl (pe1 (Option.some.inj h)) rfl
    · refine k_aload_n C (pc2 := 25) (dkAt dkX8_copy 12 (q := (24, .aload_n 0, 1)) rfl) rfl rfl 0 rfl ?_
      refine k_bipush C (pc2 := 27) (dkAt dkX8_copy 13 (q := (25, .bipush (-2), 2)) rfl) rfl (v := (-2)) rfl ?_
      obtain ⟨q91, e92, h⟩ := ob_inv h
      refine kc_V C (As := [.int (-2)]) (st2 := [.int q91.2]) (ct_X8_refuse l G sh xs o0 h0 (-2) M q91 e92) (cl_X8_97 (hts_of C) ⟨Nat.le_of_ble_eq_true rfl, Nat.le_of_ble_eq_true rfl⟩ rfl rfl) h0.1 rfl rfl rfl rfl rfl (Nat.le_of_ble_eq_true rfl) (dkAt dkX8_copy 14 (q := (27, .invokevirtual 97, 3)) rfl) ⟨Nat.zero_le _, Nat.zero_le _⟩ (pc2 := 30) rfl rfl ?_
      exact k_iret C (dkAt dkX8_copy 15 (q := (30, .ireturn, 1)) rfl) (pe2 (Option.some.inj h)) rfl (pe1 (Option.some.inj h)) rfl
set_option maxRecDepth 100000 in
set_option maxHeartbeats 4000000 in
theorem ct_X8_element (l : Launch) (G : GG) (sh : Sh) (xs : List va_E) (o0 : Nat) (h0 : isM sh o0) (x1 : Int32) (x2 : Int32) (M : Mm) (r : Int64) (h : f_X8_element o0 x1 x2 M = some r) : Ct l yX8_element cX8_element 3 (some .long) rm_X8_element G [rA G o0, .int x1, .int x2] sh M xs (some (.long r)) sh M xs 0 0 := by
  refine ct_of (by decide) (Nat.le_of_ble_eq_true rfl) ?_
  intro p e s m args below meth c hnm C
  refine k_lv [0, 1, 2] (lv2 := [(0, rA G o0), (1, .int x1), (2, .int x2)]) rfl ?_
  unfold f_X8_element at h
  refine k_iload_n C (pc2 := 1) (dkAt dkX8_element 0 (q := (0, .iload_n 1, 1)) rfl) rfl rfl 1 rfl ?_
  refine k_i2l C (pc2 := 2) (dkAt dkX8_element 1 (q := (1, .i2l, 1)) rfl) rfl ?_
  refine k_lconst C (pc2 := 3) (dkAt dkX8_element 2 (q := (2, .lconst 0, 1)) rfl) rfl (v := 0) rfl ?_
  refine k_ldc2 C (pc2 := 6) (dkAt dkX8_element 3 (q := (3, .ldc2_w 91, 3)) rfl) rfl (v := 7) tL_X8_91 ?_
  obtain ⟨q1, e2, h⟩ := ob_inv h
  refine kc_S C (As := [.long x1.toInt64, .long 0, .long 7]) (st2 := [.int q1]) (ct_X8_in l G sh xs x1.toInt64 0 7 M q1 e2) (cl_X8_85 (hts_of C) ⟨Nat.le_of_ble_eq_true rfl, Nat.le_of_ble_eq_true rfl⟩ rfl rfl) rfl rfl (Nat.le_of_ble_eq_true rfl) (dkAt dkX8_element 4 (q := (6, .invokestatic 85, 3)) rfl) ⟨Nat.zero_le _, Nat.zero_le _⟩ (pc2 := 9) rfl rfl ?_
  refine k_if_eq C (tgt := 51) (pc2 := 12) (dkAt dkX8_element 5 (q := (9, .ifCond .eq 42, 3)) rfl) (by decide) rfl h (fun h => ?_) (fun h => ?_)
  · refine k_lconst C (pc2 := 52) (dkAt dkX8_element 31 (q := (51, .lconst 0, 1)) rfl) rfl (v := 0) rfl ?_
    exact k_lret C (dkAt dkX8_element 32 (q := (52, .lreturn, 1)) rfl) (Option.some.inj h) rfl rfl rfl
  · refine k_aload_n C (pc2 := 13) (dkAt dkX8_element 6 (q := (12, .aload_n 0, 1)) rfl) rfl rfl 0 rfl ?_
    refine kf_X8_7 C (pc2 := 16) (o := o0) (o2 := o0 + 1) h0.1 rfl (dkAt dkX8_element 7 (q := (13, .getfield 7, 3)) rfl) rfl ?_
    refine k_iload_n C (pc2 := 17) (dkAt dkX8_element 8 (q := (16, .iload_n 1, 1)) rfl) rfl rfl 1 rfl ?_
    refine k_iald C (pc2 := 18) (o := o0 + 1) (nA := 8) (isM_shelf h0) (dkAt dkX8_element 9 (q := (17, .iaload, 1)) rfl) rfl h (fun h => ?_)
    refine k_iconst C (pc2 := 19) (dkAt dkX8_element 10 (q := (18, .iconst 1, 1)) rfl) rfl (v := 1) rfl ?_
    refine k_icmp_ne C (tgt := 51) (pc2 := 22) (dkAt dkX8_element 11 (q := (19, .if_icmp .ne 32, 3)) rfl) (by decide) rfl h (fun h => ?_) (fun h => ?_)
    · refine k_lconst C (pc2 := 52) (dkAt dkX8_element 31 (q := (51, .lconst 0, 1)) rfl) rfl (v := 0) rfl ?_
      exact k_lret C (dkAt dkX8_element 32 (q := (52, .lreturn, 1)) rfl) (Option.some.inj h) rfl rfl rfl
    · refine k_iload_n C (pc2 := 23) (dkAt dkX8_element 12 (q := (22, .iload_n 2, 1)) rfl) rfl rfl 2 rfl ?_
      refine k_i2l C (pc2 := 24) (dkAt dkX8_element 13 (q := (23, .i2l, 1)) rfl) rfl ?_
      refine k_lconst C (pc2 := 25) (dkAt dkX8_element 14 (q := (24, .lconst 0, 1)) rfl) rfl (v := 0) rfl ?_
      refine k_aload_n C (pc2 := 26) (dkAt dkX8_element 15 (q := (25, .aload_n 0, 1)) rfl) rfl rfl 0 rfl ?_
      refine kf_X8_16 C (pc2 := 29) (o := o0) (o2 := o0 + 3) h0.1 rfl (dkAt dkX8_element 16 (q := (26, .getfield 16, 3)) rfl) rfl ?_
      refine k_iload_n C (pc2 := 30) (dkAt dkX8_element 17 (q := (29, .iload_n 1, 1)) rfl) rfl rfl 1 rfl ?_
      refine k_iald C (pc2 := 31) (o := o0 + 3) (nA := 8) (isM_rowSize h0) (dkAt dkX8_element 18 (q := (30, .iaload, 1)) rfl) rfl h (fun h => ?_)
      refine k_iconst C (pc2 := 32) (dkAt dkX8_element 19 (q := (31, .iconst 1, 1)) rfl) rfl (v := 1) rfl ?_
      refine k_isub C (pc2 := 33) (dkAt dkX8_element 20 (q := (32, .isub, 1)) rfl) rfl ?_
      refine k_i2l C (pc2 := 34) (dkAt dkX8_element 21 (q := (33, .i2l, 1)) rfl) rfl ?_
      obtain ⟨q3, e4, h⟩ := ob_inv h
      refine kc_S C (As := [.long x2.toInt64, .long 0, .long (((M.1 (o0 + 3) x1.toNatClampNeg) - 1).toInt64)]) (st2 := [.int q3]) (ct_X8_in l G sh xs x2.toInt64 0 (((M.1 (o0 + 3) x1.toNatClampNeg) - 1).toInt64) M q3 e4) (cl_X8_85 (hts_of C) ⟨Nat.le_of_ble_eq_true rfl, Nat.le_of_ble_eq_true rfl⟩ rfl rfl) rfl rfl (Nat.le_of_ble_eq_true rfl) (dkAt dkX8_element 22 (q := (34, .invokestatic 85, 3)) rfl) ⟨Nat.zero_le _, Nat.zero_le _⟩ (pc2 := 37) rfl rfl ?_
      refine k_if_eq C (tgt := 51) (pc2 := 40) (dkAt dkX8_element 23 (q := (37, .ifCond .eq 14, 3)) rfl) (by decide) rfl h (fun h => ?_) (fun h => ?_)
      · refine k_lconst C (pc2 := 52) (dkAt dkX8_element 31 (q := (51, .lconst 0, 1)) rfl) rfl (v := 0) rfl ?_
        exact k_lret C (dkAt dkX8_element 32 (q := (52, .lreturn, 1)) rfl) (Option.some.inj h) rfl rfl rfl
      · refine k_aload_n C (pc2 := 41) (dkAt dkX8_element 24 (q := (40, .aload_n 0, 1)) rfl) rfl rfl 0 rfl ?_
        refine kf_X8_21 C (pc2 := 44) (o := o0) (o2 := o0 + 4) h0.1 rfl (dkAt dkX8_element 25 (q := (41, .getfield 21, 3)) rfl) rfl ?_
        refine k_iload_n C (pc2 := 45) (dkAt dkX8_element 26 (q := (44, .iload_n 1, 1)) rfl) rfl rfl 1 rfl ?_
        refine k_aa14 C (pc2 := 46) (o := o0 + 4) (o2 := o0 + 5 + x1.toNatClampNeg) (nA := 8) (isM_rows h0) rfl (dkAt dkX8_element 27 (q := (45, .aaload, 1)) rfl) rfl h (fun h hl5 => ?_)
        refine k_iload_n C (pc2 := 47) (dkAt dkX8_element 28 (q := (46, .iload_n 2, 1)) rfl) rfl rfl 2 rfl ?_
        refine k_lald C (pc2 := 48) (o := o0 + 5 + x1.toNatClampNeg) (nA := 40) (isM_rowsI h0 _ hl5) (dkAt dkX8_element 29 (q := (47, .laload, 1)) rfl) rfl h (fun h => ?_)
        refine k_goto C (tgt := 52) (dkAt dkX8_element 30 (q := (48, .goto 4, 3)) rfl) (by decide) ?_
        exact k_lret C (dkAt dkX8_element 32 (q := (52, .lreturn, 1)) rfl) (Option.some.inj h) rfl rfl rfl
set_option maxRecDepth 100000 in
set_option maxHeartbeats 4000000 in
theorem ct_X8_holds (l : Launch) (G : GG) (sh : Sh) (xs : List va_E) (o0 : Nat) (h0 : isM sh o0) (x1 : Int32) (M : Mm) (r : Int32) (h : f_X8_holds o0 x1 M = some r) : Ct l yX8_holds cX8_holds 2 (some .int) rm_X8_holds G [rA G o0, .int x1] sh M xs (some (.int r)) sh M xs 0 0 := by
  refine ct_of (by decide) (Nat.le_of_ble_eq_true rfl) ?_
  intro p e s m args below meth c hnm C
  refine k_lv [0, 1] (lv2 := [(0, rA G o0), (1, .int x1)]) rfl ?_
  unfold f_X8_holds at h
  refine k_iload_n C (pc2 := 1) (dkAt dkX8_holds 0 (q := (0, .iload_n 1, 1)) rfl) rfl rfl 1 rfl ?_
  refine k_i2l C (pc2 := 2) (dkAt dkX8_holds 1 (q := (1, .i2l, 1)) rfl) rfl ?_
  refine k_lconst C (pc2 := 3) (dkAt dkX8_holds 2 (q := (2, .lconst 0, 1)) rfl) rfl (v := 0) rfl ?_
  refine k_ldc2 C (pc2 := 6) (dkAt dkX8_holds 3 (q := (3, .ldc2_w 91, 3)) rfl) rfl (v := 7) tL_X8_91 ?_
  obtain ⟨q1, e2, h⟩ := ob_inv h
  refine kc_S C (As := [.long x1.toInt64, .long 0, .long 7]) (st2 := [.int q1]) (ct_X8_in l G sh xs x1.toInt64 0 7 M q1 e2) (cl_X8_85 (hts_of C) ⟨Nat.le_of_ble_eq_true rfl, Nat.le_of_ble_eq_true rfl⟩ rfl rfl) rfl rfl (Nat.le_of_ble_eq_true rfl) (dkAt dkX8_holds 4 (q := (6, .invokestatic 85, 3)) rfl) ⟨Nat.zero_le _, Nat.zero_le _⟩ (pc2 := 9) rfl rfl ?_
  refine k_if_eq C (tgt := 21) (pc2 := 12) (dkAt dkX8_holds 5 (q := (9, .ifCond .eq 12, 3)) rfl) (by decide) rfl h (fun h => ?_) (fun h => ?_)
  · refine k_iconst C (pc2 := 22) (dkAt dkX8_holds 11 (q := (21, .iconst (-1), 1)) rfl) rfl (v := (-1)) rfl ?_
    exact k_iret C (dkAt dkX8_holds 12 (q := (22, .ireturn, 1)) rfl) (Option.some.inj h) rfl rfl rfl
  · refine k_aload_n C (pc2 := 13) (dkAt dkX8_holds 6 (q := (12, .aload_n 0, 1)) rfl) rfl rfl 0 rfl ?_
    refine kf_X8_7 C (pc2 := 16) (o := o0) (o2 := o0 + 1) h0.1 rfl (dkAt dkX8_holds 7 (q := (13, .getfield 7, 3)) rfl) rfl ?_
    refine k_iload_n C (pc2 := 17) (dkAt dkX8_holds 8 (q := (16, .iload_n 1, 1)) rfl) rfl rfl 1 rfl ?_
    refine k_iald C (pc2 := 18) (o := o0 + 1) (nA := 8) (isM_shelf h0) (dkAt dkX8_holds 9 (q := (17, .iaload, 1)) rfl) rfl h (fun h => ?_)
    refine k_if_ne C (tgt := 23) (pc2 := 21) (dkAt dkX8_holds 10 (q := (18, .ifCond .ne 5, 3)) rfl) (by decide) rfl h (fun h => ?_) (fun h => ?_)
    · refine k_aload_n C (pc2 := 24) (dkAt dkX8_holds 13 (q := (23, .aload_n 0, 1)) rfl) rfl rfl 0 rfl ?_
      refine kf_X8_7 C (pc2 := 27) (o := o0) (o2 := o0 + 1) h0.1 rfl (dkAt dkX8_holds 14 (q := (24, .getfield 7, 3)) rfl) rfl ?_
      refine k_iload_n C (pc2 := 28) (dkAt dkX8_holds 15 (q := (27, .iload_n 1, 1)) rfl) rfl rfl 1 rfl ?_
      refine k_iald C (pc2 := 29) (o := o0 + 1) (nA := 8) (isM_shelf h0) (dkAt dkX8_holds 16 (q := (28, .iaload, 1)) rfl) rfl h (fun h => ?_)
      refine k_iconst C (pc2 := 30) (dkAt dkX8_holds 17 (q := (29, .iconst 1, 1)) rfl) rfl (v := 1) rfl ?_
      refine k_icmp_ne C (tgt := 42) (pc2 := 33) (dkAt dkX8_holds 18 (q := (30, .if_icmp .ne 12, 3)) rfl) (by decide) rfl h (fun h => ?_) (fun h => ?_)
      · refine k_bipush C (pc2 := 44) (dkAt dkX8_holds 24 (q := (42, .bipush 10, 2)) rfl) rfl (v := 10) rfl ?_
        refine k_aload_n C (pc2 := 45) (dkAt dkX8_holds 25 (q := (44, .aload_n 0, 1)) rfl) rfl rfl 0 rfl ?_
        refine kf_X8_28 C (pc2 := 48) (o := o0) (o2 := o0 + 14) h0.1 rfl (dkAt dkX8_holds 26 (q := (45, .getfield 28, 3)) rfl) rfl ?_
        refine k_iload_n C (pc2 := 49) (dkAt dkX8_holds 27 (q := (48, .iload_n 1, 1)) rfl) rfl rfl 1 rfl ?_
        refine k_iald C (pc2 := 50) (o := o0 + 14) (nA := 8) (isM_shown h0) (dkAt dkX8_holds 28 (q := (49, .iaload, 1)) rfl) rfl h (fun h => ?_)
        refine k_iadd C (pc2 := 51) (dkAt dkX8_holds 29 (q := (50, .iadd, 1)) rfl) rfl ?_
        exact k_iret C (dkAt dkX8_holds 30 (q := (51, .ireturn, 1)) rfl) (Option.some.inj h) rfl rfl rfl
      · refine k_aload_n C (pc2 := 34) (dkAt dkX8_holds 19 (q := (33, .aload_n 0, 1)) rfl) rfl rfl 0 rfl ?_
        refine kf_X8_13 C (pc2 := 37) (o := o0) (o2 := o0 + 2) h0.1 rfl (dkAt dkX8_holds 20 (q := (34, .getfield 13, 3)) rfl) rfl ?_
        refine k_iload_n C (pc2 := 38) (dkAt dkX8_holds 21 (q := (37, .iload_n 1, 1)) rfl) rfl rfl 1 rfl ?_
        refine k_iald C (pc2 := 39) (o := o0 + 2) (nA := 8) (isM_rowSort h0) (dkAt dkX8_holds 22 (q := (38, .iaload, 1)) rfl) rfl h (fun h => ?_)
        refine k_goto C (tgt := 51) (dkAt dkX8_holds 23 (q := (39, .goto 12, 3)) rfl) (by decide) ?_
        exact k_iret C (dkAt dkX8_holds 30 (q := (51, .ireturn, 1)) rfl) (Option.some.inj h) rfl rfl rfl
    · refine k_iconst C (pc2 := 22) (dkAt dkX8_holds 11 (q := (21, .iconst (-1), 1)) rfl) rfl (v := (-1)) rfl ?_
      exact k_iret C (dkAt dkX8_holds 12 (q := (22, .ireturn, 1)) rfl) (Option.some.inj h) rfl rfl rfl
set_option maxRecDepth 100000 in
set_option maxHeartbeats 4000000 in
theorem ct_X8_show (l : Launch) (G : GG) (sh : Sh) (xs : List va_E) (o0 : Nat) (h0 : isM sh o0) (x1 : Int32) (x2 : Int32) (M : Mm) (r : Mm × Int32) (h : f_X8_show o0 x1 x2 M = some r) : Ct l yX8_show cX8_show 3 (some .int) rm_X8_show G [rA G o0, .int x1, .int x2] sh M xs (some (.int r.2)) sh r.1 xs 0 0 := by
  refine ct_of (by decide) (Nat.le_of_ble_eq_true rfl) ?_
  intro p e s m args below meth c hnm C
  refine k_lv [0, 1, 2] (lv2 := [(0, rA G o0), (1, .int x1), (2, .int x2)]) rfl ?_
  unfold f_X8_show at h
  refine k_iload_n C (pc2 := 1) (dkAt dkX8_show 0 (q := (0, .iload_n 1, 1)) rfl) rfl rfl 1 rfl ?_
  refine k_i2l C (pc2 := 2) (dkAt dkX8_show 1 (q := (1, .i2l, 1)) rfl) rfl ?_
  refine k_lconst C (pc2 := 3) (dkAt dkX8_show 2 (q := (2, .lconst 0, 1)) rfl) rfl (v := 0) rfl ?_
  refine k_ldc2 C (pc2 := 6) (dkAt dkX8_show 3 (q := (3, .ldc2_w 91, 3)) rfl) rfl (v := 7) tL_X8_91 ?_
  obtain ⟨q1, e2, h⟩ := ob_inv h
  refine kc_S C (As := [.long x1.toInt64, .long 0, .long 7]) (st2 := [.int q1]) (ct_X8_in l G sh xs x1.toInt64 0 7 M q1 e2) (cl_X8_85 (hts_of C) ⟨Nat.le_of_ble_eq_true rfl, Nat.le_of_ble_eq_true rfl⟩ rfl rfl) rfl rfl (Nat.le_of_ble_eq_true rfl) (dkAt dkX8_show 4 (q := (6, .invokestatic 85, 3)) rfl) ⟨Nat.zero_le _, Nat.zero_le _⟩ (pc2 := 9) rfl rfl ?_
  refine k_if_eq C (tgt := 25) (pc2 := 12) (dkAt dkX8_show 5 (q := (9, .ifCond .eq 16, 3)) rfl) (by decide) rfl h (fun h => ?_) (fun h => ?_)
  · refine k_aload_n C (pc2 := 26) (dkAt dkX8_show 13 (q := (25, .aload_n 0, 1)) rfl) rfl rfl 0 rfl ?_
    refine k_bipush C (pc2 := 28) (dkAt dkX8_show 14 (q := (26, .bipush (-2), 2)) rfl) rfl (v := (-2)) rfl ?_
    obtain ⟨q3, e4, h⟩ := ob_inv h
    refine kc_V C (As := [.int (-2)]) (st2 := [.int q3.2]) (ct_X8_refuse l G sh xs o0 h0 (-2) M q3 e4) (cl_X8_97 (hts_of C) ⟨Nat.le_of_ble_eq_true rfl, Nat.le_of_ble_eq_true rfl⟩ rfl rfl) h0.1 rfl rfl rfl rfl rfl (Nat.le_of_ble_eq_true rfl) (dkAt dkX8_show 15 (q := (28, .invokevirtual 97, 3)) rfl) ⟨Nat.zero_le _, Nat.zero_le _⟩ (pc2 := 31) rfl rfl ?_
    exact k_iret C (dkAt dkX8_show 16 (q := (31, .ireturn, 1)) rfl) (pe2 (Option.some.inj h)) rfl (pe1 (Option.some.inj h)) rfl
  · refine k_iload_n C (pc2 := 13) (dkAt dkX8_show 6 (q := (12, .iload_n 2, 1)) rfl) rfl rfl 2 rfl ?_
    refine k_iconst C (pc2 := 14) (dkAt dkX8_show 7 (q := (13, .iconst (-1), 1)) rfl) rfl (v := (-1)) rfl ?_
    refine k_icmp_eq C (tgt := 32) (pc2 := 17) (dkAt dkX8_show 8 (q := (14, .if_icmp .eq 18, 3)) rfl) (by decide) rfl h (fun h => ?_) (fun h => ?_)
    · refine k_aload_n C (pc2 := 33) (dkAt dkX8_show 17 (q := (32, .aload_n 0, 1)) rfl) rfl rfl 0 rfl ?_
      refine kf_X8_7 C (pc2 := 36) (o := o0) (o2 := o0 + 1) h0.1 rfl (dkAt dkX8_show 18 (q := (33, .getfield 7, 3)) rfl) rfl ?_
      refine k_iload_n C (pc2 := 37) (dkAt dkX8_show 19 (q := (36, .iload_n 1, 1)) rfl) rfl rfl 1 rfl ?_
      refine k_iload_n C (pc2 := 38) (dkAt dkX8_show 20 (q := (37, .iload_n 2, 1)) rfl) rfl rfl 2 rfl ?_
      refine k_iconst C (pc2 := 39) (dkAt dkX8_show 21 (q := (38, .iconst (-1), 1)) rfl) rfl (v := (-1)) rfl ?_
      refine k_icmp_ne C (tgt := 46) (pc2 := 42) (dkAt dkX8_show 22 (q := (39, .if_icmp .ne 7, 3)) rfl) (by decide) rfl h (fun h => ?_) (fun h => ?_)
      · refine k_iconst C (pc2 := 47) (dkAt dkX8_show 25 (q := (46, .iconst 2, 1)) rfl) rfl (v := 2) rfl ?_
        refine k_iast C (pc2 := 48) (o := o0 + 1) (nA := 8) (isM_shelf h0) (dkAt dkX8_show 26 (q := (47, .iastore, 1)) rfl) rfl h (fun M5 h => ?_)
        refine k_aload_n C (pc2 := 49) (dkAt dkX8_show 27 (q := (48, .aload_n 0, 1)) rfl) rfl rfl 0 rfl ?_
        refine kf_X8_28 C (pc2 := 52) (o := o0) (o2 := o0 + 14) h0.1 rfl (dkAt dkX8_show 28 (q := (49, .getfield 28, 3)) rfl) rfl ?_
        refine k_iload_n C (pc2 := 53) (dkAt dkX8_show 29 (q := (52, .iload_n 1, 1)) rfl) rfl rfl 1 rfl ?_
        refine k_iload_n C (pc2 := 54) (dkAt dkX8_show 30 (q := (53, .iload_n 2, 1)) rfl) rfl rfl 2 rfl ?_
        refine k_iast C (pc2 := 55) (o := o0 + 14) (nA := 8) (isM_shown h0) (dkAt dkX8_show 31 (q := (54, .iastore, 1)) rfl) rfl h (fun M6 h => ?_)
        refine k_iconst C (pc2 := 56) (dkAt dkX8_show 32 (q := (55, .iconst 1, 1)) rfl) rfl (v := 1) rfl ?_
        exact k_iret C (dkAt dkX8_show 33 (q := (56, .ireturn, 1)) rfl) (pe2 (Option.some.inj h)) rfl (pe1 (Option.some.inj h)) rfl
      · refine k_iconst C (pc2 := 43) (dkAt dkX8_show 23 (q := (42, .iconst 0, 1)) rfl) rfl (v := 0) rfl ?_
        refine k_goto C (tgt := 47) (dkAt dkX8_show 24 (q := (43, .goto 4, 3)) rfl) (by decide) ?_
        refine k_iast C (pc2 := 48) (o := o0 + 1) (nA := 8) (isM_shelf h0) (dkAt dkX8_show 26 (q := (47, .iastore, 1)) rfl) rfl h (fun M7 h => ?_)
        refine k_aload_n C (pc2 := 49) (dkAt dkX8_show 27 (q := (48, .aload_n 0, 1)) rfl) rfl rfl 0 rfl ?_
        refine kf_X8_28 C (pc2 := 52) (o := o0) (o2 := o0 + 14) h0.1 rfl (dkAt dkX8_show 28 (q := (49, .getfield 28, 3)) rfl) rfl ?_
        refine k_iload_n C (pc2 := 53) (dkAt dkX8_show 29 (q := (52, .iload_n 1, 1)) rfl) rfl rfl 1 rfl ?_
        refine k_iload_n C (pc2 := 54) (dkAt dkX8_show 30 (q := (53, .iload_n 2, 1)) rfl) rfl rfl 2 rfl ?_
        refine k_iast C (pc2 := 55) (o := o0 + 14) (nA := 8) (isM_shown h0) (dkAt dkX8_show 31 (q := (54, .iastore, 1)) rfl) rfl h (fun M8 h => ?_)
        refine k_iconst C (pc2 := 56) (dkAt dkX8_show 32 (q := (55, .iconst 1, 1)) rfl) rfl (v := 1) rfl ?_
        exact k_iret C (dkAt dkX8_show 33 (q := (56, .ireturn, 1)) rfl) (pe2 (Option.some.inj h)) rfl (pe1 (Option.some.inj h)) rfl
    · refine k_aload_n C (pc2 := 18) (dkAt dkX8_show 9 (q := (17, .aload_n 0, 1)) rfl) rfl rfl 0 rfl ?_
      refine k_iload_n C (pc2 := 19) (dkAt dkX8_show 10 (q := (18, .iload_n 2, 1)) rfl) rfl rfl 2 rfl ?_
      obtain ⟨q9, e10, h⟩ := ob_inv h
      refine kc_V C (As := [.int x2]) (st2 := [.int q9]) (ct_X8_isOne l G sh xs o0 h0 x2 M q9 e10) (cl_X8_108 (hts_of C) ⟨Nat.le_of_ble_eq_true rfl, Nat.le_of_ble_eq_true rfl⟩ rfl rfl) h0.1 rfl rfl rfl rfl rfl (Nat.le_of_ble_eq_true rfl) (dkAt dkX8_show 11 (q := (19, .invokevirtual 108, 3)) rfl) ⟨Nat.zero_le _, Nat.zero_le _⟩ (pc2 := 22) rfl rfl ?_
      refine k_if_ne C (tgt := 32) (pc2 := 25) (dkAt dkX8_show 12 (q := (22, .ifCond .ne 10, 3)) rfl) (by decide) rfl h (fun h => ?_) (fun h => ?_)
      · refine k_aload_n C (pc2 := 33) (dkAt dkX8_show 17 (q := (32, .aload_n 0, 1)) rfl) rfl rfl 0 rfl ?_
        refine kf_X8_7 C (pc2 := 36) (o := o0) (o2 := o0 + 1) h0.1 rfl (dkAt dkX8_show 18 (q := (33, .getfield 7, 3)) rfl) rfl ?_
        refine k_iload_n C (pc2 := 37) (dkAt dkX8_show 19 (q := (36, .iload_n 1, 1)) rfl) rfl rfl 1 rfl ?_
        refine k_iload_n C (pc2 := 38) (dkAt dkX8_show 20 (q := (37, .iload_n 2, 1)) rfl) rfl rfl 2 rfl ?_
        refine k_iconst C (pc2 := 39) (dkAt dkX8_show 21 (q := (38, .iconst (-1), 1)) rfl) rfl (v := (-1)) rfl ?_
        refine k_icmp_ne C (tgt := 46) (pc2 := 42) (dkAt dkX8_show 22 (q := (39, .if_icmp .ne 7, 3)) rfl) (by decide) rfl h (fun h => ?_) (fun h => ?_)
        · refine k_iconst C (pc2 := 47) (dkAt dkX8_show 25 (q := (46, .iconst 2, 1)) rfl) rfl (v := 2) rfl ?_
          refine k_iast C (pc2 := 48) (o := o0 + 1) (nA := 8) (isM_shelf h0) (dkAt dkX8_show 26 (q := (47, .iastore, 1)) rfl) rfl h (fun M11 h => ?_)
          refine k_aload_n C (pc2 := 49) (dkAt dkX8_show 27 (q := (48, .aload_n 0, 1)) rfl) rfl rfl 0 rfl ?_
          refine kf_X8_28 C (pc2 := 52) (o := o0) (o2 := o0 + 14) h0.1 rfl (dkAt dkX8_show 28 (q := (49, .getfield 28, 3)) rfl) rfl ?_
          refine k_iload_n C (pc2 := 53) (dkAt dkX8_show 29 (q := (52, .iload_n 1, 1)) rfl) rfl rfl 1 rfl ?_
          refine k_iload_n C (pc2 := 54) (dkAt dkX8_show 30 (q := (53, .iload_n 2, 1)) rfl) rfl rfl 2 rfl ?_
          refine k_iast C (pc2 := 55) (o := o0 + 14) (nA := 8) (isM_shown h0) (dkAt dkX8_show 31 (q := (54, .iastore, 1)) rfl) rfl h (fun M12 h => ?_)
          refine k_iconst C (pc2 := 56) (dkAt dkX8_show 32 (q := (55, .iconst 1, 1)) rfl) rfl (v := 1) rfl ?_
          exact k_iret C (dkAt dkX8_show 33 (q := (56, .ireturn, 1)) rfl) (pe2 (Option.some.inj h)) rfl (pe1 (Option.some.inj h)) rfl
        · refine k_iconst C (pc2 := 43) (dkAt dkX8_show 23 (q := (42, .iconst 0, 1)) rfl) rfl (v := 0) rfl ?_
          refine k_goto C (tgt := 47) (dkAt dkX8_show 24 (q := (43, .goto 4, 3)) rfl) (by decide) ?_
          refine k_iast C (pc2 := 48) (o := o0 + 1) (nA := 8) (isM_shelf h0) (dkAt dkX8_show 26 (q := (47, .iastore, 1)) rfl) rfl h (fun M13 h => ?_)
          refine k_aload_n C (pc2 := 49) (dkAt dkX8_show 27 (q := (48, .aload_n 0, 1)) rfl) rfl rfl 0 rfl ?_
          refine kf_X8_28 C (pc2 := 52) (o := o0) (o2 := o0 + 14) h0.1 rfl (dkAt dkX8_show 28 (q := (49, .getfield 28, 3)) rfl) rfl ?_
          refine k_iload_n C (pc2 := 53) (dkAt dkX8_show 29 (q := (52, .iload_n 1, 1)) rfl) rfl rfl 1 rfl ?_
          refine k_iload_n C (pc2 := 54) (dkAt dkX8_show 30 (q := (53, .iload_n 2, 1)) rfl) rfl rfl 2 rfl ?_
          refine k_iast C (pc2 := 55) (o := o0 + 14) (nA := 8) (isM_shown h0) (dkAt dkX8_show 31 (q := (54, .iastore, 1)) rfl) rfl h (fun M14 h => ?_)
          refine k_iconst C (pc2 := 56) (dkAt dkX8_show 32 (q := (55, .iconst 1, 1)) rfl) rfl (v := 1) rfl ?_
          exact k_iret C (dkAt dkX8_show 33 (q := (56, .ireturn, 1)) rfl) (pe2 (Option.some.inj h)) rfl (pe1 (Option.some.inj h)) rfl
      · refine k_aload_n C (pc2 := 26) (dkAt dkX8_show 13 (q := (25, .aload_n 0, 1)) rfl) rfl rfl 0 rfl ?_
        refine k_bipush C (pc2 := 28) (dkAt dkX8_show 14 (q := (26, .bipush (-2), 2)) rfl) rfl (v := (-2)) rfl ?_
        obtain ⟨q15, e16, h⟩ := ob_inv h
        refine kc_V C (As := [.int (-2)]) (st2 := [.int q15.2]) (ct_X8_refuse l G sh xs o0 h0 (-2) M q15 e16) (cl_X8_97 (hts_of C) ⟨Nat.le_of_ble_eq_true rfl, Nat.le_of_ble_eq_true rfl⟩ rfl rfl) h0.1 rfl rfl rfl rfl rfl (Nat.le_of_ble_eq_true rfl) (dkAt dkX8_show 15 (q := (28, .invokevirtual 97, 3)) rfl) ⟨Nat.zero_le _, Nat.zero_le _⟩ (pc2 := 31) rfl rfl ?_
        exact k_iret C (dkAt dkX8_show 16 (q := (31, .ireturn, 1)) rfl) (pe2 (Option.some.inj h)) rfl (pe1 (Option.some.inj h)) rfl
set_option maxRecDepth 100000 in
set_option maxHeartbeats 4000000 in
theorem ct_X8_isUnder (l : Launch) (G : GG) (sh : Sh) (xs : List va_E) (x0 : Int32) (x1 : Int32) (M : Mm) (r : Int32) (h : f_X8_isUnder x0 x1 = some r) : Ct l yX8_isUnder cX8_isUnder 2 (some .boolean) rm_X8_isUnder G [.int x0, .int x1] sh M xs (some (.int r)) sh M xs 0 0 := by
  refine ct_of (by decide) (Nat.le_of_ble_eq_true rfl) ?_
  intro p e s m args below meth c hnm C
  refine k_lv [0, 1] (lv2 := [(0, .int x0), (1, .int x1)]) rfl ?_
  unfold f_X8_isUnder at h
  refine k_iload_n C (pc2 := 1) (dkAt dkX8_isUnder 0 (q := (0, .iload_n 1, 1)) rfl) rfl rfl 1 rfl ?_
  refine k_if_eq C (tgt := 29) (pc2 := 4) (dkAt dkX8_isUnder 1 (q := (1, .ifCond .eq 28, 3)) rfl) (by decide) rfl h (fun h => ?_) (fun h => ?_)
  · refine k_iconst C (pc2 := 30) (dkAt dkX8_isUnder 17 (q := (29, .iconst 1, 1)) rfl) rfl (v := 1) rfl ?_
    refine k_goto C (tgt := 34) (dkAt dkX8_isUnder 18 (q := (30, .goto 4, 3)) rfl) (by decide) ?_
    exact k_zret C (dkAt dkX8_isUnder 20 (q := (34, .ireturn, 1)) rfl) rfl (Option.some.inj h) rfl rfl rfl
  · refine k_iload_n C (pc2 := 5) (dkAt dkX8_isUnder 2 (q := (4, .iload_n 0, 1)) rfl) rfl rfl 0 rfl ?_
    refine k_iload_n C (pc2 := 6) (dkAt dkX8_isUnder 3 (q := (5, .iload_n 1, 1)) rfl) rfl rfl 1 rfl ?_
    refine k_icmp_eq C (tgt := 29) (pc2 := 9) (dkAt dkX8_isUnder 4 (q := (6, .if_icmp .eq 23, 3)) rfl) (by decide) rfl h (fun h => ?_) (fun h => ?_)
    · refine k_iconst C (pc2 := 30) (dkAt dkX8_isUnder 17 (q := (29, .iconst 1, 1)) rfl) rfl (v := 1) rfl ?_
      refine k_goto C (tgt := 34) (dkAt dkX8_isUnder 18 (q := (30, .goto 4, 3)) rfl) (by decide) ?_
      exact k_zret C (dkAt dkX8_isUnder 20 (q := (34, .ireturn, 1)) rfl) rfl (Option.some.inj h) rfl rfl rfl
    · refine k_iload_n C (pc2 := 10) (dkAt dkX8_isUnder 5 (q := (9, .iload_n 1, 1)) rfl) rfl rfl 1 rfl ?_
      refine k_iconst C (pc2 := 11) (dkAt dkX8_isUnder 6 (q := (10, .iconst 1, 1)) rfl) rfl (v := 1) rfl ?_
      refine k_icmp_ne C (tgt := 19) (pc2 := 14) (dkAt dkX8_isUnder 7 (q := (11, .if_icmp .ne 8, 3)) rfl) (by decide) rfl h (fun h => ?_) (fun h => ?_)
      · refine k_iload_n C (pc2 := 20) (dkAt dkX8_isUnder 11 (q := (19, .iload_n 1, 1)) rfl) rfl rfl 1 rfl ?_
        refine k_iconst C (pc2 := 21) (dkAt dkX8_isUnder 12 (q := (20, .iconst 2, 1)) rfl) rfl (v := 2) rfl ?_
        refine k_icmp_ne C (tgt := 33) (pc2 := 24) (dkAt dkX8_isUnder 13 (q := (21, .if_icmp .ne 12, 3)) rfl) (by decide) rfl h (fun h => ?_) (fun h => ?_)
        · refine k_iconst C (pc2 := 34) (dkAt dkX8_isUnder 19 (q := (33, .iconst 0, 1)) rfl) rfl (v := 0) rfl ?_
          exact k_zret C (dkAt dkX8_isUnder 20 (q := (34, .ireturn, 1)) rfl) rfl (Option.some.inj h) rfl rfl rfl
        · refine k_iload_n C (pc2 := 25) (dkAt dkX8_isUnder 14 (q := (24, .iload_n 0, 1)) rfl) rfl rfl 0 rfl ?_
          refine k_iconst C (pc2 := 26) (dkAt dkX8_isUnder 15 (q := (25, .iconst 4, 1)) rfl) rfl (v := 4) rfl ?_
          refine k_icmp_ne C (tgt := 33) (pc2 := 29) (dkAt dkX8_isUnder 16 (q := (26, .if_icmp .ne 7, 3)) rfl) (by decide) rfl h (fun h => ?_) (fun h => ?_)
          · refine k_iconst C (pc2 := 34) (dkAt dkX8_isUnder 19 (q := (33, .iconst 0, 1)) rfl) rfl (v := 0) rfl ?_
            exact k_zret C (dkAt dkX8_isUnder 20 (q := (34, .ireturn, 1)) rfl) rfl (Option.some.inj h) rfl rfl rfl
          · refine k_iconst C (pc2 := 30) (dkAt dkX8_isUnder 17 (q := (29, .iconst 1, 1)) rfl) rfl (v := 1) rfl ?_
            refine k_goto C (tgt := 34) (dkAt dkX8_isUnder 18 (q := (30, .goto 4, 3)) rfl) (by decide) ?_
            exact k_zret C (dkAt dkX8_isUnder 20 (q := (34, .ireturn, 1)) rfl) rfl (Option.some.inj h) rfl rfl rfl
      · refine k_iload_n C (pc2 := 15) (dkAt dkX8_isUnder 8 (q := (14, .iload_n 0, 1)) rfl) rfl rfl 0 rfl ?_
        refine k_iconst C (pc2 := 16) (dkAt dkX8_isUnder 9 (q := (15, .iconst 3, 1)) rfl) rfl (v := 3) rfl ?_
        refine k_icmp_eq C (tgt := 29) (pc2 := 19) (dkAt dkX8_isUnder 10 (q := (16, .if_icmp .eq 13, 3)) rfl) (by decide) rfl h (fun h => ?_) (fun h => ?_)
        · refine k_iconst C (pc2 := 30) (dkAt dkX8_isUnder 17 (q := (29, .iconst 1, 1)) rfl) rfl (v := 1) rfl ?_
          refine k_goto C (tgt := 34) (dkAt dkX8_isUnder 18 (q := (30, .goto 4, 3)) rfl) (by decide) ?_
          exact k_zret C (dkAt dkX8_isUnder 20 (q := (34, .ireturn, 1)) rfl) rfl (Option.some.inj h) rfl rfl rfl
        · refine k_iload_n C (pc2 := 20) (dkAt dkX8_isUnder 11 (q := (19, .iload_n 1, 1)) rfl) rfl rfl 1 rfl ?_
          refine k_iconst C (pc2 := 21) (dkAt dkX8_isUnder 12 (q := (20, .iconst 2, 1)) rfl) rfl (v := 2) rfl ?_
          refine k_icmp_ne C (tgt := 33) (pc2 := 24) (dkAt dkX8_isUnder 13 (q := (21, .if_icmp .ne 12, 3)) rfl) (by decide) rfl h (fun h => ?_) (fun h => ?_)
          · refine k_iconst C (pc2 := 34) (dkAt dkX8_isUnder 19 (q := (33, .iconst 0, 1)) rfl) rfl (v := 0) rfl ?_
            exact k_zret C (dkAt dkX8_isUnder 20 (q := (34, .ireturn, 1)) rfl) rfl (Option.some.inj h) rfl rfl rfl
          · refine k_iload_n C (pc2 := 25) (dkAt dkX8_isUnder 14 (q := (24, .iload_n 0, 1)) rfl) rfl rfl 0 rfl ?_
            refine k_iconst C (pc2 := 26) (dkAt dkX8_isUnder 15 (q := (25, .iconst 4, 1)) rfl) rfl (v := 4) rfl ?_
            refine k_icmp_ne C (tgt := 33) (pc2 := 29) (dkAt dkX8_isUnder 16 (q := (26, .if_icmp .ne 7, 3)) rfl) (by decide) rfl h (fun h => ?_) (fun h => ?_)
            · refine k_iconst C (pc2 := 34) (dkAt dkX8_isUnder 19 (q := (33, .iconst 0, 1)) rfl) rfl (v := 0) rfl ?_
              exact k_zret C (dkAt dkX8_isUnder 20 (q := (34, .ireturn, 1)) rfl) rfl (Option.some.inj h) rfl rfl rfl
            · refine k_iconst C (pc2 := 30) (dkAt dkX8_isUnder 17 (q := (29, .iconst 1, 1)) rfl) rfl (v := 1) rfl ?_
              refine k_goto C (tgt := 34) (dkAt dkX8_isUnder 18 (q := (30, .goto 4, 3)) rfl) (by decide) ?_
              exact k_zret C (dkAt dkX8_isUnder 20 (q := (34, .ireturn, 1)) rfl) rfl (Option.some.inj h) rfl rfl rfl
set_option maxRecDepth 100000 in
set_option maxHeartbeats 4000000 in
theorem ct_X8_says (l : Launch) (G : GG) (sh : Sh) (xs : List va_E) (o0 : Nat) (h0 : isM sh o0) (x1 : Int32) (x2 : Int32) (M : Mm) (r : Mm × Int32) (h : f_X8_says o0 x1 x2 M = some r) : Ct l yX8_says cX8_says 4 (some .int) rm_X8_says G [rA G o0, .int x1, .int x2] sh M xs (some (.int r.2)) sh r.1 xs 0 0 := by
  refine ct_of (by decide) (Nat.le_of_ble_eq_true rfl) ?_
  intro p e s m args below meth c hnm C
  refine k_lv [0, 1, 2] (lv2 := [(0, rA G o0), (1, .int x1), (2, .int x2)]) rfl ?_
  unfold f_X8_says at h
  refine k_iload_n C (pc2 := 1) (dkAt dkX8_says 0 (q := (0, .iload_n 1, 1)) rfl) rfl rfl 1 rfl ?_
  refine k_i2l C (pc2 := 2) (dkAt dkX8_says 1 (q := (1, .i2l, 1)) rfl) rfl ?_
  refine k_lconst C (pc2 := 3) (dkAt dkX8_says 2 (q := (2, .lconst 0, 1)) rfl) rfl (v := 0) rfl ?_
  refine k_ldc2 C (pc2 := 6) (dkAt dkX8_says 3 (q := (3, .ldc2_w 91, 3)) rfl) rfl (v := 7) tL_X8_91 ?_
  obtain ⟨q1, e2, h⟩ := ob_inv h
  refine kc_S C (As := [.long x1.toInt64, .long 0, .long 7]) (st2 := [.int q1]) (ct_X8_in l G sh xs x1.toInt64 0 7 M q1 e2) (cl_X8_85 (hts_of C) ⟨Nat.le_of_ble_eq_true rfl, Nat.le_of_ble_eq_true rfl⟩ rfl rfl) rfl rfl (Nat.le_of_ble_eq_true rfl) (dkAt dkX8_says 4 (q := (6, .invokestatic 85, 3)) rfl) ⟨Nat.zero_le _, Nat.zero_le _⟩ (pc2 := 9) rfl rfl ?_
  refine k_if_eq C (tgt := 24) (pc2 := 12) (dkAt dkX8_says 5 (q := (9, .ifCond .eq 15, 3)) rfl) (by decide) rfl h (fun h => ?_) (fun h => ?_)
  · refine k_aload_n C (pc2 := 25) (dkAt dkX8_says 12 (q := (24, .aload_n 0, 1)) rfl) rfl rfl 0 rfl ?_
    refine k_bipush C (pc2 := 27) (dkAt dkX8_says 13 (q := (25, .bipush (-2), 2)) rfl) rfl (v := (-2)) rfl ?_
    obtain ⟨q3, e4, h⟩ := ob_inv h
    refine kc_V C (As := [.int (-2)]) (st2 := [.int q3.2]) (ct_X8_refuse l G sh xs o0 h0 (-2) M q3 e4) (cl_X8_97 (hts_of C) ⟨Nat.le_of_ble_eq_true rfl, Nat.le_of_ble_eq_true rfl⟩ rfl rfl) h0.1 rfl rfl rfl rfl rfl (Nat.le_of_ble_eq_true rfl) (dkAt dkX8_says 14 (q := (27, .invokevirtual 97, 3)) rfl) ⟨Nat.zero_le _, Nat.zero_le _⟩ (pc2 := 30) rfl rfl ?_
    exact k_iret C (dkAt dkX8_says 15 (q := (30, .ireturn, 1)) rfl) (pe2 (Option.some.inj h)) rfl (pe1 (Option.some.inj h)) rfl
  · refine k_iload_n C (pc2 := 13) (dkAt dkX8_says 6 (q := (12, .iload_n 2, 1)) rfl) rfl rfl 2 rfl ?_
    refine k_i2l C (pc2 := 14) (dkAt dkX8_says 7 (q := (13, .i2l, 1)) rfl) rfl ?_
    refine k_lconst C (pc2 := 15) (dkAt dkX8_says 8 (q := (14, .lconst 0, 1)) rfl) rfl (v := 0) rfl ?_
    refine k_ldc2 C (pc2 := 18) (dkAt dkX8_says 9 (q := (15, .ldc2_w 112, 3)) rfl) rfl (v := 5) tL_X8_112 ?_
    obtain ⟨q5, e6, h⟩ := ob_inv h
    refine kc_S C (As := [.long x2.toInt64, .long 0, .long 5]) (st2 := [.int q5]) (ct_X8_in l G sh xs x2.toInt64 0 5 M q5 e6) (cl_X8_85 (hts_of C) ⟨Nat.le_of_ble_eq_true rfl, Nat.le_of_ble_eq_true rfl⟩ rfl rfl) rfl rfl (Nat.le_of_ble_eq_true rfl) (dkAt dkX8_says 10 (q := (18, .invokestatic 85, 3)) rfl) ⟨Nat.zero_le _, Nat.zero_le _⟩ (pc2 := 21) rfl rfl ?_
    refine k_if_ne C (tgt := 31) (pc2 := 24) (dkAt dkX8_says 11 (q := (21, .ifCond .ne 10, 3)) rfl) (by decide) rfl h (fun h => ?_) (fun h => ?_)
    · refine k_aload_n C (pc2 := 32) (dkAt dkX8_says 16 (q := (31, .aload_n 0, 1)) rfl) rfl rfl 0 rfl ?_
      refine kf_X8_7 C (pc2 := 35) (o := o0) (o2 := o0 + 1) h0.1 rfl (dkAt dkX8_says 17 (q := (32, .getfield 7, 3)) rfl) rfl ?_
      refine k_iload_n C (pc2 := 36) (dkAt dkX8_says 18 (q := (35, .iload_n 1, 1)) rfl) rfl rfl 1 rfl ?_
      refine k_iald C (pc2 := 37) (o := o0 + 1) (nA := 8) (isM_shelf h0) (dkAt dkX8_says 19 (q := (36, .iaload, 1)) rfl) rfl h (fun h => ?_)
      refine k_iconst C (pc2 := 38) (dkAt dkX8_says 20 (q := (37, .iconst 1, 1)) rfl) rfl (v := 1) rfl ?_
      refine k_icmp_eq C (tgt := 69) (pc2 := 41) (dkAt dkX8_says 21 (q := (38, .if_icmp .eq 31, 3)) rfl) (by decide) rfl h (fun h => ?_) (fun h => ?_)
      · refine k_aload_n C (pc2 := 70) (dkAt dkX8_says 38 (q := (69, .aload_n 0, 1)) rfl) rfl rfl 0 rfl ?_
        refine k_bipush C (pc2 := 72) (dkAt dkX8_says 39 (q := (70, .bipush (-3), 2)) rfl) rfl (v := (-3)) rfl ?_
        obtain ⟨q7, e8, h⟩ := ob_inv h
        refine kc_V C (As := [.int (-3)]) (st2 := [.int q7.2]) (ct_X8_refuse l G sh xs o0 h0 (-3) M q7 e8) (cl_X8_97 (hts_of C) ⟨Nat.le_of_ble_eq_true rfl, Nat.le_of_ble_eq_true rfl⟩ rfl rfl) h0.1 rfl rfl rfl rfl rfl (Nat.le_of_ble_eq_true rfl) (dkAt dkX8_says 40 (q := (72, .invokevirtual 97, 3)) rfl) ⟨Nat.zero_le _, Nat.zero_le _⟩ (pc2 := 75) rfl rfl ?_
        exact k_iret C (dkAt dkX8_says 41 (q := (75, .ireturn, 1)) rfl) (pe2 (Option.some.inj h)) rfl (pe1 (Option.some.inj h)) rfl
      · refine k_aload_n C (pc2 := 42) (dkAt dkX8_says 22 (q := (41, .aload_n 0, 1)) rfl) rfl rfl 0 rfl ?_
        refine kf_X8_7 C (pc2 := 45) (o := o0) (o2 := o0 + 1) h0.1 rfl (dkAt dkX8_says 23 (q := (42, .getfield 7, 3)) rfl) rfl ?_
        refine k_iload_n C (pc2 := 46) (dkAt dkX8_says 24 (q := (45, .iload_n 1, 1)) rfl) rfl rfl 1 rfl ?_
        refine k_iald C (pc2 := 47) (o := o0 + 1) (nA := 8) (isM_shelf h0) (dkAt dkX8_says 25 (q := (46, .iaload, 1)) rfl) rfl h (fun h => ?_)
        refine k_iconst C (pc2 := 48) (dkAt dkX8_says 26 (q := (47, .iconst 2, 1)) rfl) rfl (v := 2) rfl ?_
        refine k_icmp_ne C (tgt := 76) (pc2 := 51) (dkAt dkX8_says 27 (q := (48, .if_icmp .ne 28, 3)) rfl) (by decide) rfl h (fun h => ?_) (fun h => ?_)
        · refine k_aload_n C (pc2 := 77) (dkAt dkX8_says 42 (q := (76, .aload_n 0, 1)) rfl) rfl rfl 0 rfl ?_
          refine kf_X8_7 C (pc2 := 80) (o := o0) (o2 := o0 + 1) h0.1 rfl (dkAt dkX8_says 43 (q := (77, .getfield 7, 3)) rfl) rfl ?_
          refine k_iload_n C (pc2 := 81) (dkAt dkX8_says 44 (q := (80, .iload_n 1, 1)) rfl) rfl rfl 1 rfl ?_
          refine k_iald C (pc2 := 82) (o := o0 + 1) (nA := 8) (isM_shelf h0) (dkAt dkX8_says 45 (q := (81, .iaload, 1)) rfl) rfl h (fun h => ?_)
          refine k_if_ne C (tgt := 92) (pc2 := 85) (dkAt dkX8_says 46 (q := (82, .ifCond .ne 10, 3)) rfl) (by decide) rfl h (fun h => ?_) (fun h => ?_)
          · refine k_aload_n C (pc2 := 93) (dkAt dkX8_says 51 (q := (92, .aload_n 0, 1)) rfl) rfl rfl 0 rfl ?_
            refine kf_X8_28 C (pc2 := 96) (o := o0) (o2 := o0 + 14) h0.1 rfl (dkAt dkX8_says 52 (q := (93, .getfield 28, 3)) rfl) rfl ?_
            refine k_iload_n C (pc2 := 97) (dkAt dkX8_says 53 (q := (96, .iload_n 1, 1)) rfl) rfl rfl 1 rfl ?_
            refine k_iald C (pc2 := 98) (o := o0 + 14) (nA := 8) (isM_shown h0) (dkAt dkX8_says 54 (q := (97, .iaload, 1)) rfl) rfl h (fun h => ?_)
            refine kb_istore_n C (pc2 := 99) (dkAt dkX8_says 55 (q := (98, .istore_n 3, 1)) rfl) rfl rfl (by decide) (lv2 := fun v9 => [(3, .int v9), (0, rA G o0), (1, .int x1), (2, .int x2)]) (fun _ => rfl) h (fun v9 h => ?_)
            refine k_iload_n C (pc2 := 100) (dkAt dkX8_says 56 (q := (99, .iload_n 2, 1)) rfl) rfl rfl 3 rfl ?_
            refine k_if_ne C (tgt := 115) (pc2 := 103) (dkAt dkX8_says 57 (q := (100, .ifCond .ne 15, 3)) rfl) (by decide) rfl h (fun h => ?_) (fun h => ?_)
            · refine k_iload_n C (pc2 := 116) (dkAt dkX8_says 64 (q := (115, .iload_n 2, 1)) rfl) rfl rfl 3 rfl ?_
              refine k_iconst C (pc2 := 117) (dkAt dkX8_says 65 (q := (116, .iconst 1, 1)) rfl) rfl (v := 1) rfl ?_
              refine k_icmp_eq C (tgt := 125) (pc2 := 120) (dkAt dkX8_says 66 (q := (117, .if_icmp .eq 8, 3)) rfl) (by decide) rfl h (fun h => ?_) (fun h => ?_)
              · refine k_aload_n C (pc2 := 126) (dkAt dkX8_says 70 (q := (125, .aload_n 0, 1)) rfl) rfl rfl 1 rfl ?_
                refine kf_X8_47 C (pc2 := 129) (o := o0) (o2 := o0 + 19) h0.1 rfl (dkAt dkX8_says 71 (q := (126, .getfield 47, 3)) rfl) rfl ?_
                refine k_iload_n C (pc2 := 130) (dkAt dkX8_says 72 (q := (129, .iload_n 3, 1)) rfl) rfl rfl 0 rfl ?_
                refine k_iald C (pc2 := 131) (o := o0 + 19) (nA := 8) (isM_likely h0) (dkAt dkX8_says 73 (q := (130, .iaload, 1)) rfl) rfl h (fun h => ?_)
                refine k_goto C (tgt := 140) (dkAt dkX8_says 74 (q := (131, .goto 9, 3)) rfl) (by decide) ?_
                exact k_iret C (dkAt dkX8_says 79 (q := (140, .ireturn, 1)) rfl) (pe2 (Option.some.inj h)) rfl (pe1 (Option.some.inj h)) rfl
              · refine k_iload_n C (pc2 := 121) (dkAt dkX8_says 67 (q := (120, .iload_n 2, 1)) rfl) rfl rfl 3 rfl ?_
                refine k_iconst C (pc2 := 122) (dkAt dkX8_says 68 (q := (121, .iconst 3, 1)) rfl) rfl (v := 3) rfl ?_
                refine k_icmp_ne C (tgt := 134) (pc2 := 125) (dkAt dkX8_says 69 (q := (122, .if_icmp .ne 12, 3)) rfl) (by decide) rfl h (fun h => ?_) (fun h => ?_)
                · refine k_aload_n C (pc2 := 135) (dkAt dkX8_says 75 (q := (134, .aload_n 0, 1)) rfl) rfl rfl 1 rfl ?_
                  refine kf_X8_44 C (pc2 := 138) (o := o0) (o2 := o0 + 18) h0.1 rfl (dkAt dkX8_says 76 (q := (135, .getfield 44, 3)) rfl) rfl ?_
                  refine k_iload_n C (pc2 := 139) (dkAt dkX8_says 77 (q := (138, .iload_n 3, 1)) rfl) rfl rfl 0 rfl ?_
                  refine k_iald C (pc2 := 140) (o := o0 + 18) (nA := 8) (isM_by h0) (dkAt dkX8_says 78 (q := (139, .iaload, 1)) rfl) rfl h (fun h => ?_)
                  exact k_iret C (dkAt dkX8_says 79 (q := (140, .ireturn, 1)) rfl) (pe2 (Option.some.inj h)) rfl (pe1 (Option.some.inj h)) rfl
                · refine k_aload_n C (pc2 := 126) (dkAt dkX8_says 70 (q := (125, .aload_n 0, 1)) rfl) rfl rfl 1 rfl ?_
                  refine kf_X8_47 C (pc2 := 129) (o := o0) (o2 := o0 + 19) h0.1 rfl (dkAt dkX8_says 71 (q := (126, .getfield 47, 3)) rfl) rfl ?_
                  refine k_iload_n C (pc2 := 130) (dkAt dkX8_says 72 (q := (129, .iload_n 3, 1)) rfl) rfl rfl 0 rfl ?_
                  refine k_iald C (pc2 := 131) (o := o0 + 19) (nA := 8) (isM_likely h0) (dkAt dkX8_says 73 (q := (130, .iaload, 1)) rfl) rfl h (fun h => ?_)
                  refine k_goto C (tgt := 140) (dkAt dkX8_says 74 (q := (131, .goto 9, 3)) rfl) (by decide) ?_
                  exact k_iret C (dkAt dkX8_says 79 (q := (140, .ireturn, 1)) rfl) (pe2 (Option.some.inj h)) rfl (pe1 (Option.some.inj h)) rfl
            · refine k_aload_n C (pc2 := 104) (dkAt dkX8_says 58 (q := (103, .aload_n 0, 1)) rfl) rfl rfl 1 rfl ?_
              refine kf_X8_50 C (pc2 := 107) (o := o0) (o2 := o0 + 20) h0.1 rfl (dkAt dkX8_says 59 (q := (104, .getfield 50, 3)) rfl) rfl ?_
              refine k_iload_n C (pc2 := 108) (dkAt dkX8_says 60 (q := (107, .iload_n 3, 1)) rfl) rfl rfl 0 rfl ?_
              refine k_iald C (pc2 := 109) (o := o0 + 20) (nA := 8) (isM_can h0) (dkAt dkX8_says 61 (q := (108, .iaload, 1)) rfl) rfl h (fun h => ?_)
              obtain ⟨q10, e11, h⟩ := ob_inv h
              refine kc_S C (As := [.int (M.1 (o0 + 20) v9.toNatClampNeg)]) (st2 := [.int q10]) (ct_X8_bits l G sh xs (M.1 (o0 + 20) v9.toNatClampNeg) M q10 e11) (cl_X8_118 (hts_of C) ⟨Nat.le_of_ble_eq_true rfl, Nat.le_of_ble_eq_true rfl⟩ rfl rfl) rfl rfl (Nat.le_of_ble_eq_true rfl) (dkAt dkX8_says 62 (q := (109, .invokestatic 118, 3)) rfl) ⟨Nat.zero_le _, Nat.zero_le _⟩ (pc2 := 112) rfl rfl ?_
              refine k_goto C (tgt := 140) (dkAt dkX8_says 63 (q := (112, .goto 28, 3)) rfl) (by decide) ?_
              exact k_iret C (dkAt dkX8_says 79 (q := (140, .ireturn, 1)) rfl) (pe2 (Option.some.inj h)) rfl (pe1 (Option.some.inj h)) rfl
          · refine k_aload_n C (pc2 := 86) (dkAt dkX8_says 47 (q := (85, .aload_n 0, 1)) rfl) rfl rfl 0 rfl ?_
            refine k_bipush C (pc2 := 88) (dkAt dkX8_says 48 (q := (86, .bipush (-4), 2)) rfl) rfl (v := (-4)) rfl ?_
            obtain ⟨q12, e13, h⟩ := ob_inv h
            refine kc_V C (As := [.int (-4)]) (st2 := [.int q12.2]) (ct_X8_refuse l G sh xs o0 h0 (-4) M q12 e13) (cl_X8_97 (hts_of C) ⟨Nat.le_of_ble_eq_true rfl, Nat.le_of_ble_eq_true rfl⟩ rfl rfl) h0.1 rfl rfl rfl rfl rfl (Nat.le_of_ble_eq_true rfl) (dkAt dkX8_says 49 (q := (88, .invokevirtual 97, 3)) rfl) ⟨Nat.zero_le _, Nat.zero_le _⟩ (pc2 := 91) rfl rfl ?_
            exact k_iret C (dkAt dkX8_says 50 (q := (91, .ireturn, 1)) rfl) (pe2 (Option.some.inj h)) rfl (pe1 (Option.some.inj h)) rfl
        · refine k_aload_n C (pc2 := 52) (dkAt dkX8_says 28 (q := (51, .aload_n 0, 1)) rfl) rfl rfl 0 rfl ?_
          refine kf_X8_41 C (pc2 := 55) (o := o0) (o2 := o0 + 17) h0.1 rfl (dkAt dkX8_says 29 (q := (52, .getfield 41, 3)) rfl) rfl ?_
          refine k_aload_n C (pc2 := 56) (dkAt dkX8_says 30 (q := (55, .aload_n 0, 1)) rfl) rfl rfl 0 rfl ?_
          refine kf_X8_28 C (pc2 := 59) (o := o0) (o2 := o0 + 14) h0.1 rfl (dkAt dkX8_says 31 (q := (56, .getfield 28, 3)) rfl) rfl ?_
          refine k_iload_n C (pc2 := 60) (dkAt dkX8_says 32 (q := (59, .iload_n 1, 1)) rfl) rfl rfl 1 rfl ?_
          refine k_iald C (pc2 := 61) (o := o0 + 14) (nA := 8) (isM_shown h0) (dkAt dkX8_says 33 (q := (60, .iaload, 1)) rfl) rfl h (fun h => ?_)
          refine k_iald C (pc2 := 62) (o := o0 + 17) (nA := 8) (isM_kind h0) (dkAt dkX8_says 34 (q := (61, .iaload, 1)) rfl) rfl h (fun h => ?_)
          refine k_iload_n C (pc2 := 63) (dkAt dkX8_says 35 (q := (62, .iload_n 2, 1)) rfl) rfl rfl 2 rfl ?_
          obtain ⟨q14, e15, h⟩ := ob_inv h
          refine kc_S C (As := [.int (M.1 (o0 + 17) (M.1 (o0 + 14) x1.toNatClampNeg).toNatClampNeg), .int x2]) (st2 := [.int q14]) (ct_X8_isUnder l G sh xs (M.1 (o0 + 17) (M.1 (o0 + 14) x1.toNatClampNeg).toNatClampNeg) x2 M q14 e15) (cl_X8_114 (hts_of C) ⟨Nat.le_of_ble_eq_true rfl, Nat.le_of_ble_eq_true rfl⟩ rfl rfl) rfl rfl (Nat.le_of_ble_eq_true rfl) (dkAt dkX8_says 36 (q := (63, .invokestatic 114, 3)) rfl) ⟨Nat.zero_le _, Nat.zero_le _⟩ (pc2 := 66) rfl rfl ?_
          refine k_if_ne C (tgt := 76) (pc2 := 69) (dkAt dkX8_says 37 (q := (66, .ifCond .ne 10, 3)) rfl) (by decide) rfl h (fun h => ?_) (fun h => ?_)
          · refine k_aload_n C (pc2 := 77) (dkAt dkX8_says 42 (q := (76, .aload_n 0, 1)) rfl) rfl rfl 0 rfl ?_
            refine kf_X8_7 C (pc2 := 80) (o := o0) (o2 := o0 + 1) h0.1 rfl (dkAt dkX8_says 43 (q := (77, .getfield 7, 3)) rfl) rfl ?_
            refine k_iload_n C (pc2 := 81) (dkAt dkX8_says 44 (q := (80, .iload_n 1, 1)) rfl) rfl rfl 1 rfl ?_
            refine k_iald C (pc2 := 82) (o := o0 + 1) (nA := 8) (isM_shelf h0) (dkAt dkX8_says 45 (q := (81, .iaload, 1)) rfl) rfl h (fun h => ?_)
            refine k_if_ne C (tgt := 92) (pc2 := 85) (dkAt dkX8_says 46 (q := (82, .ifCond .ne 10, 3)) rfl) (by decide) rfl h (fun h => ?_) (fun h => ?_)
            · refine k_aload_n C (pc2 := 93) (dkAt dkX8_says 51 (q := (92, .aload_n 0, 1)) rfl) rfl rfl 0 rfl ?_
              refine kf_X8_28 C (pc2 := 96) (o := o0) (o2 := o0 + 14) h0.1 rfl (dkAt dkX8_says 52 (q := (93, .getfield 28, 3)) rfl) rfl ?_
              refine k_iload_n C (pc2 := 97) (dkAt dkX8_says 53 (q := (96, .iload_n 1, 1)) rfl) rfl rfl 1 rfl ?_
              refine k_iald C (pc2 := 98) (o := o0 + 14) (nA := 8) (isM_shown h0) (dkAt dkX8_says 54 (q := (97, .iaload, 1)) rfl) rfl h (fun h => ?_)
              refine kb_istore_n C (pc2 := 99) (dkAt dkX8_says 55 (q := (98, .istore_n 3, 1)) rfl) rfl rfl (by decide) (lv2 := fun v16 => [(3, .int v16), (0, rA G o0), (1, .int x1), (2, .int x2)]) (fun _ => rfl) h (fun v16 h => ?_)
              refine k_iload_n C (pc2 := 100) (dkAt dkX8_says 56 (q := (99, .iload_n 2, 1)) rfl) rfl rfl 3 rfl ?_
              refine k_if_ne C (tgt := 115) (pc2 := 103) (dkAt dkX8_says 57 (q := (100, .ifCond .ne 15, 3)) rfl) (by decide) rfl h (fun h => ?_) (fun h => ?_)
              · refine k_iload_n C (pc2 := 116) (dkAt dkX8_says 64 (q := (115, .iload_n 2, 1)) rfl) rfl rfl 3 rfl ?_
                refine k_iconst C (pc2 := 117) (dkAt dkX8_says 65 (q := (116, .iconst 1, 1)) rfl) rfl (v := 1) rfl ?_
                refine k_icmp_eq C (tgt := 125) (pc2 := 120) (dkAt dkX8_says 66 (q := (117, .if_icmp .eq 8, 3)) rfl) (by decide) rfl h (fun h => ?_) (fun h => ?_)
                · refine k_aload_n C (pc2 := 126) (dkAt dkX8_says 70 (q := (125, .aload_n 0, 1)) rfl) rfl rfl 1 rfl ?_
                  refine kf_X8_47 C (pc2 := 129) (o := o0) (o2 := o0 + 19) h0.1 rfl (dkAt dkX8_says 71 (q := (126, .getfield 47, 3)) rfl) rfl ?_
                  refine k_iload_n C (pc2 := 130) (dkAt dkX8_says 72 (q := (129, .iload_n 3, 1)) rfl) rfl rfl 0 rfl ?_
                  refine k_iald C (pc2 := 131) (o := o0 + 19) (nA := 8) (isM_likely h0) (dkAt dkX8_says 73 (q := (130, .iaload, 1)) rfl) rfl h (fun h => ?_)
                  refine k_goto C (tgt := 140) (dkAt dkX8_says 74 (q := (131, .goto 9, 3)) rfl) (by decide) ?_
                  exact k_iret C (dkAt dkX8_says 79 (q := (140, .ireturn, 1)) rfl) (pe2 (Option.some.inj h)) rfl (pe1 (Option.some.inj h)) rfl
                · refine k_iload_n C (pc2 := 121) (dkAt dkX8_says 67 (q := (120, .iload_n 2, 1)) rfl) rfl rfl 3 rfl ?_
                  refine k_iconst C (pc2 := 122) (dkAt dkX8_says 68 (q := (121, .iconst 3, 1)) rfl) rfl (v := 3) rfl ?_
                  refine k_icmp_ne C (tgt := 134) (pc2 := 125) (dkAt dkX8_says 69 (q := (122, .if_icmp .ne 12, 3)) rfl) (by decide) rfl h (fun h => ?_) (fun h => ?_)
                  · refine k_aload_n C (pc2 := 135) (dkAt dkX8_says 75 (q := (134, .aload_n 0, 1)) rfl) rfl rfl 1 rfl ?_
                    refine kf_X8_44 C (pc2 := 138) (o := o0) (o2 := o0 + 18) h0.1 rfl (dkAt dkX8_says 76 (q := (135, .getfield 44, 3)) rfl) rfl ?_
                    refine k_iload_n C (pc2 := 139) (dkAt dkX8_says 77 (q := (138, .iload_n 3, 1)) rfl) rfl rfl 0 rfl ?_
                    refine k_iald C (pc2 := 140) (o := o0 + 18) (nA := 8) (isM_by h0) (dkAt dkX8_says 78 (q := (139, .iaload, 1)) rfl) rfl h (fun h => ?_)
                    exact k_iret C (dkAt dkX8_says 79 (q := (140, .ireturn, 1)) rfl) (pe2 (Option.some.inj h)) rfl (pe1 (Option.some.inj h)) rfl
                  · refine k_aload_n C (pc2 := 126) (dkAt dkX8_says 70 (q := (125, .aload_n 0, 1)) rfl) rfl rfl 1 rfl ?_
                    refine kf_X8_47 C (pc2 := 129) (o := o0) (o2 := o0 + 19) h0.1 rfl (dkAt dkX8_says 71 (q := (126, .getfield 47, 3)) rfl) rfl ?_
                    refine k_iload_n C (pc2 := 130) (dkAt dkX8_says 72 (q := (129, .iload_n 3, 1)) rfl) rfl rfl 0 rfl ?_
                    refine k_iald C (pc2 := 131) (o := o0 + 19) (nA := 8) (isM_likely h0) (dkAt dkX8_says 73 (q := (130, .iaload, 1)) rfl) rfl h (fun h => ?_)
                    refine k_goto C (tgt := 140) (dkAt dkX8_says 74 (q := (131, .goto 9, 3)) rfl) (by decide) ?_
                    exact k_iret C (dkAt dkX8_says 79 (q := (140, .ireturn, 1)) rfl) (pe2 (Option.some.inj h)) rfl (pe1 (Option.some.inj h)) rfl
              · refine k_aload_n C (pc2 := 104) (dkAt dkX8_says 58 (q := (103, .aload_n 0, 1)) rfl) rfl rfl 1 rfl ?_
                refine kf_X8_50 C (pc2 := 107) (o := o0) (o2 := o0 + 20) h0.1 rfl (dkAt dkX8_says 59 (q := (104, .getfield 50, 3)) rfl) rfl ?_
                refine k_iload_n C (pc2 := 108) (dkAt dkX8_says 60 (q := (107, .iload_n 3, 1)) rfl) rfl rfl 0 rfl ?_
                refine k_iald C (pc2 := 109) (o := o0 + 20) (nA := 8) (isM_can h0) (dkAt dkX8_says 61 (q := (108, .iaload, 1)) rfl) rfl h (fun h => ?_)
                obtain ⟨q17, e18, h⟩ := ob_inv h
                refine kc_S C (As := [.int (M.1 (o0 + 20) v16.toNatClampNeg)]) (st2 := [.int q17]) (ct_X8_bits l G sh xs (M.1 (o0 + 20) v16.toNatClampNeg) M q17 e18) (cl_X8_118 (hts_of C) ⟨Nat.le_of_ble_eq_true rfl, Nat.le_of_ble_eq_true rfl⟩ rfl rfl) rfl rfl (Nat.le_of_ble_eq_true rfl) (dkAt dkX8_says 62 (q := (109, .invokestatic 118, 3)) rfl) ⟨Nat.zero_le _, Nat.zero_le _⟩ (pc2 := 112) rfl rfl ?_
                refine k_goto C (tgt := 140) (dkAt dkX8_says 63 (q := (112, .goto 28, 3)) rfl) (by decide) ?_
                exact k_iret C (dkAt dkX8_says 79 (q := (140, .ireturn, 1)) rfl) (pe2 (Option.some.inj h)) rfl (pe1 (Option.some.inj h)) rfl
            · refine k_aload_n C (pc2 := 86) (dkAt dkX8_says 47 (q := (85, .aload_n 0, 1)) rfl) rfl rfl 0 rfl ?_
              refine k_bipush C (pc2 := 88) (dkAt dkX8_says 48 (q := (86, .bipush (-4), 2)) rfl) rfl (v := (-4)) rfl ?_
              obtain ⟨q19, e20, h⟩ := ob_inv h
              refine kc_V C (As := [.int (-4)]) (st2 := [.int q19.2]) (ct_X8_refuse l G sh xs o0 h0 (-4) M q19 e20) (cl_X8_97 (hts_of C) ⟨Nat.le_of_ble_eq_true rfl, Nat.le_of_ble_eq_true rfl⟩ rfl rfl) h0.1 rfl rfl rfl rfl rfl (Nat.le_of_ble_eq_true rfl) (dkAt dkX8_says 49 (q := (88, .invokevirtual 97, 3)) rfl) ⟨Nat.zero_le _, Nat.zero_le _⟩ (pc2 := 91) rfl rfl ?_
              exact k_iret C (dkAt dkX8_says 50 (q := (91, .ireturn, 1)) rfl) (pe2 (Option.some.inj h)) rfl (pe1 (Option.some.inj h)) rfl
          · refine k_aload_n C (pc2 := 70) (dkAt dkX8_says 38 (q := (69, .aload_n 0, 1)) rfl) rfl rfl 0 rfl ?_
            refine k_bipush C (pc2 := 72) (dkAt dkX8_says 39 (q := (70, .bipush (-3), 2)) rfl) rfl (v := (-3)) rfl ?_
            obtain ⟨q21, e22, h⟩ := ob_inv h
            refine kc_V C (As := [.int (-3)]) (st2 := [.int q21.2]) (ct_X8_refuse l G sh xs o0 h0 (-3) M q21 e22) (cl_X8_97 (hts_of C) ⟨Nat.le_of_ble_eq_true rfl, Nat.le_of_ble_eq_true rfl⟩ rfl rfl) h0.1 rfl rfl rfl rfl rfl (Nat.le_of_ble_eq_true rfl) (dkAt dkX8_says 40 (q := (72, .invokevirtual 97, 3)) rfl) ⟨Nat.zero_le _, Nat.zero_le _⟩ (pc2 := 75) rfl rfl ?_
            exact k_iret C (dkAt dkX8_says 41 (q := (75, .ireturn, 1)) rfl) (pe2 (Option.some.inj h)) rfl (pe1 (Option.some.inj h)) rfl
    · refine k_aload_n C (pc2 := 25) (dkAt dkX8_says 12 (q := (24, .aload_n 0, 1)) rfl) rfl rfl 0 rfl ?_
      refine k_bipush C (pc2 := 27) (dkAt dkX8_says 13 (q := (25, .bipush (-2), 2)) rfl) rfl (v := (-2)) rfl ?_
      obtain ⟨q23, e24, h⟩ := ob_inv h
      refine kc_V C (As := [.int (-2)]) (st2 := [.int q23.2]) (ct_X8_refuse l G sh xs o0 h0 (-2) M q23 e24) (cl_X8_97 (hts_of C) ⟨Nat.le_of_ble_eq_true rfl, Nat.le_of_ble_eq_true rfl⟩ rfl rfl) h0.1 rfl rfl rfl rfl rfl (Nat.le_of_ble_eq_true rfl) (dkAt dkX8_says 14 (q := (27, .invokevirtual 97, 3)) rfl) ⟨Nat.zero_le _, Nat.zero_le _⟩ (pc2 := 30) rfl rfl ?_
      exact k_iret C (dkAt dkX8_says 15 (q := (30, .ireturn, 1)) rfl) (pe2 (Option.some.inj h)) rfl (pe1 (Option.some.inj h)) rfl
set_option maxRecDepth 100000 in
set_option maxHeartbeats 4000000 in
theorem kl_X8_daysAre_L7 {p : Program} {l : Launch} {e : Env} {s : State} {m : MethodId} {args : Array Value} {below : List Frame} {meth : Method} {c : Code} {G : GG} {sh : Sh} {xs : List va_E} {Q : State → Prop} (C : Cx p s m c args meth G RX8 cX8_daysAre 3 none) (o0 : Nat) (h0 : isM sh o0) (x1 : Int32) (M2 : Mm) (hcont : KW p l e rm_X8_daysAre s m args below meth c G 3 Q sh xs 0 0 M2 35 [] []) : ∀ (n : Nat) (x2 : Int32) (M : Mm), f_X8_daysAre_L7 o0 x1 n x2 M = some M2 → KW p l e rm_X8_daysAre s m args below meth c G 3 Q sh xs 0 0 M 7 [(0, rA G o0), (1, .int x1), (2, .int x2)] [] := by
  intro n
  induction n with
  | zero =>
    intro x2 M h
    cases h
  | succ n ih =>
    intro x2 M h
    unfold f_X8_daysAre_L7 at h
    refine k_iload_n C (pc2 := 8) (dkAt dkX8_daysAre 5 (q := (7, .iload_n 2, 1)) rfl) rfl rfl 2 rfl ?_
    refine k_aload_n C (pc2 := 9) (dkAt dkX8_daysAre 6 (q := (8, .aload_n 0, 1)) rfl) rfl rfl 0 rfl ?_
    refine kf_X8_82 C (pc2 := 12) (o := o0) (o2 := 0) h0.1 (dkAt dkX8_daysAre 7 (q := (9, .getfield 82, 3)) rfl) rfl ?_
    refine k_icmp_ge C (tgt := 35) (pc2 := 15) (dkAt dkX8_daysAre 8 (q := (12, .if_icmp .ge 23, 3)) rfl) (by decide) rfl h (fun h => ?_) (fun h => ?_)
    · refine k_lv [] (lv2 := []) rfl ?_
      cases h
      exact hcont
    · refine k_aload_n C (pc2 := 16) (dkAt dkX8_daysAre 9 (q := (15, .aload_n 0, 1)) rfl) rfl rfl 0 rfl ?_
      refine kf_X8_50 C (pc2 := 19) (o := o0) (o2 := o0 + 20) h0.1 rfl (dkAt dkX8_daysAre 10 (q := (16, .getfield 50, 3)) rfl) rfl ?_
      refine k_iload_n C (pc2 := 20) (dkAt dkX8_daysAre 11 (q := (19, .iload_n 2, 1)) rfl) rfl rfl 2 rfl ?_
      refine k_dup2 C (pc2 := 21) (dkAt dkX8_daysAre 12 (q := (20, .dup2, 1)) rfl) rfl rfl rfl ?_
      refine k_iald C (pc2 := 22) (o := o0 + 20) (nA := 8) (isM_can h0) (dkAt dkX8_daysAre 13 (q := (21, .iaload, 1)) rfl) rfl h (fun h => ?_)
      refine k_iconst C (pc2 := 23) (dkAt dkX8_daysAre 14 (q := (22, .iconst 1, 1)) rfl) rfl (v := 1) rfl ?_
      refine k_iload_n C (pc2 := 24) (dkAt dkX8_daysAre 15 (q := (23, .iload_n 1, 1)) rfl) rfl rfl 1 rfl ?_
      refine k_ishl C (pc2 := 25) (dkAt dkX8_daysAre 16 (q := (24, .ishl, 1)) rfl) rfl ?_
      refine k_iconst C (pc2 := 26) (dkAt dkX8_daysAre 17 (q := (25, .iconst 1, 1)) rfl) rfl (v := 1) rfl ?_
      refine k_isub C (pc2 := 27) (dkAt dkX8_daysAre 18 (q := (26, .isub, 1)) rfl) rfl ?_
      refine k_iand C (pc2 := 28) (dkAt dkX8_daysAre 19 (q := (27, .iand, 1)) rfl) rfl ?_
      refine k_iast C (pc2 := 29) (o := o0 + 20) (nA := 8) (isM_can h0) (dkAt dkX8_daysAre 20 (q := (28, .iastore, 1)) rfl) rfl h (fun M2 h => ?_)
      refine kb_iinc C (pc2 := 32) (dkAt dkX8_daysAre 21 (q := (29, .iinc 2 1, 3)) rfl) rfl (j := 2) rfl (v := x2 + 1) rfl (by decide) (lv2 := fun v3 => [(2, .int v3), (0, rA G o0), (1, .int x1)]) (fun _ => rfl) h (fun v3 h => ?_)
      refine k_goto C (tgt := 7) (dkAt dkX8_daysAre 22 (q := (32, .goto (-25), 3)) rfl) (by decide) ?_
      refine k_lv [1, 2, 0] (lv2 := [(0, rA G o0), (1, .int x1), (2, .int v3)]) rfl ?_
      exact ih v3 M2 h
set_option maxRecDepth 100000 in
set_option maxHeartbeats 4000000 in
theorem ct_X8_daysAre (l : Launch) (G : GG) (sh : Sh) (xs : List va_E) (o0 : Nat) (h0 : isM sh o0) (x1 : Int32) (M : Mm) (r : Mm) (h : f_X8_daysAre o0 x1 M = some r) : Ct l yX8_daysAre cX8_daysAre 3 none rm_X8_daysAre G [rA G o0, .int x1] sh M xs none sh r xs 0 0 := by
  refine ct_of (by decide) (Nat.le_of_ble_eq_true rfl) ?_
  intro p e s m args below meth c hnm C
  refine k_lv [0, 1] (lv2 := [(0, rA G o0), (1, .int x1)]) rfl ?_
  unfold f_X8_daysAre at h
  refine k_aload_n C (pc2 := 1) (dkAt dkX8_daysAre 0 (q := (0, .aload_n 0, 1)) rfl) rfl rfl 0 rfl ?_
  refine k_iload_n C (pc2 := 2) (dkAt dkX8_daysAre 1 (q := (1, .iload_n 1, 1)) rfl) rfl rfl 1 rfl ?_
  refine kp_X8_37 C (pc2 := 5) (o := o0) h0.1 (dkAt dkX8_daysAre 2 (q := (2, .putfield 37, 3)) rfl) rfl h (fun M1 h => ?_)
  refine k_iconst C (pc2 := 6) (dkAt dkX8_daysAre 3 (q := (5, .iconst 0, 1)) rfl) rfl (v := 0) rfl ?_
  refine k_istore_n C (pc2 := 7) (dkAt dkX8_daysAre 4 (q := (6, .istore_n 2, 1)) rfl) rfl rfl (by decide) (lv2 := [(2, .int 0), (0, rA G o0), (1, .int x1)]) rfl ?_
  refine k_lv [1, 2, 0] (lv2 := [(0, rA G o0), (1, .int x1), (2, .int 0)]) rfl ?_
  obtain ⟨M6, e5, h⟩ := ob_inv h
  refine kl_X8_daysAre_L7 C o0 h0 x1 M6 ?_ 1000 0 M1 e5
  exact k_vret C (dkAt dkX8_daysAre 23 (q := (35, .return_, 1)) rfl) rfl (Option.some.inj h) rfl
set_option maxRecDepth 100000 in
set_option maxHeartbeats 4000000 in
theorem ct_X8_days (l : Launch) (G : GG) (sh : Sh) (xs : List va_E) (o0 : Nat) (h0 : isM sh o0) (x1 : Int32) (M : Mm) (r : Mm × Int32) (h : f_X8_days o0 x1 M = some r) : Ct l yX8_days cX8_days 3 (some .int) rm_X8_days G [rA G o0, .int x1] sh M xs (some (.int r.2)) sh r.1 xs 0 0 := by
  refine ct_of (by decide) (Nat.le_of_ble_eq_true rfl) ?_
  intro p e s m args below meth c hnm C
  refine k_lv [0, 1] (lv2 := [(0, rA G o0), (1, .int x1)]) rfl ?_
  unfold f_X8_days at h
  refine k_iload_n C (pc2 := 1) (dkAt dkX8_days 0 (q := (0, .iload_n 1, 1)) rfl) rfl rfl 1 rfl ?_
  refine k_i2l C (pc2 := 2) (dkAt dkX8_days 1 (q := (1, .i2l, 1)) rfl) rfl ?_
  refine k_lconst C (pc2 := 3) (dkAt dkX8_days 2 (q := (2, .lconst 1, 1)) rfl) rfl (v := 1) rfl ?_
  refine k_ldc2 C (pc2 := 6) (dkAt dkX8_days 3 (q := (3, .ldc2_w 121, 3)) rfl) rfl (v := 14) tL_X8_121 ?_
  obtain ⟨q1, e2, h⟩ := ob_inv h
  refine kc_S C (As := [.long x1.toInt64, .long 1, .long 14]) (st2 := [.int q1]) (ct_X8_in l G sh xs x1.toInt64 1 14 M q1 e2) (cl_X8_85 (hts_of C) ⟨Nat.le_of_ble_eq_true rfl, Nat.le_of_ble_eq_true rfl⟩ rfl rfl) rfl rfl (Nat.le_of_ble_eq_true rfl) (dkAt dkX8_days 4 (q := (6, .invokestatic 85, 3)) rfl) ⟨Nat.zero_le _, Nat.zero_le _⟩ (pc2 := 9) rfl rfl ?_
  refine k_if_ne C (tgt := 19) (pc2 := 12) (dkAt dkX8_days 5 (q := (9, .ifCond .ne 10, 3)) rfl) (by decide) rfl h (fun h => ?_) (fun h => ?_)
  · refine k_aload_n C (pc2 := 20) (dkAt dkX8_days 10 (q := (19, .aload_n 0, 1)) rfl) rfl rfl 0 rfl ?_
    refine kf_X8_37 C (pc2 := 23) (o := o0) (o2 := 0) h0.1 (dkAt dkX8_days 11 (q := (20, .getfield 37, 3)) rfl) rfl ?_
    refine kb_istore_n C (pc2 := 24) (dkAt dkX8_days 12 (q := (23, .istore_n 2, 1)) rfl) rfl rfl (by decide) (lv2 := fun v3 => [(2, .int v3), (0, rA G o0), (1, .int x1)]) (fun _ => rfl) h (fun v3 h => ?_)
    refine k_aload_n C (pc2 := 25) (dkAt dkX8_days 13 (q := (24, .aload_n 0, 1)) rfl) rfl rfl 1 rfl ?_
    refine k_iload_n C (pc2 := 26) (dkAt dkX8_days 14 (q := (25, .iload_n 1, 1)) rfl) rfl rfl 2 rfl ?_
    obtain ⟨q4, e5, h⟩ := ob_inv h
    refine kc_V C (As := [.int x1]) (st2 := []) (ct_X8_daysAre l G sh xs o0 h0 x1 M q4 e5) (cl_X8_123 (hts_of C) ⟨Nat.le_of_ble_eq_true rfl, Nat.le_of_ble_eq_true rfl⟩ rfl rfl) h0.1 rfl rfl rfl rfl rfl (Nat.le_of_ble_eq_true rfl) (dkAt dkX8_days 15 (q := (26, .invokevirtual 123, 3)) rfl) ⟨Nat.zero_le _, Nat.zero_le _⟩ (pc2 := 29) rfl rfl ?_
    refine k_iload_n C (pc2 := 30) (dkAt dkX8_days 16 (q := (29, .iload_n 2, 1)) rfl) rfl rfl 0 rfl ?_
    exact k_iret C (dkAt dkX8_days 17 (q := (30, .ireturn, 1)) rfl) (pe2 (Option.some.inj h)) rfl (pe1 (Option.some.inj h)) rfl
  · refine k_aload_n C (pc2 := 13) (dkAt dkX8_days 6 (q := (12, .aload_n 0, 1)) rfl) rfl rfl 0 rfl ?_
    refine k_bipush C (pc2 := 15) (dkAt dkX8_days 7 (q := (13, .bipush (-2), 2)) rfl) rfl (v := (-2)) rfl ?_
    obtain ⟨q6, e7, h⟩ := ob_inv h
    refine kc_V C (As := [.int (-2)]) (st2 := [.int q6.2]) (ct_X8_refuse l G sh xs o0 h0 (-2) M q6 e7) (cl_X8_97 (hts_of C) ⟨Nat.le_of_ble_eq_true rfl, Nat.le_of_ble_eq_true rfl⟩ rfl rfl) h0.1 rfl rfl rfl rfl rfl (Nat.le_of_ble_eq_true rfl) (dkAt dkX8_days 8 (q := (15, .invokevirtual 97, 3)) rfl) ⟨Nat.zero_le _, Nat.zero_le _⟩ (pc2 := 18) rfl rfl ?_
    exact k_iret C (dkAt dkX8_days 9 (q := (18, .ireturn, 1)) rfl) (pe2 (Option.some.inj h)) rfl (pe1 (Option.some.inj h)) rfl
set_option maxRecDepth 100000 in
set_option maxHeartbeats 4000000 in
theorem ct_X8_addPerson (l : Launch) (G : GG) (sh : Sh) (xs : List va_E) (o0 : Nat) (h0 : isM sh o0) (x1 : Int32) (x2 : Int32) (x3 : Int32) (M : Mm) (r : Mm) (h : f_X8_addPerson o0 x1 x2 x3 M = some r) : Ct l yX8_addPerson cX8_addPerson 4 none rm_X8_addPerson G [rA G o0, .int x1, .int x2, .int x3] sh M xs none sh r xs 0 0 := by
  refine ct_of (by decide) (Nat.le_of_ble_eq_true rfl) ?_
  intro p e s m args below meth c hnm C
  refine k_lv [0, 1, 2, 3] (lv2 := [(0, rA G o0), (1, .int x1), (2, .int x2), (3, .int x3)]) rfl ?_
  unfold f_X8_addPerson at h
  refine k_aload_n C (pc2 := 1) (dkAt dkX8_addPerson 0 (q := (0, .aload_n 0, 1)) rfl) rfl rfl 0 rfl ?_
  refine kf_X8_41 C (pc2 := 4) (o := o0) (o2 := o0 + 17) h0.1 rfl (dkAt dkX8_addPerson 1 (q := (1, .getfield 41, 3)) rfl) rfl ?_
  refine k_aload_n C (pc2 := 5) (dkAt dkX8_addPerson 2 (q := (4, .aload_n 0, 1)) rfl) rfl rfl 0 rfl ?_
  refine kf_X8_82 C (pc2 := 8) (o := o0) (o2 := 0) h0.1 (dkAt dkX8_addPerson 3 (q := (5, .getfield 82, 3)) rfl) rfl ?_
  refine k_iload_n C (pc2 := 9) (dkAt dkX8_addPerson 4 (q := (8, .iload_n 1, 1)) rfl) rfl rfl 1 rfl ?_
  refine k_iast C (pc2 := 10) (o := o0 + 17) (nA := 8) (isM_kind h0) (dkAt dkX8_addPerson 5 (q := (9, .iastore, 1)) rfl) rfl h (fun M1 h => ?_)
  refine k_aload_n C (pc2 := 11) (dkAt dkX8_addPerson 6 (q := (10, .aload_n 0, 1)) rfl) rfl rfl 0 rfl ?_
  refine kf_X8_44 C (pc2 := 14) (o := o0) (o2 := o0 + 18) h0.1 rfl (dkAt dkX8_addPerson 7 (q := (11, .getfield 44, 3)) rfl) rfl ?_
  refine k_aload_n C (pc2 := 15) (dkAt dkX8_addPerson 8 (q := (14, .aload_n 0, 1)) rfl) rfl rfl 0 rfl ?_
  refine kf_X8_82 C (pc2 := 18) (o := o0) (o2 := 0) h0.1 (dkAt dkX8_addPerson 9 (q := (15, .getfield 82, 3)) rfl) rfl ?_
  refine k_iload_n C (pc2 := 19) (dkAt dkX8_addPerson 10 (q := (18, .iload_n 2, 1)) rfl) rfl rfl 2 rfl ?_
  refine k_iast C (pc2 := 20) (o := o0 + 18) (nA := 8) (isM_by h0) (dkAt dkX8_addPerson 11 (q := (19, .iastore, 1)) rfl) rfl h (fun M2 h => ?_)
  refine k_aload_n C (pc2 := 21) (dkAt dkX8_addPerson 12 (q := (20, .aload_n 0, 1)) rfl) rfl rfl 0 rfl ?_
  refine kf_X8_47 C (pc2 := 24) (o := o0) (o2 := o0 + 19) h0.1 rfl (dkAt dkX8_addPerson 13 (q := (21, .getfield 47, 3)) rfl) rfl ?_
  refine k_aload_n C (pc2 := 25) (dkAt dkX8_addPerson 14 (q := (24, .aload_n 0, 1)) rfl) rfl rfl 0 rfl ?_
  refine kf_X8_82 C (pc2 := 28) (o := o0) (o2 := 0) h0.1 (dkAt dkX8_addPerson 15 (q := (25, .getfield 82, 3)) rfl) rfl ?_
  refine k_iload_n C (pc2 := 29) (dkAt dkX8_addPerson 16 (q := (28, .iload_n 3, 1)) rfl) rfl rfl 3 rfl ?_
  refine k_iast C (pc2 := 30) (o := o0 + 19) (nA := 8) (isM_likely h0) (dkAt dkX8_addPerson 17 (q := (29, .iastore, 1)) rfl) rfl h (fun M3 h => ?_)
  refine k_aload_n C (pc2 := 31) (dkAt dkX8_addPerson 18 (q := (30, .aload_n 0, 1)) rfl) rfl rfl 0 rfl ?_
  refine kf_X8_50 C (pc2 := 34) (o := o0) (o2 := o0 + 20) h0.1 rfl (dkAt dkX8_addPerson 19 (q := (31, .getfield 50, 3)) rfl) rfl ?_
  refine k_aload_n C (pc2 := 35) (dkAt dkX8_addPerson 20 (q := (34, .aload_n 0, 1)) rfl) rfl rfl 0 rfl ?_
  refine kf_X8_82 C (pc2 := 38) (o := o0) (o2 := 0) h0.1 (dkAt dkX8_addPerson 21 (q := (35, .getfield 82, 3)) rfl) rfl ?_
  refine k_iconst C (pc2 := 39) (dkAt dkX8_addPerson 22 (q := (38, .iconst 0, 1)) rfl) rfl (v := 0) rfl ?_
  refine k_iast C (pc2 := 40) (o := o0 + 20) (nA := 8) (isM_can h0) (dkAt dkX8_addPerson 23 (q := (39, .iastore, 1)) rfl) rfl h (fun M4 h => ?_)
  refine k_aload_n C (pc2 := 41) (dkAt dkX8_addPerson 24 (q := (40, .aload_n 0, 1)) rfl) rfl rfl 0 rfl ?_
  refine kf_X8_53 C (pc2 := 44) (o := o0) (o2 := o0 + 21) h0.1 rfl (dkAt dkX8_addPerson 25 (q := (41, .getfield 53, 3)) rfl) rfl ?_
  refine k_aload_n C (pc2 := 45) (dkAt dkX8_addPerson 26 (q := (44, .aload_n 0, 1)) rfl) rfl rfl 0 rfl ?_
  refine kf_X8_82 C (pc2 := 48) (o := o0) (o2 := 0) h0.1 (dkAt dkX8_addPerson 27 (q := (45, .getfield 82, 3)) rfl) rfl ?_
  refine k_iconst C (pc2 := 49) (dkAt dkX8_addPerson 28 (q := (48, .iconst 0, 1)) rfl) rfl (v := 0) rfl ?_
  refine k_iast C (pc2 := 50) (o := o0 + 21) (nA := 8) (isM_left h0) (dkAt dkX8_addPerson 29 (q := (49, .iastore, 1)) rfl) rfl h (fun M5 h => ?_)
  refine k_aload_n C (pc2 := 51) (dkAt dkX8_addPerson 30 (q := (50, .aload_n 0, 1)) rfl) rfl rfl 0 rfl ?_
  refine k_dup C (pc2 := 52) (dkAt dkX8_addPerson 31 (q := (51, .dup, 1)) rfl) rfl rfl ?_
  refine kf_X8_82 C (pc2 := 55) (o := o0) (o2 := 0) h0.1 (dkAt dkX8_addPerson 32 (q := (52, .getfield 82, 3)) rfl) rfl ?_
  refine k_iconst C (pc2 := 56) (dkAt dkX8_addPerson 33 (q := (55, .iconst 1, 1)) rfl) rfl (v := 1) rfl ?_
  refine k_iadd C (pc2 := 57) (dkAt dkX8_addPerson 34 (q := (56, .iadd, 1)) rfl) rfl ?_
  refine kp_X8_82 C (pc2 := 60) (o := o0) h0.1 (dkAt dkX8_addPerson 35 (q := (57, .putfield 82, 3)) rfl) rfl h (fun M6 h => ?_)
  exact k_vret C (dkAt dkX8_addPerson 36 (q := (60, .return_, 1)) rfl) rfl (Option.some.inj h) rfl
set_option maxRecDepth 100000 in
set_option maxHeartbeats 4000000 in
theorem ct_X8_person (l : Launch) (G : GG) (sh : Sh) (xs : List va_E) (o0 : Nat) (h0 : isM sh o0) (x1 : Int32) (x2 : Int32) (x3 : Int32) (M : Mm) (r : Mm × Int32) (h : f_X8_person o0 x1 x2 x3 M = some r) : Ct l yX8_person cX8_person 4 (some .int) rm_X8_person G [rA G o0, .int x1, .int x2, .int x3] sh M xs (some (.int r.2)) sh r.1 xs 0 0 := by
  refine ct_of (by decide) (Nat.le_of_ble_eq_true rfl) ?_
  intro p e s m args below meth c hnm C
  refine k_lv [0, 1, 2, 3] (lv2 := [(0, rA G o0), (1, .int x1), (2, .int x2), (3, .int x3)]) rfl ?_
  unfold f_X8_person at h
  refine k_iload_n C (pc2 := 1) (dkAt dkX8_person 0 (q := (0, .iload_n 1, 1)) rfl) rfl rfl 1 rfl ?_
  refine k_i2l C (pc2 := 2) (dkAt dkX8_person 1 (q := (1, .i2l, 1)) rfl) rfl ?_
  refine k_lconst C (pc2 := 3) (dkAt dkX8_person 2 (q := (2, .lconst 0, 1)) rfl) rfl (v := 0) rfl ?_
  refine k_ldc2 C (pc2 := 6) (dkAt dkX8_person 3 (q := (3, .ldc2_w 112, 3)) rfl) rfl (v := 5) tL_X8_112 ?_
  obtain ⟨q1, e2, h⟩ := ob_inv h
  refine kc_S C (As := [.long x1.toInt64, .long 0, .long 5]) (st2 := [.int q1]) (ct_X8_in l G sh xs x1.toInt64 0 5 M q1 e2) (cl_X8_85 (hts_of C) ⟨Nat.le_of_ble_eq_true rfl, Nat.le_of_ble_eq_true rfl⟩ rfl rfl) rfl rfl (Nat.le_of_ble_eq_true rfl) (dkAt dkX8_person 4 (q := (6, .invokestatic 85, 3)) rfl) ⟨Nat.zero_le _, Nat.zero_le _⟩ (pc2 := 9) rfl rfl ?_
  refine k_if_eq C (tgt := 36) (pc2 := 12) (dkAt dkX8_person 5 (q := (9, .ifCond .eq 27, 3)) rfl) (by decide) rfl h (fun h => ?_) (fun h => ?_)
  · refine k_aload_n C (pc2 := 37) (dkAt dkX8_person 18 (q := (36, .aload_n 0, 1)) rfl) rfl rfl 0 rfl ?_
    refine k_bipush C (pc2 := 39) (dkAt dkX8_person 19 (q := (37, .bipush (-2), 2)) rfl) rfl (v := (-2)) rfl ?_
    obtain ⟨q3, e4, h⟩ := ob_inv h
    refine kc_V C (As := [.int (-2)]) (st2 := [.int q3.2]) (ct_X8_refuse l G sh xs o0 h0 (-2) M q3 e4) (cl_X8_97 (hts_of C) ⟨Nat.le_of_ble_eq_true rfl, Nat.le_of_ble_eq_true rfl⟩ rfl rfl) h0.1 rfl rfl rfl rfl rfl (Nat.le_of_ble_eq_true rfl) (dkAt dkX8_person 20 (q := (39, .invokevirtual 97, 3)) rfl) ⟨Nat.zero_le _, Nat.zero_le _⟩ (pc2 := 42) rfl rfl ?_
    exact k_iret C (dkAt dkX8_person 21 (q := (42, .ireturn, 1)) rfl) (pe2 (Option.some.inj h)) rfl (pe1 (Option.some.inj h)) rfl
  · refine k_iload_n C (pc2 := 13) (dkAt dkX8_person 6 (q := (12, .iload_n 2, 1)) rfl) rfl rfl 2 rfl ?_
    refine k_i2l C (pc2 := 14) (dkAt dkX8_person 7 (q := (13, .i2l, 1)) rfl) rfl ?_
    refine k_lconst C (pc2 := 15) (dkAt dkX8_person 8 (q := (14, .lconst 0, 1)) rfl) rfl (v := 0) rfl ?_
    refine k_ldc2 C (pc2 := 18) (dkAt dkX8_person 9 (q := (15, .ldc2_w 127, 3)) rfl) rfl (v := 13) tL_X8_127 ?_
    obtain ⟨q5, e6, h⟩ := ob_inv h
    refine kc_S C (As := [.long x2.toInt64, .long 0, .long 13]) (st2 := [.int q5]) (ct_X8_in l G sh xs x2.toInt64 0 13 M q5 e6) (cl_X8_85 (hts_of C) ⟨Nat.le_of_ble_eq_true rfl, Nat.le_of_ble_eq_true rfl⟩ rfl rfl) rfl rfl (Nat.le_of_ble_eq_true rfl) (dkAt dkX8_person 10 (q := (18, .invokestatic 85, 3)) rfl) ⟨Nat.zero_le _, Nat.zero_le _⟩ (pc2 := 21) rfl rfl ?_
    refine k_if_eq C (tgt := 36) (pc2 := 24) (dkAt dkX8_person 11 (q := (21, .ifCond .eq 15, 3)) rfl) (by decide) rfl h (fun h => ?_) (fun h => ?_)
    · refine k_aload_n C (pc2 := 37) (dkAt dkX8_person 18 (q := (36, .aload_n 0, 1)) rfl) rfl rfl 0 rfl ?_
      refine k_bipush C (pc2 := 39) (dkAt dkX8_person 19 (q := (37, .bipush (-2), 2)) rfl) rfl (v := (-2)) rfl ?_
      obtain ⟨q7, e8, h⟩ := ob_inv h
      refine kc_V C (As := [.int (-2)]) (st2 := [.int q7.2]) (ct_X8_refuse l G sh xs o0 h0 (-2) M q7 e8) (cl_X8_97 (hts_of C) ⟨Nat.le_of_ble_eq_true rfl, Nat.le_of_ble_eq_true rfl⟩ rfl rfl) h0.1 rfl rfl rfl rfl rfl (Nat.le_of_ble_eq_true rfl) (dkAt dkX8_person 20 (q := (39, .invokevirtual 97, 3)) rfl) ⟨Nat.zero_le _, Nat.zero_le _⟩ (pc2 := 42) rfl rfl ?_
      exact k_iret C (dkAt dkX8_person 21 (q := (42, .ireturn, 1)) rfl) (pe2 (Option.some.inj h)) rfl (pe1 (Option.some.inj h)) rfl
    · refine k_iload_n C (pc2 := 25) (dkAt dkX8_person 12 (q := (24, .iload_n 3, 1)) rfl) rfl rfl 3 rfl ?_
      refine k_i2l C (pc2 := 26) (dkAt dkX8_person 13 (q := (25, .i2l, 1)) rfl) rfl ?_
      refine k_lconst C (pc2 := 27) (dkAt dkX8_person 14 (q := (26, .lconst 0, 1)) rfl) rfl (v := 0) rfl ?_
      refine k_ldc2 C (pc2 := 30) (dkAt dkX8_person 15 (q := (27, .ldc2_w 129, 3)) rfl) rfl (v := 12) tL_X8_129 ?_
      obtain ⟨q9, e10, h⟩ := ob_inv h
      refine kc_S C (As := [.long x3.toInt64, .long 0, .long 12]) (st2 := [.int q9]) (ct_X8_in l G sh xs x3.toInt64 0 12 M q9 e10) (cl_X8_85 (hts_of C) ⟨Nat.le_of_ble_eq_true rfl, Nat.le_of_ble_eq_true rfl⟩ rfl rfl) rfl rfl (Nat.le_of_ble_eq_true rfl) (dkAt dkX8_person 16 (q := (30, .invokestatic 85, 3)) rfl) ⟨Nat.zero_le _, Nat.zero_le _⟩ (pc2 := 33) rfl rfl ?_
      refine k_if_ne C (tgt := 43) (pc2 := 36) (dkAt dkX8_person 17 (q := (33, .ifCond .ne 10, 3)) rfl) (by decide) rfl h (fun h => ?_) (fun h => ?_)
      · refine k_aload_n C (pc2 := 44) (dkAt dkX8_person 22 (q := (43, .aload_n 0, 1)) rfl) rfl rfl 0 rfl ?_
        refine kf_X8_82 C (pc2 := 47) (o := o0) (o2 := 0) h0.1 (dkAt dkX8_person 23 (q := (44, .getfield 82, 3)) rfl) rfl ?_
        refine k_bipush C (pc2 := 49) (dkAt dkX8_person 24 (q := (47, .bipush 8, 2)) rfl) rfl (v := 8) rfl ?_
        refine k_icmp_ne C (tgt := 59) (pc2 := 52) (dkAt dkX8_person 25 (q := (49, .if_icmp .ne 10, 3)) rfl) (by decide) rfl h (fun h => ?_) (fun h => ?_)
        · refine k_aload_n C (pc2 := 60) (dkAt dkX8_person 30 (q := (59, .aload_n 0, 1)) rfl) rfl rfl 0 rfl ?_
          refine k_iload_n C (pc2 := 61) (dkAt dkX8_person 31 (q := (60, .iload_n 1, 1)) rfl) rfl rfl 1 rfl ?_
          refine k_iload_n C (pc2 := 62) (dkAt dkX8_person 32 (q := (61, .iload_n 2, 1)) rfl) rfl rfl 2 rfl ?_
          refine k_iload_n C (pc2 := 63) (dkAt dkX8_person 33 (q := (62, .iload_n 3, 1)) rfl) rfl rfl 3 rfl ?_
          obtain ⟨q11, e12, h⟩ := ob_inv h
          refine kc_V C (As := [.int x1, .int x2, .int x3]) (st2 := []) (ct_X8_addPerson l G sh xs o0 h0 x1 x2 x3 M q11 e12) (cl_X8_131 (hts_of C) ⟨Nat.le_of_ble_eq_true rfl, Nat.le_of_ble_eq_true rfl⟩ rfl rfl) h0.1 rfl rfl rfl rfl rfl (Nat.le_of_ble_eq_true rfl) (dkAt dkX8_person 34 (q := (63, .invokevirtual 131, 3)) rfl) ⟨Nat.zero_le _, Nat.zero_le _⟩ (pc2 := 66) rfl rfl ?_
          refine k_aload_n C (pc2 := 67) (dkAt dkX8_person 35 (q := (66, .aload_n 0, 1)) rfl) rfl rfl 0 rfl ?_
          refine kf_X8_82 C (pc2 := 70) (o := o0) (o2 := 0) h0.1 (dkAt dkX8_person 36 (q := (67, .getfield 82, 3)) rfl) rfl ?_
          refine k_iconst C (pc2 := 71) (dkAt dkX8_person 37 (q := (70, .iconst 1, 1)) rfl) rfl (v := 1) rfl ?_
          refine k_isub C (pc2 := 72) (dkAt dkX8_person 38 (q := (71, .isub, 1)) rfl) rfl ?_
          exact k_iret C (dkAt dkX8_person 39 (q := (72, .ireturn, 1)) rfl) (pe2 (Option.some.inj h)) rfl (pe1 (Option.some.inj h)) rfl
        · refine k_aload_n C (pc2 := 53) (dkAt dkX8_person 26 (q := (52, .aload_n 0, 1)) rfl) rfl rfl 0 rfl ?_
          refine k_bipush C (pc2 := 55) (dkAt dkX8_person 27 (q := (53, .bipush (-6), 2)) rfl) rfl (v := (-6)) rfl ?_
          obtain ⟨q13, e14, h⟩ := ob_inv h
          refine kc_V C (As := [.int (-6)]) (st2 := [.int q13.2]) (ct_X8_refuse l G sh xs o0 h0 (-6) M q13 e14) (cl_X8_97 (hts_of C) ⟨Nat.le_of_ble_eq_true rfl, Nat.le_of_ble_eq_true rfl⟩ rfl rfl) h0.1 rfl rfl rfl rfl rfl (Nat.le_of_ble_eq_true rfl) (dkAt dkX8_person 28 (q := (55, .invokevirtual 97, 3)) rfl) ⟨Nat.zero_le _, Nat.zero_le _⟩ (pc2 := 58) rfl rfl ?_
          exact k_iret C (dkAt dkX8_person 29 (q := (58, .ireturn, 1)) rfl) (pe2 (Option.some.inj h)) rfl (pe1 (Option.some.inj h)) rfl
      · refine k_aload_n C (pc2 := 37) (dkAt dkX8_person 18 (q := (36, .aload_n 0, 1)) rfl) rfl rfl 0 rfl ?_
        refine k_bipush C (pc2 := 39) (dkAt dkX8_person 19 (q := (37, .bipush (-2), 2)) rfl) rfl (v := (-2)) rfl ?_
        obtain ⟨q15, e16, h⟩ := ob_inv h
        refine kc_V C (As := [.int (-2)]) (st2 := [.int q15.2]) (ct_X8_refuse l G sh xs o0 h0 (-2) M q15 e16) (cl_X8_97 (hts_of C) ⟨Nat.le_of_ble_eq_true rfl, Nat.le_of_ble_eq_true rfl⟩ rfl rfl) h0.1 rfl rfl rfl rfl rfl (Nat.le_of_ble_eq_true rfl) (dkAt dkX8_person 20 (q := (39, .invokevirtual 97, 3)) rfl) ⟨Nat.zero_le _, Nat.zero_le _⟩ (pc2 := 42) rfl rfl ?_
        exact k_iret C (dkAt dkX8_person 21 (q := (42, .ireturn, 1)) rfl) (pe2 (Option.some.inj h)) rfl (pe1 (Option.some.inj h)) rfl
set_option maxRecDepth 100000 in
set_option maxHeartbeats 4000000 in
theorem ct_X8_frees (l : Launch) (G : GG) (sh : Sh) (xs : List va_E) (o0 : Nat) (h0 : isM sh o0) (x1 : Int32) (x2 : Int32) (x3 : Int32) (M : Mm) (r : Mm) (h : f_X8_frees o0 x1 x2 x3 M = some r) : Ct l yX8_frees cX8_frees 4 none rm_X8_frees G [rA G o0, .int x1, .int x2, .int x3] sh M xs none sh r xs 0 0 := by
  refine ct_of (by decide) (Nat.le_of_ble_eq_true rfl) ?_
  intro p e s m args below meth c hnm C
  refine k_lv [0, 1, 2, 3] (lv2 := [(0, rA G o0), (1, .int x1), (2, .int x2), (3, .int x3)]) rfl ?_
  unfold f_X8_frees at h
  refine k_aload_n C (pc2 := 1) (dkAt dkX8_frees 0 (q := (0, .aload_n 0, 1)) rfl) rfl rfl 0 rfl ?_
  refine kf_X8_50 C (pc2 := 4) (o := o0) (o2 := o0 + 20) h0.1 rfl (dkAt dkX8_frees 1 (q := (1, .getfield 50, 3)) rfl) rfl ?_
  refine k_iload_n C (pc2 := 5) (dkAt dkX8_frees 2 (q := (4, .iload_n 1, 1)) rfl) rfl rfl 1 rfl ?_
  refine k_iload_n C (pc2 := 6) (dkAt dkX8_frees 3 (q := (5, .iload_n 3, 1)) rfl) rfl rfl 3 rfl ?_
  refine k_if_eq C (tgt := 22) (pc2 := 9) (dkAt dkX8_frees 4 (q := (6, .ifCond .eq 16, 3)) rfl) (by decide) rfl h (fun h => ?_) (fun h => ?_)
  · refine k_aload_n C (pc2 := 23) (dkAt dkX8_frees 14 (q := (22, .aload_n 0, 1)) rfl) rfl rfl 0 rfl ?_
    refine kf_X8_50 C (pc2 := 26) (o := o0) (o2 := o0 + 20) h0.1 rfl (dkAt dkX8_frees 15 (q := (23, .getfield 50, 3)) rfl) rfl ?_
    refine k_iload_n C (pc2 := 27) (dkAt dkX8_frees 16 (q := (26, .iload_n 1, 1)) rfl) rfl rfl 1 rfl ?_
    refine k_iald C (pc2 := 28) (o := o0 + 20) (nA := 8) (isM_can h0) (dkAt dkX8_frees 17 (q := (27, .iaload, 1)) rfl) rfl h (fun h => ?_)
    refine k_iconst C (pc2 := 29) (dkAt dkX8_frees 18 (q := (28, .iconst 1, 1)) rfl) rfl (v := 1) rfl ?_
    refine k_iload_n C (pc2 := 30) (dkAt dkX8_frees 19 (q := (29, .iload_n 2, 1)) rfl) rfl rfl 2 rfl ?_
    refine k_ishl C (pc2 := 31) (dkAt dkX8_frees 20 (q := (30, .ishl, 1)) rfl) rfl ?_
    refine k_iconst C (pc2 := 32) (dkAt dkX8_frees 21 (q := (31, .iconst (-1), 1)) rfl) rfl (v := (-1)) rfl ?_
    refine k_ixor C (pc2 := 33) (dkAt dkX8_frees 22 (q := (32, .ixor, 1)) rfl) rfl ?_
    refine k_iand C (pc2 := 34) (dkAt dkX8_frees 23 (q := (33, .iand, 1)) rfl) rfl ?_
    refine k_iast C (pc2 := 35) (o := o0 + 20) (nA := 8) (isM_can h0) (dkAt dkX8_frees 24 (q := (34, .iastore, 1)) rfl) rfl h (fun M1 h => ?_)
    exact k_vret C (dkAt dkX8_frees 25 (q := (35, .return_, 1)) rfl) rfl (Option.some.inj h) rfl
  · refine k_aload_n C (pc2 := 10) (dkAt dkX8_frees 5 (q := (9, .aload_n 0, 1)) rfl) rfl rfl 0 rfl ?_
    refine kf_X8_50 C (pc2 := 13) (o := o0) (o2 := o0 + 20) h0.1 rfl (dkAt dkX8_frees 6 (q := (10, .getfield 50, 3)) rfl) rfl ?_
    refine k_iload_n C (pc2 := 14) (dkAt dkX8_frees 7 (q := (13, .iload_n 1, 1)) rfl) rfl rfl 1 rfl ?_
    refine k_iald C (pc2 := 15) (o := o0 + 20) (nA := 8) (isM_can h0) (dkAt dkX8_frees 8 (q := (14, .iaload, 1)) rfl) rfl h (fun h => ?_)
    refine k_iconst C (pc2 := 16) (dkAt dkX8_frees 9 (q := (15, .iconst 1, 1)) rfl) rfl (v := 1) rfl ?_
    refine k_iload_n C (pc2 := 17) (dkAt dkX8_frees 10 (q := (16, .iload_n 2, 1)) rfl) rfl rfl 2 rfl ?_
    refine k_ishl C (pc2 := 18) (dkAt dkX8_frees 11 (q := (17, .ishl, 1)) rfl) rfl ?_
    refine k_ior C (pc2 := 19) (dkAt dkX8_frees 12 (q := (18, .ior, 1)) rfl) rfl ?_
    refine k_goto C (tgt := 34) (dkAt dkX8_frees 13 (q := (19, .goto 15, 3)) rfl) (by decide) ?_
    refine k_iast C (pc2 := 35) (o := o0 + 20) (nA := 8) (isM_can h0) (dkAt dkX8_frees 24 (q := (34, .iastore, 1)) rfl) rfl h (fun M2 h => ?_)
    exact k_vret C (dkAt dkX8_frees 25 (q := (35, .return_, 1)) rfl) rfl (Option.some.inj h) rfl
