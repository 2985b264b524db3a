set_option maxRecDepth 100000 in
set_option maxHeartbeats 4000000 in
theorem ct_X8_free (l : Launch) (G : GG) (sh : Sh) (xs : List va_E) (o0 : Nat) (h0 : isM sh o0) (x1 : Int32) (x2 : Int32) (x3 : Int32) (M : Mm) (r : Mm × Int32) (h : f_X8_free o0 x1 x2 x3 M = some r) : Ct l yX8_free cX8_free 5 (some .int) rm_X8_free G [rA G o0, .int x1, .int x2, .int x3] sh M xs (some (.int r.2)) sh r.1 xs 0 0 := by
  refine ct_of (by decide) (Nat.le_of_ble_eq_true rfl) ?_
  intro p e s m args below meth c hnm C
  refine k_lv [0, 1, 2, 3] (lv2 := [(0, rA G o0), (1, .int x1), (2, .int x2), (3, .int x3)]) rfl ?_
  unfold f_X8_free at h
  refine k_aload_n C (pc2 := 1) (dkAt dkX8_free 0 (q := (0, .aload_n 0, 1)) rfl) rfl rfl 0 rfl ?_
  refine k_iload_n C (pc2 := 2) (dkAt dkX8_free 1 (q := (1, .iload_n 1, 1)) rfl) rfl rfl 1 rfl ?_
  obtain ⟨q1, e2, h⟩ := ob_inv h
  refine kc_V C (As := [.int x1]) (st2 := [.int q1]) (ct_X8_isOne l G sh xs o0 h0 x1 M q1 e2) (cl_X8_108 (hts_of C) ⟨Nat.le_of_ble_eq_true rfl, Nat.le_of_ble_eq_true rfl⟩ rfl rfl) h0.1 rfl rfl rfl rfl rfl (Nat.le_of_ble_eq_true rfl) (dkAt dkX8_free 2 (q := (2, .invokevirtual 108, 3)) rfl) ⟨Nat.zero_le _, Nat.zero_le _⟩ (pc2 := 5) rfl rfl ?_
  refine k_if_eq C (tgt := 17) (pc2 := 8) (dkAt dkX8_free 3 (q := (5, .ifCond .eq 12, 3)) rfl) (by decide) rfl h (fun h => ?_) (fun h => ?_)
  · refine k_aload_n C (pc2 := 18) (dkAt dkX8_free 9 (q := (17, .aload_n 0, 1)) rfl) rfl rfl 0 rfl ?_
    refine k_bipush C (pc2 := 20) (dkAt dkX8_free 10 (q := (18, .bipush (-2), 2)) rfl) rfl (v := (-2)) rfl ?_
    obtain ⟨q3, e4, h⟩ := ob_inv h
    refine kc_V C (As := [.int (-2)]) (st2 := [.int q3.2]) (ct_X8_refuse l G sh xs o0 h0 (-2) M q3 e4) (cl_X8_97 (hts_of C) ⟨Nat.le_of_ble_eq_true rfl, Nat.le_of_ble_eq_true rfl⟩ rfl rfl) h0.1 rfl rfl rfl rfl rfl (Nat.le_of_ble_eq_true rfl) (dkAt dkX8_free 11 (q := (20, .invokevirtual 97, 3)) rfl) ⟨Nat.zero_le _, Nat.zero_le _⟩ (pc2 := 23) rfl rfl ?_
    exact k_iret C (dkAt dkX8_free 12 (q := (23, .ireturn, 1)) rfl) (pe2 (Option.some.inj h)) rfl (pe1 (Option.some.inj h)) rfl
  · refine k_aload_n C (pc2 := 9) (dkAt dkX8_free 4 (q := (8, .aload_n 0, 1)) rfl) rfl rfl 0 rfl ?_
    refine k_iload_n C (pc2 := 10) (dkAt dkX8_free 5 (q := (9, .iload_n 2, 1)) rfl) rfl rfl 2 rfl ?_
    refine k_i2l C (pc2 := 11) (dkAt dkX8_free 6 (q := (10, .i2l, 1)) rfl) rfl ?_
    obtain ⟨q5, e6, h⟩ := ob_inv h
    refine kc_V C (As := [.long x2.toInt64]) (st2 := [.int q5]) (ct_X8_isDay l G sh xs o0 h0 x2.toInt64 M q5 e6) (cl_X8_135 (hts_of C) ⟨Nat.le_of_ble_eq_true rfl, Nat.le_of_ble_eq_true rfl⟩ rfl rfl) h0.1 rfl rfl rfl rfl rfl (Nat.le_of_ble_eq_true rfl) (dkAt dkX8_free 7 (q := (11, .invokevirtual 135, 3)) rfl) ⟨Nat.zero_le _, Nat.zero_le _⟩ (pc2 := 14) rfl rfl ?_
    refine k_if_ne C (tgt := 24) (pc2 := 17) (dkAt dkX8_free 8 (q := (14, .ifCond .ne 10, 3)) rfl) (by decide) rfl h (fun h => ?_) (fun h => ?_)
    · refine k_aload_n C (pc2 := 25) (dkAt dkX8_free 13 (q := (24, .aload_n 0, 1)) rfl) rfl rfl 0 rfl ?_
      refine k_iload_n C (pc2 := 26) (dkAt dkX8_free 14 (q := (25, .iload_n 1, 1)) rfl) rfl rfl 1 rfl ?_
      refine k_iload_n C (pc2 := 27) (dkAt dkX8_free 15 (q := (26, .iload_n 2, 1)) rfl) rfl rfl 2 rfl ?_
      obtain ⟨q7, e8, h⟩ := ob_inv h
      refine kc_V C (As := [.int x1, .int x2]) (st2 := [.int q7]) (ct_X8_isFree l G sh xs o0 h0 x1 x2 M q7 e8) (cl_X8_139 (hts_of C) ⟨Nat.le_of_ble_eq_true rfl, Nat.le_of_ble_eq_true rfl⟩ rfl rfl) h0.1 rfl rfl rfl rfl rfl (Nat.le_of_ble_eq_true rfl) (dkAt dkX8_free 16 (q := (27, .invokevirtual 139, 3)) rfl) ⟨Nat.zero_le _, Nat.zero_le _⟩ (pc2 := 30) rfl rfl ?_
      refine k_if_eq C (tgt := 37) (pc2 := 33) (dkAt dkX8_free 17 (q := (30, .ifCond .eq 7, 3)) rfl) (by decide) rfl h (fun h => ?_) (fun h => ?_)
      · refine k_iconst C (pc2 := 38) (dkAt dkX8_free 20 (q := (37, .iconst 0, 1)) rfl) rfl (v := 0) rfl ?_
        refine k_istore C (pc2 := 40) (dkAt dkX8_free 21 (q := (38, .istore 4, 2)) rfl) rfl (by decide) (lv2 := [(4, .int 0), (0, rA G o0), (1, .int x1), (2, .int x2), (3, .int x3)]) rfl ?_
        refine k_aload_n C (pc2 := 41) (dkAt dkX8_free 22 (q := (40, .aload_n 0, 1)) rfl) rfl rfl 1 rfl ?_
        refine k_iload_n C (pc2 := 42) (dkAt dkX8_free 23 (q := (41, .iload_n 1, 1)) rfl) rfl rfl 2 rfl ?_
        refine k_iload_n C (pc2 := 43) (dkAt dkX8_free 24 (q := (42, .iload_n 2, 1)) rfl) rfl rfl 3 rfl ?_
        refine k_iload_n C (pc2 := 44) (dkAt dkX8_free 25 (q := (43, .iload_n 3, 1)) rfl) rfl rfl 4 rfl ?_
        obtain ⟨q9, e10, h⟩ := ob_inv h
        refine kc_V C (As := [.int x1, .int x2, .int x3]) (st2 := []) (ct_X8_frees l G sh xs o0 h0 x1 x2 x3 M q9 e10) (cl_X8_142 (hts_of C) ⟨Nat.le_of_ble_eq_true rfl, Nat.le_of_ble_eq_true rfl⟩ rfl rfl) h0.1 rfl rfl rfl rfl rfl (Nat.le_of_ble_eq_true rfl) (dkAt dkX8_free 26 (q := (44, .invokevirtual 142, 3)) rfl) ⟨Nat.zero_le _, Nat.zero_le _⟩ (pc2 := 47) rfl rfl ?_
        refine k_iload C (pc2 := 49) (dkAt dkX8_free 27 (q := (47, .iload 4, 2)) rfl) rfl 0 rfl ?_
        exact k_iret C (dkAt dkX8_free 28 (q := (49, .ireturn, 1)) rfl) (pe2 (Option.some.inj h)) rfl (pe1 (Option.some.inj h)) rfl
      · refine k_iconst C (pc2 := 34) (dkAt dkX8_free 18 (q := (33, .iconst 1, 1)) rfl) rfl (v := 1) rfl ?_
        refine k_goto C (tgt := 38) (dkAt dkX8_free 19 (q := (34, .goto 4, 3)) rfl) (by decide) ?_
        refine k_istore C (pc2 := 40) (dkAt dkX8_free 21 (q := (38, .istore 4, 2)) rfl) rfl (by decide) (lv2 := [(4, .int 1), (0, rA G o0), (1, .int x1), (2, .int x2), (3, .int x3)]) rfl ?_
        refine k_aload_n C (pc2 := 41) (dkAt dkX8_free 22 (q := (40, .aload_n 0, 1)) rfl) rfl rfl 1 rfl ?_
        refine k_iload_n C (pc2 := 42) (dkAt dkX8_free 23 (q := (41, .iload_n 1, 1)) rfl) rfl rfl 2 rfl ?_
        refine k_iload_n C (pc2 := 43) (dkAt dkX8_free 24 (q := (42, .iload_n 2, 1)) rfl) rfl rfl 3 rfl ?_
        refine k_iload_n C (pc2 := 44) (dkAt dkX8_free 25 (q := (43, .iload_n 3, 1)) rfl) rfl rfl 4 rfl ?_
        obtain ⟨q11, e12, h⟩ := ob_inv h
        refine kc_V C (As := [.int x1, .int x2, .int x3]) (st2 := []) (ct_X8_frees l G sh xs o0 h0 x1 x2 x3 M q11 e12) (cl_X8_142 (hts_of C) ⟨Nat.le_of_ble_eq_true rfl, Nat.le_of_ble_eq_true rfl⟩ rfl rfl) h0.1 rfl rfl rfl rfl rfl (Nat.le_of_ble_eq_true rfl) (dkAt dkX8_free 26 (q := (44, .invokevirtual 142, 3)) rfl) ⟨Nat.zero_le _, Nat.zero_le _⟩ (pc2 := 47) rfl rfl ?_
        refine k_iload C (pc2 := 49) (dkAt dkX8_free 27 (q := (47, .iload 4, 2)) rfl) rfl 0 rfl ?_
        exact k_iret C (dkAt dkX8_free 28 (q := (49, .ireturn, 1)) rfl) (pe2 (Option.some.inj h)) rfl (pe1 (Option.some.inj h)) rfl
    · refine k_aload_n C (pc2 := 18) (dkAt dkX8_free 9 (q := (17, .aload_n 0, 1)) rfl) rfl rfl 0 rfl ?_
      refine k_bipush C (pc2 := 20) (dkAt dkX8_free 10 (q := (18, .bipush (-2), 2)) rfl) rfl (v := (-2)) rfl ?_
      obtain ⟨q13, e14, h⟩ := ob_inv h
      refine kc_V C (As := [.int (-2)]) (st2 := [.int q13.2]) (ct_X8_refuse l G sh xs o0 h0 (-2) M q13 e14) (cl_X8_97 (hts_of C) ⟨Nat.le_of_ble_eq_true rfl, Nat.le_of_ble_eq_true rfl⟩ rfl rfl) h0.1 rfl rfl rfl rfl rfl (Nat.le_of_ble_eq_true rfl) (dkAt dkX8_free 11 (q := (20, .invokevirtual 97, 3)) rfl) ⟨Nat.zero_le _, Nat.zero_le _⟩ (pc2 := 23) rfl rfl ?_
      exact k_iret C (dkAt dkX8_free 12 (q := (23, .ireturn, 1)) rfl) (pe2 (Option.some.inj h)) rfl (pe1 (Option.some.inj h)) rfl
set_option maxRecDepth 100000 in
set_option maxHeartbeats 4000000 in
theorem ct_X8_ask (l : Launch) (G : GG) (sh : Sh) (xs : List va_E) (o0 : Nat) (h0 : isM sh o0) (x1 : Int32) (x2 : Int32) (M : Mm) (r : Mm × Int32) (h : f_X8_ask o0 x1 x2 M = some r) : Ct l yX8_ask cX8_ask 4 (some .int) rm_X8_ask G [rA G o0, .int x1, .int x2] sh M xs (some (.int r.2)) sh r.1 xs 0 0 := by
  refine ct_of (by decide) (Nat.le_of_ble_eq_true rfl) ?_
  intro p e s m args below meth c hnm C
  refine k_lv [0, 1, 2] (lv2 := [(0, rA G o0), (1, .int x1), (2, .int x2)]) rfl ?_
  unfold f_X8_ask at h
  refine k_iload_n C (pc2 := 1) (dkAt dkX8_ask 0 (q := (0, .iload_n 1, 1)) rfl) rfl rfl 1 rfl ?_
  refine k_if_ne C (tgt := 15) (pc2 := 4) (dkAt dkX8_ask 1 (q := (1, .ifCond .ne 14, 3)) rfl) (by decide) rfl h (fun h => ?_) (fun h => ?_)
  · refine k_iload_n C (pc2 := 16) (dkAt dkX8_ask 7 (q := (15, .iload_n 1, 1)) rfl) rfl rfl 1 rfl ?_
    refine k_iconst C (pc2 := 17) (dkAt dkX8_ask 8 (q := (16, .iconst 1, 1)) rfl) rfl (v := 1) rfl ?_
    refine k_icmp_ne C (tgt := 35) (pc2 := 20) (dkAt dkX8_ask 9 (q := (17, .if_icmp .ne 18, 3)) rfl) (by decide) rfl h (fun h => ?_) (fun h => ?_)
    · refine k_iload_n C (pc2 := 36) (dkAt dkX8_ask 17 (q := (35, .iload_n 1, 1)) rfl) rfl rfl 1 rfl ?_
      refine k_iconst C (pc2 := 37) (dkAt dkX8_ask 18 (q := (36, .iconst 2, 1)) rfl) rfl (v := 2) rfl ?_
      refine k_icmp_ne C (tgt := 52) (pc2 := 40) (dkAt dkX8_ask 19 (q := (37, .if_icmp .ne 15, 3)) rfl) (by decide) rfl h (fun h => ?_) (fun h => ?_)
      · refine k_aload_n C (pc2 := 53) (dkAt dkX8_ask 26 (q := (52, .aload_n 0, 1)) rfl) rfl rfl 0 rfl ?_
        refine k_bipush C (pc2 := 55) (dkAt dkX8_ask 27 (q := (53, .bipush (-2), 2)) rfl) rfl (v := (-2)) rfl ?_
        obtain ⟨q1, e2, h⟩ := ob_inv h
        refine kc_V C (As := [.int (-2)]) (st2 := [.int q1.2]) (ct_X8_refuse l G sh xs o0 h0 (-2) M q1 e2) (cl_X8_97 (hts_of C) ⟨Nat.le_of_ble_eq_true rfl, Nat.le_of_ble_eq_true rfl⟩ rfl rfl) h0.1 rfl rfl rfl rfl rfl (Nat.le_of_ble_eq_true rfl) (dkAt dkX8_ask 28 (q := (55, .invokevirtual 97, 3)) rfl) ⟨Nat.zero_le _, Nat.zero_le _⟩ (pc2 := 58) rfl rfl ?_
        exact k_iret C (dkAt dkX8_ask 29 (q := (58, .ireturn, 1)) rfl) (pe2 (Option.some.inj h)) rfl (pe1 (Option.some.inj h)) rfl
      · refine k_iload_n C (pc2 := 41) (dkAt dkX8_ask 20 (q := (40, .iload_n 2, 1)) rfl) rfl rfl 2 rfl ?_
        refine k_i2l C (pc2 := 42) (dkAt dkX8_ask 21 (q := (41, .i2l, 1)) rfl) rfl ?_
        refine k_lconst C (pc2 := 43) (dkAt dkX8_ask 22 (q := (42, .lconst 0, 1)) rfl) rfl (v := 0) rfl ?_
        refine k_ldc2 C (pc2 := 46) (dkAt dkX8_ask 23 (q := (43, .ldc2_w 129, 3)) rfl) rfl (v := 12) tL_X8_129 ?_
        obtain ⟨q3, e4, h⟩ := ob_inv h
        refine kc_S C (As := [.long x2.toInt64, .long 0, .long 12]) (st2 := [.int q3]) (ct_X8_in l G sh xs x2.toInt64 0 12 M q3 e4) (cl_X8_85 (hts_of C) ⟨Nat.le_of_ble_eq_true rfl, Nat.le_of_ble_eq_true rfl⟩ rfl rfl) rfl rfl (Nat.le_of_ble_eq_true rfl) (dkAt dkX8_ask 24 (q := (46, .invokestatic 85, 3)) rfl) ⟨Nat.zero_le _, Nat.zero_le _⟩ (pc2 := 49) rfl rfl ?_
        refine k_if_ne C (tgt := 59) (pc2 := 52) (dkAt dkX8_ask 25 (q := (49, .ifCond .ne 10, 3)) rfl) (by decide) rfl h (fun h => ?_) (fun h => ?_)
        · refine k_aload_n C (pc2 := 60) (dkAt dkX8_ask 30 (q := (59, .aload_n 0, 1)) rfl) rfl rfl 0 rfl ?_
          refine kf_X8_56 C (pc2 := 63) (o := o0) (o2 := o0 + 22) h0.1 rfl (dkAt dkX8_ask 31 (q := (60, .getfield 56, 3)) rfl) rfl ?_
          refine k_iload_n C (pc2 := 64) (dkAt dkX8_ask 32 (q := (63, .iload_n 1, 1)) rfl) rfl rfl 1 rfl ?_
          refine k_iald C (pc2 := 65) (o := o0 + 22) (nA := 3) (isM_asked h0) (dkAt dkX8_ask 33 (q := (64, .iaload, 1)) rfl) rfl h (fun h => ?_)
          refine kb_istore_n C (pc2 := 66) (dkAt dkX8_ask 34 (q := (65, .istore_n 3, 1)) rfl) rfl rfl (by decide) (lv2 := fun v5 => [(3, .int v5), (0, rA G o0), (1, .int x1), (2, .int x2)]) (fun _ => rfl) h (fun v5 h => ?_)
          refine k_aload_n C (pc2 := 67) (dkAt dkX8_ask 35 (q := (66, .aload_n 0, 1)) rfl) rfl rfl 1 rfl ?_
          refine kf_X8_56 C (pc2 := 70) (o := o0) (o2 := o0 + 22) h0.1 rfl (dkAt dkX8_ask 36 (q := (67, .getfield 56, 3)) rfl) rfl ?_
          refine k_iload_n C (pc2 := 71) (dkAt dkX8_ask 37 (q := (70, .iload_n 1, 1)) rfl) rfl rfl 2 rfl ?_
          refine k_iload_n C (pc2 := 72) (dkAt dkX8_ask 38 (q := (71, .iload_n 2, 1)) rfl) rfl rfl 3 rfl ?_
          refine k_iast C (pc2 := 73) (o := o0 + 22) (nA := 3) (isM_asked h0) (dkAt dkX8_ask 39 (q := (72, .iastore, 1)) rfl) rfl h (fun M6 h => ?_)
          refine k_iload_n C (pc2 := 74) (dkAt dkX8_ask 40 (q := (73, .iload_n 3, 1)) rfl) rfl rfl 0 rfl ?_
          exact k_iret C (dkAt dkX8_ask 41 (q := (74, .ireturn, 1)) rfl) (pe2 (Option.some.inj h)) rfl (pe1 (Option.some.inj h)) rfl
        · refine k_aload_n C (pc2 := 53) (dkAt dkX8_ask 26 (q := (52, .aload_n 0, 1)) rfl) rfl rfl 0 rfl ?_
          refine k_bipush C (pc2 := 55) (dkAt dkX8_ask 27 (q := (53, .bipush (-2), 2)) rfl) rfl (v := (-2)) rfl ?_
          obtain ⟨q7, e8, h⟩ := ob_inv h
          refine kc_V C (As := [.int (-2)]) (st2 := [.int q7.2]) (ct_X8_refuse l G sh xs o0 h0 (-2) M q7 e8) (cl_X8_97 (hts_of C) ⟨Nat.le_of_ble_eq_true rfl, Nat.le_of_ble_eq_true rfl⟩ rfl rfl) h0.1 rfl rfl rfl rfl rfl (Nat.le_of_ble_eq_true rfl) (dkAt dkX8_ask 28 (q := (55, .invokevirtual 97, 3)) rfl) ⟨Nat.zero_le _, Nat.zero_le _⟩ (pc2 := 58) rfl rfl ?_
          exact k_iret C (dkAt dkX8_ask 29 (q := (58, .ireturn, 1)) rfl) (pe2 (Option.some.inj h)) rfl (pe1 (Option.some.inj h)) rfl
    · refine k_iload_n C (pc2 := 21) (dkAt dkX8_ask 10 (q := (20, .iload_n 2, 1)) rfl) rfl rfl 2 rfl ?_
      refine k_i2l C (pc2 := 22) (dkAt dkX8_ask 11 (q := (21, .i2l, 1)) rfl) rfl ?_
      refine k_lconst C (pc2 := 23) (dkAt dkX8_ask 12 (q := (22, .lconst 1, 1)) rfl) rfl (v := 1) rfl ?_
      refine k_ldc2 C (pc2 := 26) (dkAt dkX8_ask 13 (q := (23, .ldc2_w 146, 3)) rfl) rfl (v := 8) tL_X8_146 ?_
      obtain ⟨q9, e10, h⟩ := ob_inv h
      refine kc_S C (As := [.long x2.toInt64, .long 1, .long 8]) (st2 := [.int q9]) (ct_X8_in l G sh xs x2.toInt64 1 8 M q9 e10) (cl_X8_85 (hts_of C) ⟨Nat.le_of_ble_eq_true rfl, Nat.le_of_ble_eq_true rfl⟩ rfl rfl) rfl rfl (Nat.le_of_ble_eq_true rfl) (dkAt dkX8_ask 14 (q := (26, .invokestatic 85, 3)) rfl) ⟨Nat.zero_le _, Nat.zero_le _⟩ (pc2 := 29) rfl rfl ?_
      refine k_if_ne C (tgt := 59) (pc2 := 32) (dkAt dkX8_ask 15 (q := (29, .ifCond .ne 30, 3)) rfl) (by decide) rfl h (fun h => ?_) (fun h => ?_)
      · refine k_aload_n C (pc2 := 60) (dkAt dkX8_ask 30 (q := (59, .aload_n 0, 1)) rfl) rfl rfl 0 rfl ?_
        refine kf_X8_56 C (pc2 := 63) (o := o0) (o2 := o0 + 22) h0.1 rfl (dkAt dkX8_ask 31 (q := (60, .getfield 56, 3)) rfl) rfl ?_
        refine k_iload_n C (pc2 := 64) (dkAt dkX8_ask 32 (q := (63, .iload_n 1, 1)) rfl) rfl rfl 1 rfl ?_
        refine k_iald C (pc2 := 65) (o := o0 + 22) (nA := 3) (isM_asked h0) (dkAt dkX8_ask 33 (q := (64, .iaload, 1)) rfl) rfl h (fun h => ?_)
        refine kb_istore_n C (pc2 := 66) (dkAt dkX8_ask 34 (q := (65, .istore_n 3, 1)) rfl) rfl rfl (by decide) (lv2 := fun v11 => [(3, .int v11), (0, rA G o0), (1, .int x1), (2, .int x2)]) (fun _ => rfl) h (fun v11 h => ?_)
        refine k_aload_n C (pc2 := 67) (dkAt dkX8_ask 35 (q := (66, .aload_n 0, 1)) rfl) rfl rfl 1 rfl ?_
        refine kf_X8_56 C (pc2 := 70) (o := o0) (o2 := o0 + 22) h0.1 rfl (dkAt dkX8_ask 36 (q := (67, .getfield 56, 3)) rfl) rfl ?_
        refine k_iload_n C (pc2 := 71) (dkAt dkX8_ask 37 (q := (70, .iload_n 1, 1)) rfl) rfl rfl 2 rfl ?_
        refine k_iload_n C (pc2 := 72) (dkAt dkX8_ask 38 (q := (71, .iload_n 2, 1)) rfl) rfl rfl 3 rfl ?_
        refine k_iast C (pc2 := 73) (o := o0 + 22) (nA := 3) (isM_asked h0) (dkAt dkX8_ask 39 (q := (72, .iastore, 1)) rfl) rfl h (fun M12 h => ?_)
        refine k_iload_n C (pc2 := 74) (dkAt dkX8_ask 40 (q := (73, .iload_n 3, 1)) rfl) rfl rfl 0 rfl ?_
        exact k_iret C (dkAt dkX8_ask 41 (q := (74, .ireturn, 1)) rfl) (pe2 (Option.some.inj h)) rfl (pe1 (Option.some.inj h)) rfl
      · refine k_goto C (tgt := 52) (dkAt dkX8_ask 16 (q := (32, .goto 20, 3)) rfl) (by decide) ?_
        refine k_aload_n C (pc2 := 53) (dkAt dkX8_ask 26 (q := (52, .aload_n 0, 1)) rfl) rfl rfl 0 rfl ?_
        refine k_bipush C (pc2 := 55) (dkAt dkX8_ask 27 (q := (53, .bipush (-2), 2)) rfl) rfl (v := (-2)) rfl ?_
        obtain ⟨q13, e14, h⟩ := ob_inv h
        refine kc_V C (As := [.int (-2)]) (st2 := [.int q13.2]) (ct_X8_refuse l G sh xs o0 h0 (-2) M q13 e14) (cl_X8_97 (hts_of C) ⟨Nat.le_of_ble_eq_true rfl, Nat.le_of_ble_eq_true rfl⟩ rfl rfl) h0.1 rfl rfl rfl rfl rfl (Nat.le_of_ble_eq_true rfl) (dkAt dkX8_ask 28 (q := (55, .invokevirtual 97, 3)) rfl) ⟨Nat.zero_le _, Nat.zero_le _⟩ (pc2 := 58) rfl rfl ?_
        exact k_iret C (dkAt dkX8_ask 29 (q := (58, .ireturn, 1)) rfl) (pe2 (Option.some.inj h)) rfl (pe1 (Option.some.inj h)) rfl
  · refine k_aload_n C (pc2 := 5) (dkAt dkX8_ask 2 (q := (4, .aload_n 0, 1)) rfl) rfl rfl 0 rfl ?_
    refine k_iload_n C (pc2 := 6) (dkAt dkX8_ask 3 (q := (5, .iload_n 2, 1)) rfl) rfl rfl 2 rfl ?_
    obtain ⟨q15, e16, h⟩ := ob_inv h
    refine kc_V C (As := [.int x2]) (st2 := [.int q15]) (ct_X8_isOne l G sh xs o0 h0 x2 M q15 e16) (cl_X8_108 (hts_of C) ⟨Nat.le_of_ble_eq_true rfl, Nat.le_of_ble_eq_true rfl⟩ rfl rfl) h0.1 rfl rfl rfl rfl rfl (Nat.le_of_ble_eq_true rfl) (dkAt dkX8_ask 4 (q := (6, .invokevirtual 108, 3)) rfl) ⟨Nat.zero_le _, Nat.zero_le _⟩ (pc2 := 9) rfl rfl ?_
    refine k_if_ne C (tgt := 59) (pc2 := 12) (dkAt dkX8_ask 5 (q := (9, .ifCond .ne 50, 3)) rfl) (by decide) rfl h (fun h => ?_) (fun h => ?_)
    · refine k_aload_n C (pc2 := 60) (dkAt dkX8_ask 30 (q := (59, .aload_n 0, 1)) rfl) rfl rfl 0 rfl ?_
      refine kf_X8_56 C (pc2 := 63) (o := o0) (o2 := o0 + 22) h0.1 rfl (dkAt dkX8_ask 31 (q := (60, .getfield 56, 3)) rfl) rfl ?_
      refine k_iload_n C (pc2 := 64) (dkAt dkX8_ask 32 (q := (63, .iload_n 1, 1)) rfl) rfl rfl 1 rfl ?_
      refine k_iald C (pc2 := 65) (o := o0 + 22) (nA := 3) (isM_asked h0) (dkAt dkX8_ask 33 (q := (64, .iaload, 1)) rfl) rfl h (fun h => ?_)
      refine kb_istore_n C (pc2 := 66) (dkAt dkX8_ask 34 (q := (65, .istore_n 3, 1)) rfl) rfl rfl (by decide) (lv2 := fun v17 => [(3, .int v17), (0, rA G o0), (1, .int x1), (2, .int x2)]) (fun _ => rfl) h (fun v17 h => ?_)
      refine k_aload_n C (pc2 := 67) (dkAt dkX8_ask 35 (q := (66, .aload_n 0, 1)) rfl) rfl rfl 1 rfl ?_
      refine kf_X8_56 C (pc2 := 70) (o := o0) (o2 := o0 + 22) h0.1 rfl (dkAt dkX8_ask 36 (q := (67, .getfield 56, 3)) rfl) rfl ?_
      refine k_iload_n C (pc2 := 71) (dkAt dkX8_ask 37 (q := (70, .iload_n 1, 1)) rfl) rfl rfl 2 rfl ?_
      refine k_iload_n C (pc2 := 72) (dkAt dkX8_ask 38 (q := (71, .iload_n 2, 1)) rfl) rfl rfl 3 rfl ?_
      refine k_iast C (pc2 := 73) (o := o0 + 22) (nA := 3) (isM_asked h0) (dkAt dkX8_ask 39 (q := (72, .iastore, 1)) rfl) rfl h (fun M18 h => ?_)
      refine k_iload_n C (pc2 := 74) (dkAt dkX8_ask 40 (q := (73, .iload_n 3, 1)) rfl) rfl rfl 0 rfl ?_
      exact k_iret C (dkAt dkX8_ask 41 (q := (74, .ireturn, 1)) rfl) (pe2 (Option.some.inj h)) rfl (pe1 (Option.some.inj h)) rfl
    · refine k_goto C (tgt := 52) (dkAt dkX8_ask 6 (q := (12, .goto 40, 3)) rfl) (by decide) ?_
      refine k_aload_n C (pc2 := 53) (dkAt dkX8_ask 26 (q := (52, .aload_n 0, 1)) rfl) rfl rfl 0 rfl ?_
      refine k_bipush C (pc2 := 55) (dkAt dkX8_ask 27 (q := (53, .bipush (-2), 2)) rfl) rfl (v := (-2)) rfl ?_
      obtain ⟨q19, e20, h⟩ := ob_inv h
      refine kc_V C (As := [.int (-2)]) (st2 := [.int q19.2]) (ct_X8_refuse l G sh xs o0 h0 (-2) M q19 e20) (cl_X8_97 (hts_of C) ⟨Nat.le_of_ble_eq_true rfl, Nat.le_of_ble_eq_true rfl⟩ rfl rfl) h0.1 rfl rfl rfl rfl rfl (Nat.le_of_ble_eq_true rfl) (dkAt dkX8_ask 28 (q := (55, .invokevirtual 97, 3)) rfl) ⟨Nat.zero_le _, Nat.zero_le _⟩ (pc2 := 58) rfl rfl ?_
      exact k_iret C (dkAt dkX8_ask 29 (q := (58, .ireturn, 1)) rfl) (pe2 (Option.some.inj h)) rfl (pe1 (Option.some.inj h)) rfl
set_option maxRecDepth 100000 in
set_option maxHeartbeats 4000000 in
theorem ct_X8_out (l : Launch) (G : GG) (sh : Sh) (xs : List va_E) (o0 : Nat) (h0 : isM sh o0) (x1 : Int32) (x2 : Int32) (M : Mm) (r : Mm × Int32) (h : f_X8_out o0 x1 x2 M = some r) : Ct l yX8_out cX8_out 4 (some .int) rm_X8_out G [rA G o0, .int x1, .int x2] sh M xs (some (.int r.2)) sh r.1 xs 0 0 := by
  refine ct_of (by decide) (Nat.le_of_ble_eq_true rfl) ?_
  intro p e s m args below meth c hnm C
  refine k_lv [0, 1, 2] (lv2 := [(0, rA G o0), (1, .int x1), (2, .int x2)]) rfl ?_
  unfold f_X8_out at h
  refine k_aload_n C (pc2 := 1) (dkAt dkX8_out 0 (q := (0, .aload_n 0, 1)) rfl) rfl rfl 0 rfl ?_
  refine k_iload_n C (pc2 := 2) (dkAt dkX8_out 1 (q := (1, .iload_n 1, 1)) rfl) rfl rfl 1 rfl ?_
  obtain ⟨q1, e2, h⟩ := ob_inv h
  refine kc_V C (As := [.int x1]) (st2 := [.int q1]) (ct_X8_isOne l G sh xs o0 h0 x1 M q1 e2) (cl_X8_108 (hts_of C) ⟨Nat.le_of_ble_eq_true rfl, Nat.le_of_ble_eq_true rfl⟩ rfl rfl) h0.1 rfl rfl rfl rfl rfl (Nat.le_of_ble_eq_true rfl) (dkAt dkX8_out 2 (q := (2, .invokevirtual 108, 3)) rfl) ⟨Nat.zero_le _, Nat.zero_le _⟩ (pc2 := 5) rfl rfl ?_
  refine k_if_eq C (tgt := 20) (pc2 := 8) (dkAt dkX8_out 3 (q := (5, .ifCond .eq 15, 3)) rfl) (by decide) rfl h (fun h => ?_) (fun h => ?_)
  · refine k_aload_n C (pc2 := 21) (dkAt dkX8_out 10 (q := (20, .aload_n 0, 1)) rfl) rfl rfl 0 rfl ?_
    refine k_bipush C (pc2 := 23) (dkAt dkX8_out 11 (q := (21, .bipush (-2), 2)) rfl) rfl (v := (-2)) rfl ?_
    obtain ⟨q3, e4, h⟩ := ob_inv h
    refine kc_V C (As := [.int (-2)]) (st2 := [.int q3.2]) (ct_X8_refuse l G sh xs o0 h0 (-2) M q3 e4) (cl_X8_97 (hts_of C) ⟨Nat.le_of_ble_eq_true rfl, Nat.le_of_ble_eq_true rfl⟩ rfl rfl) h0.1 rfl rfl rfl rfl rfl (Nat.le_of_ble_eq_true rfl) (dkAt dkX8_out 12 (q := (23, .invokevirtual 97, 3)) rfl) ⟨Nat.zero_le _, Nat.zero_le _⟩ (pc2 := 26) rfl rfl ?_
    exact k_iret C (dkAt dkX8_out 13 (q := (26, .ireturn, 1)) rfl) (pe2 (Option.some.inj h)) rfl (pe1 (Option.some.inj h)) rfl
  · refine k_iload_n C (pc2 := 9) (dkAt dkX8_out 4 (q := (8, .iload_n 2, 1)) rfl) rfl rfl 2 rfl ?_
    refine k_i2l C (pc2 := 10) (dkAt dkX8_out 5 (q := (9, .i2l, 1)) rfl) rfl ?_
    refine k_lconst C (pc2 := 11) (dkAt dkX8_out 6 (q := (10, .lconst 0, 1)) rfl) rfl (v := 0) rfl ?_
    refine k_ldc2 C (pc2 := 14) (dkAt dkX8_out 7 (q := (11, .ldc2_w 89, 3)) rfl) rfl (v := 99) tL_X8_89 ?_
    obtain ⟨q5, e6, h⟩ := ob_inv h
    refine kc_S C (As := [.long x2.toInt64, .long 0, .long 99]) (st2 := [.int q5]) (ct_X8_in l G sh xs x2.toInt64 0 99 M q5 e6) (cl_X8_85 (hts_of C) ⟨Nat.le_of_ble_eq_true rfl, Nat.le_of_ble_eq_true rfl⟩ rfl rfl) rfl rfl (Nat.le_of_ble_eq_true rfl) (dkAt dkX8_out 8 (q := (14, .invokestatic 85, 3)) rfl) ⟨Nat.zero_le _, Nat.zero_le _⟩ (pc2 := 17) rfl rfl ?_
    refine k_if_ne C (tgt := 27) (pc2 := 20) (dkAt dkX8_out 9 (q := (17, .ifCond .ne 10, 3)) rfl) (by decide) rfl h (fun h => ?_) (fun h => ?_)
    · refine k_aload_n C (pc2 := 28) (dkAt dkX8_out 14 (q := (27, .aload_n 0, 1)) rfl) rfl rfl 0 rfl ?_
      refine kf_X8_53 C (pc2 := 31) (o := o0) (o2 := o0 + 21) h0.1 rfl (dkAt dkX8_out 15 (q := (28, .getfield 53, 3)) rfl) rfl ?_
      refine k_iload_n C (pc2 := 32) (dkAt dkX8_out 16 (q := (31, .iload_n 1, 1)) rfl) rfl rfl 1 rfl ?_
      refine k_iald C (pc2 := 33) (o := o0 + 21) (nA := 8) (isM_left h0) (dkAt dkX8_out 17 (q := (32, .iaload, 1)) rfl) rfl h (fun h => ?_)
      refine kb_istore_n C (pc2 := 34) (dkAt dkX8_out 18 (q := (33, .istore_n 3, 1)) rfl) rfl rfl (by decide) (lv2 := fun v7 => [(3, .int v7), (0, rA G o0), (1, .int x1), (2, .int x2)]) (fun _ => rfl) h (fun v7 h => ?_)
      refine k_aload_n C (pc2 := 35) (dkAt dkX8_out 19 (q := (34, .aload_n 0, 1)) rfl) rfl rfl 1 rfl ?_
      refine kf_X8_53 C (pc2 := 38) (o := o0) (o2 := o0 + 21) h0.1 rfl (dkAt dkX8_out 20 (q := (35, .getfield 53, 3)) rfl) rfl ?_
      refine k_iload_n C (pc2 := 39) (dkAt dkX8_out 21 (q := (38, .iload_n 1, 1)) rfl) rfl rfl 2 rfl ?_
      refine k_iload_n C (pc2 := 40) (dkAt dkX8_out 22 (q := (39, .iload_n 2, 1)) rfl) rfl rfl 3 rfl ?_
      refine k_iast C (pc2 := 41) (o := o0 + 21) (nA := 8) (isM_left h0) (dkAt dkX8_out 23 (q := (40, .iastore, 1)) rfl) rfl h (fun M8 h => ?_)
      refine k_iload_n C (pc2 := 42) (dkAt dkX8_out 24 (q := (41, .iload_n 3, 1)) rfl) rfl rfl 0 rfl ?_
      exact k_iret C (dkAt dkX8_out 25 (q := (42, .ireturn, 1)) rfl) (pe2 (Option.some.inj h)) rfl (pe1 (Option.some.inj h)) rfl
    · refine k_aload_n C (pc2 := 21) (dkAt dkX8_out 10 (q := (20, .aload_n 0, 1)) rfl) rfl rfl 0 rfl ?_
      refine k_bipush C (pc2 := 23) (dkAt dkX8_out 11 (q := (21, .bipush (-2), 2)) rfl) rfl (v := (-2)) rfl ?_
      obtain ⟨q9, e10, h⟩ := ob_inv h
      refine kc_V C (As := [.int (-2)]) (st2 := [.int q9.2]) (ct_X8_refuse l G sh xs o0 h0 (-2) M q9 e10) (cl_X8_97 (hts_of C) ⟨Nat.le_of_ble_eq_true rfl, Nat.le_of_ble_eq_true rfl⟩ rfl rfl) h0.1 rfl rfl rfl rfl rfl (Nat.le_of_ble_eq_true rfl) (dkAt dkX8_out 12 (q := (23, .invokevirtual 97, 3)) rfl) ⟨Nat.zero_le _, Nat.zero_le _⟩ (pc2 := 26) rfl rfl ?_
      exact k_iret C (dkAt dkX8_out 13 (q := (26, .ireturn, 1)) rfl) (pe2 (Option.some.inj h)) rfl (pe1 (Option.some.inj h)) rfl
set_option maxRecDepth 100000 in
set_option maxHeartbeats 4000000 in
theorem ct_X8_feed (l : Launch) (G : GG) (sh : Sh) (xs : List va_E) (o0 : Nat) (h0 : isM sh o0) (x1 : Int32) (M : Mm) (r : Mm × Int32) (h : f_X8_feed o0 x1 M = some r) : Ct l yX8_feed cX8_feed 2 (some .int) rm_X8_feed G [rA G o0, .int x1] sh M xs (some (.int r.2)) sh r.1 xs 0 0 := by
  refine ct_of (by decide) (Nat.le_of_ble_eq_true rfl) ?_
  intro p e s m args below meth c hnm C
  refine k_lv [0, 1] (lv2 := [(0, rA G o0), (1, .int x1)]) rfl ?_
  unfold f_X8_feed at h
  refine k_iload_n C (pc2 := 1) (dkAt dkX8_feed 0 (q := (0, .iload_n 1, 1)) rfl) rfl rfl 1 rfl ?_
  refine k_i2l C (pc2 := 2) (dkAt dkX8_feed 1 (q := (1, .i2l, 1)) rfl) rfl ?_
  refine k_lconst C (pc2 := 3) (dkAt dkX8_feed 2 (q := (2, .lconst 0, 1)) rfl) rfl (v := 0) rfl ?_
  refine k_ldc2 C (pc2 := 6) (dkAt dkX8_feed 3 (q := (3, .ldc2_w 148, 3)) rfl) rfl (v := 255) tL_X8_148 ?_
  obtain ⟨q1, e2, h⟩ := ob_inv h
  refine kc_S C (As := [.long x1.toInt64, .long 0, .long 255]) (st2 := [.int q1]) (ct_X8_in l G sh xs x1.toInt64 0 255 M q1 e2) (cl_X8_85 (hts_of C) ⟨Nat.le_of_ble_eq_true rfl, Nat.le_of_ble_eq_true rfl⟩ rfl rfl) rfl rfl (Nat.le_of_ble_eq_true rfl) (dkAt dkX8_feed 4 (q := (6, .invokestatic 85, 3)) rfl) ⟨Nat.zero_le _, Nat.zero_le _⟩ (pc2 := 9) rfl rfl ?_
  refine k_if_ne C (tgt := 19) (pc2 := 12) (dkAt dkX8_feed 5 (q := (9, .ifCond .ne 10, 3)) rfl) (by decide) rfl h (fun h => ?_) (fun h => ?_)
  · refine k_aload_n C (pc2 := 20) (dkAt dkX8_feed 10 (q := (19, .aload_n 0, 1)) rfl) rfl rfl 0 rfl ?_
    refine kf_X8_150 C (pc2 := 23) (o := o0) (o2 := 0) h0.1 (dkAt dkX8_feed 11 (q := (20, .getfield 150, 3)) rfl) rfl ?_
    refine k_sipush C (pc2 := 26) (dkAt dkX8_feed 12 (q := (23, .sipush 250, 3)) rfl) rfl (v := 250) rfl ?_
    refine k_icmp_ne C (tgt := 36) (pc2 := 29) (dkAt dkX8_feed 13 (q := (26, .if_icmp .ne 10, 3)) rfl) (by decide) rfl h (fun h => ?_) (fun h => ?_)
    · refine k_aload_n C (pc2 := 37) (dkAt dkX8_feed 18 (q := (36, .aload_n 0, 1)) rfl) rfl rfl 0 rfl ?_
      refine kf_X8_31 C (pc2 := 40) (o := o0) (o2 := o0 + 15) h0.1 rfl (dkAt dkX8_feed 19 (q := (37, .getfield 31, 3)) rfl) rfl ?_
      refine k_aload_n C (pc2 := 41) (dkAt dkX8_feed 20 (q := (40, .aload_n 0, 1)) rfl) rfl rfl 0 rfl ?_
      refine k_dup C (pc2 := 42) (dkAt dkX8_feed 21 (q := (41, .dup, 1)) rfl) rfl rfl ?_
      refine kf_X8_150 C (pc2 := 45) (o := o0) (o2 := 0) h0.1 (dkAt dkX8_feed 22 (q := (42, .getfield 150, 3)) rfl) rfl ?_
      refine k_dup_x1 C (pc2 := 46) (dkAt dkX8_feed 23 (q := (45, .dup_x1, 1)) rfl) rfl rfl rfl ?_
      refine k_iconst C (pc2 := 47) (dkAt dkX8_feed 24 (q := (46, .iconst 1, 1)) rfl) rfl (v := 1) rfl ?_
      refine k_iadd C (pc2 := 48) (dkAt dkX8_feed 25 (q := (47, .iadd, 1)) rfl) rfl ?_
      refine kp_X8_150 C (pc2 := 51) (o := o0) h0.1 (dkAt dkX8_feed 26 (q := (48, .putfield 150, 3)) rfl) rfl h (fun M3 h => ?_)
      refine k_iload_n C (pc2 := 52) (dkAt dkX8_feed 27 (q := (51, .iload_n 1, 1)) rfl) rfl rfl 1 rfl ?_
      refine k_iast C (pc2 := 53) (o := o0 + 15) (nA := 250) (isM_tape h0) (dkAt dkX8_feed 28 (q := (52, .iastore, 1)) rfl) rfl h (fun M4 h => ?_)
      refine k_aload_n C (pc2 := 54) (dkAt dkX8_feed 29 (q := (53, .aload_n 0, 1)) rfl) rfl rfl 0 rfl ?_
      refine kf_X8_150 C (pc2 := 57) (o := o0) (o2 := 0) h0.1 (dkAt dkX8_feed 30 (q := (54, .getfield 150, 3)) rfl) rfl ?_
      exact k_iret C (dkAt dkX8_feed 31 (q := (57, .ireturn, 1)) rfl) (pe2 (Option.some.inj h)) rfl (pe1 (Option.some.inj h)) rfl
    · refine k_aload_n C (pc2 := 30) (dkAt dkX8_feed 14 (q := (29, .aload_n 0, 1)) rfl) rfl rfl 0 rfl ?_
      refine k_bipush C (pc2 := 32) (dkAt dkX8_feed 15 (q := (30, .bipush (-6), 2)) rfl) rfl (v := (-6)) rfl ?_
      obtain ⟨q5, e6, h⟩ := ob_inv h
      refine kc_V C (As := [.int (-6)]) (st2 := [.int q5.2]) (ct_X8_refuse l G sh xs o0 h0 (-6) M q5 e6) (cl_X8_97 (hts_of C) ⟨Nat.le_of_ble_eq_true rfl, Nat.le_of_ble_eq_true rfl⟩ rfl rfl) h0.1 rfl rfl rfl rfl rfl (Nat.le_of_ble_eq_true rfl) (dkAt dkX8_feed 16 (q := (32, .invokevirtual 97, 3)) rfl) ⟨Nat.zero_le _, Nat.zero_le _⟩ (pc2 := 35) rfl rfl ?_
      exact k_iret C (dkAt dkX8_feed 17 (q := (35, .ireturn, 1)) rfl) (pe2 (Option.some.inj h)) rfl (pe1 (Option.some.inj h)) rfl
  · refine k_aload_n C (pc2 := 13) (dkAt dkX8_feed 6 (q := (12, .aload_n 0, 1)) rfl) rfl rfl 0 rfl ?_
    refine k_bipush C (pc2 := 15) (dkAt dkX8_feed 7 (q := (13, .bipush (-2), 2)) rfl) rfl (v := (-2)) rfl ?_
    obtain ⟨q7, e8, h⟩ := ob_inv h
    refine kc_V C (As := [.int (-2)]) (st2 := [.int q7.2]) (ct_X8_refuse l G sh xs o0 h0 (-2) M q7 e8) (cl_X8_97 (hts_of C) ⟨Nat.le_of_ble_eq_true rfl, Nat.le_of_ble_eq_true rfl⟩ rfl rfl) h0.1 rfl rfl rfl rfl rfl (Nat.le_of_ble_eq_true rfl) (dkAt dkX8_feed 8 (q := (15, .invokevirtual 97, 3)) rfl) ⟨Nat.zero_le _, Nat.zero_le _⟩ (pc2 := 18) rfl rfl ?_
    exact k_iret C (dkAt dkX8_feed 9 (q := (18, .ireturn, 1)) rfl) (pe2 (Option.some.inj h)) rfl (pe1 (Option.some.inj h)) rfl
set_option maxRecDepth 100000 in
set_option maxHeartbeats 4000000 in
theorem ct_X8_wipe (l : Launch) (G : GG) (sh : Sh) (xs : List va_E) (o0 : Nat) (h0 : isM sh o0) (M : Mm) (r : Mm × Int32) (h : f_X8_wipe o0 M = some r) : Ct l yX8_wipe cX8_wipe 2 (some .int) rm_X8_wipe G [rA G o0] sh M xs (some (.int r.2)) sh r.1 xs 0 0 := by
  refine ct_of (by decide) (Nat.le_of_ble_eq_true rfl) ?_
  intro p e s m args below meth c hnm C
  refine k_lv [0] (lv2 := [(0, rA G o0)]) rfl ?_
  unfold f_X8_wipe at h
  refine k_aload_n C (pc2 := 1) (dkAt dkX8_wipe 0 (q := (0, .aload_n 0, 1)) rfl) rfl rfl 0 rfl ?_
  refine kf_X8_150 C (pc2 := 4) (o := o0) (o2 := 0) h0.1 (dkAt dkX8_wipe 1 (q := (1, .getfield 150, 3)) rfl) rfl ?_
  refine kb_istore_n C (pc2 := 5) (dkAt dkX8_wipe 2 (q := (4, .istore_n 1, 1)) rfl) rfl rfl (by decide) (lv2 := fun v1 => [(1, .int v1), (0, rA G o0)]) (fun _ => rfl) h (fun v1 h => ?_)
  refine k_aload_n C (pc2 := 6) (dkAt dkX8_wipe 3 (q := (5, .aload_n 0, 1)) rfl) rfl rfl 1 rfl ?_
  refine k_iconst C (pc2 := 7) (dkAt dkX8_wipe 4 (q := (6, .iconst 0, 1)) rfl) rfl (v := 0) rfl ?_
  refine kp_X8_150 C (pc2 := 10) (o := o0) h0.1 (dkAt dkX8_wipe 5 (q := (7, .putfield 150, 3)) rfl) rfl h (fun M2 h => ?_)
  refine k_iload_n C (pc2 := 11) (dkAt dkX8_wipe 6 (q := (10, .iload_n 1, 1)) rfl) rfl rfl 0 rfl ?_
  exact k_iret C (dkAt dkX8_wipe 7 (q := (11, .ireturn, 1)) rfl) (pe2 (Option.some.inj h)) rfl (pe1 (Option.some.inj h)) rfl
set_option maxRecDepth 100000 in
set_option maxHeartbeats 4000000 in
theorem ct_X8_isLetter (l : Launch) (G : GG) (sh : Sh) (xs : List va_E) (x0 : Int32) (M : Mm) (r : Int32) (h : f_X8_isLetter x0 = some r) : Ct l yX8_isLetter cX8_isLetter 1 (some .boolean) rm_X8_isLetter G [.int x0] sh M xs (some (.int r)) sh M xs 0 0 := by
  refine ct_of (by decide) (Nat.le_of_ble_eq_true rfl) ?_
  intro p e s m args below meth c hnm C
  refine k_lv [0] (lv2 := [(0, .int x0)]) rfl ?_
  unfold f_X8_isLetter at h
  refine k_iload_n C (pc2 := 1) (dkAt dkX8_isLetter 0 (q := (0, .iload_n 0, 1)) rfl) rfl rfl 0 rfl ?_
  refine k_bipush C (pc2 := 3) (dkAt dkX8_isLetter 1 (q := (1, .bipush 97, 2)) rfl) rfl (v := 97) rfl ?_
  refine k_icmp_lt C (tgt := 16) (pc2 := 6) (dkAt dkX8_isLetter 2 (q := (3, .if_icmp .lt 13, 3)) rfl) (by decide) rfl h (fun h => ?_) (fun h => ?_)
  · refine k_iconst C (pc2 := 17) (dkAt dkX8_isLetter 8 (q := (16, .iconst 0, 1)) rfl) rfl (v := 0) rfl ?_
    exact k_zret C (dkAt dkX8_isLetter 9 (q := (17, .ireturn, 1)) rfl) rfl (Option.some.inj h) rfl rfl rfl
  · refine k_iload_n C (pc2 := 7) (dkAt dkX8_isLetter 3 (q := (6, .iload_n 0, 1)) rfl) rfl rfl 0 rfl ?_
    refine k_bipush C (pc2 := 9) (dkAt dkX8_isLetter 4 (q := (7, .bipush 122, 2)) rfl) rfl (v := 122) rfl ?_
    refine k_icmp_gt C (tgt := 16) (pc2 := 12) (dkAt dkX8_isLetter 5 (q := (9, .if_icmp .gt 7, 3)) rfl) (by decide) rfl h (fun h => ?_) (fun h => ?_)
    · refine k_iconst C (pc2 := 17) (dkAt dkX8_isLetter 8 (q := (16, .iconst 0, 1)) rfl) rfl (v := 0) rfl ?_
      exact k_zret C (dkAt dkX8_isLetter 9 (q := (17, .ireturn, 1)) rfl) rfl (Option.some.inj h) rfl rfl rfl
    · refine k_iconst C (pc2 := 13) (dkAt dkX8_isLetter 6 (q := (12, .iconst 1, 1)) rfl) rfl (v := 1) rfl ?_
      refine k_goto C (tgt := 17) (dkAt dkX8_isLetter 7 (q := (13, .goto 4, 3)) rfl) (by decide) ?_
      exact k_zret C (dkAt dkX8_isLetter 9 (q := (17, .ireturn, 1)) rfl) rfl (Option.some.inj h) rfl rfl rfl
set_option maxRecDepth 100000 in
set_option maxHeartbeats 4000000 in
theorem ct_X8_isDigit (l : Launch) (G : GG) (sh : Sh) (xs : List va_E) (x0 : Int32) (M : Mm) (r : Int32) (h : f_X8_isDigit x0 = some r) : Ct l yX8_isDigit cX8_isDigit 1 (some .boolean) rm_X8_isDigit G [.int x0] sh M xs (some (.int r)) sh M xs 0 0 := by
  refine ct_of (by decide) (Nat.le_of_ble_eq_true rfl) ?_
  intro p e s m args below meth c hnm C
  refine k_lv [0] (lv2 := [(0, .int x0)]) rfl ?_
  unfold f_X8_isDigit at h
  refine k_iload_n C (pc2 := 1) (dkAt dkX8_isDigit 0 (q := (0, .iload_n 0, 1)) rfl) rfl rfl 0 rfl ?_
  refine k_bipush C (pc2 := 3) (dkAt dkX8_isDigit 1 (q := (1, .bipush 48, 2)) rfl) rfl (v := 48) rfl ?_
  refine k_icmp_lt C (tgt := 16) (pc2 := 6) (dkAt dkX8_isDigit 2 (q := (3, .if_icmp .lt 13, 3)) rfl) (by decide) rfl h (fun h => ?_) (fun h => ?_)
  · refine k_iconst C (pc2 := 17) (dkAt dkX8_isDigit 8 (q := (16, .iconst 0, 1)) rfl) rfl (v := 0) rfl ?_
    exact k_zret C (dkAt dkX8_isDigit 9 (q := (17, .ireturn, 1)) rfl) rfl (Option.some.inj h) rfl rfl rfl
  · refine k_iload_n C (pc2 := 7) (dkAt dkX8_isDigit 3 (q := (6, .iload_n 0, 1)) rfl) rfl rfl 0 rfl ?_
    refine k_bipush C (pc2 := 9) (dkAt dkX8_isDigit 4 (q := (7, .bipush 57, 2)) rfl) rfl (v := 57) rfl ?_
    refine k_icmp_gt C (tgt := 16) (pc2 := 12) (dkAt dkX8_isDigit 5 (q := (9, .if_icmp .gt 7, 3)) rfl) (by decide) rfl h (fun h => ?_) (fun h => ?_)
    · refine k_iconst C (pc2 := 17) (dkAt dkX8_isDigit 8 (q := (16, .iconst 0, 1)) rfl) rfl (v := 0) rfl ?_
      exact k_zret C (dkAt dkX8_isDigit 9 (q := (17, .ireturn, 1)) rfl) rfl (Option.some.inj h) rfl rfl rfl
    · refine k_iconst C (pc2 := 13) (dkAt dkX8_isDigit 6 (q := (12, .iconst 1, 1)) rfl) rfl (v := 1) rfl ?_
      refine k_goto C (tgt := 17) (dkAt dkX8_isDigit 7 (q := (13, .goto 4, 3)) rfl) (by decide) ?_
      exact k_zret C (dkAt dkX8_isDigit 9 (q := (17, .ireturn, 1)) rfl) rfl (Option.some.inj h) rfl rfl rfl
set_option maxRecDepth 100000 in
set_option maxHeartbeats 4000000 in
theorem kl_X8_look_L0 {p : Program} {l : Launch} {e : Env} {s : State} {m : MethodId} {args : Array Value} {below : List Frame} {meth : Method} {c : Code} {G : GG} {sh : Sh} {xs : List va_E} {Q : State → Prop} (C : Cx p s m c args meth G RX8 cX8_look 1 none) (o0 : Nat) (h0 : isM sh o0) (M2 : Mm) (hcont : KW p l e rm_X8_look s m args below meth c G 1 Q sh xs 0 0 M2 38 [(0, rA G o0)] []) : ∀ (n : Nat) (M : Mm), f_X8_look_L0 o0 n M = some M2 → KW p l e rm_X8_look s m args below meth c G 1 Q sh xs 0 0 M 0 [(0, rA G o0)] [] := by
  intro n
  induction n with
  | zero =>
    intro M h
    cases h
  | succ n ih =>
    intro M h
    unfold f_X8_look_L0 at h
    refine k_aload_n C (pc2 := 1) (dkAt dkX8_look 0 (q := (0, .aload_n 0, 1)) rfl) rfl rfl 0 rfl ?_
    refine kf_X8_153 C (pc2 := 4) (o := o0) (o2 := 0) h0.1 (dkAt dkX8_look 1 (q := (1, .getfield 153, 3)) rfl) rfl ?_
    refine k_aload_n C (pc2 := 5) (dkAt dkX8_look 2 (q := (4, .aload_n 0, 1)) rfl) rfl rfl 0 rfl ?_
    refine kf_X8_150 C (pc2 := 8) (o := o0) (o2 := 0) h0.1 (dkAt dkX8_look 3 (q := (5, .getfield 150, 3)) rfl) rfl ?_
    refine k_icmp_ge C (tgt := 38) (pc2 := 11) (dkAt dkX8_look 4 (q := (8, .if_icmp .ge 30, 3)) rfl) (by decide) rfl h (fun h => ?_) (fun h => ?_)
    · refine k_lv [0] (lv2 := [(0, rA G o0)]) rfl ?_
      cases h
      exact hcont
    · refine k_aload_n C (pc2 := 12) (dkAt dkX8_look 5 (q := (11, .aload_n 0, 1)) rfl) rfl rfl 0 rfl ?_
      refine kf_X8_31 C (pc2 := 15) (o := o0) (o2 := o0 + 15) h0.1 rfl (dkAt dkX8_look 6 (q := (12, .getfield 31, 3)) rfl) rfl ?_
      refine k_aload_n C (pc2 := 16) (dkAt dkX8_look 7 (q := (15, .aload_n 0, 1)) rfl) rfl rfl 0 rfl ?_
      refine kf_X8_153 C (pc2 := 19) (o := o0) (o2 := 0) h0.1 (dkAt dkX8_look 8 (q := (16, .getfield 153, 3)) rfl) rfl ?_
      refine k_iald C (pc2 := 20) (o := o0 + 15) (nA := 250) (isM_tape h0) (dkAt dkX8_look 9 (q := (19, .iaload, 1)) rfl) rfl h (fun h => ?_)
      refine k_bipush C (pc2 := 22) (dkAt dkX8_look 10 (q := (20, .bipush 32, 2)) rfl) rfl (v := 32) rfl ?_
      refine k_icmp_ne C (tgt := 38) (pc2 := 25) (dkAt dkX8_look 11 (q := (22, .if_icmp .ne 16, 3)) rfl) (by decide) rfl h (fun h => ?_) (fun h => ?_)
      · refine k_lv [0] (lv2 := [(0, rA G o0)]) rfl ?_
        cases h
        exact hcont
      · refine k_aload_n C (pc2 := 26) (dkAt dkX8_look 12 (q := (25, .aload_n 0, 1)) rfl) rfl rfl 0 rfl ?_
        refine k_dup C (pc2 := 27) (dkAt dkX8_look 13 (q := (26, .dup, 1)) rfl) rfl rfl ?_
        refine kf_X8_153 C (pc2 := 30) (o := o0) (o2 := 0) h0.1 (dkAt dkX8_look 14 (q := (27, .getfield 153, 3)) rfl) rfl ?_
        refine k_iconst C (pc2 := 31) (dkAt dkX8_look 15 (q := (30, .iconst 1, 1)) rfl) rfl (v := 1) rfl ?_
        refine k_iadd C (pc2 := 32) (dkAt dkX8_look 16 (q := (31, .iadd, 1)) rfl) rfl ?_
        refine kp_X8_153 C (pc2 := 35) (o := o0) h0.1 (dkAt dkX8_look 17 (q := (32, .putfield 153, 3)) rfl) rfl h (fun M1 h => ?_)
        refine k_goto C (tgt := 0) (dkAt dkX8_look 18 (q := (35, .goto (-35), 3)) rfl) (by decide) ?_
        refine k_lv [0] (lv2 := [(0, rA G o0)]) rfl ?_
        exact ih  M1 h
set_option maxRecDepth 100000 in
set_option maxHeartbeats 4000000 in
theorem kl_X8_look_L149 {p : Program} {l : Launch} {e : Env} {s : State} {m : MethodId} {args : Array Value} {below : List Frame} {meth : Method} {c : Code} {G : GG} {sh : Sh} {xs : List va_E} {Q : State → Prop} (C : Cx p s m c args meth G RX8 cX8_look 1 none) (o0 : Nat) (h0 : isM sh o0) (M2 : Mm) (hcont : KW p l e rm_X8_look s m args below meth c G 1 Q sh xs 0 0 M2 264 [] []) : ∀ (n : Nat) (M : Mm), f_X8_look_L149 o0 n M = some M2 → KW p l e rm_X8_look s m args below meth c G 1 Q sh xs 0 0 M 149 [(0, rA G o0)] [] := by
  intro n
  induction n with
  | zero =>
    intro M h
    cases h
  | succ n ih =>
    intro M h
    unfold f_X8_look_L149 at h
    refine k_aload_n C (pc2 := 150) (dkAt dkX8_look 74 (q := (149, .aload_n 0, 1)) rfl) rfl rfl 0 rfl ?_
    refine kf_X8_153 C (pc2 := 153) (o := o0) (o2 := 0) h0.1 (dkAt dkX8_look 75 (q := (150, .getfield 153, 3)) rfl) rfl ?_
    refine k_aload_n C (pc2 := 154) (dkAt dkX8_look 76 (q := (153, .aload_n 0, 1)) rfl) rfl rfl 0 rfl ?_
    refine kf_X8_150 C (pc2 := 157) (o := o0) (o2 := 0) h0.1 (dkAt dkX8_look 77 (q := (154, .getfield 150, 3)) rfl) rfl ?_
    refine k_icmp_ge C (tgt := 264) (pc2 := 160) (dkAt dkX8_look 78 (q := (157, .if_icmp .ge 107, 3)) rfl) (by decide) rfl h (fun h => ?_) (fun h => ?_)
    · refine k_lv [] (lv2 := []) rfl ?_
      cases h
      exact hcont
    · refine k_aload_n C (pc2 := 161) (dkAt dkX8_look 79 (q := (160, .aload_n 0, 1)) rfl) rfl rfl 0 rfl ?_
      refine kf_X8_31 C (pc2 := 164) (o := o0) (o2 := o0 + 15) h0.1 rfl (dkAt dkX8_look 80 (q := (161, .getfield 31, 3)) rfl) rfl ?_
      refine k_aload_n C (pc2 := 165) (dkAt dkX8_look 81 (q := (164, .aload_n 0, 1)) rfl) rfl rfl 0 rfl ?_
      refine kf_X8_153 C (pc2 := 168) (o := o0) (o2 := 0) h0.1 (dkAt dkX8_look 82 (q := (165, .getfield 153, 3)) rfl) rfl ?_
      refine k_iald C (pc2 := 169) (o := o0 + 15) (nA := 250) (isM_tape h0) (dkAt dkX8_look 83 (q := (168, .iaload, 1)) rfl) rfl h (fun h => ?_)
      obtain ⟨q16, e17, h⟩ := ob_inv h
      refine kc_S C (As := [.int (M.1 (o0 + 15) (M.1 o0 21).toNatClampNeg)]) (st2 := [.int q16]) (ct_X8_isDigit l G sh xs (M.1 (o0 + 15) (M.1 o0 21).toNatClampNeg) M q16 e17) (cl_X8_168 (hts_of C) ⟨Nat.le_of_ble_eq_true rfl, Nat.le_of_ble_eq_true rfl⟩ rfl rfl) rfl rfl (Nat.le_of_ble_eq_true rfl) (dkAt dkX8_look 84 (q := (169, .invokestatic 168, 3)) rfl) ⟨Nat.zero_le _, Nat.zero_le _⟩ (pc2 := 172) rfl rfl ?_
      refine k_if_eq C (tgt := 264) (pc2 := 175) (dkAt dkX8_look 85 (q := (172, .ifCond .eq 92, 3)) rfl) (by decide) rfl h (fun h => ?_) (fun h => ?_)
      · refine k_lv [] (lv2 := []) rfl ?_
        cases h
        exact hcont
      · refine k_aload_n C (pc2 := 176) (dkAt dkX8_look 86 (q := (175, .aload_n 0, 1)) rfl) rfl rfl 0 rfl ?_
        refine k_aload_n C (pc2 := 177) (dkAt dkX8_look 87 (q := (176, .aload_n 0, 1)) rfl) rfl rfl 0 rfl ?_
        refine kf_X8_153 C (pc2 := 180) (o := o0) (o2 := 0) h0.1 (dkAt dkX8_look 88 (q := (177, .getfield 153, 3)) rfl) rfl ?_
        refine k_aload_n C (pc2 := 181) (dkAt dkX8_look 89 (q := (180, .aload_n 0, 1)) rfl) rfl rfl 0 rfl ?_
        refine kf_X8_156 C (pc2 := 184) (o := o0) (o2 := 0) h0.1 (dkAt dkX8_look 90 (q := (181, .getfield 156, 3)) rfl) rfl ?_
        refine k_isub C (pc2 := 185) (dkAt dkX8_look 91 (q := (184, .isub, 1)) rfl) rfl ?_
        refine k_iconst C (pc2 := 186) (dkAt dkX8_look 92 (q := (185, .iconst 2, 1)) rfl) rfl (v := 2) rfl ?_
        refine k_icmp_ge C (tgt := 212) (pc2 := 189) (dkAt dkX8_look 93 (q := (186, .if_icmp .ge 26, 3)) rfl) (by decide) rfl h (fun h => ?_) (fun h => ?_)
        · refine k_sipush C (pc2 := 215) (dkAt dkX8_look 107 (q := (212, .sipush 1000, 3)) rfl) rfl (v := 1000) rfl ?_
          refine kp_X8_159 C (pc2 := 218) (o := o0) h0.1 (dkAt dkX8_look 108 (q := (215, .putfield 159, 3)) rfl) rfl h (fun M18 h => ?_)
          refine k_aload_n C (pc2 := 219) (dkAt dkX8_look 109 (q := (218, .aload_n 0, 1)) rfl) rfl rfl 0 rfl ?_
          refine k_dup C (pc2 := 220) (dkAt dkX8_look 110 (q := (219, .dup, 1)) rfl) rfl rfl ?_
          refine kf_X8_153 C (pc2 := 223) (o := o0) (o2 := 0) h0.1 (dkAt dkX8_look 111 (q := (220, .getfield 153, 3)) rfl) rfl ?_
          refine k_iconst C (pc2 := 224) (dkAt dkX8_look 112 (q := (223, .iconst 1, 1)) rfl) rfl (v := 1) rfl ?_
          refine k_iadd C (pc2 := 225) (dkAt dkX8_look 113 (q := (224, .iadd, 1)) rfl) rfl ?_
          refine kp_X8_153 C (pc2 := 228) (o := o0) h0.1 (dkAt dkX8_look 114 (q := (225, .putfield 153, 3)) rfl) rfl h (fun M19 h => ?_)
          refine k_goto C (tgt := 149) (dkAt dkX8_look 115 (q := (228, .goto (-79), 3)) rfl) (by decide) ?_
          refine k_lv [0] (lv2 := [(0, rA G o0)]) rfl ?_
          exact ih  M19 h
        · refine k_aload_n C (pc2 := 190) (dkAt dkX8_look 94 (q := (189, .aload_n 0, 1)) rfl) rfl rfl 0 rfl ?_
          refine kf_X8_159 C (pc2 := 193) (o := o0) (o2 := 0) h0.1 (dkAt dkX8_look 95 (q := (190, .getfield 159, 3)) rfl) rfl ?_
          refine k_bipush C (pc2 := 195) (dkAt dkX8_look 96 (q := (193, .bipush 10, 2)) rfl) rfl (v := 10) rfl ?_
          refine k_imul C (pc2 := 196) (dkAt dkX8_look 97 (q := (195, .imul, 1)) rfl) rfl ?_
          refine k_aload_n C (pc2 := 197) (dkAt dkX8_look 98 (q := (196, .aload_n 0, 1)) rfl) rfl rfl 0 rfl ?_
          refine kf_X8_31 C (pc2 := 200) (o := o0) (o2 := o0 + 15) h0.1 rfl (dkAt dkX8_look 99 (q := (197, .getfield 31, 3)) rfl) rfl ?_
          refine k_aload_n C (pc2 := 201) (dkAt dkX8_look 100 (q := (200, .aload_n 0, 1)) rfl) rfl rfl 0 rfl ?_
          refine kf_X8_153 C (pc2 := 204) (o := o0) (o2 := 0) h0.1 (dkAt dkX8_look 101 (q := (201, .getfield 153, 3)) rfl) rfl ?_
          refine k_iald C (pc2 := 205) (o := o0 + 15) (nA := 250) (isM_tape h0) (dkAt dkX8_look 102 (q := (204, .iaload, 1)) rfl) rfl h (fun h => ?_)
          refine k_iadd C (pc2 := 206) (dkAt dkX8_look 103 (q := (205, .iadd, 1)) rfl) rfl ?_
          refine k_bipush C (pc2 := 208) (dkAt dkX8_look 104 (q := (206, .bipush 48, 2)) rfl) rfl (v := 48) rfl ?_
          refine k_isub C (pc2 := 209) (dkAt dkX8_look 105 (q := (208, .isub, 1)) rfl) rfl ?_
          refine k_goto C (tgt := 215) (dkAt dkX8_look 106 (q := (209, .goto 6, 3)) rfl) (by decide) ?_
          refine kp_X8_159 C (pc2 := 218) (o := o0) h0.1 (dkAt dkX8_look 108 (q := (215, .putfield 159, 3)) rfl) rfl h (fun M20 h => ?_)
          refine k_aload_n C (pc2 := 219) (dkAt dkX8_look 109 (q := (218, .aload_n 0, 1)) rfl) rfl rfl 0 rfl ?_
          refine k_dup C (pc2 := 220) (dkAt dkX8_look 110 (q := (219, .dup, 1)) rfl) rfl rfl ?_
          refine kf_X8_153 C (pc2 := 223) (o := o0) (o2 := 0) h0.1 (dkAt dkX8_look 111 (q := (220, .getfield 153, 3)) rfl) rfl ?_
          refine k_iconst C (pc2 := 224) (dkAt dkX8_look 112 (q := (223, .iconst 1, 1)) rfl) rfl (v := 1) rfl ?_
          refine k_iadd C (pc2 := 225) (dkAt dkX8_look 113 (q := (224, .iadd, 1)) rfl) rfl ?_
          refine kp_X8_153 C (pc2 := 228) (o := o0) h0.1 (dkAt dkX8_look 114 (q := (225, .putfield 153, 3)) rfl) rfl h (fun M21 h => ?_)
          refine k_goto C (tgt := 149) (dkAt dkX8_look 115 (q := (228, .goto (-79), 3)) rfl) (by decide) ?_
          refine k_lv [0] (lv2 := [(0, rA G o0)]) rfl ?_
          exact ih  M21 h
set_option maxRecDepth 100000 in
set_option maxHeartbeats 4000000 in
theorem kl_X8_look_L90 {p : Program} {l : Launch} {e : Env} {s : State} {m : MethodId} {args : Array Value} {below : List Frame} {meth : Method} {c : Code} {G : GG} {sh : Sh} {xs : List va_E} {Q : State → Prop} (C : Cx p s m c args meth G RX8 cX8_look 1 none) (o0 : Nat) (h0 : isM sh o0) (M2 : Mm) (hcont : KW p l e rm_X8_look s m args below meth c G 1 Q sh xs 0 0 M2 264 [] []) : ∀ (n : Nat) (M : Mm), f_X8_look_L90 o0 n M = some M2 → KW p l e rm_X8_look s m args below meth c G 1 Q sh xs 0 0 M 90 [(0, rA G o0)] [] := by
  intro n
  induction n with
  | zero =>
    intro M h
    cases h
  | succ n ih =>
    intro M h
    unfold f_X8_look_L90 at h
    refine k_aload_n C (pc2 := 91) (dkAt dkX8_look 45 (q := (90, .aload_n 0, 1)) rfl) rfl rfl 0 rfl ?_
    refine kf_X8_153 C (pc2 := 94) (o := o0) (o2 := 0) h0.1 (dkAt dkX8_look 46 (q := (91, .getfield 153, 3)) rfl) rfl ?_
    refine k_aload_n C (pc2 := 95) (dkAt dkX8_look 47 (q := (94, .aload_n 0, 1)) rfl) rfl rfl 0 rfl ?_
    refine kf_X8_150 C (pc2 := 98) (o := o0) (o2 := 0) h0.1 (dkAt dkX8_look 48 (q := (95, .getfield 150, 3)) rfl) rfl ?_
    refine k_icmp_ge C (tgt := 264) (pc2 := 101) (dkAt dkX8_look 49 (q := (98, .if_icmp .ge 166, 3)) rfl) (by decide) rfl h (fun h => ?_) (fun h => ?_)
    · refine k_lv [] (lv2 := []) rfl ?_
      cases h
      exact hcont
    · refine k_aload_n C (pc2 := 102) (dkAt dkX8_look 50 (q := (101, .aload_n 0, 1)) rfl) rfl rfl 0 rfl ?_
      refine kf_X8_31 C (pc2 := 105) (o := o0) (o2 := o0 + 15) h0.1 rfl (dkAt dkX8_look 51 (q := (102, .getfield 31, 3)) rfl) rfl ?_
      refine k_aload_n C (pc2 := 106) (dkAt dkX8_look 52 (q := (105, .aload_n 0, 1)) rfl) rfl rfl 0 rfl ?_
      refine kf_X8_153 C (pc2 := 109) (o := o0) (o2 := 0) h0.1 (dkAt dkX8_look 53 (q := (106, .getfield 153, 3)) rfl) rfl ?_
      refine k_iald C (pc2 := 110) (o := o0 + 15) (nA := 250) (isM_tape h0) (dkAt dkX8_look 54 (q := (109, .iaload, 1)) rfl) rfl h (fun h => ?_)
      obtain ⟨q26, e27, h⟩ := ob_inv h
      refine kc_S C (As := [.int (M.1 (o0 + 15) (M.1 o0 21).toNatClampNeg)]) (st2 := [.int q26]) (ct_X8_isLetter l G sh xs (M.1 (o0 + 15) (M.1 o0 21).toNatClampNeg) M q26 e27) (cl_X8_165 (hts_of C) ⟨Nat.le_of_ble_eq_true rfl, Nat.le_of_ble_eq_true rfl⟩ rfl rfl) rfl rfl (Nat.le_of_ble_eq_true rfl) (dkAt dkX8_look 55 (q := (110, .invokestatic 165, 3)) rfl) ⟨Nat.zero_le _, Nat.zero_le _⟩ (pc2 := 113) rfl rfl ?_
      refine k_if_eq C (tgt := 264) (pc2 := 116) (dkAt dkX8_look 56 (q := (113, .ifCond .eq 151, 3)) rfl) (by decide) rfl h (fun h => ?_) (fun h => ?_)
      · refine k_lv [] (lv2 := []) rfl ?_
        cases h
        exact hcont
      · refine k_aload_n C (pc2 := 117) (dkAt dkX8_look 57 (q := (116, .aload_n 0, 1)) rfl) rfl rfl 0 rfl ?_
        refine k_dup C (pc2 := 118) (dkAt dkX8_look 58 (q := (117, .dup, 1)) rfl) rfl rfl ?_
        refine kf_X8_153 C (pc2 := 121) (o := o0) (o2 := 0) h0.1 (dkAt dkX8_look 59 (q := (118, .getfield 153, 3)) rfl) rfl ?_
        refine k_iconst C (pc2 := 122) (dkAt dkX8_look 60 (q := (121, .iconst 1, 1)) rfl) rfl (v := 1) rfl ?_
        refine k_iadd C (pc2 := 123) (dkAt dkX8_look 61 (q := (122, .iadd, 1)) rfl) rfl ?_
        refine kp_X8_153 C (pc2 := 126) (o := o0) h0.1 (dkAt dkX8_look 62 (q := (123, .putfield 153, 3)) rfl) rfl h (fun M28 h => ?_)
        refine k_goto C (tgt := 90) (dkAt dkX8_look 63 (q := (126, .goto (-36), 3)) rfl) (by decide) ?_
        refine k_lv [0] (lv2 := [(0, rA G o0)]) rfl ?_
        exact ih  M28 h
set_option maxRecDepth 100000 in
set_option maxHeartbeats 4000000 in
theorem ct_X8_look (l : Launch) (G : GG) (sh : Sh) (xs : List va_E) (o0 : Nat) (h0 : isM sh o0) (M : Mm) (r : Mm) (h : f_X8_look o0 M = some r) : Ct l yX8_look cX8_look 1 none rm_X8_look G [rA G o0] sh M xs none sh r xs 0 0 := by
  refine ct_of (by decide) (Nat.le_of_ble_eq_true rfl) ?_
  intro p e s m args below meth c hnm C
  refine k_lv [0] (lv2 := [(0, rA G o0)]) rfl ?_
  unfold f_X8_look at h
  refine k_lv [0] (lv2 := [(0, rA G o0)]) rfl ?_
  obtain ⟨M4, e3, h⟩ := ob_inv h
  refine kl_X8_look_L0 C o0 h0 M4 ?_ 1000 M e3
  refine k_aload_n C (pc2 := 39) (dkAt dkX8_look 19 (q := (38, .aload_n 0, 1)) rfl) rfl rfl 0 rfl ?_
  refine k_aload_n C (pc2 := 40) (dkAt dkX8_look 20 (q := (39, .aload_n 0, 1)) rfl) rfl rfl 0 rfl ?_
  refine kf_X8_153 C (pc2 := 43) (o := o0) (o2 := 0) h0.1 (dkAt dkX8_look 21 (q := (40, .getfield 153, 3)) rfl) rfl ?_
  refine kp_X8_156 C (pc2 := 46) (o := o0) h0.1 (dkAt dkX8_look 22 (q := (43, .putfield 156, 3)) rfl) rfl h (fun M5 h => ?_)
  refine k_aload_n C (pc2 := 47) (dkAt dkX8_look 23 (q := (46, .aload_n 0, 1)) rfl) rfl rfl 0 rfl ?_
  refine k_iconst C (pc2 := 48) (dkAt dkX8_look 24 (q := (47, .iconst 0, 1)) rfl) rfl (v := 0) rfl ?_
  refine kp_X8_159 C (pc2 := 51) (o := o0) h0.1 (dkAt dkX8_look 25 (q := (48, .putfield 159, 3)) rfl) rfl h (fun M6 h => ?_)
  refine k_aload_n C (pc2 := 52) (dkAt dkX8_look 26 (q := (51, .aload_n 0, 1)) rfl) rfl rfl 0 rfl ?_
  refine kf_X8_153 C (pc2 := 55) (o := o0) (o2 := 0) h0.1 (dkAt dkX8_look 27 (q := (52, .getfield 153, 3)) rfl) rfl ?_
  refine k_aload_n C (pc2 := 56) (dkAt dkX8_look 28 (q := (55, .aload_n 0, 1)) rfl) rfl rfl 0 rfl ?_
  refine kf_X8_150 C (pc2 := 59) (o := o0) (o2 := 0) h0.1 (dkAt dkX8_look 29 (q := (56, .getfield 150, 3)) rfl) rfl ?_
  refine k_icmp_ne C (tgt := 70) (pc2 := 62) (dkAt dkX8_look 30 (q := (59, .if_icmp .ne 11, 3)) rfl) (by decide) rfl h (fun h => ?_) (fun h => ?_)
  · refine k_aload_n C (pc2 := 71) (dkAt dkX8_look 35 (q := (70, .aload_n 0, 1)) rfl) rfl rfl 0 rfl ?_
    refine kf_X8_31 C (pc2 := 74) (o := o0) (o2 := o0 + 15) h0.1 rfl (dkAt dkX8_look 36 (q := (71, .getfield 31, 3)) rfl) rfl ?_
    refine k_aload_n C (pc2 := 75) (dkAt dkX8_look 37 (q := (74, .aload_n 0, 1)) rfl) rfl rfl 0 rfl ?_
    refine kf_X8_153 C (pc2 := 78) (o := o0) (o2 := 0) h0.1 (dkAt dkX8_look 38 (q := (75, .getfield 153, 3)) rfl) rfl ?_
    refine k_iald C (pc2 := 79) (o := o0 + 15) (nA := 250) (isM_tape h0) (dkAt dkX8_look 39 (q := (78, .iaload, 1)) rfl) rfl h (fun h => ?_)
    obtain ⟨q7, e8, h⟩ := ob_inv h
    refine kc_S C (As := [.int (M6.1 (o0 + 15) (M6.1 o0 21).toNatClampNeg)]) (st2 := [.int q7]) (ct_X8_isLetter l G sh xs (M6.1 (o0 + 15) (M6.1 o0 21).toNatClampNeg) M6 q7 e8) (cl_X8_165 (hts_of C) ⟨Nat.le_of_ble_eq_true rfl, Nat.le_of_ble_eq_true rfl⟩ rfl rfl) rfl rfl (Nat.le_of_ble_eq_true rfl) (dkAt dkX8_look 40 (q := (79, .invokestatic 165, 3)) rfl) ⟨Nat.zero_le _, Nat.zero_le _⟩ (pc2 := 82) rfl rfl ?_
    refine k_if_eq C (tgt := 129) (pc2 := 85) (dkAt dkX8_look 41 (q := (82, .ifCond .eq 47, 3)) rfl) (by decide) rfl h (fun h => ?_) (fun h => ?_)
    · refine k_aload_n C (pc2 := 130) (dkAt dkX8_look 64 (q := (129, .aload_n 0, 1)) rfl) rfl rfl 0 rfl ?_
      refine kf_X8_31 C (pc2 := 133) (o := o0) (o2 := o0 + 15) h0.1 rfl (dkAt dkX8_look 65 (q := (130, .getfield 31, 3)) rfl) rfl ?_
      refine k_aload_n C (pc2 := 134) (dkAt dkX8_look 66 (q := (133, .aload_n 0, 1)) rfl) rfl rfl 0 rfl ?_
      refine kf_X8_153 C (pc2 := 137) (o := o0) (o2 := 0) h0.1 (dkAt dkX8_look 67 (q := (134, .getfield 153, 3)) rfl) rfl ?_
      refine k_iald C (pc2 := 138) (o := o0 + 15) (nA := 250) (isM_tape h0) (dkAt dkX8_look 68 (q := (137, .iaload, 1)) rfl) rfl h (fun h => ?_)
      obtain ⟨q9, e10, h⟩ := ob_inv h
      refine kc_S C (As := [.int (M6.1 (o0 + 15) (M6.1 o0 21).toNatClampNeg)]) (st2 := [.int q9]) (ct_X8_isDigit l G sh xs (M6.1 (o0 + 15) (M6.1 o0 21).toNatClampNeg) M6 q9 e10) (cl_X8_168 (hts_of C) ⟨Nat.le_of_ble_eq_true rfl, Nat.le_of_ble_eq_true rfl⟩ rfl rfl) rfl rfl (Nat.le_of_ble_eq_true rfl) (dkAt dkX8_look 69 (q := (138, .invokestatic 168, 3)) rfl) ⟨Nat.zero_le _, Nat.zero_le _⟩ (pc2 := 141) rfl rfl ?_
      refine k_if_eq C (tgt := 231) (pc2 := 144) (dkAt dkX8_look 70 (q := (141, .ifCond .eq 90, 3)) rfl) (by decide) rfl h (fun h => ?_) (fun h => ?_)
      · refine k_aload_n C (pc2 := 232) (dkAt dkX8_look 116 (q := (231, .aload_n 0, 1)) rfl) rfl rfl 0 rfl ?_
        refine k_aload_n C (pc2 := 233) (dkAt dkX8_look 117 (q := (232, .aload_n 0, 1)) rfl) rfl rfl 0 rfl ?_
        refine kf_X8_31 C (pc2 := 236) (o := o0) (o2 := o0 + 15) h0.1 rfl (dkAt dkX8_look 118 (q := (233, .getfield 31, 3)) rfl) rfl ?_
        refine k_aload_n C (pc2 := 237) (dkAt dkX8_look 119 (q := (236, .aload_n 0, 1)) rfl) rfl rfl 0 rfl ?_
        refine kf_X8_153 C (pc2 := 240) (o := o0) (o2 := 0) h0.1 (dkAt dkX8_look 120 (q := (237, .getfield 153, 3)) rfl) rfl ?_
        refine k_iald C (pc2 := 241) (o := o0 + 15) (nA := 250) (isM_tape h0) (dkAt dkX8_look 121 (q := (240, .iaload, 1)) rfl) rfl h (fun h => ?_)
        refine k_bipush C (pc2 := 243) (dkAt dkX8_look 122 (q := (241, .bipush 59, 2)) rfl) rfl (v := 59) rfl ?_
        refine k_icmp_ne C (tgt := 250) (pc2 := 246) (dkAt dkX8_look 123 (q := (243, .if_icmp .ne 7, 3)) rfl) (by decide) rfl h (fun h => ?_) (fun h => ?_)
        · refine k_iconst C (pc2 := 251) (dkAt dkX8_look 126 (q := (250, .iconst 4, 1)) rfl) rfl (v := 4) rfl ?_
          refine kp_X8_162 C (pc2 := 254) (o := o0) h0.1 (dkAt dkX8_look 127 (q := (251, .putfield 162, 3)) rfl) rfl h (fun M11 h => ?_)
          refine k_aload_n C (pc2 := 255) (dkAt dkX8_look 128 (q := (254, .aload_n 0, 1)) rfl) rfl rfl 0 rfl ?_
          refine k_dup C (pc2 := 256) (dkAt dkX8_look 129 (q := (255, .dup, 1)) rfl) rfl rfl ?_
          refine kf_X8_153 C (pc2 := 259) (o := o0) (o2 := 0) h0.1 (dkAt dkX8_look 130 (q := (256, .getfield 153, 3)) rfl) rfl ?_
          refine k_iconst C (pc2 := 260) (dkAt dkX8_look 131 (q := (259, .iconst 1, 1)) rfl) rfl (v := 1) rfl ?_
          refine k_iadd C (pc2 := 261) (dkAt dkX8_look 132 (q := (260, .iadd, 1)) rfl) rfl ?_
          refine kp_X8_153 C (pc2 := 264) (o := o0) h0.1 (dkAt dkX8_look 133 (q := (261, .putfield 153, 3)) rfl) rfl h (fun M12 h => ?_)
          exact k_vret C (dkAt dkX8_look 134 (q := (264, .return_, 1)) rfl) rfl (Option.some.inj h) rfl
        · refine k_iconst C (pc2 := 247) (dkAt dkX8_look 124 (q := (246, .iconst 3, 1)) rfl) rfl (v := 3) rfl ?_
          refine k_goto C (tgt := 251) (dkAt dkX8_look 125 (q := (247, .goto 4, 3)) rfl) (by decide) ?_
          refine kp_X8_162 C (pc2 := 254) (o := o0) h0.1 (dkAt dkX8_look 127 (q := (251, .putfield 162, 3)) rfl) rfl h (fun M13 h => ?_)
          refine k_aload_n C (pc2 := 255) (dkAt dkX8_look 128 (q := (254, .aload_n 0, 1)) rfl) rfl rfl 0 rfl ?_
          refine k_dup C (pc2 := 256) (dkAt dkX8_look 129 (q := (255, .dup, 1)) rfl) rfl rfl ?_
          refine kf_X8_153 C (pc2 := 259) (o := o0) (o2 := 0) h0.1 (dkAt dkX8_look 130 (q := (256, .getfield 153, 3)) rfl) rfl ?_
          refine k_iconst C (pc2 := 260) (dkAt dkX8_look 131 (q := (259, .iconst 1, 1)) rfl) rfl (v := 1) rfl ?_
          refine k_iadd C (pc2 := 261) (dkAt dkX8_look 132 (q := (260, .iadd, 1)) rfl) rfl ?_
          refine kp_X8_153 C (pc2 := 264) (o := o0) h0.1 (dkAt dkX8_look 133 (q := (261, .putfield 153, 3)) rfl) rfl h (fun M14 h => ?_)
          exact k_vret C (dkAt dkX8_look 134 (q := (264, .return_, 1)) rfl) rfl (Option.some.inj h) rfl
      · refine k_aload_n C (pc2 := 145) (dkAt dkX8_look 71 (q := (144, .aload_n 0, 1)) rfl) rfl rfl 0 rfl ?_
        refine k_iconst C (pc2 := 146) (dkAt dkX8_look 72 (q := (145, .iconst 2, 1)) rfl) rfl (v := 2) rfl ?_
        refine kp_X8_162 C (pc2 := 149) (o := o0) h0.1 (dkAt dkX8_look 73 (q := (146, .putfield 162, 3)) rfl) rfl h (fun M15 h => ?_)
        refine k_lv [0] (lv2 := [(0, rA G o0)]) rfl ?_
        obtain ⟨M24, e23, h⟩ := ob_inv h
        refine kl_X8_look_L149 C o0 h0 M24 ?_ 1000 M15 e23
        exact k_vret C (dkAt dkX8_look 134 (q := (264, .return_, 1)) rfl) rfl (Option.some.inj h) rfl
    · refine k_aload_n C (pc2 := 86) (dkAt dkX8_look 42 (q := (85, .aload_n 0, 1)) rfl) rfl rfl 0 rfl ?_
      refine k_iconst C (pc2 := 87) (dkAt dkX8_look 43 (q := (86, .iconst 1, 1)) rfl) rfl (v := 1) rfl ?_
      refine kp_X8_162 C (pc2 := 90) (o := o0) h0.1 (dkAt dkX8_look 44 (q := (87, .putfield 162, 3)) rfl) rfl h (fun M25 h => ?_)
      refine k_lv [0] (lv2 := [(0, rA G o0)]) rfl ?_
      obtain ⟨M31, e30, h⟩ := ob_inv h
      refine kl_X8_look_L90 C o0 h0 M31 ?_ 1000 M25 e30
      exact k_vret C (dkAt dkX8_look 134 (q := (264, .return_, 1)) rfl) rfl (Option.some.inj h) rfl
  · refine k_aload_n C (pc2 := 63) (dkAt dkX8_look 31 (q := (62, .aload_n 0, 1)) rfl) rfl rfl 0 rfl ?_
    refine k_iconst C (pc2 := 64) (dkAt dkX8_look 32 (q := (63, .iconst 0, 1)) rfl) rfl (v := 0) rfl ?_
    refine kp_X8_162 C (pc2 := 67) (o := o0) h0.1 (dkAt dkX8_look 33 (q := (64, .putfield 162, 3)) rfl) rfl h (fun M32 h => ?_)
    refine k_goto C (tgt := 264) (dkAt dkX8_look 34 (q := (67, .goto 197, 3)) rfl) (by decide) ?_
    exact k_vret C (dkAt dkX8_look 134 (q := (264, .return_, 1)) rfl) rfl (Option.some.inj h) rfl
set_option maxRecDepth 100000 in
set_option maxHeartbeats 4000000 in
theorem ct_X8_wrong (l : Launch) (G : GG) (sh : Sh) (xs : List va_E) (o0 : Nat) (h0 : isM sh o0) (M : Mm) (r : Mm × Int32) (h : f_X8_wrong o0 M = some r) : Ct l yX8_wrong cX8_wrong 1 (some .boolean) rm_X8_wrong G [rA G o0] sh M xs (some (.int r.2)) sh r.1 xs 0 0 := by
  refine ct_of (by decide) (Nat.le_of_ble_eq_true rfl) ?_
  intro p e s m args below meth c hnm C
  refine k_lv [0] (lv2 := [(0, rA G o0)]) rfl ?_
  unfold f_X8_wrong at h
  refine k_aload_n C (pc2 := 1) (dkAt dkX8_wrong 0 (q := (0, .aload_n 0, 1)) rfl) rfl rfl 0 rfl ?_
  refine k_aload_n C (pc2 := 2) (dkAt dkX8_wrong 1 (q := (1, .aload_n 0, 1)) rfl) rfl rfl 0 rfl ?_
  refine kf_X8_156 C (pc2 := 5) (o := o0) (o2 := 0) h0.1 (dkAt dkX8_wrong 2 (q := (2, .getfield 156, 3)) rfl) rfl ?_
  refine kp_X8_171 C (pc2 := 8) (o := o0) h0.1 (dkAt dkX8_wrong 3 (q := (5, .putfield 171, 3)) rfl) rfl h (fun M1 h => ?_)
  refine k_iconst C (pc2 := 9) (dkAt dkX8_wrong 4 (q := (8, .iconst 0, 1)) rfl) rfl (v := 0) rfl ?_
  exact k_zret C (dkAt dkX8_wrong 5 (q := (9, .ireturn, 1)) rfl) rfl (pe2 (Option.some.inj h)) rfl (pe1 (Option.some.inj h)) rfl
set_option maxRecDepth 100000 in
set_option maxHeartbeats 4000000 in
theorem kl_X8_isWord_L28 {p : Program} {l : Launch} {e : Env} {s : State} {m : MethodId} {args : Array Value} {below : List Frame} {meth : Method} {c : Code} {G : GG} {sh : Sh} {xs : List va_E} (C : Cx p s m c args meth G RX8 cX8_isWord 3 (some .boolean)) (o0 : Nat) (h0 : isM sh o0) (w1 : Nat) (h1 : w1 < 8) (r : Mm × Int32) (t : (Mm) ⊕ (Mm × Int32)) (hcont : ∀ (M2 : Mm), t = Sum.inl M2 → KW p l e rm_X8_isWord s m args below meth c G 3 (MQ below (QO G (some (.int r.2)) sh r.1 xs) args s 0 0 (gA G)) sh xs 0 0 M2 63 [] []) (hres : ∀ z, t = Sum.inr z → z = r) : ∀ (n : Nat) (x2 : Int32) (M : Mm), f_X8_isWord_L28 o0 w1 n x2 M = some t → KW p l e rm_X8_isWord s m args below meth c G 3 (MQ below (QO G (some (.int r.2)) sh r.1 xs) args s 0 0 (gA G)) sh xs 0 0 M 28 [(0, rA G o0), (1, .ref (gK G w1)), (2, .int x2)] [] := by
  intro n
  induction n with
  | zero =>
    intro x2 M h
    cases h
  | succ n ih =>
    intro x2 M h
    unfold f_X8_isWord_L28 at h
    refine k_iload_n C (pc2 := 29) (dkAt dkX8_isWord 16 (q := (28, .iload_n 2, 1)) rfl) rfl rfl 2 rfl ?_
    refine k_aload_n C (pc2 := 30) (dkAt dkX8_isWord 17 (q := (29, .aload_n 1, 1)) rfl) rfl rfl 1 rfl ?_
    obtain ⟨q3, e4, h⟩ := ob_inv h
    refine kc_Str C (i := w1) (As := []) (st2 := [.int q3, .int x2]) (ct_strLen l G sh xs w1 h1 M q3 e4) (cl_X8_174 (hts_of C) ⟨Nat.le_of_ble_eq_true rfl, Nat.le_of_ble_eq_true rfl⟩ rfl rfl) h1 rfl rfl (Nat.le_of_ble_eq_true rfl) (dkAt dkX8_isWord 18 (q := (30, .invokevirtual 174, 3)) rfl) ⟨Nat.zero_le _, Nat.zero_le _⟩ (pc2 := 33) rfl rfl ?_
    refine k_icmp_ge C (tgt := 63) (pc2 := 36) (dkAt dkX8_isWord 19 (q := (33, .if_icmp .ge 30, 3)) rfl) (by decide) rfl h (fun h => ?_) (fun h => ?_)
    · refine k_lv [] (lv2 := []) rfl ?_
      exact hcont M (Option.some.inj h).symm
    · refine k_aload_n C (pc2 := 37) (dkAt dkX8_isWord 20 (q := (36, .aload_n 0, 1)) rfl) rfl rfl 0 rfl ?_
      refine kf_X8_31 C (pc2 := 40) (o := o0) (o2 := o0 + 15) h0.1 rfl (dkAt dkX8_isWord 21 (q := (37, .getfield 31, 3)) rfl) rfl ?_
      refine k_aload_n C (pc2 := 41) (dkAt dkX8_isWord 22 (q := (40, .aload_n 0, 1)) rfl) rfl rfl 0 rfl ?_
      refine kf_X8_156 C (pc2 := 44) (o := o0) (o2 := 0) h0.1 (dkAt dkX8_isWord 23 (q := (41, .getfield 156, 3)) rfl) rfl ?_
      refine k_iload_n C (pc2 := 45) (dkAt dkX8_isWord 24 (q := (44, .iload_n 2, 1)) rfl) rfl rfl 2 rfl ?_
      refine k_iadd C (pc2 := 46) (dkAt dkX8_isWord 25 (q := (45, .iadd, 1)) rfl) rfl ?_
      refine k_iald C (pc2 := 47) (o := o0 + 15) (nA := 250) (isM_tape h0) (dkAt dkX8_isWord 26 (q := (46, .iaload, 1)) rfl) rfl h (fun h => ?_)
      refine k_aload_n C (pc2 := 48) (dkAt dkX8_isWord 27 (q := (47, .aload_n 1, 1)) rfl) rfl rfl 1 rfl ?_
      refine k_iload_n C (pc2 := 49) (dkAt dkX8_isWord 28 (q := (48, .iload_n 2, 1)) rfl) rfl rfl 2 rfl ?_
      obtain ⟨q5, e6, h⟩ := ob_inv h
      refine kc_Str C (i := w1) (As := [.int x2]) (st2 := [.int q5, .int (M.1 (o0 + 15) ((M.1 o0 23) + x2).toNatClampNeg)]) (ct_strAt l G sh xs w1 h1 x2 M q5 e6) (cl_X8_180 (hts_of C) ⟨Nat.le_of_ble_eq_true rfl, Nat.le_of_ble_eq_true rfl⟩ rfl rfl) h1 rfl rfl (Nat.le_of_ble_eq_true rfl) (dkAt dkX8_isWord 29 (q := (49, .invokevirtual 180, 3)) rfl) ⟨Nat.zero_le _, Nat.zero_le _⟩ (pc2 := 52) rfl rfl ?_
      refine k_icmp_eq C (tgt := 57) (pc2 := 55) (dkAt dkX8_isWord 30 (q := (52, .if_icmp .eq 5, 3)) rfl) (by decide) rfl h (fun h => ?_) (fun h => ?_)
      · refine kb_iinc C (pc2 := 60) (dkAt dkX8_isWord 33 (q := (57, .iinc 2 1, 3)) rfl) rfl (j := 2) rfl (v := x2 + 1) rfl (by decide) (lv2 := fun v7 => [(2, .int v7), (0, rA G o0), (1, .ref (gK G w1))]) (fun _ => rfl) h (fun v7 h => ?_)
        refine k_goto C (tgt := 28) (dkAt dkX8_isWord 34 (q := (60, .goto (-32), 3)) rfl) (by decide) ?_
        refine k_lv [1, 2, 0] (lv2 := [(0, rA G o0), (1, .ref (gK G w1)), (2, .int v7)]) rfl ?_
        exact ih v7 M h
      · refine k_iconst C (pc2 := 56) (dkAt dkX8_isWord 31 (q := (55, .iconst 0, 1)) rfl) rfl (v := 0) rfl ?_
        exact k_zret C (dkAt dkX8_isWord 32 (q := (56, .ireturn, 1)) rfl) rfl (pe2 (hres _ (Option.some.inj h).symm)) rfl (pe1 (hres _ (Option.some.inj h).symm)) rfl
set_option maxRecDepth 100000 in
set_option maxHeartbeats 4000000 in
theorem ct_X8_isWord (l : Launch) (G : GG) (sh : Sh) (xs : List va_E) (o0 : Nat) (h0 : isM sh o0) (w1 : Nat) (h1 : w1 < 8) (M : Mm) (r : Mm × Int32) (h : f_X8_isWord o0 w1 M = some r) : Ct l yX8_isWord cX8_isWord 3 (some .boolean) rm_X8_isWord G [rA G o0, .ref (gK G w1)] sh M xs (some (.int r.2)) sh r.1 xs 0 0 := by
  refine ct_of (by decide) (Nat.le_of_ble_eq_true rfl) ?_
  intro p e s m args below meth c hnm C
  refine k_lv [0, 1] (lv2 := [(0, rA G o0), (1, .ref (gK G w1))]) rfl ?_
  unfold f_X8_isWord at h
  refine k_aload_n C (pc2 := 1) (dkAt dkX8_isWord 0 (q := (0, .aload_n 0, 1)) rfl) rfl rfl 0 rfl ?_
  refine kf_X8_162 C (pc2 := 4) (o := o0) (o2 := 0) h0.1 (dkAt dkX8_isWord 1 (q := (1, .getfield 162, 3)) rfl) rfl ?_
  refine k_iconst C (pc2 := 5) (dkAt dkX8_isWord 2 (q := (4, .iconst 1, 1)) rfl) rfl (v := 1) rfl ?_
  refine k_icmp_ne C (tgt := 24) (pc2 := 8) (dkAt dkX8_isWord 3 (q := (5, .if_icmp .ne 19, 3)) rfl) (by decide) rfl h (fun h => ?_) (fun h => ?_)
  · refine k_iconst C (pc2 := 25) (dkAt dkX8_isWord 12 (q := (24, .iconst 0, 1)) rfl) rfl (v := 0) rfl ?_
    exact k_zret C (dkAt dkX8_isWord 13 (q := (25, .ireturn, 1)) rfl) rfl (pe2 (Option.some.inj h)) rfl (pe1 (Option.some.inj h)) rfl
  · refine k_aload_n C (pc2 := 9) (dkAt dkX8_isWord 4 (q := (8, .aload_n 0, 1)) rfl) rfl rfl 0 rfl ?_
    refine kf_X8_153 C (pc2 := 12) (o := o0) (o2 := 0) h0.1 (dkAt dkX8_isWord 5 (q := (9, .getfield 153, 3)) rfl) rfl ?_
    refine k_aload_n C (pc2 := 13) (dkAt dkX8_isWord 6 (q := (12, .aload_n 0, 1)) rfl) rfl rfl 0 rfl ?_
    refine kf_X8_156 C (pc2 := 16) (o := o0) (o2 := 0) h0.1 (dkAt dkX8_isWord 7 (q := (13, .getfield 156, 3)) rfl) rfl ?_
    refine k_isub C (pc2 := 17) (dkAt dkX8_isWord 8 (q := (16, .isub, 1)) rfl) rfl ?_
    refine k_aload_n C (pc2 := 18) (dkAt dkX8_isWord 9 (q := (17, .aload_n 1, 1)) rfl) rfl rfl 1 rfl ?_
    obtain ⟨q1, e2, h⟩ := ob_inv h
    refine kc_Str C (i := w1) (As := []) (st2 := [.int q1, .int ((M.1 o0 21) - (M.1 o0 23))]) (ct_strLen l G sh xs w1 h1 M q1 e2) (cl_X8_174 (hts_of C) ⟨Nat.le_of_ble_eq_true rfl, Nat.le_of_ble_eq_true rfl⟩ rfl rfl) h1 rfl rfl (Nat.le_of_ble_eq_true rfl) (dkAt dkX8_isWord 10 (q := (18, .invokevirtual 174, 3)) rfl) ⟨Nat.zero_le _, Nat.zero_le _⟩ (pc2 := 21) rfl rfl ?_
    refine k_icmp_eq C (tgt := 26) (pc2 := 24) (dkAt dkX8_isWord 11 (q := (21, .if_icmp .eq 5, 3)) rfl) (by decide) rfl h (fun h => ?_) (fun h => ?_)
    · refine k_iconst C (pc2 := 27) (dkAt dkX8_isWord 14 (q := (26, .iconst 0, 1)) rfl) rfl (v := 0) rfl ?_
      refine k_istore_n C (pc2 := 28) (dkAt dkX8_isWord 15 (q := (27, .istore_n 2, 1)) rfl) rfl rfl (by decide) (lv2 := [(2, .int 0), (0, rA G o0), (1, .ref (gK G w1))]) rfl ?_
      refine k_lv [1, 2, 0] (lv2 := [(0, rA G o0), (1, .ref (gK G w1)), (2, .int 0)]) rfl ?_
      obtain ⟨t8, e9, hA, hB⟩ := obS_inv h
      refine kl_X8_isWord_L28 C o0 h0 w1 h1 r t8 ?_ ?_ 1000 0 M e9
      · intro M10 et
        have h := hA _ et
        refine k_iconst C (pc2 := 64) (dkAt dkX8_isWord 35 (q := (63, .iconst 1, 1)) rfl) rfl (v := 1) rfl ?_
        exact k_zret C (dkAt dkX8_isWord 36 (q := (64, .ireturn, 1)) rfl) rfl (pe2 (Option.some.inj h)) rfl (pe1 (Option.some.inj h)) rfl
      · intro z et
        have h := hB _ et
        exact Option.some.inj h
    · refine k_iconst C (pc2 := 25) (dkAt dkX8_isWord 12 (q := (24, .iconst 0, 1)) rfl) rfl (v := 0) rfl ?_
      exact k_zret C (dkAt dkX8_isWord 13 (q := (25, .ireturn, 1)) rfl) rfl (pe2 (Option.some.inj h)) rfl (pe1 (Option.some.inj h)) rfl
set_option maxRecDepth 100000 in
set_option maxHeartbeats 4000000 in
theorem ct_X8_number (l : Launch) (G : GG) (sh : Sh) (xs : List va_E) (o0 : Nat) (h0 : isM sh o0) (x1 : Int32) (x2 : Int32) (x3 : Int32) (M : Mm) (r : Mm × Int32) (h : f_X8_number o0 x1 x2 x3 M = some r) : Ct l yX8_number cX8_number 4 (some .boolean) rm_X8_number G [rA G o0, .int x1, .int x2, .int x3] sh M xs (some (.int r.2)) sh r.1 xs 0 0 := by
  refine ct_of (by decide) (Nat.le_of_ble_eq_true rfl) ?_
  intro p e s m args below meth c hnm C
  refine k_lv [0, 1, 2, 3] (lv2 := [(0, rA G o0), (1, .int x1), (2, .int x2), (3, .int x3)]) rfl ?_
  unfold f_X8_number at h
  refine k_aload_n C (pc2 := 1) (dkAt dkX8_number 0 (q := (0, .aload_n 0, 1)) rfl) rfl rfl 0 rfl ?_
  refine kf_X8_162 C (pc2 := 4) (o := o0) (o2 := 0) h0.1 (dkAt dkX8_number 1 (q := (1, .getfield 162, 3)) rfl) rfl ?_
  refine k_iconst C (pc2 := 5) (dkAt dkX8_number 2 (q := (4, .iconst 2, 1)) rfl) rfl (v := 2) rfl ?_
  refine k_icmp_ne C (tgt := 23) (pc2 := 8) (dkAt dkX8_number 3 (q := (5, .if_icmp .ne 18, 3)) rfl) (by decide) rfl h (fun h => ?_) (fun h => ?_)
  · refine k_aload_n C (pc2 := 24) (dkAt dkX8_number 13 (q := (23, .aload_n 0, 1)) rfl) rfl rfl 0 rfl ?_
    obtain ⟨q1, e2, h⟩ := ob_inv h
    refine kc_V C (As := []) (st2 := [.int q1.2]) (ct_X8_wrong l G sh xs o0 h0 M q1 e2) (cl_X8_184 (hts_of C) ⟨Nat.le_of_ble_eq_true rfl, Nat.le_of_ble_eq_true rfl⟩ rfl rfl) h0.1 rfl rfl rfl rfl rfl (Nat.le_of_ble_eq_true rfl) (dkAt dkX8_number 14 (q := (24, .invokevirtual 184, 3)) rfl) ⟨Nat.zero_le _, Nat.zero_le _⟩ (pc2 := 27) rfl rfl ?_
    obtain ⟨hb, h⟩ := chb_inv h
    exact k_zret C (dkAt dkX8_number 15 (q := (27, .ireturn, 1)) rfl) hb (pe2 (Option.some.inj h)) rfl (pe1 (Option.some.inj h)) rfl
  · refine k_aload_n C (pc2 := 9) (dkAt dkX8_number 4 (q := (8, .aload_n 0, 1)) rfl) rfl rfl 0 rfl ?_
    refine kf_X8_159 C (pc2 := 12) (o := o0) (o2 := 0) h0.1 (dkAt dkX8_number 5 (q := (9, .getfield 159, 3)) rfl) rfl ?_
    refine k_i2l C (pc2 := 13) (dkAt dkX8_number 6 (q := (12, .i2l, 1)) rfl) rfl ?_
    refine k_iload_n C (pc2 := 14) (dkAt dkX8_number 7 (q := (13, .iload_n 2, 1)) rfl) rfl rfl 2 rfl ?_
    refine k_i2l C (pc2 := 15) (dkAt dkX8_number 8 (q := (14, .i2l, 1)) rfl) rfl ?_
    refine k_iload_n C (pc2 := 16) (dkAt dkX8_number 9 (q := (15, .iload_n 3, 1)) rfl) rfl rfl 3 rfl ?_
    refine k_i2l C (pc2 := 17) (dkAt dkX8_number 10 (q := (16, .i2l, 1)) rfl) rfl ?_
    obtain ⟨q3, e4, h⟩ := ob_inv h
    refine kc_S C (As := [.long ((M.1 o0 24).toInt64), .long x2.toInt64, .long x3.toInt64]) (st2 := [.int q3]) (ct_X8_in l G sh xs ((M.1 o0 24).toInt64) x2.toInt64 x3.toInt64 M q3 e4) (cl_X8_85 (hts_of C) ⟨Nat.le_of_ble_eq_true rfl, Nat.le_of_ble_eq_true rfl⟩ rfl rfl) rfl rfl (Nat.le_of_ble_eq_true rfl) (dkAt dkX8_number 11 (q := (17, .invokestatic 85, 3)) rfl) ⟨Nat.zero_le _, Nat.zero_le _⟩ (pc2 := 20) rfl rfl ?_
    refine k_if_ne C (tgt := 28) (pc2 := 23) (dkAt dkX8_number 12 (q := (20, .ifCond .ne 8, 3)) rfl) (by decide) rfl h (fun h => ?_) (fun h => ?_)
    · refine k_aload_n C (pc2 := 29) (dkAt dkX8_number 16 (q := (28, .aload_n 0, 1)) rfl) rfl rfl 0 rfl ?_
      refine kf_X8_62 C (pc2 := 32) (o := o0) (o2 := o0 + 23) h0.1 rfl (dkAt dkX8_number 17 (q := (29, .getfield 62, 3)) rfl) rfl ?_
      refine k_iload_n C (pc2 := 33) (dkAt dkX8_number 18 (q := (32, .iload_n 1, 1)) rfl) rfl rfl 1 rfl ?_
      refine k_aload_n C (pc2 := 34) (dkAt dkX8_number 19 (q := (33, .aload_n 0, 1)) rfl) rfl rfl 0 rfl ?_
      refine kf_X8_159 C (pc2 := 37) (o := o0) (o2 := 0) h0.1 (dkAt dkX8_number 20 (q := (34, .getfield 159, 3)) rfl) rfl ?_
      refine k_iast C (pc2 := 38) (o := o0 + 23) (nA := 3) (isM_told h0) (dkAt dkX8_number 21 (q := (37, .iastore, 1)) rfl) rfl h (fun M5 h => ?_)
      refine k_aload_n C (pc2 := 39) (dkAt dkX8_number 22 (q := (38, .aload_n 0, 1)) rfl) rfl rfl 0 rfl ?_
      obtain ⟨q6, e7, h⟩ := ob_inv h
      refine kc_V C (As := []) (st2 := []) (ct_X8_look l G sh xs o0 h0 M5 q6 e7) (cl_X8_188 (hts_of C) ⟨Nat.le_of_ble_eq_true rfl, Nat.le_of_ble_eq_true rfl⟩ rfl rfl) h0.1 rfl rfl rfl rfl rfl (Nat.le_of_ble_eq_true rfl) (dkAt dkX8_number 23 (q := (39, .invokevirtual 188, 3)) rfl) ⟨Nat.zero_le _, Nat.zero_le _⟩ (pc2 := 42) rfl rfl ?_
      refine k_iconst C (pc2 := 43) (dkAt dkX8_number 24 (q := (42, .iconst 1, 1)) rfl) rfl (v := 1) rfl ?_
      exact k_zret C (dkAt dkX8_number 25 (q := (43, .ireturn, 1)) rfl) rfl (pe2 (Option.some.inj h)) rfl (pe1 (Option.some.inj h)) rfl
    · refine k_aload_n C (pc2 := 24) (dkAt dkX8_number 13 (q := (23, .aload_n 0, 1)) rfl) rfl rfl 0 rfl ?_
      obtain ⟨q8, e9, h⟩ := ob_inv h
      refine kc_V C (As := []) (st2 := [.int q8.2]) (ct_X8_wrong l G sh xs o0 h0 M q8 e9) (cl_X8_184 (hts_of C) ⟨Nat.le_of_ble_eq_true rfl, Nat.le_of_ble_eq_true rfl⟩ rfl rfl) h0.1 rfl rfl rfl rfl rfl (Nat.le_of_ble_eq_true rfl) (dkAt dkX8_number 14 (q := (24, .invokevirtual 184, 3)) rfl) ⟨Nat.zero_le _, Nat.zero_le _⟩ (pc2 := 27) rfl rfl ?_
      obtain ⟨hb, h⟩ := chb_inv h
      exact k_zret C (dkAt dkX8_number 15 (q := (27, .ireturn, 1)) rfl) hb (pe2 (Option.some.inj h)) rfl (pe1 (Option.some.inj h)) rfl
set_option maxRecDepth 100000 in
set_option maxHeartbeats 4000000 in
theorem ct_X8_tells (l : Launch) (G : GG) (sh : Sh) (xs : List va_E) (o0 : Nat) (h0 : isM sh o0) (x1 : Int32) (x2 : Int32) (M : Mm) (r : Mm × Int32) (h : f_X8_tells o0 x1 x2 M = some r) : Ct l yX8_tells cX8_tells 3 (some .boolean) rm_X8_tells G [rA G o0, .int x1, .int x2] sh M xs (some (.int r.2)) sh r.1 xs 0 0 := by
  refine ct_of (by decide) (Nat.le_of_ble_eq_true rfl) ?_
  intro p e s m args below meth c hnm C
  refine k_lv [0, 1, 2] (lv2 := [(0, rA G o0), (1, .int x1), (2, .int x2)]) rfl ?_
  unfold f_X8_tells at h
  refine k_aload_n C (pc2 := 1) (dkAt dkX8_tells 0 (q := (0, .aload_n 0, 1)) rfl) rfl rfl 0 rfl ?_
  obtain ⟨q1, e2, h⟩ := ob_inv h
  refine kc_V C (As := []) (st2 := []) (ct_X8_look l G sh xs o0 h0 M q1 e2) (cl_X8_188 (hts_of C) ⟨Nat.le_of_ble_eq_true rfl, Nat.le_of_ble_eq_true rfl⟩ rfl rfl) h0.1 rfl rfl rfl rfl rfl (Nat.le_of_ble_eq_true rfl) (dkAt dkX8_tells 1 (q := (1, .invokevirtual 188, 3)) rfl) ⟨Nat.zero_le _, Nat.zero_le _⟩ (pc2 := 4) rfl rfl ?_
  refine k_aload_n C (pc2 := 5) (dkAt dkX8_tells 2 (q := (4, .aload_n 0, 1)) rfl) rfl rfl 0 rfl ?_
  refine k_iconst C (pc2 := 6) (dkAt dkX8_tells 3 (q := (5, .iconst 0, 1)) rfl) rfl (v := 0) rfl ?_
  refine k_iload_n C (pc2 := 7) (dkAt dkX8_tells 4 (q := (6, .iload_n 1, 1)) rfl) rfl rfl 1 rfl ?_
  refine k_iload_n C (pc2 := 8) (dkAt dkX8_tells 5 (q := (7, .iload_n 2, 1)) rfl) rfl rfl 2 rfl ?_
  obtain ⟨q3, e4, h⟩ := ob_inv h
  refine kc_V C (As := [.int 0, .int x1, .int x2]) (st2 := [.int q3.2]) (ct_X8_number l G sh xs o0 h0 0 x1 x2 q1 q3 e4) (cl_X8_191 (hts_of C) ⟨Nat.le_of_ble_eq_true rfl, Nat.le_of_ble_eq_true rfl⟩ rfl rfl) h0.1 rfl rfl rfl rfl rfl (Nat.le_of_ble_eq_true rfl) (dkAt dkX8_tells 6 (q := (8, .invokevirtual 191, 3)) rfl) ⟨Nat.zero_le _, Nat.zero_le _⟩ (pc2 := 11) rfl rfl ?_
  obtain ⟨hb, h⟩ := chb_inv h
  exact k_zret C (dkAt dkX8_tells 7 (q := (11, .ireturn, 1)) rfl) hb (pe2 (Option.some.inj h)) rfl (pe1 (Option.some.inj h)) rfl
set_option maxRecDepth 100000 in
set_option maxHeartbeats 4000000 in
theorem ct_X8_asks (l : Launch) (G : GG) (sh : Sh) (xs : List va_E) (o0 : Nat) (h0 : isM sh o0) (x1 : Int32) (x2 : Int32) (x3 : Int32) (M : Mm) (r : Mm × Int32) (h : f_X8_asks o0 x1 x2 x3 M = some r) : Ct l yX8_asks cX8_asks 5 (some .boolean) rm_X8_asks G [rA G o0, .int x1, .int x2, .int x3] sh M xs (some (.int r.2)) sh r.1 xs 0 0 := by
  refine ct_of (by decide) (Nat.le_of_ble_eq_true rfl) ?_
  intro p e s m args below meth c hnm C
  refine k_lv [0, 1, 2, 3] (lv2 := [(0, rA G o0), (1, .int x1), (2, .int x2), (3, .int x3)]) rfl ?_
  unfold f_X8_asks at h
  refine k_aload_n C (pc2 := 1) (dkAt dkX8_asks 0 (q := (0, .aload_n 0, 1)) rfl) rfl rfl 0 rfl ?_
  refine k_iload_n C (pc2 := 2) (dkAt dkX8_asks 1 (q := (1, .iload_n 2, 1)) rfl) rfl rfl 2 rfl ?_
  refine k_iload_n C (pc2 := 3) (dkAt dkX8_asks 2 (q := (2, .iload_n 3, 1)) rfl) rfl rfl 3 rfl ?_
  obtain ⟨q1, e2, h⟩ := ob_inv h
  refine kc_V C (As := [.int x2, .int x3]) (st2 := [.int q1.2]) (ct_X8_tells l G sh xs o0 h0 x2 x3 M q1 e2) (cl_X8_195 (hts_of C) ⟨Nat.le_of_ble_eq_true rfl, Nat.le_of_ble_eq_true rfl⟩ rfl rfl) h0.1 rfl rfl rfl rfl rfl (Nat.le_of_ble_eq_true rfl) (dkAt dkX8_asks 3 (q := (3, .invokevirtual 195, 3)) rfl) ⟨Nat.zero_le _, Nat.zero_le _⟩ (pc2 := 6) rfl rfl ?_
  refine kb_istore C (pc2 := 8) (dkAt dkX8_asks 4 (q := (6, .istore 4, 2)) rfl) rfl (by decide) (lv2 := fun v3 => [(4, .int v3), (0, rA G o0), (1, .int x1), (2, .int x2), (3, .int x3)]) (fun _ => rfl) h (fun v3 h => ?_)
  refine k_aload_n C (pc2 := 9) (dkAt dkX8_asks 5 (q := (8, .aload_n 0, 1)) rfl) rfl rfl 1 rfl ?_
  refine kf_X8_56 C (pc2 := 12) (o := o0) (o2 := o0 + 22) h0.1 rfl (dkAt dkX8_asks 6 (q := (9, .getfield 56, 3)) rfl) rfl ?_
  refine k_iload_n C (pc2 := 13) (dkAt dkX8_asks 7 (q := (12, .iload_n 1, 1)) rfl) rfl rfl 2 rfl ?_
  refine k_iload C (pc2 := 15) (dkAt dkX8_asks 8 (q := (13, .iload 4, 2)) rfl) rfl 0 rfl ?_
  refine k_if_eq C (tgt := 27) (pc2 := 18) (dkAt dkX8_asks 9 (q := (15, .ifCond .eq 12, 3)) rfl) (by decide) rfl h (fun h => ?_) (fun h => ?_)
  · refine k_aload_n C (pc2 := 28) (dkAt dkX8_asks 15 (q := (27, .aload_n 0, 1)) rfl) rfl rfl 1 rfl ?_
    refine kf_X8_56 C (pc2 := 31) (o := o0) (o2 := o0 + 22) h0.1 rfl (dkAt dkX8_asks 16 (q := (28, .getfield 56, 3)) rfl) rfl ?_
    refine k_iload_n C (pc2 := 32) (dkAt dkX8_asks 17 (q := (31, .iload_n 1, 1)) rfl) rfl rfl 2 rfl ?_
    refine k_iald C (pc2 := 33) (o := o0 + 22) (nA := 3) (isM_asked h0) (dkAt dkX8_asks 18 (q := (32, .iaload, 1)) rfl) rfl h (fun h => ?_)
    refine k_iast C (pc2 := 34) (o := o0 + 22) (nA := 3) (isM_asked h0) (dkAt dkX8_asks 19 (q := (33, .iastore, 1)) rfl) rfl h (fun M4 h => ?_)
    refine k_iload C (pc2 := 36) (dkAt dkX8_asks 20 (q := (34, .iload 4, 2)) rfl) rfl 0 rfl ?_
    obtain ⟨hb, h⟩ := chb_inv h
    exact k_zret C (dkAt dkX8_asks 21 (q := (36, .ireturn, 1)) rfl) hb (pe2 (Option.some.inj h)) rfl (pe1 (Option.some.inj h)) rfl
  · refine k_aload_n C (pc2 := 19) (dkAt dkX8_asks 10 (q := (18, .aload_n 0, 1)) rfl) rfl rfl 1 rfl ?_
    refine kf_X8_62 C (pc2 := 22) (o := o0) (o2 := o0 + 23) h0.1 rfl (dkAt dkX8_asks 11 (q := (19, .getfield 62, 3)) rfl) rfl ?_
    refine k_iconst C (pc2 := 23) (dkAt dkX8_asks 12 (q := (22, .iconst 0, 1)) rfl) rfl (v := 0) rfl ?_
    refine k_ialdc C (pc2 := 24) (o := o0 + 23) (nA := 3) (j := 0) (isM_told h0) (dkAt dkX8_asks 13 (q := (23, .iaload, 1)) rfl) rfl (by unfold vp_in; decide) (by decide) ?_
    refine k_goto C (tgt := 33) (dkAt dkX8_asks 14 (q := (24, .goto 9, 3)) rfl) (by decide) ?_
    refine k_iast C (pc2 := 34) (o := o0 + 22) (nA := 3) (isM_asked h0) (dkAt dkX8_asks 19 (q := (33, .iastore, 1)) rfl) rfl h (fun M5 h => ?_)
    refine k_iload C (pc2 := 36) (dkAt dkX8_asks 20 (q := (34, .iload 4, 2)) rfl) rfl 0 rfl ?_
    obtain ⟨hb, h⟩ := chb_inv h
    exact k_zret C (dkAt dkX8_asks 21 (q := (36, .ireturn, 1)) rfl) hb (pe2 (Option.some.inj h)) rfl (pe1 (Option.some.inj h)) rfl
set_option maxRecDepth 100000 in
set_option maxHeartbeats 4000000 in
theorem ct_X8_freeTold (l : Launch) (G : GG) (sh : Sh) (xs : List va_E) (o0 : Nat) (h0 : isM sh o0) (x1 : Int32) (M : Mm) (r : Mm × Int32) (h : f_X8_freeTold o0 x1 M = some r) : Ct l yX8_freeTold cX8_freeTold 2 (some .boolean) rm_X8_freeTold G [rA G o0, .int x1] sh M xs (some (.int r.2)) sh r.1 xs 0 0 := by
  refine ct_of (by decide) (Nat.le_of_ble_eq_true rfl) ?_
  intro p e s m args below meth c hnm C
  refine k_lv [0, 1] (lv2 := [(0, rA G o0), (1, .int x1)]) rfl ?_
  unfold f_X8_freeTold at h
  refine k_aload_n C (pc2 := 1) (dkAt dkX8_freeTold 0 (q := (0, .aload_n 0, 1)) rfl) rfl rfl 0 rfl ?_
  refine k_iconst C (pc2 := 2) (dkAt dkX8_freeTold 1 (q := (1, .iconst 0, 1)) rfl) rfl (v := 0) rfl ?_
  refine k_aload_n C (pc2 := 3) (dkAt dkX8_freeTold 2 (q := (2, .aload_n 0, 1)) rfl) rfl rfl 0 rfl ?_
  refine kf_X8_82 C (pc2 := 6) (o := o0) (o2 := 0) h0.1 (dkAt dkX8_freeTold 3 (q := (3, .getfield 82, 3)) rfl) rfl ?_
  refine k_iconst C (pc2 := 7) (dkAt dkX8_freeTold 4 (q := (6, .iconst 1, 1)) rfl) rfl (v := 1) rfl ?_
  refine k_isub C (pc2 := 8) (dkAt dkX8_freeTold 5 (q := (7, .isub, 1)) rfl) rfl ?_
  obtain ⟨q1, e2, h⟩ := ob_inv h
  refine kc_V C (As := [.int 0, .int ((M.1 o0 10) - 1)]) (st2 := [.int q1.2]) (ct_X8_tells l G sh xs o0 h0 0 ((M.1 o0 10) - 1) M q1 e2) (cl_X8_195 (hts_of C) ⟨Nat.le_of_ble_eq_true rfl, Nat.le_of_ble_eq_true rfl⟩ rfl rfl) h0.1 rfl rfl rfl rfl rfl (Nat.le_of_ble_eq_true rfl) (dkAt dkX8_freeTold 6 (q := (8, .invokevirtual 195, 3)) rfl) ⟨Nat.zero_le _, Nat.zero_le _⟩ (pc2 := 11) rfl rfl ?_
  refine k_if_eq C (tgt := 29) (pc2 := 14) (dkAt dkX8_freeTold 7 (q := (11, .ifCond .eq 18, 3)) rfl) (by decide) rfl h (fun h => ?_) (fun h => ?_)
  · refine k_iconst C (pc2 := 30) (dkAt dkX8_freeTold 17 (q := (29, .iconst 0, 1)) rfl) rfl (v := 0) rfl ?_
    exact k_zret C (dkAt dkX8_freeTold 18 (q := (30, .ireturn, 1)) rfl) rfl (pe2 (Option.some.inj h)) rfl (pe1 (Option.some.inj h)) rfl
  · refine k_aload_n C (pc2 := 15) (dkAt dkX8_freeTold 8 (q := (14, .aload_n 0, 1)) rfl) rfl rfl 0 rfl ?_
    refine k_iconst C (pc2 := 16) (dkAt dkX8_freeTold 9 (q := (15, .iconst 1, 1)) rfl) rfl (v := 1) rfl ?_
    refine k_iconst C (pc2 := 17) (dkAt dkX8_freeTold 10 (q := (16, .iconst 0, 1)) rfl) rfl (v := 0) rfl ?_
    refine k_aload_n C (pc2 := 18) (dkAt dkX8_freeTold 11 (q := (17, .aload_n 0, 1)) rfl) rfl rfl 0 rfl ?_
    refine kf_X8_37 C (pc2 := 21) (o := o0) (o2 := 0) h0.1 (dkAt dkX8_freeTold 12 (q := (18, .getfield 37, 3)) rfl) rfl ?_
    refine k_iconst C (pc2 := 22) (dkAt dkX8_freeTold 13 (q := (21, .iconst 1, 1)) rfl) rfl (v := 1) rfl ?_
    refine k_isub C (pc2 := 23) (dkAt dkX8_freeTold 14 (q := (22, .isub, 1)) rfl) rfl ?_
    obtain ⟨q3, e4, h⟩ := ob_inv h
    refine kc_V C (As := [.int 1, .int 0, .int ((q1.1.1 o0 9) - 1)]) (st2 := [.int q3.2]) (ct_X8_number l G sh xs o0 h0 1 0 ((q1.1.1 o0 9) - 1) q1.1 q3 e4) (cl_X8_191 (hts_of C) ⟨Nat.le_of_ble_eq_true rfl, Nat.le_of_ble_eq_true rfl⟩ rfl rfl) h0.1 rfl rfl rfl rfl rfl (Nat.le_of_ble_eq_true rfl) (dkAt dkX8_freeTold 15 (q := (23, .invokevirtual 191, 3)) rfl) ⟨Nat.zero_le _, Nat.zero_le _⟩ (pc2 := 26) rfl rfl ?_
    refine k_if_ne C (tgt := 31) (pc2 := 29) (dkAt dkX8_freeTold 16 (q := (26, .ifCond .ne 5, 3)) rfl) (by decide) rfl h (fun h => ?_) (fun h => ?_)
    · refine k_aload_n C (pc2 := 32) (dkAt dkX8_freeTold 19 (q := (31, .aload_n 0, 1)) rfl) rfl rfl 0 rfl ?_
      refine k_aload_n C (pc2 := 33) (dkAt dkX8_freeTold 20 (q := (32, .aload_n 0, 1)) rfl) rfl rfl 0 rfl ?_
      refine kf_X8_62 C (pc2 := 36) (o := o0) (o2 := o0 + 23) h0.1 rfl (dkAt dkX8_freeTold 21 (q := (33, .getfield 62, 3)) rfl) rfl ?_
      refine k_iconst C (pc2 := 37) (dkAt dkX8_freeTold 22 (q := (36, .iconst 0, 1)) rfl) rfl (v := 0) rfl ?_
      refine k_ialdc C (pc2 := 38) (o := o0 + 23) (nA := 3) (j := 0) (isM_told h0) (dkAt dkX8_freeTold 23 (q := (37, .iaload, 1)) rfl) rfl (by unfold vp_in; decide) (by decide) ?_
      refine k_aload_n C (pc2 := 39) (dkAt dkX8_freeTold 24 (q := (38, .aload_n 0, 1)) rfl) rfl rfl 0 rfl ?_
      refine kf_X8_62 C (pc2 := 42) (o := o0) (o2 := o0 + 23) h0.1 rfl (dkAt dkX8_freeTold 25 (q := (39, .getfield 62, 3)) rfl) rfl ?_
      refine k_iconst C (pc2 := 43) (dkAt dkX8_freeTold 26 (q := (42, .iconst 1, 1)) rfl) rfl (v := 1) rfl ?_
      refine k_ialdc C (pc2 := 44) (o := o0 + 23) (nA := 3) (j := 1) (isM_told h0) (dkAt dkX8_freeTold 27 (q := (43, .iaload, 1)) rfl) rfl (by unfold vp_in; decide) (by decide) ?_
      refine k_iload_n C (pc2 := 45) (dkAt dkX8_freeTold 28 (q := (44, .iload_n 1, 1)) rfl) rfl rfl 1 rfl ?_
      obtain ⟨q5, e6, h⟩ := ob_inv h
      refine kc_V C (As := [.int (q3.1.1 (o0 + 23) 0), .int (q3.1.1 (o0 + 23) 1), .int x1]) (st2 := []) (ct_X8_frees l G sh xs o0 h0 (q3.1.1 (o0 + 23) 0) (q3.1.1 (o0 + 23) 1) x1 q3.1 q5 e6) (cl_X8_142 (hts_of C) ⟨Nat.le_of_ble_eq_true rfl, Nat.le_of_ble_eq_true rfl⟩ rfl rfl) h0.1 rfl rfl rfl rfl rfl (Nat.le_of_ble_eq_true rfl) (dkAt dkX8_freeTold 29 (q := (45, .invokevirtual 142, 3)) rfl) ⟨Nat.zero_le _, Nat.zero_le _⟩ (pc2 := 48) rfl rfl ?_
      refine k_iconst C (pc2 := 49) (dkAt dkX8_freeTold 30 (q := (48, .iconst 1, 1)) rfl) rfl (v := 1) rfl ?_
      exact k_zret C (dkAt dkX8_freeTold 31 (q := (49, .ireturn, 1)) rfl) rfl (pe2 (Option.some.inj h)) rfl (pe1 (Option.some.inj h)) rfl
    · refine k_iconst C (pc2 := 30) (dkAt dkX8_freeTold 17 (q := (29, .iconst 0, 1)) rfl) rfl (v := 0) rfl ?_
      exact k_zret C (dkAt dkX8_freeTold 18 (q := (30, .ireturn, 1)) rfl) rfl (pe2 (Option.some.inj h)) rfl (pe1 (Option.some.inj h)) rfl
set_option maxRecDepth 100000 in
set_option maxHeartbeats 4000000 in
theorem ct_X8_statement (l : Launch) (G : GG) (sh : Sh) (xs : List va_E) (o0 : Nat) (h0 : isM sh o0) (M : Mm) (r : Mm × Int32) (h : f_X8_statement o0 M = some r) : Ct l yX8_statement cX8_statement 2 (some .boolean) rm_X8_statement G [rA G o0] sh M xs (some (.int r.2)) sh r.1 xs 0 0 := by
  refine ct_of (by decide) (Nat.le_of_ble_eq_true rfl) ?_
  intro p e s m args below meth c hnm C
  refine k_lv [0] (lv2 := [(0, rA G o0)]) rfl ?_
  unfold f_X8_statement at h
  refine k_aload_n C (pc2 := 1) (dkAt dkX8_statement 0 (q := (0, .aload_n 0, 1)) rfl) rfl rfl 0 rfl ?_
  refine k_ldcs C (pc2 := 3) (dkAt dkX8_statement 1 (q := (1, .ldc 198, 2)) rfl) rfl (i := 0) (List.mem_of_getElem? (i := 8) rfl) ?_
  obtain ⟨q1, e2, h⟩ := ob_inv h
  refine kc_V C (As := [.ref (gK G 0)]) (st2 := [.int q1.2]) (ct_X8_isWord l G sh xs o0 h0 0 (by decide) M q1 e2) (cl_X8_199 (hts_of C) ⟨Nat.le_of_ble_eq_true rfl, Nat.le_of_ble_eq_true rfl⟩ rfl rfl) h0.1 rfl rfl rfl rfl rfl (Nat.le_of_ble_eq_true rfl) (dkAt dkX8_statement 2 (q := (3, .invokevirtual 199, 3)) rfl) ⟨Nat.zero_le _, Nat.zero_le _⟩ (pc2 := 6) rfl rfl ?_
  refine k_if_eq C (tgt := 40) (pc2 := 9) (dkAt dkX8_statement 3 (q := (6, .ifCond .eq 34, 3)) rfl) (by decide) rfl h (fun h => ?_) (fun h => ?_)
  · refine k_aload_n C (pc2 := 41) (dkAt dkX8_statement 22 (q := (40, .aload_n 0, 1)) rfl) rfl rfl 0 rfl ?_
    refine k_ldcs C (pc2 := 43) (dkAt dkX8_statement 23 (q := (41, .ldc 203, 2)) rfl) rfl (i := 1) (List.mem_of_getElem? (i := 9) rfl) ?_
    obtain ⟨q3, e4, h⟩ := ob_inv h
    refine kc_V C (As := [.ref (gK G 1)]) (st2 := [.int q3.2]) (ct_X8_isWord l G sh xs o0 h0 1 (by decide) q1.1 q3 e4) (cl_X8_199 (hts_of C) ⟨Nat.le_of_ble_eq_true rfl, Nat.le_of_ble_eq_true rfl⟩ rfl rfl) h0.1 rfl rfl rfl rfl rfl (Nat.le_of_ble_eq_true rfl) (dkAt dkX8_statement 24 (q := (43, .invokevirtual 199, 3)) rfl) ⟨Nat.zero_le _, Nat.zero_le _⟩ (pc2 := 46) rfl rfl ?_
    refine k_if_eq C (tgt := 115) (pc2 := 49) (dkAt dkX8_statement 25 (q := (46, .ifCond .eq 69, 3)) rfl) (by decide) rfl h (fun h => ?_) (fun h => ?_)
    · refine k_aload_n C (pc2 := 116) (dkAt dkX8_statement 65 (q := (115, .aload_n 0, 1)) rfl) rfl rfl 0 rfl ?_
      refine k_ldcs C (pc2 := 118) (dkAt dkX8_statement 66 (q := (116, .ldc 205, 2)) rfl) rfl (i := 2) (List.mem_of_getElem? (i := 10) rfl) ?_
      obtain ⟨q5, e6, h⟩ := ob_inv h
      refine kc_V C (As := [.ref (gK G 2)]) (st2 := [.int q5.2]) (ct_X8_isWord l G sh xs o0 h0 2 (by decide) q3.1 q5 e6) (cl_X8_199 (hts_of C) ⟨Nat.le_of_ble_eq_true rfl, Nat.le_of_ble_eq_true rfl⟩ rfl rfl) h0.1 rfl rfl rfl rfl rfl (Nat.le_of_ble_eq_true rfl) (dkAt dkX8_statement 67 (q := (118, .invokevirtual 199, 3)) rfl) ⟨Nat.zero_le _, Nat.zero_le _⟩ (pc2 := 121) rfl rfl ?_
      refine k_if_eq C (tgt := 130) (pc2 := 124) (dkAt dkX8_statement 68 (q := (121, .ifCond .eq 9, 3)) rfl) (by decide) rfl h (fun h => ?_) (fun h => ?_)
      · refine k_aload_n C (pc2 := 131) (dkAt dkX8_statement 73 (q := (130, .aload_n 0, 1)) rfl) rfl rfl 0 rfl ?_
        refine k_ldcs C (pc2 := 133) (dkAt dkX8_statement 74 (q := (131, .ldc 211, 2)) rfl) rfl (i := 3) (List.mem_of_getElem? (i := 11) rfl) ?_
        obtain ⟨q7, e8, h⟩ := ob_inv h
        refine kc_V C (As := [.ref (gK G 3)]) (st2 := [.int q7.2]) (ct_X8_isWord l G sh xs o0 h0 3 (by decide) q5.1 q7 e8) (cl_X8_199 (hts_of C) ⟨Nat.le_of_ble_eq_true rfl, Nat.le_of_ble_eq_true rfl⟩ rfl rfl) h0.1 rfl rfl rfl rfl rfl (Nat.le_of_ble_eq_true rfl) (dkAt dkX8_statement 75 (q := (133, .invokevirtual 199, 3)) rfl) ⟨Nat.zero_le _, Nat.zero_le _⟩ (pc2 := 136) rfl rfl ?_
        refine k_if_eq C (tgt := 145) (pc2 := 139) (dkAt dkX8_statement 76 (q := (136, .ifCond .eq 9, 3)) rfl) (by decide) rfl h (fun h => ?_) (fun h => ?_)
        · refine k_aload_n C (pc2 := 146) (dkAt dkX8_statement 81 (q := (145, .aload_n 0, 1)) rfl) rfl rfl 0 rfl ?_
          refine k_ldcs C (pc2 := 148) (dkAt dkX8_statement 82 (q := (146, .ldc 213, 2)) rfl) rfl (i := 7) (List.mem_of_getElem? (i := 15) rfl) ?_
          obtain ⟨q9, e10, h⟩ := ob_inv h
          refine kc_V C (As := [.ref (gK G 7)]) (st2 := [.int q9.2]) (ct_X8_isWord l G sh xs o0 h0 7 (by decide) q7.1 q9 e10) (cl_X8_199 (hts_of C) ⟨Nat.le_of_ble_eq_true rfl, Nat.le_of_ble_eq_true rfl⟩ rfl rfl) h0.1 rfl rfl rfl rfl rfl (Nat.le_of_ble_eq_true rfl) (dkAt dkX8_statement 83 (q := (148, .invokevirtual 199, 3)) rfl) ⟨Nat.zero_le _, Nat.zero_le _⟩ (pc2 := 151) rfl rfl ?_
          refine k_if_eq C (tgt := 200) (pc2 := 154) (dkAt dkX8_statement 84 (q := (151, .ifCond .eq 49, 3)) rfl) (by decide) rfl h (fun h => ?_) (fun h => ?_)
          · refine k_aload_n C (pc2 := 201) (dkAt dkX8_statement 114 (q := (200, .aload_n 0, 1)) rfl) rfl rfl 0 rfl ?_
            refine k_ldcs C (pc2 := 203) (dkAt dkX8_statement 115 (q := (201, .ldc 215, 2)) rfl) rfl (i := 4) (List.mem_of_getElem? (i := 12) rfl) ?_
            obtain ⟨q11, e12, h⟩ := ob_inv h
            refine kc_V C (As := [.ref (gK G 4)]) (st2 := [.int q11.2]) (ct_X8_isWord l G sh xs o0 h0 4 (by decide) q9.1 q11 e12) (cl_X8_199 (hts_of C) ⟨Nat.le_of_ble_eq_true rfl, Nat.le_of_ble_eq_true rfl⟩ rfl rfl) h0.1 rfl rfl rfl rfl rfl (Nat.le_of_ble_eq_true rfl) (dkAt dkX8_statement 116 (q := (203, .invokevirtual 199, 3)) rfl) ⟨Nat.zero_le _, Nat.zero_le _⟩ (pc2 := 206) rfl rfl ?_
            refine k_if_eq C (tgt := 222) (pc2 := 209) (dkAt dkX8_statement 117 (q := (206, .ifCond .eq 16, 3)) rfl) (by decide) rfl h (fun h => ?_) (fun h => ?_)
            · refine k_aload_n C (pc2 := 223) (dkAt dkX8_statement 127 (q := (222, .aload_n 0, 1)) rfl) rfl rfl 0 rfl ?_
              refine k_ldcs C (pc2 := 225) (dkAt dkX8_statement 128 (q := (223, .ldc 220, 2)) rfl) rfl (i := 5) (List.mem_of_getElem? (i := 13) rfl) ?_
              obtain ⟨q13, e14, h⟩ := ob_inv h
              refine kc_V C (As := [.ref (gK G 5)]) (st2 := [.int q13.2]) (ct_X8_isWord l G sh xs o0 h0 5 (by decide) q11.1 q13 e14) (cl_X8_199 (hts_of C) ⟨Nat.le_of_ble_eq_true rfl, Nat.le_of_ble_eq_true rfl⟩ rfl rfl) h0.1 rfl rfl rfl rfl rfl (Nat.le_of_ble_eq_true rfl) (dkAt dkX8_statement 129 (q := (225, .invokevirtual 199, 3)) rfl) ⟨Nat.zero_le _, Nat.zero_le _⟩ (pc2 := 228) rfl rfl ?_
              refine k_if_eq C (tgt := 240) (pc2 := 231) (dkAt dkX8_statement 130 (q := (228, .ifCond .eq 12, 3)) rfl) (by decide) rfl h (fun h => ?_) (fun h => ?_)
              · refine k_aload_n C (pc2 := 241) (dkAt dkX8_statement 137 (q := (240, .aload_n 0, 1)) rfl) rfl rfl 0 rfl ?_
                refine k_ldcs C (pc2 := 243) (dkAt dkX8_statement 138 (q := (241, .ldc 222, 2)) rfl) rfl (i := 6) (List.mem_of_getElem? (i := 14) rfl) ?_
                obtain ⟨q15, e16, h⟩ := ob_inv h
                refine kc_V C (As := [.ref (gK G 6)]) (st2 := [.int q15.2]) (ct_X8_isWord l G sh xs o0 h0 6 (by decide) q13.1 q15 e16) (cl_X8_199 (hts_of C) ⟨Nat.le_of_ble_eq_true rfl, Nat.le_of_ble_eq_true rfl⟩ rfl rfl) h0.1 rfl rfl rfl rfl rfl (Nat.le_of_ble_eq_true rfl) (dkAt dkX8_statement 139 (q := (243, .invokevirtual 199, 3)) rfl) ⟨Nat.zero_le _, Nat.zero_le _⟩ (pc2 := 246) rfl rfl ?_
                refine k_if_eq C (tgt := 260) (pc2 := 249) (dkAt dkX8_statement 140 (q := (246, .ifCond .eq 14, 3)) rfl) (by decide) rfl h (fun h => ?_) (fun h => ?_)
                · refine k_aload_n C (pc2 := 261) (dkAt dkX8_statement 147 (q := (260, .aload_n 0, 1)) rfl) rfl rfl 0 rfl ?_
                  obtain ⟨q17, e18, h⟩ := ob_inv h
                  refine kc_V C (As := []) (st2 := [.int q17.2]) (ct_X8_wrong l G sh xs o0 h0 q15.1 q17 e18) (cl_X8_184 (hts_of C) ⟨Nat.le_of_ble_eq_true rfl, Nat.le_of_ble_eq_true rfl⟩ rfl rfl) h0.1 rfl rfl rfl rfl rfl (Nat.le_of_ble_eq_true rfl) (dkAt dkX8_statement 148 (q := (261, .invokevirtual 184, 3)) rfl) ⟨Nat.zero_le _, Nat.zero_le _⟩ (pc2 := 264) rfl rfl ?_
                  obtain ⟨hb, h⟩ := chb_inv h
                  exact k_zret C (dkAt dkX8_statement 149 (q := (264, .ireturn, 1)) rfl) hb (pe2 (Option.some.inj h)) rfl (pe1 (Option.some.inj h)) rfl
                · refine k_aload_n C (pc2 := 250) (dkAt dkX8_statement 141 (q := (249, .aload_n 0, 1)) rfl) rfl rfl 0 rfl ?_
                  refine k_iconst C (pc2 := 251) (dkAt dkX8_statement 142 (q := (250, .iconst 2, 1)) rfl) rfl (v := 2) rfl ?_
                  refine k_iconst C (pc2 := 252) (dkAt dkX8_statement 143 (q := (251, .iconst 0, 1)) rfl) rfl (v := 0) rfl ?_
                  refine k_bipush C (pc2 := 254) (dkAt dkX8_statement 144 (q := (252, .bipush 12, 2)) rfl) rfl (v := 12) rfl ?_
                  obtain ⟨q19, e20, h⟩ := ob_inv h
                  refine kc_V C (As := [.int 2, .int 0, .int 12]) (st2 := [.int q19.2]) (ct_X8_asks l G sh xs o0 h0 2 0 12 q15.1 q19 e20) (cl_X8_217 (hts_of C) ⟨Nat.le_of_ble_eq_true rfl, Nat.le_of_ble_eq_true rfl⟩ rfl rfl) h0.1 rfl rfl rfl rfl rfl (Nat.le_of_ble_eq_true rfl) (dkAt dkX8_statement 145 (q := (254, .invokevirtual 217, 3)) rfl) ⟨Nat.zero_le _, Nat.zero_le _⟩ (pc2 := 257) rfl rfl ?_
                  refine k_goto C (tgt := 264) (dkAt dkX8_statement 146 (q := (257, .goto 7, 3)) rfl) (by decide) ?_
                  obtain ⟨hb, h⟩ := chb_inv h
                  exact k_zret C (dkAt dkX8_statement 149 (q := (264, .ireturn, 1)) rfl) hb (pe2 (Option.some.inj h)) rfl (pe1 (Option.some.inj h)) rfl
              · refine k_aload_n C (pc2 := 232) (dkAt dkX8_statement 131 (q := (231, .aload_n 0, 1)) rfl) rfl rfl 0 rfl ?_
                refine k_iconst C (pc2 := 233) (dkAt dkX8_statement 132 (q := (232, .iconst 1, 1)) rfl) rfl (v := 1) rfl ?_
                refine k_iconst C (pc2 := 234) (dkAt dkX8_statement 133 (q := (233, .iconst 1, 1)) rfl) rfl (v := 1) rfl ?_
                refine k_bipush C (pc2 := 236) (dkAt dkX8_statement 134 (q := (234, .bipush 8, 2)) rfl) rfl (v := 8) rfl ?_
                obtain ⟨q21, e22, h⟩ := ob_inv h
                refine kc_V C (As := [.int 1, .int 1, .int 8]) (st2 := [.int q21.2]) (ct_X8_asks l G sh xs o0 h0 1 1 8 q13.1 q21 e22) (cl_X8_217 (hts_of C) ⟨Nat.le_of_ble_eq_true rfl, Nat.le_of_ble_eq_true rfl⟩ rfl rfl) h0.1 rfl rfl rfl rfl rfl (Nat.le_of_ble_eq_true rfl) (dkAt dkX8_statement 135 (q := (236, .invokevirtual 217, 3)) rfl) ⟨Nat.zero_le _, Nat.zero_le _⟩ (pc2 := 239) rfl rfl ?_
                obtain ⟨hb, h⟩ := chb_inv h
                exact k_zret C (dkAt dkX8_statement 136 (q := (239, .ireturn, 1)) rfl) hb (pe2 (Option.some.inj h)) rfl (pe1 (Option.some.inj h)) rfl
            · refine k_aload_n C (pc2 := 210) (dkAt dkX8_statement 118 (q := (209, .aload_n 0, 1)) rfl) rfl rfl 0 rfl ?_
              refine k_iconst C (pc2 := 211) (dkAt dkX8_statement 119 (q := (210, .iconst 0, 1)) rfl) rfl (v := 0) rfl ?_
              refine k_iconst C (pc2 := 212) (dkAt dkX8_statement 120 (q := (211, .iconst 0, 1)) rfl) rfl (v := 0) rfl ?_
              refine k_aload_n C (pc2 := 213) (dkAt dkX8_statement 121 (q := (212, .aload_n 0, 1)) rfl) rfl rfl 0 rfl ?_
              refine kf_X8_82 C (pc2 := 216) (o := o0) (o2 := 0) h0.1 (dkAt dkX8_statement 122 (q := (213, .getfield 82, 3)) rfl) rfl ?_
              refine k_iconst C (pc2 := 217) (dkAt dkX8_statement 123 (q := (216, .iconst 1, 1)) rfl) rfl (v := 1) rfl ?_
              refine k_isub C (pc2 := 218) (dkAt dkX8_statement 124 (q := (217, .isub, 1)) rfl) rfl ?_
              obtain ⟨q23, e24, h⟩ := ob_inv h
              refine kc_V C (As := [.int 0, .int 0, .int ((q11.1.1 o0 10) - 1)]) (st2 := [.int q23.2]) (ct_X8_asks l G sh xs o0 h0 0 0 ((q11.1.1 o0 10) - 1) q11.1 q23 e24) (cl_X8_217 (hts_of C) ⟨Nat.le_of_ble_eq_true rfl, Nat.le_of_ble_eq_true rfl⟩ rfl rfl) h0.1 rfl rfl rfl rfl rfl (Nat.le_of_ble_eq_true rfl) (dkAt dkX8_statement 125 (q := (218, .invokevirtual 217, 3)) rfl) ⟨Nat.zero_le _, Nat.zero_le _⟩ (pc2 := 221) rfl rfl ?_
              obtain ⟨hb, h⟩ := chb_inv h
              exact k_zret C (dkAt dkX8_statement 126 (q := (221, .ireturn, 1)) rfl) hb (pe2 (Option.some.inj h)) rfl (pe1 (Option.some.inj h)) rfl
          · refine k_aload_n C (pc2 := 155) (dkAt dkX8_statement 85 (q := (154, .aload_n 0, 1)) rfl) rfl rfl 0 rfl ?_
            refine k_iconst C (pc2 := 156) (dkAt dkX8_statement 86 (q := (155, .iconst 0, 1)) rfl) rfl (v := 0) rfl ?_
            refine k_aload_n C (pc2 := 157) (dkAt dkX8_statement 87 (q := (156, .aload_n 0, 1)) rfl) rfl rfl 0 rfl ?_
            refine kf_X8_82 C (pc2 := 160) (o := o0) (o2 := 0) h0.1 (dkAt dkX8_statement 88 (q := (157, .getfield 82, 3)) rfl) rfl ?_
            refine k_iconst C (pc2 := 161) (dkAt dkX8_statement 89 (q := (160, .iconst 1, 1)) rfl) rfl (v := 1) rfl ?_
            refine k_isub C (pc2 := 162) (dkAt dkX8_statement 90 (q := (161, .isub, 1)) rfl) rfl ?_
            obtain ⟨q25, e26, h⟩ := ob_inv h
            refine kc_V C (As := [.int 0, .int ((q9.1.1 o0 10) - 1)]) (st2 := [.int q25.2]) (ct_X8_tells l G sh xs o0 h0 0 ((q9.1.1 o0 10) - 1) q9.1 q25 e26) (cl_X8_195 (hts_of C) ⟨Nat.le_of_ble_eq_true rfl, Nat.le_of_ble_eq_true rfl⟩ rfl rfl) h0.1 rfl rfl rfl rfl rfl (Nat.le_of_ble_eq_true rfl) (dkAt dkX8_statement 91 (q := (162, .invokevirtual 195, 3)) rfl) ⟨Nat.zero_le _, Nat.zero_le _⟩ (pc2 := 165) rfl rfl ?_
            refine k_if_eq C (tgt := 179) (pc2 := 168) (dkAt dkX8_statement 92 (q := (165, .ifCond .eq 14, 3)) rfl) (by decide) rfl h (fun h => ?_) (fun h => ?_)
            · refine k_iconst C (pc2 := 180) (dkAt dkX8_statement 99 (q := (179, .iconst 0, 1)) rfl) rfl (v := 0) rfl ?_
              exact k_zret C (dkAt dkX8_statement 100 (q := (180, .ireturn, 1)) rfl) rfl (pe2 (Option.some.inj h)) rfl (pe1 (Option.some.inj h)) rfl
            · refine k_aload_n C (pc2 := 169) (dkAt dkX8_statement 93 (q := (168, .aload_n 0, 1)) rfl) rfl rfl 0 rfl ?_
              refine k_iconst C (pc2 := 170) (dkAt dkX8_statement 94 (q := (169, .iconst 1, 1)) rfl) rfl (v := 1) rfl ?_
              refine k_iconst C (pc2 := 171) (dkAt dkX8_statement 95 (q := (170, .iconst 0, 1)) rfl) rfl (v := 0) rfl ?_
              refine k_bipush C (pc2 := 173) (dkAt dkX8_statement 96 (q := (171, .bipush 99, 2)) rfl) rfl (v := 99) rfl ?_
              obtain ⟨q27, e28, h⟩ := ob_inv h
              refine kc_V C (As := [.int 1, .int 0, .int 99]) (st2 := [.int q27.2]) (ct_X8_number l G sh xs o0 h0 1 0 99 q25.1 q27 e28) (cl_X8_191 (hts_of C) ⟨Nat.le_of_ble_eq_true rfl, Nat.le_of_ble_eq_true rfl⟩ rfl rfl) h0.1 rfl rfl rfl rfl rfl (Nat.le_of_ble_eq_true rfl) (dkAt dkX8_statement 97 (q := (173, .invokevirtual 191, 3)) rfl) ⟨Nat.zero_le _, Nat.zero_le _⟩ (pc2 := 176) rfl rfl ?_
              refine k_if_ne C (tgt := 181) (pc2 := 179) (dkAt dkX8_statement 98 (q := (176, .ifCond .ne 5, 3)) rfl) (by decide) rfl h (fun h => ?_) (fun h => ?_)
              · refine k_aload_n C (pc2 := 182) (dkAt dkX8_statement 101 (q := (181, .aload_n 0, 1)) rfl) rfl rfl 0 rfl ?_
                refine kf_X8_53 C (pc2 := 185) (o := o0) (o2 := o0 + 21) h0.1 rfl (dkAt dkX8_statement 102 (q := (182, .getfield 53, 3)) rfl) rfl ?_
                refine k_aload_n C (pc2 := 186) (dkAt dkX8_statement 103 (q := (185, .aload_n 0, 1)) rfl) rfl rfl 0 rfl ?_
                refine kf_X8_62 C (pc2 := 189) (o := o0) (o2 := o0 + 23) h0.1 rfl (dkAt dkX8_statement 104 (q := (186, .getfield 62, 3)) rfl) rfl ?_
                refine k_iconst C (pc2 := 190) (dkAt dkX8_statement 105 (q := (189, .iconst 0, 1)) rfl) rfl (v := 0) rfl ?_
                refine k_ialdc C (pc2 := 191) (o := o0 + 23) (nA := 3) (j := 0) (isM_told h0) (dkAt dkX8_statement 106 (q := (190, .iaload, 1)) rfl) rfl (by unfold vp_in; decide) (by decide) ?_
                refine k_aload_n C (pc2 := 192) (dkAt dkX8_statement 107 (q := (191, .aload_n 0, 1)) rfl) rfl rfl 0 rfl ?_
                refine kf_X8_62 C (pc2 := 195) (o := o0) (o2 := o0 + 23) h0.1 rfl (dkAt dkX8_statement 108 (q := (192, .getfield 62, 3)) rfl) rfl ?_
                refine k_iconst C (pc2 := 196) (dkAt dkX8_statement 109 (q := (195, .iconst 1, 1)) rfl) rfl (v := 1) rfl ?_
                refine k_ialdc C (pc2 := 197) (o := o0 + 23) (nA := 3) (j := 1) (isM_told h0) (dkAt dkX8_statement 110 (q := (196, .iaload, 1)) rfl) rfl (by unfold vp_in; decide) (by decide) ?_
                refine k_iast C (pc2 := 198) (o := o0 + 21) (nA := 8) (isM_left h0) (dkAt dkX8_statement 111 (q := (197, .iastore, 1)) rfl) rfl h (fun M29 h => ?_)
                refine k_iconst C (pc2 := 199) (dkAt dkX8_statement 112 (q := (198, .iconst 1, 1)) rfl) rfl (v := 1) rfl ?_
                exact k_zret C (dkAt dkX8_statement 113 (q := (199, .ireturn, 1)) rfl) rfl (pe2 (Option.some.inj h)) rfl (pe1 (Option.some.inj h)) rfl
              · refine k_iconst C (pc2 := 180) (dkAt dkX8_statement 99 (q := (179, .iconst 0, 1)) rfl) rfl (v := 0) rfl ?_
                exact k_zret C (dkAt dkX8_statement 100 (q := (180, .ireturn, 1)) rfl) rfl (pe2 (Option.some.inj h)) rfl (pe1 (Option.some.inj h)) rfl
        · refine k_aload_n C (pc2 := 140) (dkAt dkX8_statement 77 (q := (139, .aload_n 0, 1)) rfl) rfl rfl 0 rfl ?_
          refine k_iconst C (pc2 := 141) (dkAt dkX8_statement 78 (q := (140, .iconst 0, 1)) rfl) rfl (v := 0) rfl ?_
          obtain ⟨q30, e31, h⟩ := ob_inv h
          refine kc_V C (As := [.int 0]) (st2 := [.int q30.2]) (ct_X8_freeTold l G sh xs o0 h0 0 q7.1 q30 e31) (cl_X8_207 (hts_of C) ⟨Nat.le_of_ble_eq_true rfl, Nat.le_of_ble_eq_true rfl⟩ rfl rfl) h0.1 rfl rfl rfl rfl rfl (Nat.le_of_ble_eq_true rfl) (dkAt dkX8_statement 79 (q := (141, .invokevirtual 207, 3)) rfl) ⟨Nat.zero_le _, Nat.zero_le _⟩ (pc2 := 144) rfl rfl ?_
          obtain ⟨hb, h⟩ := chb_inv h
          exact k_zret C (dkAt dkX8_statement 80 (q := (144, .ireturn, 1)) rfl) hb (pe2 (Option.some.inj h)) rfl (pe1 (Option.some.inj h)) rfl
      · refine k_aload_n C (pc2 := 125) (dkAt dkX8_statement 69 (q := (124, .aload_n 0, 1)) rfl) rfl rfl 0 rfl ?_
        refine k_iconst C (pc2 := 126) (dkAt dkX8_statement 70 (q := (125, .iconst 1, 1)) rfl) rfl (v := 1) rfl ?_
        obtain ⟨q32, e33, h⟩ := ob_inv h
        refine kc_V C (As := [.int 1]) (st2 := [.int q32.2]) (ct_X8_freeTold l G sh xs o0 h0 1 q5.1 q32 e33) (cl_X8_207 (hts_of C) ⟨Nat.le_of_ble_eq_true rfl, Nat.le_of_ble_eq_true rfl⟩ rfl rfl) h0.1 rfl rfl rfl rfl rfl (Nat.le_of_ble_eq_true rfl) (dkAt dkX8_statement 71 (q := (126, .invokevirtual 207, 3)) rfl) ⟨Nat.zero_le _, Nat.zero_le _⟩ (pc2 := 129) rfl rfl ?_
        obtain ⟨hb, h⟩ := chb_inv h
        exact k_zret C (dkAt dkX8_statement 72 (q := (129, .ireturn, 1)) rfl) hb (pe2 (Option.some.inj h)) rfl (pe1 (Option.some.inj h)) rfl
    · refine k_aload_n C (pc2 := 50) (dkAt dkX8_statement 26 (q := (49, .aload_n 0, 1)) rfl) rfl rfl 0 rfl ?_
      refine kf_X8_82 C (pc2 := 53) (o := o0) (o2 := 0) h0.1 (dkAt dkX8_statement 27 (q := (50, .getfield 82, 3)) rfl) rfl ?_
      refine k_bipush C (pc2 := 55) (dkAt dkX8_statement 28 (q := (53, .bipush 8, 2)) rfl) rfl (v := 8) rfl ?_
      refine k_icmp_ge C (tgt := 115) (pc2 := 58) (dkAt dkX8_statement 29 (q := (55, .if_icmp .ge 60, 3)) rfl) (by decide) rfl h (fun h => ?_) (fun h => ?_)
      · refine k_aload_n C (pc2 := 116) (dkAt dkX8_statement 65 (q := (115, .aload_n 0, 1)) rfl) rfl rfl 0 rfl ?_
        refine k_ldcs C (pc2 := 118) (dkAt dkX8_statement 66 (q := (116, .ldc 205, 2)) rfl) rfl (i := 2) (List.mem_of_getElem? (i := 10) rfl) ?_
        obtain ⟨q34, e35, h⟩ := ob_inv h
        refine kc_V C (As := [.ref (gK G 2)]) (st2 := [.int q34.2]) (ct_X8_isWord l G sh xs o0 h0 2 (by decide) q3.1 q34 e35) (cl_X8_199 (hts_of C) ⟨Nat.le_of_ble_eq_true rfl, Nat.le_of_ble_eq_true rfl⟩ rfl rfl) h0.1 rfl rfl rfl rfl rfl (Nat.le_of_ble_eq_true rfl) (dkAt dkX8_statement 67 (q := (118, .invokevirtual 199, 3)) rfl) ⟨Nat.zero_le _, Nat.zero_le _⟩ (pc2 := 121) rfl rfl ?_
        refine k_if_eq C (tgt := 130) (pc2 := 124) (dkAt dkX8_statement 68 (q := (121, .ifCond .eq 9, 3)) rfl) (by decide) rfl h (fun h => ?_) (fun h => ?_)
        · refine k_aload_n C (pc2 := 131) (dkAt dkX8_statement 73 (q := (130, .aload_n 0, 1)) rfl) rfl rfl 0 rfl ?_
          refine k_ldcs C (pc2 := 133) (dkAt dkX8_statement 74 (q := (131, .ldc 211, 2)) rfl) rfl (i := 3) (List.mem_of_getElem? (i := 11) rfl) ?_
          obtain ⟨q36, e37, h⟩ := ob_inv h
          refine kc_V C (As := [.ref (gK G 3)]) (st2 := [.int q36.2]) (ct_X8_isWord l G sh xs o0 h0 3 (by decide) q34.1 q36 e37) (cl_X8_199 (hts_of C) ⟨Nat.le_of_ble_eq_true rfl, Nat.le_of_ble_eq_true rfl⟩ rfl rfl) h0.1 rfl rfl rfl rfl rfl (Nat.le_of_ble_eq_true rfl) (dkAt dkX8_statement 75 (q := (133, .invokevirtual 199, 3)) rfl) ⟨Nat.zero_le _, Nat.zero_le _⟩ (pc2 := 136) rfl rfl ?_
          refine k_if_eq C (tgt := 145) (pc2 := 139) (dkAt dkX8_statement 76 (q := (136, .ifCond .eq 9, 3)) rfl) (by decide) rfl h (fun h => ?_) (fun h => ?_)
          · refine k_aload_n C (pc2 := 146) (dkAt dkX8_statement 81 (q := (145, .aload_n 0, 1)) rfl) rfl rfl 0 rfl ?_
            refine k_ldcs C (pc2 := 148) (dkAt dkX8_statement 82 (q := (146, .ldc 213, 2)) rfl) rfl (i := 7) (List.mem_of_getElem? (i := 15) rfl) ?_
            obtain ⟨q38, e39, h⟩ := ob_inv h
            refine kc_V C (As := [.ref (gK G 7)]) (st2 := [.int q38.2]) (ct_X8_isWord l G sh xs o0 h0 7 (by decide) q36.1 q38 e39) (cl_X8_199 (hts_of C) ⟨Nat.le_of_ble_eq_true rfl, Nat.le_of_ble_eq_true rfl⟩ rfl rfl) h0.1 rfl rfl rfl rfl rfl (Nat.le_of_ble_eq_true rfl) (dkAt dkX8_statement 83 (q := (148, .invokevirtual 199, 3)) rfl) ⟨Nat.zero_le _, Nat.zero_le _⟩ (pc2 := 151) rfl rfl ?_
            refine k_if_eq C (tgt := 200) (pc2 := 154) (dkAt dkX8_statement 84 (q := (151, .ifCond .eq 49, 3)) rfl) (by decide) rfl h (fun h => ?_) (fun h => ?_)
            · refine k_aload_n C (pc2 := 201) (dkAt dkX8_statement 114 (q := (200, .aload_n 0, 1)) rfl) rfl rfl 0 rfl ?_
              refine k_ldcs C (pc2 := 203) (dkAt dkX8_statement 115 (q := (201, .ldc 215, 2)) rfl) rfl (i := 4) (List.mem_of_getElem? (i := 12) rfl) ?_
              obtain ⟨q40, e41, h⟩ := ob_inv h
              refine kc_V C (As := [.ref (gK G 4)]) (st2 := [.int q40.2]) (ct_X8_isWord l G sh xs o0 h0 4 (by decide) q38.1 q40 e41) (cl_X8_199 (hts_of C) ⟨Nat.le_of_ble_eq_true rfl, Nat.le_of_ble_eq_true rfl⟩ rfl rfl) h0.1 rfl rfl rfl rfl rfl (Nat.le_of_ble_eq_true rfl) (dkAt dkX8_statement 116 (q := (203, .invokevirtual 199, 3)) rfl) ⟨Nat.zero_le _, Nat.zero_le _⟩ (pc2 := 206) rfl rfl ?_
              refine k_if_eq C (tgt := 222) (pc2 := 209) (dkAt dkX8_statement 117 (q := (206, .ifCond .eq 16, 3)) rfl) (by decide) rfl h (fun h => ?_) (fun h => ?_)
              · refine k_aload_n C (pc2 := 223) (dkAt dkX8_statement 127 (q := (222, .aload_n 0, 1)) rfl) rfl rfl 0 rfl ?_
                refine k_ldcs C (pc2 := 225) (dkAt dkX8_statement 128 (q := (223, .ldc 220, 2)) rfl) rfl (i := 5) (List.mem_of_getElem? (i := 13) rfl) ?_
                obtain ⟨q42, e43, h⟩ := ob_inv h
                refine kc_V C (As := [.ref (gK G 5)]) (st2 := [.int q42.2]) (ct_X8_isWord l G sh xs o0 h0 5 (by decide) q40.1 q42 e43) (cl_X8_199 (hts_of C) ⟨Nat.le_of_ble_eq_true rfl, Nat.le_of_ble_eq_true rfl⟩ rfl rfl) h0.1 rfl rfl rfl rfl rfl (Nat.le_of_ble_eq_true rfl) (dkAt dkX8_statement 129 (q := (225, .invokevirtual 199, 3)) rfl) ⟨Nat.zero_le _, Nat.zero_le _⟩ (pc2 := 228) rfl rfl ?_
                refine k_if_eq C (tgt := 240) (pc2 := 231) (dkAt dkX8_statement 130 (q := (228, .ifCond .eq 12, 3)) rfl) (by decide) rfl h (fun h => ?_) (fun h => ?_)
                · refine k_aload_n C (pc2 := 241) (dkAt dkX8_statement 137 (q := (240, .aload_n 0, 1)) rfl) rfl rfl 0 rfl ?_
                  refine k_ldcs C (pc2 := 243) (dkAt dkX8_statement 138 (q := (241, .ldc 222, 2)) rfl) rfl (i := 6) (List.mem_of_getElem? (i := 14) rfl) ?_
                  obtain ⟨q44, e45, h⟩ := ob_inv h
                  refine kc_V C (As := [.ref (gK G 6)]) (st2 := [.int q44.2]) (ct_X8_isWord l G sh xs o0 h0 6 (by decide) q42.1 q44 e45) (cl_X8_199 (hts_of C) ⟨Nat.le_of_ble_eq_true rfl, Nat.le_of_ble_eq_true rfl⟩ rfl rfl) h0.1 rfl rfl rfl rfl rfl (Nat.le_of_ble_eq_true rfl) (dkAt dkX8_statement 139 (q := (243, .invokevirtual 199, 3)) rfl) ⟨Nat.zero_le _, Nat.zero_le _⟩ (pc2 := 246) rfl rfl ?_
                  refine k_if_eq C (tgt := 260) (pc2 := 249) (dkAt dkX8_statement 140 (q := (246, .ifCond .eq 14, 3)) rfl) (by decide) rfl h (fun h => ?_) (fun h => ?_)
                  · refine k_aload_n C (pc2 := 261) (dkAt dkX8_statement 147 (q := (260, .aload_n 0, 1)) rfl) rfl rfl 0 rfl ?_
                    obtain ⟨q46, e47, h⟩ := ob_inv h
                    refine kc_V C (As := []) (st2 := [.int q46.2]) (ct_X8_wrong l G sh xs o0 h0 q44.1 q46 e47) (cl_X8_184 (hts_of C) ⟨Nat.le_of_ble_eq_true rfl, Nat.le_of_ble_eq_true rfl⟩ rfl rfl) h0.1 rfl rfl rfl rfl rfl (Nat.le_of_ble_eq_true rfl) (dkAt dkX8_statement 148 (q := (261, .invokevirtual 184, 3)) rfl) ⟨Nat.zero_le _, Nat.zero_le _⟩ (pc2 := 264) rfl rfl ?_
                    obtain ⟨hb, h⟩ := chb_inv h
                    exact k_zret C (dkAt dkX8_statement 149 (q := (264, .ireturn, 1)) rfl) hb (pe2 (Option.some.inj h)) rfl (pe1 (Option.some.inj h)) rfl
                  · refine k_aload_n C (pc2 := 250) (dkAt dkX8_statement 141 (q := (249, .aload_n 0, 1)) rfl) rfl rfl 0 rfl ?_
                    refine k_iconst C (pc2 := 251) (dkAt dkX8_statement 142 (q := (250, .iconst 2, 1)) rfl) rfl (v := 2) rfl ?_
                    refine k_iconst C (pc2 := 252) (dkAt dkX8_statement 143 (q := (251, .iconst 0, 1)) rfl) rfl (v := 0) rfl ?_
                    refine k_bipush C (pc2 := 254) (dkAt dkX8_statement 144 (q := (252, .bipush 12, 2)) rfl) rfl (v := 12) rfl ?_
                    obtain ⟨q48, e49, h⟩ := ob_inv h
                    refine kc_V C (As := [.int 2, .int 0, .int 12]) (st2 := [.int q48.2]) (ct_X8_asks l G sh xs o0 h0 2 0 12 q44.1 q48 e49) (cl_X8_217 (hts_of C) ⟨Nat.le_of_ble_eq_true rfl, Nat.le_of_ble_eq_true rfl⟩ rfl rfl) h0.1 rfl rfl rfl rfl rfl (Nat.le_of_ble_eq_true rfl) (dkAt dkX8_statement 145 (q := (254, .invokevirtual 217, 3)) rfl) ⟨Nat.zero_le _, Nat.zero_le _⟩ (pc2 := 257) rfl rfl ?_
                    refine k_goto C (tgt := 264) (dkAt dkX8_statement 146 (q := (257, .goto 7, 3)) rfl) (by decide) ?_
                    obtain ⟨hb, h⟩ := chb_inv h
                    exact k_zret C (dkAt dkX8_statement 149 (q := (264, .ireturn, 1)) rfl) hb (pe2 (Option.some.inj h)) rfl (pe1 (Option.some.inj h)) rfl
                · refine k_aload_n C (pc2 := 232) (dkAt dkX8_statement 131 (q := (231, .aload_n 0, 1)) rfl) rfl rfl 0 rfl ?_
                  refine k_iconst C (pc2 := 233) (dkAt dkX8_statement 132 (q := (232, .iconst 1, 1)) rfl) rfl (v := 1) rfl ?_
                  refine k_iconst C (pc2 := 234) (dkAt dkX8_statement 133 (q := (233, .iconst 1, 1)) rfl) rfl (v := 1) rfl ?_
                  refine k_bipush C (pc2 := 236) (dkAt dkX8_statement 134 (q := (234, .bipush 8, 2)) rfl) rfl (v := 8) rfl ?_
                  obtain ⟨q50, e51, h⟩ := ob_inv h
                  refine kc_V C (As := [.int 1, .int 1, .int 8]) (st2 := [.int q50.2]) (ct_X8_asks l G sh xs o0 h0 1 1 8 q42.1 q50 e51) (cl_X8_217 (hts_of C) ⟨Nat.le_of_ble_eq_true rfl, Nat.le_of_ble_eq_true rfl⟩ rfl rfl) h0.1 rfl rfl rfl rfl rfl (Nat.le_of_ble_eq_true rfl) (dkAt dkX8_statement 135 (q := (236, .invokevirtual 217, 3)) rfl) ⟨Nat.zero_le _, Nat.zero_le _⟩ (pc2 := 239) rfl rfl ?_
                  obtain ⟨hb, h⟩ := chb_inv h
                  exact k_zret C (dkAt dkX8_statement 136 (q := (239, .ireturn, 1)) rfl) hb (pe2 (Option.some.inj h)) rfl (pe1 (Option.some.inj h)) rfl
              · refine k_aload_n C (pc2 := 210) (dkAt dkX8_statement 118 (q := (209, .aload_n 0, 1)) rfl) rfl rfl 0 rfl ?_
                refine k_iconst C (pc2 := 211) (dkAt dkX8_statement 119 (q := (210, .iconst 0, 1)) rfl) rfl (v := 0) rfl ?_
                refine k_iconst C (pc2 := 212) (dkAt dkX8_statement 120 (q := (211, .iconst 0, 1)) rfl) rfl (v := 0) rfl ?_
                refine k_aload_n C (pc2 := 213) (dkAt dkX8_statement 121 (q := (212, .aload_n 0, 1)) rfl) rfl rfl 0 rfl ?_
                refine kf_X8_82 C (pc2 := 216) (o := o0) (o2 := 0) h0.1 (dkAt dkX8_statement 122 (q := (213, .getfield 82, 3)) rfl) rfl ?_
                refine k_iconst C (pc2 := 217) (dkAt dkX8_statement 123 (q := (216, .iconst 1, 1)) rfl) rfl (v := 1) rfl ?_
                refine k_isub C (pc2 := 218) (dkAt dkX8_statement 124 (q := (217, .isub, 1)) rfl) rfl ?_
                obtain ⟨q52, e53, h⟩ := ob_inv h
                refine kc_V C (As := [.int 0, .int 0, .int ((q40.1.1 o0 10) - 1)]) (st2 := [.int q52.2]) (ct_X8_asks l G sh xs o0 h0 0 0 ((q40.1.1 o0 10) - 1) q40.1 q52 e53) (cl_X8_217 (hts_of C) ⟨Nat.le_of_ble_eq_true rfl, Nat.le_of_ble_eq_true rfl⟩ rfl rfl) h0.1 rfl rfl rfl rfl rfl (Nat.le_of_ble_eq_true rfl) (dkAt dkX8_statement 125 (q := (218, .invokevirtual 217, 3)) rfl) ⟨Nat.zero_le _, Nat.zero_le _⟩ (pc2 := 221) rfl rfl ?_
                obtain ⟨hb, h⟩ := chb_inv h
                exact k_zret C (dkAt dkX8_statement 126 (q := (221, .ireturn, 1)) rfl) hb (pe2 (Option.some.inj h)) rfl (pe1 (Option.some.inj h)) rfl
            · refine k_aload_n C (pc2 := 155) (dkAt dkX8_statement 85 (q := (154, .aload_n 0, 1)) rfl) rfl rfl 0 rfl ?_
              refine k_iconst C (pc2 := 156) (dkAt dkX8_statement 86 (q := (155, .iconst 0, 1)) rfl) rfl (v := 0) rfl ?_
              refine k_aload_n C (pc2 := 157) (dkAt dkX8_statement 87 (q := (156, .aload_n 0, 1)) rfl) rfl rfl 0 rfl ?_
              refine kf_X8_82 C (pc2 := 160) (o := o0) (o2 := 0) h0.1 (dkAt dkX8_statement 88 (q := (157, .getfield 82, 3)) rfl) rfl ?_
              refine k_iconst C (pc2 := 161) (dkAt dkX8_statement 89 (q := (160, .iconst 1, 1)) rfl) rfl (v := 1) rfl ?_
              refine k_isub C (pc2 := 162) (dkAt dkX8_statement 90 (q := (161, .isub, 1)) rfl) rfl ?_
              obtain ⟨q54, e55, h⟩ := ob_inv h
              refine kc_V C (As := [.int 0, .int ((q38.1.1 o0 10) - 1)]) (st2 := [.int q54.2]) (ct_X8_tells l G sh xs o0 h0 0 ((q38.1.1 o0 10) - 1) q38.1 q54 e55) (cl_X8_195 (hts_of C) ⟨Nat.le_of_ble_eq_true rfl, Nat.le_of_ble_eq_true rfl⟩ rfl rfl) h0.1 rfl rfl rfl rfl rfl (Nat.le_of_ble_eq_true rfl) (dkAt dkX8_statement 91 (q := (162, .invokevirtual 195, 3)) rfl) ⟨Nat.zero_le _, Nat.zero_le _⟩ (pc2 := 165) rfl rfl ?_
              refine k_if_eq C (tgt := 179) (pc2 := 168) (dkAt dkX8_statement 92 (q := (165, .ifCond .eq 14, 3)) rfl) (by decide) rfl h (fun h => ?_) (fun h => ?_)
              · refine k_iconst C (pc2 := 180) (dkAt dkX8_statement 99 (q := (179, .iconst 0, 1)) rfl) rfl (v := 0) rfl ?_
                exact k_zret C (dkAt dkX8_statement 100 (q := (180, .ireturn, 1)) rfl) rfl (pe2 (Option.some.inj h)) rfl (pe1 (Option.some.inj h)) rfl
              · refine k_aload_n C (pc2 := 169) (dkAt dkX8_statement 93 (q := (168, .aload_n 0, 1)) rfl) rfl rfl 0 rfl ?_
                refine k_iconst C (pc2 := 170) (dkAt dkX8_statement 94 (q := (169, .iconst 1, 1)) rfl) rfl (v := 1) rfl ?_
                refine k_iconst C (pc2 := 171) (dkAt dkX8_statement 95 (q := (170, .iconst 0, 1)) rfl) rfl (v := 0) rfl ?_
                refine k_bipush C (pc2 := 173) (dkAt dkX8_statement 96 (q := (171, .bipush 99, 2)) rfl) rfl (v := 99) rfl ?_
                obtain ⟨q56, e57, h⟩ := ob_inv h
                refine kc_V C (As := [.int 1, .int 0, .int 99]) (st2 := [.int q56.2]) (ct_X8_number l G sh xs o0 h0 1 0 99 q54.1 q56 e57) (cl_X8_191 (hts_of C) ⟨Nat.le_of_ble_eq_true rfl, Nat.le_of_ble_eq_true rfl⟩ rfl rfl) h0.1 rfl rfl rfl rfl rfl (Nat.le_of_ble_eq_true rfl) (dkAt dkX8_statement 97 (q := (173, .invokevirtual 191, 3)) rfl) ⟨Nat.zero_le _, Nat.zero_le _⟩ (pc2 := 176) rfl rfl ?_
                refine k_if_ne C (tgt := 181) (pc2 := 179) (dkAt dkX8_statement 98 (q := (176, .ifCond .ne 5, 3)) rfl) (by decide) rfl h (fun h => ?_) (fun h => ?_)
                · refine k_aload_n C (pc2 := 182) (dkAt dkX8_statement 101 (q := (181, .aload_n 0, 1)) rfl) rfl rfl 0 rfl ?_
                  refine kf_X8_53 C (pc2 := 185) (o := o0) (o2 := o0 + 21) h0.1 rfl (dkAt dkX8_statement 102 (q := (182, .getfield 53, 3)) rfl) rfl ?_
                  refine k_aload_n C (pc2 := 186) (dkAt dkX8_statement 103 (q := (185, .aload_n 0, 1)) rfl) rfl rfl 0 rfl ?_
                  refine kf_X8_62 C (pc2 := 189) (o := o0) (o2 := o0 + 23) h0.1 rfl (dkAt dkX8_statement 104 (q := (186, .getfield 62, 3)) rfl) rfl ?_
                  refine k_iconst C (pc2 := 190) (dkAt dkX8_statement 105 (q := (189, .iconst 0, 1)) rfl) rfl (v := 0) rfl ?_
                  refine k_ialdc C (pc2 := 191) (o := o0 + 23) (nA := 3) (j := 0) (isM_told h0) (dkAt dkX8_statement 106 (q := (190, .iaload, 1)) rfl) rfl (by unfold vp_in; decide) (by decide) ?_
                  refine k_aload_n C (pc2 := 192) (dkAt dkX8_statement 107 (q := (191, .aload_n 0, 1)) rfl) rfl rfl 0 rfl ?_
                  refine kf_X8_62 C (pc2 := 195) (o := o0) (o2 := o0 + 23) h0.1 rfl (dkAt dkX8_statement 108 (q := (192, .getfield 62, 3)) rfl) rfl ?_
                  refine k_iconst C (pc2 := 196) (dkAt dkX8_statement 109 (q := (195, .iconst 1, 1)) rfl) rfl (v := 1) rfl ?_
                  refine k_ialdc C (pc2 := 197) (o := o0 + 23) (nA := 3) (j := 1) (isM_told h0) (dkAt dkX8_statement 110 (q := (196, .iaload, 1)) rfl) rfl (by unfold vp_in; decide) (by decide) ?_
                  refine k_iast C (pc2 := 198) (o := o0 + 21) (nA := 8) (isM_left h0) (dkAt dkX8_statement 111 (q := (197, .iastore, 1)) rfl) rfl h (fun M58 h => ?_)
                  refine k_iconst C (pc2 := 199) (dkAt dkX8_statement 112 (q := (198, .iconst 1, 1)) rfl) rfl (v := 1) rfl ?_
                  exact k_zret C (dkAt dkX8_statement 113 (q := (199, .ireturn, 1)) rfl) rfl (pe2 (Option.some.inj h)) rfl (pe1 (Option.some.inj h)) rfl
                · refine k_iconst C (pc2 := 180) (dkAt dkX8_statement 99 (q := (179, .iconst 0, 1)) rfl) rfl (v := 0) rfl ?_
                  exact k_zret C (dkAt dkX8_statement 100 (q := (180, .ireturn, 1)) rfl) rfl (pe2 (Option.some.inj h)) rfl (pe1 (Option.some.inj h)) rfl
          · refine k_aload_n C (pc2 := 140) (dkAt dkX8_statement 77 (q := (139, .aload_n 0, 1)) rfl) rfl rfl 0 rfl ?_
            refine k_iconst C (pc2 := 141) (dkAt dkX8_statement 78 (q := (140, .iconst 0, 1)) rfl) rfl (v := 0) rfl ?_
            obtain ⟨q59, e60, h⟩ := ob_inv h
            refine kc_V C (As := [.int 0]) (st2 := [.int q59.2]) (ct_X8_freeTold l G sh xs o0 h0 0 q36.1 q59 e60) (cl_X8_207 (hts_of C) ⟨Nat.le_of_ble_eq_true rfl, Nat.le_of_ble_eq_true rfl⟩ rfl rfl) h0.1 rfl rfl rfl rfl rfl (Nat.le_of_ble_eq_true rfl) (dkAt dkX8_statement 79 (q := (141, .invokevirtual 207, 3)) rfl) ⟨Nat.zero_le _, Nat.zero_le _⟩ (pc2 := 144) rfl rfl ?_
            obtain ⟨hb, h⟩ := chb_inv h
            exact k_zret C (dkAt dkX8_statement 80 (q := (144, .ireturn, 1)) rfl) hb (pe2 (Option.some.inj h)) rfl (pe1 (Option.some.inj h)) rfl
        · refine k_aload_n C (pc2 := 125) (dkAt dkX8_statement 69 (q := (124, .aload_n 0, 1)) rfl) rfl rfl 0 rfl ?_
          refine k_iconst C (pc2 := 126) (dkAt dkX8_statement 70 (q := (125, .iconst 1, 1)) rfl) rfl (v := 1) rfl ?_
          obtain ⟨q61, e62, h⟩ := ob_inv h
          refine kc_V C (As := [.int 1]) (st2 := [.int q61.2]) (ct_X8_freeTold l G sh xs o0 h0 1 q34.1 q61 e62) (cl_X8_207 (hts_of C) ⟨Nat.le_of_ble_eq_true rfl, Nat.le_of_ble_eq_true rfl⟩ rfl rfl) h0.1 rfl rfl rfl rfl rfl (Nat.le_of_ble_eq_true rfl) (dkAt dkX8_statement 71 (q := (126, .invokevirtual 207, 3)) rfl) ⟨Nat.zero_le _, Nat.zero_le _⟩ (pc2 := 129) rfl rfl ?_
          obtain ⟨hb, h⟩ := chb_inv h
          exact k_zret C (dkAt dkX8_statement 72 (q := (129, .ireturn, 1)) rfl) hb (pe2 (Option.some.inj h)) rfl (pe1 (Option.some.inj h)) rfl
      · refine k_aload_n C (pc2 := 59) (dkAt dkX8_statement 30 (q := (58, .aload_n 0, 1)) rfl) rfl rfl 0 rfl ?_
        refine k_iconst C (pc2 := 60) (dkAt dkX8_statement 31 (q := (59, .iconst 0, 1)) rfl) rfl (v := 0) rfl ?_
        refine k_iconst C (pc2 := 61) (dkAt dkX8_statement 32 (q := (60, .iconst 5, 1)) rfl) rfl (v := 5) rfl ?_
        obtain ⟨q63, e64, h⟩ := ob_inv h
        refine kc_V C (As := [.int 0, .int 5]) (st2 := [.int q63.2]) (ct_X8_tells l G sh xs o0 h0 0 5 q3.1 q63 e64) (cl_X8_195 (hts_of C) ⟨Nat.le_of_ble_eq_true rfl, Nat.le_of_ble_eq_true rfl⟩ rfl rfl) h0.1 rfl rfl rfl rfl rfl (Nat.le_of_ble_eq_true rfl) (dkAt dkX8_statement 33 (q := (61, .invokevirtual 195, 3)) rfl) ⟨Nat.zero_le _, Nat.zero_le _⟩ (pc2 := 64) rfl rfl ?_
        refine k_if_eq C (tgt := 89) (pc2 := 67) (dkAt dkX8_statement 34 (q := (64, .ifCond .eq 25, 3)) rfl) (by decide) rfl h (fun h => ?_) (fun h => ?_)
        · refine k_iconst C (pc2 := 90) (dkAt dkX8_statement 47 (q := (89, .iconst 0, 1)) rfl) rfl (v := 0) rfl ?_
          exact k_zret C (dkAt dkX8_statement 48 (q := (90, .ireturn, 1)) rfl) rfl (pe2 (Option.some.inj h)) rfl (pe1 (Option.some.inj h)) rfl
        · refine k_aload_n C (pc2 := 68) (dkAt dkX8_statement 35 (q := (67, .aload_n 0, 1)) rfl) rfl rfl 0 rfl ?_
          refine k_iconst C (pc2 := 69) (dkAt dkX8_statement 36 (q := (68, .iconst 1, 1)) rfl) rfl (v := 1) rfl ?_
          refine k_iconst C (pc2 := 70) (dkAt dkX8_statement 37 (q := (69, .iconst 0, 1)) rfl) rfl (v := 0) rfl ?_
          refine k_bipush C (pc2 := 72) (dkAt dkX8_statement 38 (q := (70, .bipush 13, 2)) rfl) rfl (v := 13) rfl ?_
          obtain ⟨q65, e66, h⟩ := ob_inv h
          refine kc_V C (As := [.int 1, .int 0, .int 13]) (st2 := [.int q65.2]) (ct_X8_number l G sh xs o0 h0 1 0 13 q63.1 q65 e66) (cl_X8_191 (hts_of C) ⟨Nat.le_of_ble_eq_true rfl, Nat.le_of_ble_eq_true rfl⟩ rfl rfl) h0.1 rfl rfl rfl rfl rfl (Nat.le_of_ble_eq_true rfl) (dkAt dkX8_statement 39 (q := (72, .invokevirtual 191, 3)) rfl) ⟨Nat.zero_le _, Nat.zero_le _⟩ (pc2 := 75) rfl rfl ?_
          refine k_if_eq C (tgt := 89) (pc2 := 78) (dkAt dkX8_statement 40 (q := (75, .ifCond .eq 14, 3)) rfl) (by decide) rfl h (fun h => ?_) (fun h => ?_)
          · refine k_iconst C (pc2 := 90) (dkAt dkX8_statement 47 (q := (89, .iconst 0, 1)) rfl) rfl (v := 0) rfl ?_
            exact k_zret C (dkAt dkX8_statement 48 (q := (90, .ireturn, 1)) rfl) rfl (pe2 (Option.some.inj h)) rfl (pe1 (Option.some.inj h)) rfl
          · refine k_aload_n C (pc2 := 79) (dkAt dkX8_statement 41 (q := (78, .aload_n 0, 1)) rfl) rfl rfl 0 rfl ?_
            refine k_iconst C (pc2 := 80) (dkAt dkX8_statement 42 (q := (79, .iconst 2, 1)) rfl) rfl (v := 2) rfl ?_
            refine k_iconst C (pc2 := 81) (dkAt dkX8_statement 43 (q := (80, .iconst 0, 1)) rfl) rfl (v := 0) rfl ?_
            refine k_bipush C (pc2 := 83) (dkAt dkX8_statement 44 (q := (81, .bipush 12, 2)) rfl) rfl (v := 12) rfl ?_
            obtain ⟨q67, e68, h⟩ := ob_inv h
            refine kc_V C (As := [.int 2, .int 0, .int 12]) (st2 := [.int q67.2]) (ct_X8_number l G sh xs o0 h0 2 0 12 q65.1 q67 e68) (cl_X8_191 (hts_of C) ⟨Nat.le_of_ble_eq_true rfl, Nat.le_of_ble_eq_true rfl⟩ rfl rfl) h0.1 rfl rfl rfl rfl rfl (Nat.le_of_ble_eq_true rfl) (dkAt dkX8_statement 45 (q := (83, .invokevirtual 191, 3)) rfl) ⟨Nat.zero_le _, Nat.zero_le _⟩ (pc2 := 86) rfl rfl ?_
            refine k_if_ne C (tgt := 91) (pc2 := 89) (dkAt dkX8_statement 46 (q := (86, .ifCond .ne 5, 3)) rfl) (by decide) rfl h (fun h => ?_) (fun h => ?_)
            · refine k_aload_n C (pc2 := 92) (dkAt dkX8_statement 49 (q := (91, .aload_n 0, 1)) rfl) rfl rfl 0 rfl ?_
              refine k_aload_n C (pc2 := 93) (dkAt dkX8_statement 50 (q := (92, .aload_n 0, 1)) rfl) rfl rfl 0 rfl ?_
              refine kf_X8_62 C (pc2 := 96) (o := o0) (o2 := o0 + 23) h0.1 rfl (dkAt dkX8_statement 51 (q := (93, .getfield 62, 3)) rfl) rfl ?_
              refine k_iconst C (pc2 := 97) (dkAt dkX8_statement 52 (q := (96, .iconst 0, 1)) rfl) rfl (v := 0) rfl ?_
              refine k_ialdc C (pc2 := 98) (o := o0 + 23) (nA := 3) (j := 0) (isM_told h0) (dkAt dkX8_statement 53 (q := (97, .iaload, 1)) rfl) rfl (by unfold vp_in; decide) (by decide) ?_
              refine k_aload_n C (pc2 := 99) (dkAt dkX8_statement 54 (q := (98, .aload_n 0, 1)) rfl) rfl rfl 0 rfl ?_
              refine kf_X8_62 C (pc2 := 102) (o := o0) (o2 := o0 + 23) h0.1 rfl (dkAt dkX8_statement 55 (q := (99, .getfield 62, 3)) rfl) rfl ?_
              refine k_iconst C (pc2 := 103) (dkAt dkX8_statement 56 (q := (102, .iconst 1, 1)) rfl) rfl (v := 1) rfl ?_
              refine k_ialdc C (pc2 := 104) (o := o0 + 23) (nA := 3) (j := 1) (isM_told h0) (dkAt dkX8_statement 57 (q := (103, .iaload, 1)) rfl) rfl (by unfold vp_in; decide) (by decide) ?_
              refine k_aload_n C (pc2 := 105) (dkAt dkX8_statement 58 (q := (104, .aload_n 0, 1)) rfl) rfl rfl 0 rfl ?_
              refine kf_X8_62 C (pc2 := 108) (o := o0) (o2 := o0 + 23) h0.1 rfl (dkAt dkX8_statement 59 (q := (105, .getfield 62, 3)) rfl) rfl ?_
              refine k_iconst C (pc2 := 109) (dkAt dkX8_statement 60 (q := (108, .iconst 2, 1)) rfl) rfl (v := 2) rfl ?_
              refine k_ialdc C (pc2 := 110) (o := o0 + 23) (nA := 3) (j := 2) (isM_told h0) (dkAt dkX8_statement 61 (q := (109, .iaload, 1)) rfl) rfl (by unfold vp_in; decide) (by decide) ?_
              obtain ⟨q69, e70, h⟩ := ob_inv h
              refine kc_V C (As := [.int (q67.1.1 (o0 + 23) 0), .int (q67.1.1 (o0 + 23) 1), .int (q67.1.1 (o0 + 23) 2)]) (st2 := []) (ct_X8_addPerson l G sh xs o0 h0 (q67.1.1 (o0 + 23) 0) (q67.1.1 (o0 + 23) 1) (q67.1.1 (o0 + 23) 2) q67.1 q69 e70) (cl_X8_131 (hts_of C) ⟨Nat.le_of_ble_eq_true rfl, Nat.le_of_ble_eq_true rfl⟩ rfl rfl) h0.1 rfl rfl rfl rfl rfl (Nat.le_of_ble_eq_true rfl) (dkAt dkX8_statement 62 (q := (110, .invokevirtual 131, 3)) rfl) ⟨Nat.zero_le _, Nat.zero_le _⟩ (pc2 := 113) rfl rfl ?_
              refine k_iconst C (pc2 := 114) (dkAt dkX8_statement 63 (q := (113, .iconst 1, 1)) rfl) rfl (v := 1) rfl ?_
              exact k_zret C (dkAt dkX8_statement 64 (q := (114, .ireturn, 1)) rfl) rfl (pe2 (Option.some.inj h)) rfl (pe1 (Option.some.inj h)) rfl
            · refine k_iconst C (pc2 := 90) (dkAt dkX8_statement 47 (q := (89, .iconst 0, 1)) rfl) rfl (v := 0) rfl ?_
              exact k_zret C (dkAt dkX8_statement 48 (q := (90, .ireturn, 1)) rfl) rfl (pe2 (Option.some.inj h)) rfl (pe1 (Option.some.inj h)) rfl
  · refine k_aload_n C (pc2 := 10) (dkAt dkX8_statement 4 (q := (9, .aload_n 0, 1)) rfl) rfl rfl 0 rfl ?_
    refine k_iconst C (pc2 := 11) (dkAt dkX8_statement 5 (q := (10, .iconst 1, 1)) rfl) rfl (v := 1) rfl ?_
    refine k_bipush C (pc2 := 13) (dkAt dkX8_statement 6 (q := (11, .bipush 14, 2)) rfl) rfl (v := 14) rfl ?_
    obtain ⟨q71, e72, h⟩ := ob_inv h
    refine kc_V C (As := [.int 1, .int 14]) (st2 := [.int q71.2]) (ct_X8_tells l G sh xs o0 h0 1 14 q1.1 q71 e72) (cl_X8_195 (hts_of C) ⟨Nat.le_of_ble_eq_true rfl, Nat.le_of_ble_eq_true rfl⟩ rfl rfl) h0.1 rfl rfl rfl rfl rfl (Nat.le_of_ble_eq_true rfl) (dkAt dkX8_statement 7 (q := (13, .invokevirtual 195, 3)) rfl) ⟨Nat.zero_le _, Nat.zero_le _⟩ (pc2 := 16) rfl rfl ?_
    refine kb_istore_n C (pc2 := 17) (dkAt dkX8_statement 8 (q := (16, .istore_n 1, 1)) rfl) rfl rfl (by decide) (lv2 := fun v73 => [(1, .int v73), (0, rA G o0)]) (fun _ => rfl) h (fun v73 h => ?_)
    refine k_aload_n C (pc2 := 18) (dkAt dkX8_statement 9 (q := (17, .aload_n 0, 1)) rfl) rfl rfl 1 rfl ?_
    refine k_iload_n C (pc2 := 19) (dkAt dkX8_statement 10 (q := (18, .iload_n 1, 1)) rfl) rfl rfl 0 rfl ?_
    refine k_if_eq C (tgt := 31) (pc2 := 22) (dkAt dkX8_statement 11 (q := (19, .ifCond .eq 12, 3)) rfl) (by decide) rfl h (fun h => ?_) (fun h => ?_)
    · refine k_aload_n C (pc2 := 32) (dkAt dkX8_statement 17 (q := (31, .aload_n 0, 1)) rfl) rfl rfl 1 rfl ?_
      refine kf_X8_37 C (pc2 := 35) (o := o0) (o2 := 0) h0.1 (dkAt dkX8_statement 18 (q := (32, .getfield 37, 3)) rfl) rfl ?_
      obtain ⟨q74, e75, h⟩ := ob_inv h
      refine kc_V C (As := [.int (q71.1.1 o0 9)]) (st2 := []) (ct_X8_daysAre l G sh xs o0 h0 (q71.1.1 o0 9) q71.1 q74 e75) (cl_X8_123 (hts_of C) ⟨Nat.le_of_ble_eq_true rfl, Nat.le_of_ble_eq_true rfl⟩ rfl rfl) h0.1 rfl rfl rfl rfl rfl (Nat.le_of_ble_eq_true rfl) (dkAt dkX8_statement 19 (q := (35, .invokevirtual 123, 3)) rfl) ⟨Nat.zero_le _, Nat.zero_le _⟩ (pc2 := 38) rfl rfl ?_
      refine k_iload_n C (pc2 := 39) (dkAt dkX8_statement 20 (q := (38, .iload_n 1, 1)) rfl) rfl rfl 0 rfl ?_
      obtain ⟨hb, h⟩ := chb_inv h
      exact k_zret C (dkAt dkX8_statement 21 (q := (39, .ireturn, 1)) rfl) hb (pe2 (Option.some.inj h)) rfl (pe1 (Option.some.inj h)) rfl
    · refine k_aload_n C (pc2 := 23) (dkAt dkX8_statement 12 (q := (22, .aload_n 0, 1)) rfl) rfl rfl 1 rfl ?_
      refine kf_X8_62 C (pc2 := 26) (o := o0) (o2 := o0 + 23) h0.1 rfl (dkAt dkX8_statement 13 (q := (23, .getfield 62, 3)) rfl) rfl ?_
      refine k_iconst C (pc2 := 27) (dkAt dkX8_statement 14 (q := (26, .iconst 0, 1)) rfl) rfl (v := 0) rfl ?_
      refine k_ialdc C (pc2 := 28) (o := o0 + 23) (nA := 3) (j := 0) (isM_told h0) (dkAt dkX8_statement 15 (q := (27, .iaload, 1)) rfl) rfl (by unfold vp_in; decide) (by decide) ?_
      refine k_goto C (tgt := 35) (dkAt dkX8_statement 16 (q := (28, .goto 7, 3)) rfl) (by decide) ?_
      obtain ⟨q76, e77, h⟩ := ob_inv h
      refine kc_V C (As := [.int (q71.1.1 (o0 + 23) 0)]) (st2 := []) (ct_X8_daysAre l G sh xs o0 h0 (q71.1.1 (o0 + 23) 0) q71.1 q76 e77) (cl_X8_123 (hts_of C) ⟨Nat.le_of_ble_eq_true rfl, Nat.le_of_ble_eq_true rfl⟩ rfl rfl) h0.1 rfl rfl rfl rfl rfl (Nat.le_of_ble_eq_true rfl) (dkAt dkX8_statement 19 (q := (35, .invokevirtual 123, 3)) rfl) ⟨Nat.zero_le _, Nat.zero_le _⟩ (pc2 := 38) rfl rfl ?_
      refine k_iload_n C (pc2 := 39) (dkAt dkX8_statement 20 (q := (38, .iload_n 1, 1)) rfl) rfl rfl 0 rfl ?_
      obtain ⟨hb, h⟩ := chb_inv h
      exact k_zret C (dkAt dkX8_statement 21 (q := (39, .ireturn, 1)) rfl) hb (pe2 (Option.some.inj h)) rfl (pe1 (Option.some.inj h)) rfl
set_option maxRecDepth 100000 in
set_option maxHeartbeats 4000000 in
theorem kl_X8_readAll_L23 {p : Program} {l : Launch} {e : Env} {s : State} {m : MethodId} {args : Array Value} {below : List Frame} {meth : Method} {c : Code} {G : GG} {sh : Sh} {xs : List va_E} (C : Cx p s m c args meth G RX8 cX8_readAll 1 (some .boolean)) (o0 : Nat) (h0 : isM sh o0) (r : Mm × Int32) (t : (Mm) ⊕ (Mm × Int32)) (hcont : ∀ (M2 : Mm), t = Sum.inl M2 → KW p l e rm_X8_readAll s m args below meth c G 1 (MQ below (QO G (some (.int r.2)) sh r.1 xs) args s 0 0 (gA G)) sh xs 0 0 M2 69 [] []) (hres : ∀ z, t = Sum.inr z → z = r) : ∀ (n : Nat) (M : Mm), f_X8_readAll_L23 o0 n M = some t → KW p l e rm_X8_readAll s m args below meth c G 1 (MQ below (QO G (some (.int r.2)) sh r.1 xs) args s 0 0 (gA G)) sh xs 0 0 M 23 [(0, rA G o0)] [] := by
  intro n
  induction n with
  | zero =>
    intro M h
    cases h
  | succ n ih =>
    intro M h
    unfold f_X8_readAll_L23 at h
    refine k_aload_n C (pc2 := 24) (dkAt dkX8_readAll 13 (q := (23, .aload_n 0, 1)) rfl) rfl rfl 0 rfl ?_
    refine kf_X8_162 C (pc2 := 27) (o := o0) (o2 := 0) h0.1 (dkAt dkX8_readAll 14 (q := (24, .getfield 162, 3)) rfl) rfl ?_
    refine k_if_eq C (tgt := 69) (pc2 := 30) (dkAt dkX8_readAll 15 (q := (27, .ifCond .eq 42, 3)) rfl) (by decide) rfl h (fun h => ?_) (fun h => ?_)
    · refine k_lv [] (lv2 := []) rfl ?_
      exact hcont M (Option.some.inj h).symm
    · refine k_aload_n C (pc2 := 31) (dkAt dkX8_readAll 16 (q := (30, .aload_n 0, 1)) rfl) rfl rfl 0 rfl ?_
      refine kf_X8_162 C (pc2 := 34) (o := o0) (o2 := 0) h0.1 (dkAt dkX8_readAll 17 (q := (31, .getfield 162, 3)) rfl) rfl ?_
      refine k_iconst C (pc2 := 35) (dkAt dkX8_readAll 18 (q := (34, .iconst 3, 1)) rfl) rfl (v := 3) rfl ?_
      refine k_icmp_eq C (tgt := 43) (pc2 := 38) (dkAt dkX8_readAll 19 (q := (35, .if_icmp .eq 8, 3)) rfl) (by decide) rfl h (fun h => ?_) (fun h => ?_)
      · refine k_aload_n C (pc2 := 44) (dkAt dkX8_readAll 23 (q := (43, .aload_n 0, 1)) rfl) rfl rfl 0 rfl ?_
        obtain ⟨q7, e8, h⟩ := ob_inv h
        refine kc_V C (As := []) (st2 := []) (ct_X8_look l G sh xs o0 h0 M q7 e8) (cl_X8_188 (hts_of C) ⟨Nat.le_of_ble_eq_true rfl, Nat.le_of_ble_eq_true rfl⟩ rfl rfl) h0.1 rfl rfl rfl rfl rfl (Nat.le_of_ble_eq_true rfl) (dkAt dkX8_readAll 24 (q := (44, .invokevirtual 188, 3)) rfl) ⟨Nat.zero_le _, Nat.zero_le _⟩ (pc2 := 47) rfl rfl ?_
        refine k_aload_n C (pc2 := 48) (dkAt dkX8_readAll 25 (q := (47, .aload_n 0, 1)) rfl) rfl rfl 0 rfl ?_
        obtain ⟨q9, e10, h⟩ := ob_inv h
        refine kc_V C (As := []) (st2 := [.int q9.2]) (ct_X8_statement l G sh xs o0 h0 q7 q9 e10) (cl_X8_227 (hts_of C) ⟨Nat.le_of_ble_eq_true rfl, Nat.le_of_ble_eq_true rfl⟩ rfl rfl) h0.1 rfl rfl rfl rfl rfl (Nat.le_of_ble_eq_true rfl) (dkAt dkX8_readAll 26 (q := (48, .invokevirtual 227, 3)) rfl) ⟨Nat.zero_le _, Nat.zero_le _⟩ (pc2 := 51) rfl rfl ?_
        refine k_if_ne C (tgt := 56) (pc2 := 54) (dkAt dkX8_readAll 27 (q := (51, .ifCond .ne 5, 3)) rfl) (by decide) rfl h (fun h => ?_) (fun h => ?_)
        · refine k_aload_n C (pc2 := 57) (dkAt dkX8_readAll 30 (q := (56, .aload_n 0, 1)) rfl) rfl rfl 0 rfl ?_
          refine k_dup C (pc2 := 58) (dkAt dkX8_readAll 31 (q := (57, .dup, 1)) rfl) rfl rfl ?_
          refine kf_X8_224 C (pc2 := 61) (o := o0) (o2 := 0) h0.1 (dkAt dkX8_readAll 32 (q := (58, .getfield 224, 3)) rfl) rfl ?_
          refine k_iconst C (pc2 := 62) (dkAt dkX8_readAll 33 (q := (61, .iconst 1, 1)) rfl) rfl (v := 1) rfl ?_
          refine k_iadd C (pc2 := 63) (dkAt dkX8_readAll 34 (q := (62, .iadd, 1)) rfl) rfl ?_
          refine kp_X8_224 C (pc2 := 66) (o := o0) h0.1 (dkAt dkX8_readAll 35 (q := (63, .putfield 224, 3)) rfl) rfl h (fun M11 h => ?_)
          refine k_goto C (tgt := 23) (dkAt dkX8_readAll 36 (q := (66, .goto (-43), 3)) rfl) (by decide) ?_
          refine k_lv [0] (lv2 := [(0, rA G o0)]) rfl ?_
          exact ih  M11 h
        · refine k_iconst C (pc2 := 55) (dkAt dkX8_readAll 28 (q := (54, .iconst 0, 1)) rfl) rfl (v := 0) rfl ?_
          exact k_zret C (dkAt dkX8_readAll 29 (q := (55, .ireturn, 1)) rfl) rfl (pe2 (hres _ (Option.some.inj h).symm)) rfl (pe1 (hres _ (Option.some.inj h).symm)) rfl
      · refine k_aload_n C (pc2 := 39) (dkAt dkX8_readAll 20 (q := (38, .aload_n 0, 1)) rfl) rfl rfl 0 rfl ?_
        obtain ⟨q12, e13, h⟩ := ob_inv h
        refine kc_V C (As := []) (st2 := [.int q12.2]) (ct_X8_wrong l G sh xs o0 h0 M q12 e13) (cl_X8_184 (hts_of C) ⟨Nat.le_of_ble_eq_true rfl, Nat.le_of_ble_eq_true rfl⟩ rfl rfl) h0.1 rfl rfl rfl rfl rfl (Nat.le_of_ble_eq_true rfl) (dkAt dkX8_readAll 21 (q := (39, .invokevirtual 184, 3)) rfl) ⟨Nat.zero_le _, Nat.zero_le _⟩ (pc2 := 42) rfl rfl ?_
        obtain ⟨hb, h⟩ := chb_inv h
        exact k_zret C (dkAt dkX8_readAll 22 (q := (42, .ireturn, 1)) rfl) hb (pe2 (hres _ (Option.some.inj h).symm)) rfl (pe1 (hres _ (Option.some.inj h).symm)) rfl
set_option maxRecDepth 100000 in
set_option maxHeartbeats 4000000 in
theorem ct_X8_readAll (l : Launch) (G : GG) (sh : Sh) (xs : List va_E) (o0 : Nat) (h0 : isM sh o0) (M : Mm) (r : Mm × Int32) (h : f_X8_readAll o0 M = some r) : Ct l yX8_readAll cX8_readAll 1 (some .boolean) rm_X8_readAll G [rA G o0] sh M xs (some (.int r.2)) sh r.1 xs 0 0 := by
  refine ct_of (by decide) (Nat.le_of_ble_eq_true rfl) ?_
  intro p e s m args below meth c hnm C
  refine k_lv [0] (lv2 := [(0, rA G o0)]) rfl ?_
  unfold f_X8_readAll at h
  refine k_aload_n C (pc2 := 1) (dkAt dkX8_readAll 0 (q := (0, .aload_n 0, 1)) rfl) rfl rfl 0 rfl ?_
  refine k_iconst C (pc2 := 2) (dkAt dkX8_readAll 1 (q := (1, .iconst 1, 1)) rfl) rfl (v := 1) rfl ?_
  refine kp_X8_224 C (pc2 := 5) (o := o0) h0.1 (dkAt dkX8_readAll 2 (q := (2, .putfield 224, 3)) rfl) rfl h (fun M1 h => ?_)
  refine k_aload_n C (pc2 := 6) (dkAt dkX8_readAll 3 (q := (5, .aload_n 0, 1)) rfl) rfl rfl 0 rfl ?_
  refine k_iconst C (pc2 := 7) (dkAt dkX8_readAll 4 (q := (6, .iconst 0, 1)) rfl) rfl (v := 0) rfl ?_
  refine kp_X8_153 C (pc2 := 10) (o := o0) h0.1 (dkAt dkX8_readAll 5 (q := (7, .putfield 153, 3)) rfl) rfl h (fun M2 h => ?_)
  refine k_aload_n C (pc2 := 11) (dkAt dkX8_readAll 6 (q := (10, .aload_n 0, 1)) rfl) rfl rfl 0 rfl ?_
  obtain ⟨q3, e4, h⟩ := ob_inv h
  refine kc_V C (As := []) (st2 := []) (ct_X8_look l G sh xs o0 h0 M2 q3 e4) (cl_X8_188 (hts_of C) ⟨Nat.le_of_ble_eq_true rfl, Nat.le_of_ble_eq_true rfl⟩ rfl rfl) h0.1 rfl rfl rfl rfl rfl (Nat.le_of_ble_eq_true rfl) (dkAt dkX8_readAll 7 (q := (11, .invokevirtual 188, 3)) rfl) ⟨Nat.zero_le _, Nat.zero_le _⟩ (pc2 := 14) rfl rfl ?_
  refine k_aload_n C (pc2 := 15) (dkAt dkX8_readAll 8 (q := (14, .aload_n 0, 1)) rfl) rfl rfl 0 rfl ?_
  obtain ⟨q5, e6, h⟩ := ob_inv h
  refine kc_V C (As := []) (st2 := [.int q5.2]) (ct_X8_statement l G sh xs o0 h0 q3 q5 e6) (cl_X8_227 (hts_of C) ⟨Nat.le_of_ble_eq_true rfl, Nat.le_of_ble_eq_true rfl⟩ rfl rfl) h0.1 rfl rfl rfl rfl rfl (Nat.le_of_ble_eq_true rfl) (dkAt dkX8_readAll 9 (q := (15, .invokevirtual 227, 3)) rfl) ⟨Nat.zero_le _, Nat.zero_le _⟩ (pc2 := 18) rfl rfl ?_
  refine k_if_ne C (tgt := 23) (pc2 := 21) (dkAt dkX8_readAll 10 (q := (18, .ifCond .ne 5, 3)) rfl) (by decide) rfl h (fun h => ?_) (fun h => ?_)
  · refine k_lv [0] (lv2 := [(0, rA G o0)]) rfl ?_
    obtain ⟨t14, e15, hA, hB⟩ := obS_inv h
    refine kl_X8_readAll_L23 C o0 h0 r t14 ?_ ?_ 1000 q5.1 e15
    · intro M16 et
      have h := hA _ et
      refine k_iconst C (pc2 := 70) (dkAt dkX8_readAll 37 (q := (69, .iconst 1, 1)) rfl) rfl (v := 1) rfl ?_
      exact k_zret C (dkAt dkX8_readAll 38 (q := (70, .ireturn, 1)) rfl) rfl (pe2 (Option.some.inj h)) rfl (pe1 (Option.some.inj h)) rfl
    · intro z et
      have h := hB _ et
      exact Option.some.inj h
  · refine k_iconst C (pc2 := 22) (dkAt dkX8_readAll 11 (q := (21, .iconst 0, 1)) rfl) rfl (v := 0) rfl ?_
    exact k_zret C (dkAt dkX8_readAll 12 (q := (22, .ireturn, 1)) rfl) rfl (pe2 (Option.some.inj h)) rfl (pe1 (Option.some.inj h)) rfl
set_option maxRecDepth 100000 in
set_option maxHeartbeats 4000000 in
theorem kl_X8_copied_L2 {p : Program} {l : Launch} {e : Env} {s : State} {m : MethodId} {args : Array Value} {below : List Frame} {meth : Method} {c : Code} {G : GG} {sh : Sh} {xs : List va_E} {Q : State → Prop} (C : Cx p s m c args meth G RX8 cX8_copied 3 none) (nA : Nat) (o0 : Nat) (h0 : sh[o0]? = some (9, nA)) (o1 : Nat) (h1 : sh[o1]? = some (9, nA)) (M2 : Mm) (hcont : KW p l e rm_X8_copied s m args below meth c G 3 Q sh xs 0 0 M2 20 [] []) : ∀ (n : Nat) (x2 : Int32) (M : Mm), f_X8_copied_L2 nA o0 o1 n x2 M = some M2 → KW p l e rm_X8_copied s m args below meth c G 3 Q sh xs 0 0 M 2 [(0, rA G o0), (1, rA G o1), (2, .int x2)] [] := by
  intro n
  induction n with
  | zero =>
    intro x2 M h
    cases h
  | succ n ih =>
    intro x2 M h
    unfold f_X8_copied_L2 at h
    refine k_iload_n C (pc2 := 3) (dkAt dkX8_copied 2 (q := (2, .iload_n 2, 1)) rfl) rfl rfl 2 rfl ?_
    refine k_aload_n C (pc2 := 4) (dkAt dkX8_copied 3 (q := (3, .aload_n 0, 1)) rfl) rfl rfl 0 rfl ?_
    refine k_alen_i C (pc2 := 5) (o := o0) (nA := nA) h0 (v := Int32.ofNat nA) rfl (dkAt dkX8_copied 4 (q := (4, .arraylength, 1)) rfl) rfl ?_
    refine k_icmp_ge C (tgt := 20) (pc2 := 8) (dkAt dkX8_copied 5 (q := (5, .if_icmp .ge 15, 3)) rfl) (by decide) rfl h (fun h => ?_) (fun h => ?_)
    · refine k_lv [] (lv2 := []) rfl ?_
      cases h
      exact hcont
    · refine k_aload_n C (pc2 := 9) (dkAt dkX8_copied 6 (q := (8, .aload_n 1, 1)) rfl) rfl rfl 1 rfl ?_
      refine k_iload_n C (pc2 := 10) (dkAt dkX8_copied 7 (q := (9, .iload_n 2, 1)) rfl) rfl rfl 2 rfl ?_
      refine k_aload_n C (pc2 := 11) (dkAt dkX8_copied 8 (q := (10, .aload_n 0, 1)) rfl) rfl rfl 0 rfl ?_
      refine k_iload_n C (pc2 := 12) (dkAt dkX8_copied 9 (q := (11, .iload_n 2, 1)) rfl) rfl rfl 2 rfl ?_
      refine k_iald C (pc2 := 13) (o := o0) (nA := nA) h0 (dkAt dkX8_copied 10 (q := (12, .iaload, 1)) rfl) rfl h (fun h => ?_)
      refine k_iast C (pc2 := 14) (o := o1) (nA := nA) h1 (dkAt dkX8_copied 11 (q := (13, .iastore, 1)) rfl) rfl h (fun M1 h => ?_)
      refine kb_iinc C (pc2 := 17) (dkAt dkX8_copied 12 (q := (14, .iinc 2 1, 3)) rfl) rfl (j := 2) rfl (v := x2 + 1) rfl (by decide) (lv2 := fun v2 => [(2, .int v2), (0, rA G o0), (1, rA G o1)]) (fun _ => rfl) h (fun v2 h => ?_)
      refine k_goto C (tgt := 2) (dkAt dkX8_copied 13 (q := (17, .goto (-15), 3)) rfl) (by decide) ?_
      refine k_lv [1, 2, 0] (lv2 := [(0, rA G o0), (1, rA G o1), (2, .int v2)]) rfl ?_
      exact ih v2 M1 h
set_option maxRecDepth 100000 in
set_option maxHeartbeats 4000000 in
theorem ct_X8_copied (l : Launch) (G : GG) (sh : Sh) (xs : List va_E) (nA : Nat) (o0 : Nat) (h0 : sh[o0]? = some (9, nA)) (o1 : Nat) (h1 : sh[o1]? = some (9, nA)) (M : Mm) (r : Mm) (h : f_X8_copied nA o0 o1 M = some r) : Ct l yX8_copied cX8_copied 3 none rm_X8_copied G [rA G o0, rA G o1] sh M xs none sh r xs 0 0 := by
  refine ct_of (by decide) (Nat.le_of_ble_eq_true rfl) ?_
  intro p e s m args below meth c hnm C
  refine k_lv [0, 1] (lv2 := [(0, rA G o0), (1, rA G o1)]) rfl ?_
  unfold f_X8_copied at h
  refine k_iconst C (pc2 := 1) (dkAt dkX8_copied 0 (q := (0, .iconst 0, 1)) rfl) rfl (v := 0) rfl ?_
  refine k_istore_n C (pc2 := 2) (dkAt dkX8_copied 1 (q := (1, .istore_n 2, 1)) rfl) rfl rfl (by decide) (lv2 := [(2, .int 0), (0, rA G o0), (1, rA G o1)]) rfl ?_
  refine k_lv [1, 2, 0] (lv2 := [(0, rA G o0), (1, rA G o1), (2, .int 0)]) rfl ?_
  obtain ⟨M5, e4, h⟩ := ob_inv h
  refine kl_X8_copied_L2 C nA o0 h0 o1 h1 M5 ?_ 1000 0 M e4
  exact k_vret C (dkAt dkX8_copied 14 (q := (20, .return_, 1)) rfl) rfl (Option.some.inj h) rfl
set_option maxRecDepth 100000 in
set_option maxHeartbeats 4000000 in
theorem ct_X8_takeFrom (l : Launch) (G : GG) (sh : Sh) (xs : List va_E) (o0 : Nat) (h0 : isM sh o0) (o1 : Nat) (h1 : isM sh o1) (M : Mm) (r : Mm) (h : f_X8_takeFrom o0 o1 M = some r) : Ct l yX8_takeFrom cX8_takeFrom 2 none rm_X8_takeFrom G [rA G o0, rA G o1] sh M xs none sh r xs 0 0 := by
  refine ct_of (by decide) (Nat.le_of_ble_eq_true rfl) ?_
  intro p e s m args below meth c hnm C
  refine k_lv [0, 1] (lv2 := [(0, rA G o0), (1, rA G o1)]) rfl ?_
  unfold f_X8_takeFrom at h
  refine k_aload_n C (pc2 := 1) (dkAt dkX8_takeFrom 0 (q := (0, .aload_n 0, 1)) rfl) rfl rfl 0 rfl ?_
  refine k_aload_n C (pc2 := 2) (dkAt dkX8_takeFrom 1 (q := (1, .aload_n 1, 1)) rfl) rfl rfl 1 rfl ?_
  refine kf_X8_37 C (pc2 := 5) (o := o1) (o2 := 0) h1.1 (dkAt dkX8_takeFrom 2 (q := (2, .getfield 37, 3)) rfl) rfl ?_
  refine kp_X8_37 C (pc2 := 8) (o := o0) h0.1 (dkAt dkX8_takeFrom 3 (q := (5, .putfield 37, 3)) rfl) rfl h (fun M1 h => ?_)
  refine k_aload_n C (pc2 := 9) (dkAt dkX8_takeFrom 4 (q := (8, .aload_n 0, 1)) rfl) rfl rfl 0 rfl ?_
  refine k_aload_n C (pc2 := 10) (dkAt dkX8_takeFrom 5 (q := (9, .aload_n 1, 1)) rfl) rfl rfl 1 rfl ?_
  refine kf_X8_82 C (pc2 := 13) (o := o1) (o2 := 0) h1.1 (dkAt dkX8_takeFrom 6 (q := (10, .getfield 82, 3)) rfl) rfl ?_
  refine kp_X8_82 C (pc2 := 16) (o := o0) h0.1 (dkAt dkX8_takeFrom 7 (q := (13, .putfield 82, 3)) rfl) rfl h (fun M2 h => ?_)
  refine k_aload_n C (pc2 := 17) (dkAt dkX8_takeFrom 8 (q := (16, .aload_n 1, 1)) rfl) rfl rfl 1 rfl ?_
  refine kf_X8_41 C (pc2 := 20) (o := o1) (o2 := o1 + 17) h1.1 rfl (dkAt dkX8_takeFrom 9 (q := (17, .getfield 41, 3)) rfl) rfl ?_
  refine k_aload_n C (pc2 := 21) (dkAt dkX8_takeFrom 10 (q := (20, .aload_n 0, 1)) rfl) rfl rfl 0 rfl ?_
  refine kf_X8_41 C (pc2 := 24) (o := o0) (o2 := o0 + 17) h0.1 rfl (dkAt dkX8_takeFrom 11 (q := (21, .getfield 41, 3)) rfl) rfl ?_
  obtain ⟨q3, e4, h⟩ := ob_inv h
  refine kc_S C (As := [rA G (o1 + 17), rA G (o0 + 17)]) (st2 := []) (ct_X8_copied l G sh xs 8 (o1 + 17) (isM_kind h1) (o0 + 17) (isM_kind h0) M2 q3 e4) (cl_X8_325 (hts_of C) ⟨Nat.le_of_ble_eq_true rfl, Nat.le_of_ble_eq_true rfl⟩ rfl rfl) rfl rfl (Nat.le_of_ble_eq_true rfl) (dkAt dkX8_takeFrom 12 (q := (24, .invokestatic 325, 3)) rfl) ⟨Nat.zero_le _, Nat.zero_le _⟩ (pc2 := 27) rfl rfl ?_
  refine k_aload_n C (pc2 := 28) (dkAt dkX8_takeFrom 13 (q := (27, .aload_n 1, 1)) rfl) rfl rfl 1 rfl ?_
  refine kf_X8_44 C (pc2 := 31) (o := o1) (o2 := o1 + 18) h1.1 rfl (dkAt dkX8_takeFrom 14 (q := (28, .getfield 44, 3)) rfl) rfl ?_
  refine k_aload_n C (pc2 := 32) (dkAt dkX8_takeFrom 15 (q := (31, .aload_n 0, 1)) rfl) rfl rfl 0 rfl ?_
  refine kf_X8_44 C (pc2 := 35) (o := o0) (o2 := o0 + 18) h0.1 rfl (dkAt dkX8_takeFrom 16 (q := (32, .getfield 44, 3)) rfl) rfl ?_
  obtain ⟨q5, e6, h⟩ := ob_inv h
  refine kc_S C (As := [rA G (o1 + 18), rA G (o0 + 18)]) (st2 := []) (ct_X8_copied l G sh xs 8 (o1 + 18) (isM_by h1) (o0 + 18) (isM_by h0) q3 q5 e6) (cl_X8_325 (hts_of C) ⟨Nat.le_of_ble_eq_true rfl, Nat.le_of_ble_eq_true rfl⟩ rfl rfl) rfl rfl (Nat.le_of_ble_eq_true rfl) (dkAt dkX8_takeFrom 17 (q := (35, .invokestatic 325, 3)) rfl) ⟨Nat.zero_le _, Nat.zero_le _⟩ (pc2 := 38) rfl rfl ?_
  refine k_aload_n C (pc2 := 39) (dkAt dkX8_takeFrom 18 (q := (38, .aload_n 1, 1)) rfl) rfl rfl 1 rfl ?_
  refine kf_X8_47 C (pc2 := 42) (o := o1) (o2 := o1 + 19) h1.1 rfl (dkAt dkX8_takeFrom 19 (q := (39, .getfield 47, 3)) rfl) rfl ?_
  refine k_aload_n C (pc2 := 43) (dkAt dkX8_takeFrom 20 (q := (42, .aload_n 0, 1)) rfl) rfl rfl 0 rfl ?_
  refine kf_X8_47 C (pc2 := 46) (o := o0) (o2 := o0 + 19) h0.1 rfl (dkAt dkX8_takeFrom 21 (q := (43, .getfield 47, 3)) rfl) rfl ?_
  obtain ⟨q7, e8, h⟩ := ob_inv h
  refine kc_S C (As := [rA G (o1 + 19), rA G (o0 + 19)]) (st2 := []) (ct_X8_copied l G sh xs 8 (o1 + 19) (isM_likely h1) (o0 + 19) (isM_likely h0) q5 q7 e8) (cl_X8_325 (hts_of C) ⟨Nat.le_of_ble_eq_true rfl, Nat.le_of_ble_eq_true rfl⟩ rfl rfl) rfl rfl (Nat.le_of_ble_eq_true rfl) (dkAt dkX8_takeFrom 22 (q := (46, .invokestatic 325, 3)) rfl) ⟨Nat.zero_le _, Nat.zero_le _⟩ (pc2 := 49) rfl rfl ?_
  refine k_aload_n C (pc2 := 50) (dkAt dkX8_takeFrom 23 (q := (49, .aload_n 1, 1)) rfl) rfl rfl 1 rfl ?_
  refine kf_X8_50 C (pc2 := 53) (o := o1) (o2 := o1 + 20) h1.1 rfl (dkAt dkX8_takeFrom 24 (q := (50, .getfield 50, 3)) rfl) rfl ?_
  refine k_aload_n C (pc2 := 54) (dkAt dkX8_takeFrom 25 (q := (53, .aload_n 0, 1)) rfl) rfl rfl 0 rfl ?_
  refine kf_X8_50 C (pc2 := 57) (o := o0) (o2 := o0 + 20) h0.1 rfl (dkAt dkX8_takeFrom 26 (q := (54, .getfield 50, 3)) rfl) rfl ?_
  obtain ⟨q9, e10, h⟩ := ob_inv h
  refine kc_S C (As := [rA G (o1 + 20), rA G (o0 + 20)]) (st2 := []) (ct_X8_copied l G sh xs 8 (o1 + 20) (isM_can h1) (o0 + 20) (isM_can h0) q7 q9 e10) (cl_X8_325 (hts_of C) ⟨Nat.le_of_ble_eq_true rfl, Nat.le_of_ble_eq_true rfl⟩ rfl rfl) rfl rfl (Nat.le_of_ble_eq_true rfl) (dkAt dkX8_takeFrom 27 (q := (57, .invokestatic 325, 3)) rfl) ⟨Nat.zero_le _, Nat.zero_le _⟩ (pc2 := 60) rfl rfl ?_
  refine k_aload_n C (pc2 := 61) (dkAt dkX8_takeFrom 28 (q := (60, .aload_n 1, 1)) rfl) rfl rfl 1 rfl ?_
  refine kf_X8_53 C (pc2 := 64) (o := o1) (o2 := o1 + 21) h1.1 rfl (dkAt dkX8_takeFrom 29 (q := (61, .getfield 53, 3)) rfl) rfl ?_
  refine k_aload_n C (pc2 := 65) (dkAt dkX8_takeFrom 30 (q := (64, .aload_n 0, 1)) rfl) rfl rfl 0 rfl ?_
  refine kf_X8_53 C (pc2 := 68) (o := o0) (o2 := o0 + 21) h0.1 rfl (dkAt dkX8_takeFrom 31 (q := (65, .getfield 53, 3)) rfl) rfl ?_
  obtain ⟨q11, e12, h⟩ := ob_inv h
  refine kc_S C (As := [rA G (o1 + 21), rA G (o0 + 21)]) (st2 := []) (ct_X8_copied l G sh xs 8 (o1 + 21) (isM_left h1) (o0 + 21) (isM_left h0) q9 q11 e12) (cl_X8_325 (hts_of C) ⟨Nat.le_of_ble_eq_true rfl, Nat.le_of_ble_eq_true rfl⟩ rfl rfl) rfl rfl (Nat.le_of_ble_eq_true rfl) (dkAt dkX8_takeFrom 32 (q := (68, .invokestatic 325, 3)) rfl) ⟨Nat.zero_le _, Nat.zero_le _⟩ (pc2 := 71) rfl rfl ?_
  refine k_aload_n C (pc2 := 72) (dkAt dkX8_takeFrom 33 (q := (71, .aload_n 1, 1)) rfl) rfl rfl 1 rfl ?_
  refine kf_X8_56 C (pc2 := 75) (o := o1) (o2 := o1 + 22) h1.1 rfl (dkAt dkX8_takeFrom 34 (q := (72, .getfield 56, 3)) rfl) rfl ?_
  refine k_aload_n C (pc2 := 76) (dkAt dkX8_takeFrom 35 (q := (75, .aload_n 0, 1)) rfl) rfl rfl 0 rfl ?_
  refine kf_X8_56 C (pc2 := 79) (o := o0) (o2 := o0 + 22) h0.1 rfl (dkAt dkX8_takeFrom 36 (q := (76, .getfield 56, 3)) rfl) rfl ?_
  obtain ⟨q13, e14, h⟩ := ob_inv h
  refine kc_S C (As := [rA G (o1 + 22), rA G (o0 + 22)]) (st2 := []) (ct_X8_copied l G sh xs 3 (o1 + 22) (isM_asked h1) (o0 + 22) (isM_asked h0) q11 q13 e14) (cl_X8_325 (hts_of C) ⟨Nat.le_of_ble_eq_true rfl, Nat.le_of_ble_eq_true rfl⟩ rfl rfl) rfl rfl (Nat.le_of_ble_eq_true rfl) (dkAt dkX8_takeFrom 37 (q := (79, .invokestatic 325, 3)) rfl) ⟨Nat.zero_le _, Nat.zero_le _⟩ (pc2 := 82) rfl rfl ?_
  refine k_aload_n C (pc2 := 83) (dkAt dkX8_takeFrom 38 (q := (82, .aload_n 0, 1)) rfl) rfl rfl 0 rfl ?_
  refine k_aload_n C (pc2 := 84) (dkAt dkX8_takeFrom 39 (q := (83, .aload_n 1, 1)) rfl) rfl rfl 1 rfl ?_
  refine kf_X8_351 C (pc2 := 87) (o := o1) (o2 := 0) h1.1 (dkAt dkX8_takeFrom 40 (q := (84, .getfield 351, 3)) rfl) rfl ?_
  refine kp_X8_351 C (pc2 := 90) (o := o0) h0.1 (dkAt dkX8_takeFrom 41 (q := (87, .putfield 351, 3)) rfl) rfl h (fun M15 h => ?_)
  refine k_aload_n C (pc2 := 91) (dkAt dkX8_takeFrom 42 (q := (90, .aload_n 0, 1)) rfl) rfl rfl 0 rfl ?_
  refine k_aload_n C (pc2 := 92) (dkAt dkX8_takeFrom 43 (q := (91, .aload_n 1, 1)) rfl) rfl rfl 1 rfl ?_
  refine kf_X8_59 C (pc2 := 95) (o := o1) (o2 := 0) h1.1 (dkAt dkX8_takeFrom 44 (q := (92, .getfield 59, 3)) rfl) rfl ?_
  refine kp_X8_59 C (pc2 := 98) (o := o0) h0.1 (dkAt dkX8_takeFrom 45 (q := (95, .putfield 59, 3)) rfl) rfl h (fun M16 h => ?_)
  exact k_vret C (dkAt dkX8_takeFrom 46 (q := (98, .return_, 1)) rfl) rfl (Option.some.inj h) rfl
set_option maxRecDepth 100000 in
set_option maxHeartbeats 4000000 in
theorem ct_X8_personOf (l : Launch) (G : GG) (sh : Sh) (xs : List va_E) (o0 : Nat) (h0 : isM sh o0) (x1 : Int32) (x2 : Int32) (M : Mm) (r : Mm × Int32) (h : f_X8_personOf o0 x1 x2 M = some r) : Ct l yX8_personOf cX8_personOf 3 (some .int) rm_X8_personOf G [rA G o0, .int x1, .int x2] sh M xs (some (.int r.2)) sh r.1 xs 0 0 := by
  refine ct_of (by decide) (Nat.le_of_ble_eq_true rfl) ?_
  intro p e s m args below meth c hnm C
  refine k_lv [0, 1, 2] (lv2 := [(0, rA G o0), (1, .int x1), (2, .int x2)]) rfl ?_
  unfold f_X8_personOf at h
  refine k_aload_n C (pc2 := 1) (dkAt dkX8_personOf 0 (q := (0, .aload_n 0, 1)) rfl) rfl rfl 0 rfl ?_
  refine k_iload_n C (pc2 := 2) (dkAt dkX8_personOf 1 (q := (1, .iload_n 1, 1)) rfl) rfl rfl 1 rfl ?_
  obtain ⟨q1, e2, h⟩ := ob_inv h
  refine kc_V C (As := [.int x1]) (st2 := [.int q1]) (ct_X8_isOne l G sh xs o0 h0 x1 M q1 e2) (cl_X8_108 (hts_of C) ⟨Nat.le_of_ble_eq_true rfl, Nat.le_of_ble_eq_true rfl⟩ rfl rfl) h0.1 rfl rfl rfl rfl rfl (Nat.le_of_ble_eq_true rfl) (dkAt dkX8_personOf 2 (q := (2, .invokevirtual 108, 3)) rfl) ⟨Nat.zero_le _, Nat.zero_le _⟩ (pc2 := 5) rfl rfl ?_
  refine k_if_ne C (tgt := 15) (pc2 := 8) (dkAt dkX8_personOf 3 (q := (5, .ifCond .ne 10, 3)) rfl) (by decide) rfl h (fun h => ?_) (fun h => ?_)
  · refine k_iload_n C (pc2 := 16) (dkAt dkX8_personOf 8 (q := (15, .iload_n 2, 1)) rfl) rfl rfl 2 rfl ?_
    by_cases q3 : x2 = 0
    · rw [if_pos q3] at h
      refine k_swc C (tgt := 52) (off := 36) (dkAt dkX8_personOf 9 (q := (16, .tableswitch 71 0 4 #[36, 43, 50, 57, 64], 36)) rfl) q3 (by decide) (by decide) ?_
      refine k_aload_n C (pc2 := 53) (dkAt dkX8_personOf 10 (q := (52, .aload_n 0, 1)) rfl) rfl rfl 0 rfl ?_
      refine kf_X8_41 C (pc2 := 56) (o := o0) (o2 := o0 + 17) h0.1 rfl (dkAt dkX8_personOf 11 (q := (53, .getfield 41, 3)) rfl) rfl ?_
      refine k_iload_n C (pc2 := 57) (dkAt dkX8_personOf 12 (q := (56, .iload_n 1, 1)) rfl) rfl rfl 1 rfl ?_
      refine k_iald C (pc2 := 58) (o := o0 + 17) (nA := 8) (isM_kind h0) (dkAt dkX8_personOf 13 (q := (57, .iaload, 1)) rfl) rfl h (fun h => ?_)
      exact k_iret C (dkAt dkX8_personOf 14 (q := (58, .ireturn, 1)) rfl) (pe2 (Option.some.inj h)) rfl (pe1 (Option.some.inj h)) rfl
    rw [if_neg q3] at h
    by_cases q4 : x2 = 1
    · rw [if_pos q4] at h
      refine k_swc C (tgt := 59) (off := 43) (dkAt dkX8_personOf 9 (q := (16, .tableswitch 71 0 4 #[36, 43, 50, 57, 64], 36)) rfl) q4 (by decide) (by decide) ?_
      refine k_aload_n C (pc2 := 60) (dkAt dkX8_personOf 15 (q := (59, .aload_n 0, 1)) rfl) rfl rfl 0 rfl ?_
      refine kf_X8_44 C (pc2 := 63) (o := o0) (o2 := o0 + 18) h0.1 rfl (dkAt dkX8_personOf 16 (q := (60, .getfield 44, 3)) rfl) rfl ?_
      refine k_iload_n C (pc2 := 64) (dkAt dkX8_personOf 17 (q := (63, .iload_n 1, 1)) rfl) rfl rfl 1 rfl ?_
      refine k_iald C (pc2 := 65) (o := o0 + 18) (nA := 8) (isM_by h0) (dkAt dkX8_personOf 18 (q := (64, .iaload, 1)) rfl) rfl h (fun h => ?_)
      exact k_iret C (dkAt dkX8_personOf 19 (q := (65, .ireturn, 1)) rfl) (pe2 (Option.some.inj h)) rfl (pe1 (Option.some.inj h)) rfl
    rw [if_neg q4] at h
    by_cases q5 : x2 = 2
    · rw [if_pos q5] at h
      refine k_swc C (tgt := 66) (off := 50) (dkAt dkX8_personOf 9 (q := (16, .tableswitch 71 0 4 #[36, 43, 50, 57, 64], 36)) rfl) q5 (by decide) (by decide) ?_
      refine k_aload_n C (pc2 := 67) (dkAt dkX8_personOf 20 (q := (66, .aload_n 0, 1)) rfl) rfl rfl 0 rfl ?_
      refine kf_X8_47 C (pc2 := 70) (o := o0) (o2 := o0 + 19) h0.1 rfl (dkAt dkX8_personOf 21 (q := (67, .getfield 47, 3)) rfl) rfl ?_
      refine k_iload_n C (pc2 := 71) (dkAt dkX8_personOf 22 (q := (70, .iload_n 1, 1)) rfl) rfl rfl 1 rfl ?_
      refine k_iald C (pc2 := 72) (o := o0 + 19) (nA := 8) (isM_likely h0) (dkAt dkX8_personOf 23 (q := (71, .iaload, 1)) rfl) rfl h (fun h => ?_)
      exact k_iret C (dkAt dkX8_personOf 24 (q := (72, .ireturn, 1)) rfl) (pe2 (Option.some.inj h)) rfl (pe1 (Option.some.inj h)) rfl
    rw [if_neg q5] at h
    by_cases q6 : x2 = 3
    · rw [if_pos q6] at h
      refine k_swc C (tgt := 73) (off := 57) (dkAt dkX8_personOf 9 (q := (16, .tableswitch 71 0 4 #[36, 43, 50, 57, 64], 36)) rfl) q6 (by decide) (by decide) ?_
      refine k_aload_n C (pc2 := 74) (dkAt dkX8_personOf 25 (q := (73, .aload_n 0, 1)) rfl) rfl rfl 0 rfl ?_
      refine kf_X8_50 C (pc2 := 77) (o := o0) (o2 := o0 + 20) h0.1 rfl (dkAt dkX8_personOf 26 (q := (74, .getfield 50, 3)) rfl) rfl ?_
      refine k_iload_n C (pc2 := 78) (dkAt dkX8_personOf 27 (q := (77, .iload_n 1, 1)) rfl) rfl rfl 1 rfl ?_
      refine k_iald C (pc2 := 79) (o := o0 + 20) (nA := 8) (isM_can h0) (dkAt dkX8_personOf 28 (q := (78, .iaload, 1)) rfl) rfl h (fun h => ?_)
      exact k_iret C (dkAt dkX8_personOf 29 (q := (79, .ireturn, 1)) rfl) (pe2 (Option.some.inj h)) rfl (pe1 (Option.some.inj h)) rfl
    rw [if_neg q6] at h
    by_cases q7 : x2 = 4
    · rw [if_pos q7] at h
      refine k_swc C (tgt := 80) (off := 64) (dkAt dkX8_personOf 9 (q := (16, .tableswitch 71 0 4 #[36, 43, 50, 57, 64], 36)) rfl) q7 (by decide) (by decide) ?_
      refine k_aload_n C (pc2 := 81) (dkAt dkX8_personOf 30 (q := (80, .aload_n 0, 1)) rfl) rfl rfl 0 rfl ?_
      refine kf_X8_53 C (pc2 := 84) (o := o0) (o2 := o0 + 21) h0.1 rfl (dkAt dkX8_personOf 31 (q := (81, .getfield 53, 3)) rfl) rfl ?_
      refine k_iload_n C (pc2 := 85) (dkAt dkX8_personOf 32 (q := (84, .iload_n 1, 1)) rfl) rfl rfl 1 rfl ?_
      refine k_iald C (pc2 := 86) (o := o0 + 21) (nA := 8) (isM_left h0) (dkAt dkX8_personOf 33 (q := (85, .iaload, 1)) rfl) rfl h (fun h => ?_)
      exact k_iret C (dkAt dkX8_personOf 34 (q := (86, .ireturn, 1)) rfl) (pe2 (Option.some.inj h)) rfl (pe1 (Option.some.inj h)) rfl
    rw [if_neg q7] at h
    have zq3 := ne_toInt q3
    have zq4 := ne_toInt q4
    have zq5 := ne_toInt q5
    have zq6 := ne_toInt q6
    have zq7 := ne_toInt q7
    refine k_swOut C (tgt := 87) (dkAt dkX8_personOf 9 (q := (16, .tableswitch 71 0 4 #[36, 43, 50, 57, 64], 36)) rfl) (by have w0 : (0 : Int32).toInt = 0 := (by decide); have w1 : (1 : Int32).toInt = 1 := (by decide); have w2 : (2 : Int32).toInt = 2 := (by decide); have w3 : (3 : Int32).toInt = 3 := (by decide); have w4 : (4 : Int32).toInt = 4 := (by decide); rw [w0] at zq3; rw [w1] at zq4; rw [w2] at zq5; rw [w3] at zq6; rw [w4] at zq7; omega) (by decide) ?_
    refine k_aload_n C (pc2 := 88) (dkAt dkX8_personOf 35 (q := (87, .aload_n 0, 1)) rfl) rfl rfl 0 rfl ?_
    refine k_bipush C (pc2 := 90) (dkAt dkX8_personOf 36 (q := (88, .bipush (-2), 2)) rfl) rfl (v := (-2)) rfl ?_
    obtain ⟨q8, e9, h⟩ := ob_inv h
    refine kc_V C (As := [.int (-2)]) (st2 := [.int q8.2]) (ct_X8_refuse l G sh xs o0 h0 (-2) M q8 e9) (cl_X8_97 (hts_of C) ⟨Nat.le_of_ble_eq_true rfl, Nat.le_of_ble_eq_true rfl⟩ rfl rfl) h0.1 rfl rfl rfl rfl rfl (Nat.le_of_ble_eq_true rfl) (dkAt dkX8_personOf 37 (q := (90, .invokevirtual 97, 3)) rfl) ⟨Nat.zero_le _, Nat.zero_le _⟩ (pc2 := 93) rfl rfl ?_
    exact k_iret C (dkAt dkX8_personOf 38 (q := (93, .ireturn, 1)) rfl) (pe2 (Option.some.inj h)) rfl (pe1 (Option.some.inj h)) rfl
  · refine k_aload_n C (pc2 := 9) (dkAt dkX8_personOf 4 (q := (8, .aload_n 0, 1)) rfl) rfl rfl 0 rfl ?_
    refine k_bipush C (pc2 := 11) (dkAt dkX8_personOf 5 (q := (9, .bipush (-2), 2)) rfl) rfl (v := (-2)) rfl ?_
    obtain ⟨q10, e11, h⟩ := ob_inv h
    refine kc_V C (As := [.int (-2)]) (st2 := [.int q10.2]) (ct_X8_refuse l G sh xs o0 h0 (-2) M q10 e11) (cl_X8_97 (hts_of C) ⟨Nat.le_of_ble_eq_true rfl, Nat.le_of_ble_eq_true rfl⟩ rfl rfl) h0.1 rfl rfl rfl rfl rfl (Nat.le_of_ble_eq_true rfl) (dkAt dkX8_personOf 6 (q := (11, .invokevirtual 97, 3)) rfl) ⟨Nat.zero_le _, Nat.zero_le _⟩ (pc2 := 14) rfl rfl ?_
    exact k_iret C (dkAt dkX8_personOf 7 (q := (14, .ireturn, 1)) rfl) (pe2 (Option.some.inj h)) rfl (pe1 (Option.some.inj h)) rfl
set_option maxRecDepth 100000 in
set_option maxHeartbeats 4000000 in
theorem kl_X8_mostYes_L4 {p : Program} {l : Launch} {e : Env} {s : State} {m : MethodId} {args : Array Value} {below : List Frame} {meth : Method} {c : Code} {G : GG} {sh : Sh} {xs : List va_E} {Q : State → Prop} (C : Cx p s m c args meth G RX8 cX8_mostYes 3 (some .int)) (o0 : Nat) (h0 : isM sh o0) (M : Mm) (y1 : Int32) (hcont : KW p l e rm_X8_mostYes s m args below meth c G 3 Q sh xs 0 0 M 39 [(1, .int y1)] []) : ∀ (n : Nat) (x1 : Int32) (x2 : Int32), f_X8_mostYes_L4 o0 M n x1 x2 = some y1 → KW p l e rm_X8_mostYes s m args below meth c G 3 Q sh xs 0 0 M 4 [(0, rA G o0), (1, .int x1), (2, .int x2)] [] := by
  intro n
  induction n with
  | zero =>
    intro x1 x2 h
    cases h
  | succ n ih =>
    intro x1 x2 h
    unfold f_X8_mostYes_L4 at h
    refine k_iload_n C (pc2 := 5) (dkAt dkX8_mostYes 4 (q := (4, .iload_n 2, 1)) rfl) rfl rfl 2 rfl ?_
    refine k_aload_n C (pc2 := 6) (dkAt dkX8_mostYes 5 (q := (5, .aload_n 0, 1)) rfl) rfl rfl 0 rfl ?_
    refine kf_X8_37 C (pc2 := 9) (o := o0) (o2 := 0) h0.1 (dkAt dkX8_mostYes 6 (q := (6, .getfield 37, 3)) rfl) rfl ?_
    refine k_icmp_ge C (tgt := 39) (pc2 := 12) (dkAt dkX8_mostYes 7 (q := (9, .if_icmp .ge 30, 3)) rfl) (by decide) rfl h (fun h => ?_) (fun h => ?_)
    · refine k_lv [1] (lv2 := [(1, .int x1)]) rfl ?_
      cases h
      exact hcont
    · refine k_aload_n C (pc2 := 13) (dkAt dkX8_mostYes 8 (q := (12, .aload_n 0, 1)) rfl) rfl rfl 0 rfl ?_
      refine kf_X8_70 C (pc2 := 16) (o := o0) (o2 := o0 + 33) h0.1 rfl (dkAt dkX8_mostYes 9 (q := (13, .getfield 70, 3)) rfl) rfl ?_
      refine k_iload_n C (pc2 := 17) (dkAt dkX8_mostYes 10 (q := (16, .iload_n 2, 1)) rfl) rfl rfl 2 rfl ?_
      refine k_iald C (pc2 := 18) (o := o0 + 33) (nA := 14) (isM_yes h0) (dkAt dkX8_mostYes 11 (q := (17, .iaload, 1)) rfl) rfl h (fun h => ?_)
      refine k_aload_n C (pc2 := 19) (dkAt dkX8_mostYes 12 (q := (18, .aload_n 0, 1)) rfl) rfl rfl 0 rfl ?_
      refine kf_X8_70 C (pc2 := 22) (o := o0) (o2 := o0 + 33) h0.1 rfl (dkAt dkX8_mostYes 13 (q := (19, .getfield 70, 3)) rfl) rfl ?_
      refine k_iload_n C (pc2 := 23) (dkAt dkX8_mostYes 14 (q := (22, .iload_n 1, 1)) rfl) rfl rfl 1 rfl ?_
      refine k_iald C (pc2 := 24) (o := o0 + 33) (nA := 14) (isM_yes h0) (dkAt dkX8_mostYes 15 (q := (23, .iaload, 1)) rfl) rfl h (fun h => ?_)
      refine k_icmp_le C (tgt := 31) (pc2 := 27) (dkAt dkX8_mostYes 16 (q := (24, .if_icmp .le 7, 3)) rfl) (by decide) rfl h (fun h => ?_) (fun h => ?_)
      · refine k_iload_n C (pc2 := 32) (dkAt dkX8_mostYes 19 (q := (31, .iload_n 1, 1)) rfl) rfl rfl 1 rfl ?_
        refine k_istore_n C (pc2 := 33) (dkAt dkX8_mostYes 20 (q := (32, .istore_n 1, 1)) rfl) rfl rfl (by decide) (lv2 := [(1, .int x1), (0, rA G o0), (2, .int x2)]) rfl ?_
        refine kb_iinc C (pc2 := 36) (dkAt dkX8_mostYes 21 (q := (33, .iinc 2 1, 3)) rfl) rfl (j := 2) rfl (v := x2 + 1) rfl (by decide) (lv2 := fun v1 => [(2, .int v1), (1, .int x1), (0, rA G o0)]) (fun _ => rfl) h (fun v1 h => ?_)
        refine k_goto C (tgt := 4) (dkAt dkX8_mostYes 22 (q := (36, .goto (-32), 3)) rfl) (by decide) ?_
        refine k_lv [2, 1, 0] (lv2 := [(0, rA G o0), (1, .int x1), (2, .int v1)]) rfl ?_
        exact ih x1 v1 h
      · refine k_iload_n C (pc2 := 28) (dkAt dkX8_mostYes 17 (q := (27, .iload_n 2, 1)) rfl) rfl rfl 2 rfl ?_
        refine k_goto C (tgt := 32) (dkAt dkX8_mostYes 18 (q := (28, .goto 4, 3)) rfl) (by decide) ?_
        refine k_istore_n C (pc2 := 33) (dkAt dkX8_mostYes 20 (q := (32, .istore_n 1, 1)) rfl) rfl rfl (by decide) (lv2 := [(1, .int x2), (0, rA G o0), (2, .int x2)]) rfl ?_
        refine kb_iinc C (pc2 := 36) (dkAt dkX8_mostYes 21 (q := (33, .iinc 2 1, 3)) rfl) rfl (j := 2) rfl (v := x2 + 1) rfl (by decide) (lv2 := fun v2 => [(2, .int v2), (1, .int x2), (0, rA G o0)]) (fun _ => rfl) h (fun v2 h => ?_)
        refine k_goto C (tgt := 4) (dkAt dkX8_mostYes 22 (q := (36, .goto (-32), 3)) rfl) (by decide) ?_
        refine k_lv [2, 1, 0] (lv2 := [(0, rA G o0), (1, .int x2), (2, .int v2)]) rfl ?_
        exact ih x2 v2 h
set_option maxRecDepth 100000 in
set_option maxHeartbeats 4000000 in
theorem ct_X8_mostYes (l : Launch) (G : GG) (sh : Sh) (xs : List va_E) (o0 : Nat) (h0 : isM sh o0) (M : Mm) (r : Int32) (h : f_X8_mostYes o0 M = some r) : Ct l yX8_mostYes cX8_mostYes 3 (some .int) rm_X8_mostYes G [rA G o0] sh M xs (some (.int r)) sh M xs 0 0 := by
  refine ct_of (by decide) (Nat.le_of_ble_eq_true rfl) ?_
  intro p e s m args below meth c hnm C
  refine k_lv [0] (lv2 := [(0, rA G o0)]) rfl ?_
  unfold f_X8_mostYes at h
  refine k_iconst C (pc2 := 1) (dkAt dkX8_mostYes 0 (q := (0, .iconst 0, 1)) rfl) rfl (v := 0) rfl ?_
  refine k_istore_n C (pc2 := 2) (dkAt dkX8_mostYes 1 (q := (1, .istore_n 1, 1)) rfl) rfl rfl (by decide) (lv2 := [(1, .int 0), (0, rA G o0)]) rfl ?_
  refine k_iconst C (pc2 := 3) (dkAt dkX8_mostYes 2 (q := (2, .iconst 1, 1)) rfl) rfl (v := 1) rfl ?_
  refine k_istore_n C (pc2 := 4) (dkAt dkX8_mostYes 3 (q := (3, .istore_n 2, 1)) rfl) rfl rfl (by decide) (lv2 := [(2, .int 1), (1, .int 0), (0, rA G o0)]) rfl ?_
  refine k_lv [2, 1, 0] (lv2 := [(0, rA G o0), (1, .int 0), (2, .int 1)]) rfl ?_
  obtain ⟨v5, e4, h⟩ := ob_inv h
  refine kl_X8_mostYes_L4 C o0 h0 M v5 ?_ 1000 0 1 e4
  refine k_iload_n C (pc2 := 40) (dkAt dkX8_mostYes 23 (q := (39, .iload_n 1, 1)) rfl) rfl rfl 0 rfl ?_
  exact k_iret C (dkAt dkX8_mostYes 24 (q := (40, .ireturn, 1)) rfl) (Option.some.inj h) rfl rfl rfl
