set_option maxRecDepth 100000 in
set_option maxHeartbeats 4000000 in
theorem ct_X7_element (l : Launch) (G : GG) (sh : Sh) (xs : List va_E) (hX : isX sh) (x1 : Int32) (x2 : Int32) (M : Mm) (r : Int64) (h : f_X7_element x1 x2 M = some r) : Ct l yX7_element cX7_element 3 (some .long) rm_X7_element G [rA G 0, .int x1, .int x2] sh M xs (some (.long r)) sh M xs 0 0 := by
  refine ct_of (by decide) (Nat.le_of_ble_eq_true rfl) ?_
  intro p e s m args below meth c hnm C
  refine k_lv [0, 1, 2] (lv2 := [(0, rA G 0), (1, .int x1), (2, .int x2)]) rfl ?_
  unfold f_X7_element at h
  refine k_iload_n C (pc2 := 1) (dkAt dkX7_element 0 (q := (0, .iload_n 1, 1)) rfl) rfl rfl 1 rfl ?_
  obtain ⟨q1, e2, h⟩ := ob_inv h
  refine kc_S C (As := [.int x1]) (st2 := [.int q1]) (ct_X7_isShelf l G sh xs x1 M q1 e2) (cl_X7_54 (hts_of C) ⟨Nat.le_of_ble_eq_true rfl, Nat.le_of_ble_eq_true rfl⟩ rfl rfl) rfl rfl (Nat.le_of_ble_eq_true rfl) (dkAt dkX7_element 1 (q := (1, .invokestatic 54, 3)) rfl) ⟨Nat.zero_le _, Nat.zero_le _⟩ (pc2 := 4) rfl rfl ?_
  refine k_if_eq C (tgt := 19) (pc2 := 7) (dkAt dkX7_element 2 (q := (4, .ifCond .eq 15, 3)) rfl) (by decide) rfl h (fun h => ?_) (fun h => ?_)
  · refine k_lconst C (pc2 := 20) (dkAt dkX7_element 9 (q := (19, .lconst 0, 1)) rfl) rfl (v := 0) rfl ?_
    exact k_lret C (dkAt dkX7_element 10 (q := (20, .lreturn, 1)) rfl) (Option.some.inj h) rfl rfl rfl
  · refine k_aload_n C (pc2 := 8) (dkAt dkX7_element 3 (q := (7, .aload_n 0, 1)) rfl) rfl rfl 0 rfl ?_
    refine kf_X7_42 C (pc2 := 11) (o := 0) (o2 := 50) hX.1 rfl (dkAt dkX7_element 4 (q := (8, .getfield 42, 3)) rfl) rfl ?_
    refine k_iload_n C (pc2 := 12) (dkAt dkX7_element 5 (q := (11, .iload_n 1, 1)) rfl) rfl rfl 1 rfl ?_
    refine k_aa12 C (pc2 := 13) (o := 50) (o2 := 53 + 2 * x1.toNatClampNeg) (nA := 8) hX.2.2.2.2.2.2.1 rfl (dkAt dkX7_element 6 (q := (12, .aaload, 1)) rfl) rfl h (fun h hl3 => ?_)
    obtain ⟨q4, e5, h⟩ := ob_inv h
    refine kc_V C (As := []) (st2 := [.int q4]) (ct_X4_holdsRow l G sh xs (53 + 2 * x1.toNatClampNeg) (hX.2.2.2.2.2.2.2.2.2 _ hl3) M q4 e5) (cl_X7_98 (hts_of C) ⟨Nat.le_of_ble_eq_true rfl, Nat.le_of_ble_eq_true rfl⟩ rfl rfl) ((hX.2.2.2.2.2.2.2.2.2 _ hl3).1) rfl rfl rfl rfl rfl (Nat.le_of_ble_eq_true rfl) (dkAt dkX7_element 7 (q := (13, .invokevirtual 98, 3)) rfl) ⟨Nat.zero_le _, Nat.zero_le _⟩ (pc2 := 16) rfl rfl ?_
    refine k_if_ne C (tgt := 21) (pc2 := 19) (dkAt dkX7_element 8 (q := (16, .ifCond .ne 5, 3)) rfl) (by decide) rfl h (fun h => ?_) (fun h => ?_)
    · refine k_aload_n C (pc2 := 22) (dkAt dkX7_element 11 (q := (21, .aload_n 0, 1)) rfl) rfl rfl 0 rfl ?_
      refine kf_X7_42 C (pc2 := 25) (o := 0) (o2 := 50) hX.1 rfl (dkAt dkX7_element 12 (q := (22, .getfield 42, 3)) rfl) rfl ?_
      refine k_iload_n C (pc2 := 26) (dkAt dkX7_element 13 (q := (25, .iload_n 1, 1)) rfl) rfl rfl 1 rfl ?_
      refine k_aa12 C (pc2 := 27) (o := 50) (o2 := 53 + 2 * x1.toNatClampNeg) (nA := 8) hX.2.2.2.2.2.2.1 rfl (dkAt dkX7_element 14 (q := (26, .aaload, 1)) rfl) rfl h (fun h hl6 => ?_)
      refine k_iload_n C (pc2 := 28) (dkAt dkX7_element 15 (q := (27, .iload_n 2, 1)) rfl) rfl rfl 2 rfl ?_
      obtain ⟨q7, e8, h⟩ := ob_inv h
      refine kc_V C (As := [.int x2]) (st2 := [.long q7]) (ct_X4_elementAt l G sh xs (53 + 2 * x1.toNatClampNeg) (hX.2.2.2.2.2.2.2.2.2 _ hl6) x2 M q7 e8) (cl_X7_101 (hts_of C) ⟨Nat.le_of_ble_eq_true rfl, Nat.le_of_ble_eq_true rfl⟩ rfl rfl) ((hX.2.2.2.2.2.2.2.2.2 _ hl6).1) rfl rfl rfl rfl rfl (Nat.le_of_ble_eq_true rfl) (dkAt dkX7_element 16 (q := (28, .invokevirtual 101, 3)) rfl) ⟨Nat.zero_le _, Nat.zero_le _⟩ (pc2 := 31) rfl rfl ?_
      exact k_lret C (dkAt dkX7_element 17 (q := (31, .lreturn, 1)) rfl) (Option.some.inj h) rfl rfl rfl
    · refine k_lconst C (pc2 := 20) (dkAt dkX7_element 9 (q := (19, .lconst 0, 1)) rfl) rfl (v := 0) rfl ?_
      exact k_lret C (dkAt dkX7_element 10 (q := (20, .lreturn, 1)) rfl) (Option.some.inj h) rfl rfl rfl
set_option maxRecDepth 100000 in
set_option maxHeartbeats 4000000 in
theorem ct_X7_holds (l : Launch) (G : GG) (sh : Sh) (xs : List va_E) (hX : isX sh) (x1 : Int32) (M : Mm) (r : Int32) (h : f_X7_holds x1 M = some r) : Ct l yX7_holds cX7_holds 2 (some .int) rm_X7_holds G [rA G 0, .int x1] sh M xs (some (.int r)) sh M xs 0 0 := by
  refine ct_of (by decide) (Nat.le_of_ble_eq_true rfl) ?_
  intro p e s m args below meth c hnm C
  refine k_lv [0, 1] (lv2 := [(0, rA G 0), (1, .int x1)]) rfl ?_
  unfold f_X7_holds at h
  refine k_iload_n C (pc2 := 1) (dkAt dkX7_holds 0 (q := (0, .iload_n 1, 1)) rfl) rfl rfl 1 rfl ?_
  obtain ⟨q1, e2, h⟩ := ob_inv h
  refine kc_S C (As := [.int x1]) (st2 := [.int q1]) (ct_X7_isShelf l G sh xs x1 M q1 e2) (cl_X7_54 (hts_of C) ⟨Nat.le_of_ble_eq_true rfl, Nat.le_of_ble_eq_true rfl⟩ rfl rfl) rfl rfl (Nat.le_of_ble_eq_true rfl) (dkAt dkX7_holds 1 (q := (1, .invokestatic 54, 3)) rfl) ⟨Nat.zero_le _, Nat.zero_le _⟩ (pc2 := 4) rfl rfl ?_
  refine k_if_eq C (tgt := 19) (pc2 := 7) (dkAt dkX7_holds 2 (q := (4, .ifCond .eq 15, 3)) rfl) (by decide) rfl h (fun h => ?_) (fun h => ?_)
  · refine k_iconst C (pc2 := 20) (dkAt dkX7_holds 9 (q := (19, .iconst (-1), 1)) rfl) rfl (v := (-1)) rfl ?_
    exact k_iret C (dkAt dkX7_holds 10 (q := (20, .ireturn, 1)) rfl) (Option.some.inj h) rfl rfl rfl
  · refine k_aload_n C (pc2 := 8) (dkAt dkX7_holds 3 (q := (7, .aload_n 0, 1)) rfl) rfl rfl 0 rfl ?_
    refine kf_X7_42 C (pc2 := 11) (o := 0) (o2 := 50) hX.1 rfl (dkAt dkX7_holds 4 (q := (8, .getfield 42, 3)) rfl) rfl ?_
    refine k_iload_n C (pc2 := 12) (dkAt dkX7_holds 5 (q := (11, .iload_n 1, 1)) rfl) rfl rfl 1 rfl ?_
    refine k_aa12 C (pc2 := 13) (o := 50) (o2 := 53 + 2 * x1.toNatClampNeg) (nA := 8) hX.2.2.2.2.2.2.1 rfl (dkAt dkX7_holds 6 (q := (12, .aaload, 1)) rfl) rfl h (fun h hl3 => ?_)
    refine kf_X7_81 C (pc2 := 16) (o := 53 + 2 * x1.toNatClampNeg) (o2 := 0) ((hX.2.2.2.2.2.2.2.2.2 _ hl3).1) (dkAt dkX7_holds 7 (q := (13, .getfield 81, 3)) rfl) rfl ?_
    refine k_goto C (tgt := 20) (dkAt dkX7_holds 8 (q := (16, .goto 4, 3)) rfl) (by decide) ?_
    exact k_iret C (dkAt dkX7_holds 10 (q := (20, .ireturn, 1)) rfl) (Option.some.inj h) rfl rfl rfl
set_option maxRecDepth 100000 in
set_option maxHeartbeats 4000000 in
theorem ct_X7_show (l : Launch) (G : GG) (sh : Sh) (xs : List va_E) (hX : isX sh) (x1 : Int32) (x2 : Int32) (M : Mm) (r : Mm × Int32) (h : f_X7_show x1 x2 M = some r) : Ct l yX7_show cX7_show 3 (some .int) rm_X7_show G [rA G 0, .int x1, .int x2] sh M xs (some (.int r.2)) sh r.1 xs 0 0 := by
  refine ct_of (by decide) (Nat.le_of_ble_eq_true rfl) ?_
  intro p e s m args below meth c hnm C
  refine k_lv [0, 1, 2] (lv2 := [(0, rA G 0), (1, .int x1), (2, .int x2)]) rfl ?_
  unfold f_X7_show at h
  refine k_iload_n C (pc2 := 1) (dkAt dkX7_show 0 (q := (0, .iload_n 1, 1)) rfl) rfl rfl 1 rfl ?_
  obtain ⟨q1, e2, h⟩ := ob_inv h
  refine kc_S C (As := [.int x1]) (st2 := [.int q1]) (ct_X7_isShelf l G sh xs x1 M q1 e2) (cl_X7_54 (hts_of C) ⟨Nat.le_of_ble_eq_true rfl, Nat.le_of_ble_eq_true rfl⟩ rfl rfl) rfl rfl (Nat.le_of_ble_eq_true rfl) (dkAt dkX7_show 1 (q := (1, .invokestatic 54, 3)) rfl) ⟨Nat.zero_le _, Nat.zero_le _⟩ (pc2 := 4) rfl rfl ?_
  refine k_if_eq C (tgt := 23) (pc2 := 7) (dkAt dkX7_show 2 (q := (4, .ifCond .eq 19, 3)) rfl) (by decide) rfl h (fun h => ?_) (fun h => ?_)
  · refine k_aload_n C (pc2 := 24) (dkAt dkX7_show 11 (q := (23, .aload_n 0, 1)) rfl) rfl rfl 0 rfl ?_
    refine k_bipush C (pc2 := 26) (dkAt dkX7_show 12 (q := (24, .bipush (-2), 2)) rfl) rfl (v := (-2)) rfl ?_
    obtain ⟨q3, e4, h⟩ := ob_inv h
    refine kc_V C (As := [.int (-2)]) (st2 := [.int q3.2]) (ct_X7_refuse l G sh xs hX (-2) M q3 e4) (cl_X7_62 (hts_of C) ⟨Nat.le_of_ble_eq_true rfl, Nat.le_of_ble_eq_true rfl⟩ rfl rfl) hX.1 rfl rfl rfl rfl rfl (Nat.le_of_ble_eq_true rfl) (dkAt dkX7_show 13 (q := (26, .invokevirtual 62, 3)) rfl) ⟨Nat.zero_le _, Nat.zero_le _⟩ (pc2 := 29) rfl rfl ?_
    exact k_iret C (dkAt dkX7_show 14 (q := (29, .ireturn, 1)) rfl) (pe2 (Option.some.inj h)) rfl (pe1 (Option.some.inj h)) rfl
  · refine k_iload_n C (pc2 := 8) (dkAt dkX7_show 3 (q := (7, .iload_n 2, 1)) rfl) rfl rfl 2 rfl ?_
    refine k_iconst C (pc2 := 9) (dkAt dkX7_show 4 (q := (8, .iconst (-1), 1)) rfl) rfl (v := (-1)) rfl ?_
    refine k_icmp_eq C (tgt := 30) (pc2 := 12) (dkAt dkX7_show 5 (q := (9, .if_icmp .eq 21, 3)) rfl) (by decide) rfl h (fun h => ?_) (fun h => ?_)
    · refine k_iload_n C (pc2 := 31) (dkAt dkX7_show 15 (q := (30, .iload_n 2, 1)) rfl) rfl rfl 2 rfl ?_
      refine k_iconst C (pc2 := 32) (dkAt dkX7_show 16 (q := (31, .iconst (-1), 1)) rfl) rfl (v := (-1)) rfl ?_
      refine k_icmp_ne C (tgt := 47) (pc2 := 35) (dkAt dkX7_show 17 (q := (32, .if_icmp .ne 15, 3)) rfl) (by decide) rfl h (fun h => ?_) (fun h => ?_)
      · refine k_aload_n C (pc2 := 48) (dkAt dkX7_show 24 (q := (47, .aload_n 0, 1)) rfl) rfl rfl 0 rfl ?_
        refine kf_X7_42 C (pc2 := 51) (o := 0) (o2 := 50) hX.1 rfl (dkAt dkX7_show 25 (q := (48, .getfield 42, 3)) rfl) rfl ?_
        refine k_iload_n C (pc2 := 52) (dkAt dkX7_show 26 (q := (51, .iload_n 1, 1)) rfl) rfl rfl 1 rfl ?_
        refine k_aa12 C (pc2 := 53) (o := 50) (o2 := 53 + 2 * x1.toNatClampNeg) (nA := 8) hX.2.2.2.2.2.2.1 rfl (dkAt dkX7_show 27 (q := (52, .aaload, 1)) rfl) rfl h (fun h hl5 => ?_)
        refine k_iload_n C (pc2 := 54) (dkAt dkX7_show 28 (q := (53, .iload_n 2, 1)) rfl) rfl rfl 2 rfl ?_
        obtain ⟨q6, e7, h⟩ := ob_inv h
        refine kc_V C (As := [.int x2]) (st2 := []) (ct_X4_holdPerson l G sh xs (53 + 2 * x1.toNatClampNeg) (hX.2.2.2.2.2.2.2.2.2 _ hl5) x2 M q6 e7) (cl_X7_111 (hts_of C) ⟨Nat.le_of_ble_eq_true rfl, Nat.le_of_ble_eq_true rfl⟩ rfl rfl) ((hX.2.2.2.2.2.2.2.2.2 _ hl5).1) rfl rfl rfl rfl rfl (Nat.le_of_ble_eq_true rfl) (dkAt dkX7_show 29 (q := (54, .invokevirtual 111, 3)) rfl) ⟨Nat.zero_le _, Nat.zero_le _⟩ (pc2 := 57) rfl rfl ?_
        refine k_iconst C (pc2 := 58) (dkAt dkX7_show 30 (q := (57, .iconst 1, 1)) rfl) rfl (v := 1) rfl ?_
        exact k_iret C (dkAt dkX7_show 31 (q := (58, .ireturn, 1)) rfl) (pe2 (Option.some.inj h)) rfl (pe1 (Option.some.inj h)) rfl
      · refine k_aload_n C (pc2 := 36) (dkAt dkX7_show 18 (q := (35, .aload_n 0, 1)) rfl) rfl rfl 0 rfl ?_
        refine kf_X7_42 C (pc2 := 39) (o := 0) (o2 := 50) hX.1 rfl (dkAt dkX7_show 19 (q := (36, .getfield 42, 3)) rfl) rfl ?_
        refine k_iload_n C (pc2 := 40) (dkAt dkX7_show 20 (q := (39, .iload_n 1, 1)) rfl) rfl rfl 1 rfl ?_
        refine k_aa12 C (pc2 := 41) (o := 50) (o2 := 53 + 2 * x1.toNatClampNeg) (nA := 8) hX.2.2.2.2.2.2.1 rfl (dkAt dkX7_show 21 (q := (40, .aaload, 1)) rfl) rfl h (fun h hl8 => ?_)
        obtain ⟨q9, e10, h⟩ := ob_inv h
        refine kc_V C (As := []) (st2 := []) (ct_X4_holdNothing l G sh xs (53 + 2 * x1.toNatClampNeg) (hX.2.2.2.2.2.2.2.2.2 _ hl8) M q9 e10) (cl_X7_108 (hts_of C) ⟨Nat.le_of_ble_eq_true rfl, Nat.le_of_ble_eq_true rfl⟩ rfl rfl) ((hX.2.2.2.2.2.2.2.2.2 _ hl8).1) rfl rfl rfl rfl rfl (Nat.le_of_ble_eq_true rfl) (dkAt dkX7_show 22 (q := (41, .invokevirtual 108, 3)) rfl) ⟨Nat.zero_le _, Nat.zero_le _⟩ (pc2 := 44) rfl rfl ?_
        refine k_goto C (tgt := 57) (dkAt dkX7_show 23 (q := (44, .goto 13, 3)) rfl) (by decide) ?_
        refine k_iconst C (pc2 := 58) (dkAt dkX7_show 30 (q := (57, .iconst 1, 1)) rfl) rfl (v := 1) rfl ?_
        exact k_iret C (dkAt dkX7_show 31 (q := (58, .ireturn, 1)) rfl) (pe2 (Option.some.inj h)) rfl (pe1 (Option.some.inj h)) rfl
    · refine k_aload_n C (pc2 := 13) (dkAt dkX7_show 6 (q := (12, .aload_n 0, 1)) rfl) rfl rfl 0 rfl ?_
      refine kf_X7_10 C (pc2 := 16) (o := 0) (o2 := 1) hX.1 rfl (dkAt dkX7_show 7 (q := (13, .getfield 10, 3)) rfl) rfl ?_
      refine k_iload_n C (pc2 := 17) (dkAt dkX7_show 8 (q := (16, .iload_n 2, 1)) rfl) rfl rfl 2 rfl ?_
      obtain ⟨q11, e12, h⟩ := ob_inv h
      refine kc_V C (As := [.int x2]) (st2 := [.int q11]) (ct_X1_hasPerson l G sh xs 1 hX.2.1 x2 M q11 e12) (cl_X7_105 (hts_of C) ⟨Nat.le_of_ble_eq_true rfl, Nat.le_of_ble_eq_true rfl⟩ rfl rfl) hX.2.1.1 rfl rfl rfl rfl rfl (Nat.le_of_ble_eq_true rfl) (dkAt dkX7_show 9 (q := (17, .invokevirtual 105, 3)) rfl) ⟨Nat.zero_le _, Nat.zero_le _⟩ (pc2 := 20) rfl rfl ?_
      refine k_if_ne C (tgt := 30) (pc2 := 23) (dkAt dkX7_show 10 (q := (20, .ifCond .ne 10, 3)) rfl) (by decide) rfl h (fun h => ?_) (fun h => ?_)
      · refine k_iload_n C (pc2 := 31) (dkAt dkX7_show 15 (q := (30, .iload_n 2, 1)) rfl) rfl rfl 2 rfl ?_
        refine k_iconst C (pc2 := 32) (dkAt dkX7_show 16 (q := (31, .iconst (-1), 1)) rfl) rfl (v := (-1)) rfl ?_
        refine k_icmp_ne C (tgt := 47) (pc2 := 35) (dkAt dkX7_show 17 (q := (32, .if_icmp .ne 15, 3)) rfl) (by decide) rfl h (fun h => ?_) (fun h => ?_)
        · refine k_aload_n C (pc2 := 48) (dkAt dkX7_show 24 (q := (47, .aload_n 0, 1)) rfl) rfl rfl 0 rfl ?_
          refine kf_X7_42 C (pc2 := 51) (o := 0) (o2 := 50) hX.1 rfl (dkAt dkX7_show 25 (q := (48, .getfield 42, 3)) rfl) rfl ?_
          refine k_iload_n C (pc2 := 52) (dkAt dkX7_show 26 (q := (51, .iload_n 1, 1)) rfl) rfl rfl 1 rfl ?_
          refine k_aa12 C (pc2 := 53) (o := 50) (o2 := 53 + 2 * x1.toNatClampNeg) (nA := 8) hX.2.2.2.2.2.2.1 rfl (dkAt dkX7_show 27 (q := (52, .aaload, 1)) rfl) rfl h (fun h hl13 => ?_)
          refine k_iload_n C (pc2 := 54) (dkAt dkX7_show 28 (q := (53, .iload_n 2, 1)) rfl) rfl rfl 2 rfl ?_
          obtain ⟨q14, e15, h⟩ := ob_inv h
          refine kc_V C (As := [.int x2]) (st2 := []) (ct_X4_holdPerson l G sh xs (53 + 2 * x1.toNatClampNeg) (hX.2.2.2.2.2.2.2.2.2 _ hl13) x2 M q14 e15) (cl_X7_111 (hts_of C) ⟨Nat.le_of_ble_eq_true rfl, Nat.le_of_ble_eq_true rfl⟩ rfl rfl) ((hX.2.2.2.2.2.2.2.2.2 _ hl13).1) rfl rfl rfl rfl rfl (Nat.le_of_ble_eq_true rfl) (dkAt dkX7_show 29 (q := (54, .invokevirtual 111, 3)) rfl) ⟨Nat.zero_le _, Nat.zero_le _⟩ (pc2 := 57) rfl rfl ?_
          refine k_iconst C (pc2 := 58) (dkAt dkX7_show 30 (q := (57, .iconst 1, 1)) rfl) rfl (v := 1) rfl ?_
          exact k_iret C (dkAt dkX7_show 31 (q := (58, .ireturn, 1)) rfl) (pe2 (Option.some.inj h)) rfl (pe1 (Option.some.inj h)) rfl
        · refine k_aload_n C (pc2 := 36) (dkAt dkX7_show 18 (q := (35, .aload_n 0, 1)) rfl) rfl rfl 0 rfl ?_
          refine kf_X7_42 C (pc2 := 39) (o := 0) (o2 := 50) hX.1 rfl (dkAt dkX7_show 19 (q := (36, .getfield 42, 3)) rfl) rfl ?_
          refine k_iload_n C (pc2 := 40) (dkAt dkX7_show 20 (q := (39, .iload_n 1, 1)) rfl) rfl rfl 1 rfl ?_
          refine k_aa12 C (pc2 := 41) (o := 50) (o2 := 53 + 2 * x1.toNatClampNeg) (nA := 8) hX.2.2.2.2.2.2.1 rfl (dkAt dkX7_show 21 (q := (40, .aaload, 1)) rfl) rfl h (fun h hl16 => ?_)
          obtain ⟨q17, e18, h⟩ := ob_inv h
          refine kc_V C (As := []) (st2 := []) (ct_X4_holdNothing l G sh xs (53 + 2 * x1.toNatClampNeg) (hX.2.2.2.2.2.2.2.2.2 _ hl16) M q17 e18) (cl_X7_108 (hts_of C) ⟨Nat.le_of_ble_eq_true rfl, Nat.le_of_ble_eq_true rfl⟩ rfl rfl) ((hX.2.2.2.2.2.2.2.2.2 _ hl16).1) rfl rfl rfl rfl rfl (Nat.le_of_ble_eq_true rfl) (dkAt dkX7_show 22 (q := (41, .invokevirtual 108, 3)) rfl) ⟨Nat.zero_le _, Nat.zero_le _⟩ (pc2 := 44) rfl rfl ?_
          refine k_goto C (tgt := 57) (dkAt dkX7_show 23 (q := (44, .goto 13, 3)) rfl) (by decide) ?_
          refine k_iconst C (pc2 := 58) (dkAt dkX7_show 30 (q := (57, .iconst 1, 1)) rfl) rfl (v := 1) rfl ?_
          exact k_iret C (dkAt dkX7_show 31 (q := (58, .ireturn, 1)) rfl) (pe2 (Option.some.inj h)) rfl (pe1 (Option.some.inj h)) rfl
      · refine k_aload_n C (pc2 := 24) (dkAt dkX7_show 11 (q := (23, .aload_n 0, 1)) rfl) rfl rfl 0 rfl ?_
        refine k_bipush C (pc2 := 26) (dkAt dkX7_show 12 (q := (24, .bipush (-2), 2)) rfl) rfl (v := (-2)) rfl ?_
        obtain ⟨q19, e20, h⟩ := ob_inv h
        refine kc_V C (As := [.int (-2)]) (st2 := [.int q19.2]) (ct_X7_refuse l G sh xs hX (-2) M q19 e20) (cl_X7_62 (hts_of C) ⟨Nat.le_of_ble_eq_true rfl, Nat.le_of_ble_eq_true rfl⟩ rfl rfl) hX.1 rfl rfl rfl rfl rfl (Nat.le_of_ble_eq_true rfl) (dkAt dkX7_show 13 (q := (26, .invokevirtual 62, 3)) rfl) ⟨Nat.zero_le _, Nat.zero_le _⟩ (pc2 := 29) rfl rfl ?_
        exact k_iret C (dkAt dkX7_show 14 (q := (29, .ireturn, 1)) rfl) (pe2 (Option.some.inj h)) rfl (pe1 (Option.some.inj h)) rfl
set_option maxRecDepth 100000 in
set_option maxHeartbeats 4000000 in
theorem ct_X7_isKind (l : Launch) (G : GG) (sh : Sh) (xs : List va_E) (x0 : Int32) (M : Mm) (r : Int32) (h : f_X7_isKind x0 = some r) : Ct l yX7_isKind cX7_isKind 1 (some .boolean) rm_X7_isKind G [.int x0] sh M xs (some (.int r)) sh M xs 0 0 := by
  refine ct_of (by decide) (Nat.le_of_ble_eq_true rfl) ?_
  intro p e s m args below meth c hnm C
  refine k_lv [0] (lv2 := [(0, .int x0)]) rfl ?_
  unfold f_X7_isKind at h
  refine k_iload_n C (pc2 := 1) (dkAt dkX7_isKind 0 (q := (0, .iload_n 0, 1)) rfl) rfl rfl 0 rfl ?_
  refine k_iconst C (pc2 := 2) (dkAt dkX7_isKind 1 (q := (1, .iconst 0, 1)) rfl) rfl (v := 0) rfl ?_
  refine k_iconst C (pc2 := 3) (dkAt dkX7_isKind 2 (q := (2, .iconst 5, 1)) rfl) rfl (v := 5) rfl ?_
  obtain ⟨q1, e2, h⟩ := ob_inv h
  refine kc_S C (As := [.int x0, .int 0, .int 5]) (st2 := [.int q1]) (ct_X7_within l G sh xs x0 0 5 M q1 e2) (cl_X7_58 (hts_of C) ⟨Nat.le_of_ble_eq_true rfl, Nat.le_of_ble_eq_true rfl⟩ rfl rfl) rfl rfl (Nat.le_of_ble_eq_true rfl) (dkAt dkX7_isKind 3 (q := (3, .invokestatic 58, 3)) rfl) ⟨Nat.zero_le _, Nat.zero_le _⟩ (pc2 := 6) rfl rfl ?_
  obtain ⟨hb, h⟩ := chb_inv h
  exact k_zret C (dkAt dkX7_isKind 4 (q := (6, .ireturn, 1)) rfl) hb (Option.some.inj h) rfl rfl rfl
set_option maxRecDepth 100000 in
set_option maxHeartbeats 4000000 in
theorem ct_X7_says (l : Launch) (G : GG) (sh : Sh) (xs : List va_E) (hX : isX sh) (x1 : Int32) (x2 : Int32) (M : Mm) (r : Mm × Int32) (h : f_X7_says x1 x2 M = some r) : Ct l yX7_says cX7_says 5 (some .int) rm_X7_says G [rA G 0, .int x1, .int x2] sh M xs (some (.int r.2)) sh r.1 xs 0 0 := by
  refine ct_of (by decide) (Nat.le_of_ble_eq_true rfl) ?_
  intro p e s m args below meth c hnm C
  refine k_lv [0, 1, 2] (lv2 := [(0, rA G 0), (1, .int x1), (2, .int x2)]) rfl ?_
  unfold f_X7_says at h
  refine k_iload_n C (pc2 := 1) (dkAt dkX7_says 0 (q := (0, .iload_n 1, 1)) rfl) rfl rfl 1 rfl ?_
  obtain ⟨q1, e2, h⟩ := ob_inv h
  refine kc_S C (As := [.int x1]) (st2 := [.int q1]) (ct_X7_isShelf l G sh xs x1 M q1 e2) (cl_X7_54 (hts_of C) ⟨Nat.le_of_ble_eq_true rfl, Nat.le_of_ble_eq_true rfl⟩ rfl rfl) rfl rfl (Nat.le_of_ble_eq_true rfl) (dkAt dkX7_says 1 (q := (1, .invokestatic 54, 3)) rfl) ⟨Nat.zero_le _, Nat.zero_le _⟩ (pc2 := 4) rfl rfl ?_
  refine k_if_eq C (tgt := 14) (pc2 := 7) (dkAt dkX7_says 2 (q := (4, .ifCond .eq 10, 3)) rfl) (by decide) rfl h (fun h => ?_) (fun h => ?_)
  · refine k_aload_n C (pc2 := 15) (dkAt dkX7_says 6 (q := (14, .aload_n 0, 1)) rfl) rfl rfl 0 rfl ?_
    refine k_bipush C (pc2 := 17) (dkAt dkX7_says 7 (q := (15, .bipush (-2), 2)) rfl) rfl (v := (-2)) rfl ?_
    obtain ⟨q3, e4, h⟩ := ob_inv h
    refine kc_V C (As := [.int (-2)]) (st2 := [.int q3.2]) (ct_X7_refuse l G sh xs hX (-2) M q3 e4) (cl_X7_62 (hts_of C) ⟨Nat.le_of_ble_eq_true rfl, Nat.le_of_ble_eq_true rfl⟩ rfl rfl) hX.1 rfl rfl rfl rfl rfl (Nat.le_of_ble_eq_true rfl) (dkAt dkX7_says 8 (q := (17, .invokevirtual 62, 3)) rfl) ⟨Nat.zero_le _, Nat.zero_le _⟩ (pc2 := 20) rfl rfl ?_
    exact k_iret C (dkAt dkX7_says 9 (q := (20, .ireturn, 1)) rfl) (pe2 (Option.some.inj h)) rfl (pe1 (Option.some.inj h)) rfl
  · refine k_iload_n C (pc2 := 8) (dkAt dkX7_says 3 (q := (7, .iload_n 2, 1)) rfl) rfl rfl 2 rfl ?_
    obtain ⟨q5, e6, h⟩ := ob_inv h
    refine kc_S C (As := [.int x2]) (st2 := [.int q5]) (ct_X7_isKind l G sh xs x2 M q5 e6) (cl_X7_115 (hts_of C) ⟨Nat.le_of_ble_eq_true rfl, Nat.le_of_ble_eq_true rfl⟩ rfl rfl) rfl rfl (Nat.le_of_ble_eq_true rfl) (dkAt dkX7_says 4 (q := (8, .invokestatic 115, 3)) rfl) ⟨Nat.zero_le _, Nat.zero_le _⟩ (pc2 := 11) rfl rfl ?_
    refine k_if_ne C (tgt := 21) (pc2 := 14) (dkAt dkX7_says 5 (q := (11, .ifCond .ne 10, 3)) rfl) (by decide) rfl h (fun h => ?_) (fun h => ?_)
    · refine k_aload_n C (pc2 := 22) (dkAt dkX7_says 10 (q := (21, .aload_n 0, 1)) rfl) rfl rfl 0 rfl ?_
      refine kf_X7_42 C (pc2 := 25) (o := 0) (o2 := 50) hX.1 rfl (dkAt dkX7_says 11 (q := (22, .getfield 42, 3)) rfl) rfl ?_
      refine k_iload_n C (pc2 := 26) (dkAt dkX7_says 12 (q := (25, .iload_n 1, 1)) rfl) rfl rfl 1 rfl ?_
      refine k_aa12 C (pc2 := 27) (o := 50) (o2 := 53 + 2 * x1.toNatClampNeg) (nA := 8) hX.2.2.2.2.2.2.1 rfl (dkAt dkX7_says 13 (q := (26, .aaload, 1)) rfl) rfl h (fun h hl7 => ?_)
      refine k_astore_n C (pc2 := 28) (dkAt dkX7_says 14 (q := (27, .astore_n 3, 1)) rfl) rfl rfl (by decide) (lv2 := [(3, rA G (53 + 2 * x1.toNatClampNeg)), (0, rA G 0), (1, .int x1), (2, .int x2)]) rfl ?_
      refine k_aload_n C (pc2 := 29) (dkAt dkX7_says 15 (q := (28, .aload_n 3, 1)) rfl) rfl rfl 0 rfl ?_
      refine kf_X7_81 C (pc2 := 32) (o := 53 + 2 * x1.toNatClampNeg) (o2 := 0) ((hX.2.2.2.2.2.2.2.2.2 _ hl7).1) (dkAt dkX7_says 16 (q := (29, .getfield 81, 3)) rfl) rfl ?_
      refine k_iconst C (pc2 := 33) (dkAt dkX7_says 17 (q := (32, .iconst (-1), 1)) rfl) rfl (v := (-1)) rfl ?_
      refine k_icmp_ne C (tgt := 43) (pc2 := 36) (dkAt dkX7_says 18 (q := (33, .if_icmp .ne 10, 3)) rfl) (by decide) rfl h (fun h => ?_) (fun h => ?_)
      · refine k_aload_n C (pc2 := 44) (dkAt dkX7_says 23 (q := (43, .aload_n 3, 1)) rfl) rfl rfl 0 rfl ?_
        obtain ⟨q8, e9, h⟩ := ob_inv h
        refine kc_V C (As := []) (st2 := [.int q8]) (ct_X4_personHeld l G sh xs (53 + 2 * x1.toNatClampNeg) (hX.2.2.2.2.2.2.2.2.2 _ hl7) M q8 e9) (cl_X7_118 (hts_of C) ⟨Nat.le_of_ble_eq_true rfl, Nat.le_of_ble_eq_true rfl⟩ rfl rfl) ((hX.2.2.2.2.2.2.2.2.2 _ hl7).1) rfl rfl rfl rfl rfl (Nat.le_of_ble_eq_true rfl) (dkAt dkX7_says 24 (q := (44, .invokevirtual 118, 3)) rfl) ⟨Nat.zero_le _, Nat.zero_le _⟩ (pc2 := 47) rfl rfl ?_
        refine k_istore C (pc2 := 49) (dkAt dkX7_says 25 (q := (47, .istore 4, 2)) rfl) rfl (by decide) (lv2 := [(4, .int q8), (3, rA G (53 + 2 * x1.toNatClampNeg)), (0, rA G 0), (1, .int x1), (2, .int x2)]) rfl ?_
        refine k_aload_n C (pc2 := 50) (dkAt dkX7_says 26 (q := (49, .aload_n 0, 1)) rfl) rfl rfl 2 rfl ?_
        refine kf_X7_10 C (pc2 := 53) (o := 0) (o2 := 1) hX.1 rfl (dkAt dkX7_says 27 (q := (50, .getfield 10, 3)) rfl) rfl ?_
        refine k_iload C (pc2 := 55) (dkAt dkX7_says 28 (q := (53, .iload 4, 2)) rfl) rfl 0 rfl ?_
        obtain ⟨q10, e11, h⟩ := ob_inv h
        refine kc_V C (As := [.int q8]) (st2 := [.int q10]) (ct_X1_hasPerson l G sh xs 1 hX.2.1 q8 M q10 e11) (cl_X7_105 (hts_of C) ⟨Nat.le_of_ble_eq_true rfl, Nat.le_of_ble_eq_true rfl⟩ rfl rfl) hX.2.1.1 rfl rfl rfl rfl rfl (Nat.le_of_ble_eq_true rfl) (dkAt dkX7_says 29 (q := (55, .invokevirtual 105, 3)) rfl) ⟨Nat.zero_le _, Nat.zero_le _⟩ (pc2 := 58) rfl rfl ?_
        refine k_if_eq C (tgt := 78) (pc2 := 61) (dkAt dkX7_says 30 (q := (58, .ifCond .eq 20, 3)) rfl) (by decide) rfl h (fun h => ?_) (fun h => ?_)
        · refine k_aload_n C (pc2 := 79) (dkAt dkX7_says 39 (q := (78, .aload_n 0, 1)) rfl) rfl rfl 2 rfl ?_
          refine k_bipush C (pc2 := 81) (dkAt dkX7_says 40 (q := (79, .bipush (-3), 2)) rfl) rfl (v := (-3)) rfl ?_
          obtain ⟨q12, e13, h⟩ := ob_inv h
          refine kc_V C (As := [.int (-3)]) (st2 := [.int q12.2]) (ct_X7_refuse l G sh xs hX (-3) M q12 e13) (cl_X7_62 (hts_of C) ⟨Nat.le_of_ble_eq_true rfl, Nat.le_of_ble_eq_true rfl⟩ rfl rfl) hX.1 rfl rfl rfl rfl rfl (Nat.le_of_ble_eq_true rfl) (dkAt dkX7_says 41 (q := (81, .invokevirtual 62, 3)) rfl) ⟨Nat.zero_le _, Nat.zero_le _⟩ (pc2 := 84) rfl rfl ?_
          exact k_iret C (dkAt dkX7_says 42 (q := (84, .ireturn, 1)) rfl) (pe2 (Option.some.inj h)) rfl (pe1 (Option.some.inj h)) rfl
        · refine k_aload_n C (pc2 := 62) (dkAt dkX7_says 31 (q := (61, .aload_n 0, 1)) rfl) rfl rfl 2 rfl ?_
          refine kf_X7_10 C (pc2 := 65) (o := 0) (o2 := 1) hX.1 rfl (dkAt dkX7_says 32 (q := (62, .getfield 10, 3)) rfl) rfl ?_
          refine kf_X7_122 C (pc2 := 68) (o := 1) (o2 := 2) hX.2.1.1 rfl (dkAt dkX7_says 33 (q := (65, .getfield 122, 3)) rfl) rfl ?_
          refine k_iload C (pc2 := 70) (dkAt dkX7_says 34 (q := (68, .iload 4, 2)) rfl) rfl 0 rfl ?_
          refine k_aa11 C (pc2 := 71) (o := 2) (o2 := 3 + q8.toNatClampNeg) (nA := 8) hX.2.1.2.1 rfl (dkAt dkX7_says 35 (q := (70, .aaload, 1)) rfl) rfl h (fun h hl14 => ?_)
          refine k_iload_n C (pc2 := 72) (dkAt dkX7_says 36 (q := (71, .iload_n 2, 1)) rfl) rfl rfl 4 rfl ?_
          obtain ⟨q15, e16, h⟩ := ob_inv h
          refine kc_V C (As := [.int x2]) (st2 := [.int q15]) (ct_X2_isOfKind l G sh xs (3 + q8.toNatClampNeg) (hX.2.1.2.2 _ hl14) x2 M q15 e16) (cl_X7_126 (hts_of C) ⟨Nat.le_of_ble_eq_true rfl, Nat.le_of_ble_eq_true rfl⟩ rfl rfl) (hX.2.1.2.2 _ hl14) rfl rfl rfl rfl rfl (Nat.le_of_ble_eq_true rfl) (dkAt dkX7_says 37 (q := (72, .invokevirtual 126, 3)) rfl) ⟨Nat.zero_le _, Nat.zero_le _⟩ (pc2 := 75) rfl rfl ?_
          refine k_if_ne C (tgt := 85) (pc2 := 78) (dkAt dkX7_says 38 (q := (75, .ifCond .ne 10, 3)) rfl) (by decide) rfl h (fun h => ?_) (fun h => ?_)
          · refine k_aload_n C (pc2 := 86) (dkAt dkX7_says 43 (q := (85, .aload_n 0, 1)) rfl) rfl rfl 2 rfl ?_
            refine kf_X7_10 C (pc2 := 89) (o := 0) (o2 := 1) hX.1 rfl (dkAt dkX7_says 44 (q := (86, .getfield 10, 3)) rfl) rfl ?_
            refine kf_X7_122 C (pc2 := 92) (o := 1) (o2 := 2) hX.2.1.1 rfl (dkAt dkX7_says 45 (q := (89, .getfield 122, 3)) rfl) rfl ?_
            refine k_iload C (pc2 := 94) (dkAt dkX7_says 46 (q := (92, .iload 4, 2)) rfl) rfl 0 rfl ?_
            refine k_aa11 C (pc2 := 95) (o := 2) (o2 := 3 + q8.toNatClampNeg) (nA := 8) hX.2.1.2.1 rfl (dkAt dkX7_says 47 (q := (94, .aaload, 1)) rfl) rfl h (fun h hl17 => ?_)
            refine k_iload_n C (pc2 := 96) (dkAt dkX7_says 48 (q := (95, .iload_n 2, 1)) rfl) rfl rfl 4 rfl ?_
            obtain ⟨q18, e19, h⟩ := ob_inv h
            refine kc_V C (As := [.int x2]) (st2 := [.int q18]) (ct_X2_wordsAs l G sh xs (3 + q8.toNatClampNeg) (hX.2.1.2.2 _ hl17) x2 M q18 e19) (cl_X7_131 (hts_of C) ⟨Nat.le_of_ble_eq_true rfl, Nat.le_of_ble_eq_true rfl⟩ rfl rfl) (hX.2.1.2.2 _ hl17) rfl rfl rfl rfl rfl (Nat.le_of_ble_eq_true rfl) (dkAt dkX7_says 49 (q := (96, .invokevirtual 131, 3)) rfl) ⟨Nat.zero_le _, Nat.zero_le _⟩ (pc2 := 99) rfl rfl ?_
            exact k_iret C (dkAt dkX7_says 50 (q := (99, .ireturn, 1)) rfl) (pe2 (Option.some.inj h)) rfl (pe1 (Option.some.inj h)) rfl
          · refine k_aload_n C (pc2 := 79) (dkAt dkX7_says 39 (q := (78, .aload_n 0, 1)) rfl) rfl rfl 2 rfl ?_
            refine k_bipush C (pc2 := 81) (dkAt dkX7_says 40 (q := (79, .bipush (-3), 2)) rfl) rfl (v := (-3)) rfl ?_
            obtain ⟨q20, e21, h⟩ := ob_inv h
            refine kc_V C (As := [.int (-3)]) (st2 := [.int q20.2]) (ct_X7_refuse l G sh xs hX (-3) M q20 e21) (cl_X7_62 (hts_of C) ⟨Nat.le_of_ble_eq_true rfl, Nat.le_of_ble_eq_true rfl⟩ rfl rfl) hX.1 rfl rfl rfl rfl rfl (Nat.le_of_ble_eq_true rfl) (dkAt dkX7_says 41 (q := (81, .invokevirtual 62, 3)) rfl) ⟨Nat.zero_le _, Nat.zero_le _⟩ (pc2 := 84) rfl rfl ?_
            exact k_iret C (dkAt dkX7_says 42 (q := (84, .ireturn, 1)) rfl) (pe2 (Option.some.inj h)) rfl (pe1 (Option.some.inj h)) rfl
      · refine k_aload_n C (pc2 := 37) (dkAt dkX7_says 19 (q := (36, .aload_n 0, 1)) rfl) rfl rfl 1 rfl ?_
        refine k_bipush C (pc2 := 39) (dkAt dkX7_says 20 (q := (37, .bipush (-4), 2)) rfl) rfl (v := (-4)) rfl ?_
        obtain ⟨q22, e23, h⟩ := ob_inv h
        refine kc_V C (As := [.int (-4)]) (st2 := [.int q22.2]) (ct_X7_refuse l G sh xs hX (-4) M q22 e23) (cl_X7_62 (hts_of C) ⟨Nat.le_of_ble_eq_true rfl, Nat.le_of_ble_eq_true rfl⟩ rfl rfl) hX.1 rfl rfl rfl rfl rfl (Nat.le_of_ble_eq_true rfl) (dkAt dkX7_says 21 (q := (39, .invokevirtual 62, 3)) rfl) ⟨Nat.zero_le _, Nat.zero_le _⟩ (pc2 := 42) rfl rfl ?_
        exact k_iret C (dkAt dkX7_says 22 (q := (42, .ireturn, 1)) rfl) (pe2 (Option.some.inj h)) rfl (pe1 (Option.some.inj h)) rfl
    · refine k_aload_n C (pc2 := 15) (dkAt dkX7_says 6 (q := (14, .aload_n 0, 1)) rfl) rfl rfl 0 rfl ?_
      refine k_bipush C (pc2 := 17) (dkAt dkX7_says 7 (q := (15, .bipush (-2), 2)) rfl) rfl (v := (-2)) rfl ?_
      obtain ⟨q24, e25, h⟩ := ob_inv h
      refine kc_V C (As := [.int (-2)]) (st2 := [.int q24.2]) (ct_X7_refuse l G sh xs hX (-2) M q24 e25) (cl_X7_62 (hts_of C) ⟨Nat.le_of_ble_eq_true rfl, Nat.le_of_ble_eq_true rfl⟩ rfl rfl) hX.1 rfl rfl rfl rfl rfl (Nat.le_of_ble_eq_true rfl) (dkAt dkX7_says 8 (q := (17, .invokevirtual 62, 3)) rfl) ⟨Nat.zero_le _, Nat.zero_le _⟩ (pc2 := 20) rfl rfl ?_
      exact k_iret C (dkAt dkX7_says 9 (q := (20, .ireturn, 1)) rfl) (pe2 (Option.some.inj h)) rfl (pe1 (Option.some.inj h)) rfl
set_option maxRecDepth 100000 in
set_option maxHeartbeats 4000000 in
theorem ct_X7_days (l : Launch) (G : GG) (sh : Sh) (xs : List va_E) (hX : isX sh) (x1 : Int32) (M : Mm) (r : Mm × Int32) (h : f_X7_days x1 M = some r) : Ct l yX7_days cX7_days 3 (some .int) rm_X7_days G [rA G 0, .int x1] sh M xs (some (.int r.2)) sh r.1 xs 0 0 := by
  refine ct_of (by decide) (Nat.le_of_ble_eq_true rfl) ?_
  intro p e s m args below meth c hnm C
  refine k_lv [0, 1] (lv2 := [(0, rA G 0), (1, .int x1)]) rfl ?_
  unfold f_X7_days at h
  refine k_iload_n C (pc2 := 1) (dkAt dkX7_days 0 (q := (0, .iload_n 1, 1)) rfl) rfl rfl 1 rfl ?_
  refine k_iconst C (pc2 := 2) (dkAt dkX7_days 1 (q := (1, .iconst 1, 1)) rfl) rfl (v := 1) rfl ?_
  refine k_bipush C (pc2 := 4) (dkAt dkX7_days 2 (q := (2, .bipush 14, 2)) rfl) rfl (v := 14) rfl ?_
  obtain ⟨q1, e2, h⟩ := ob_inv h
  refine kc_S C (As := [.int x1, .int 1, .int 14]) (st2 := [.int q1]) (ct_X7_within l G sh xs x1 1 14 M q1 e2) (cl_X7_58 (hts_of C) ⟨Nat.le_of_ble_eq_true rfl, Nat.le_of_ble_eq_true rfl⟩ rfl rfl) rfl rfl (Nat.le_of_ble_eq_true rfl) (dkAt dkX7_days 3 (q := (4, .invokestatic 58, 3)) rfl) ⟨Nat.zero_le _, Nat.zero_le _⟩ (pc2 := 7) rfl rfl ?_
  refine k_if_ne C (tgt := 17) (pc2 := 10) (dkAt dkX7_days 4 (q := (7, .ifCond .ne 10, 3)) rfl) (by decide) rfl h (fun h => ?_) (fun h => ?_)
  · refine k_aload_n C (pc2 := 18) (dkAt dkX7_days 9 (q := (17, .aload_n 0, 1)) rfl) rfl rfl 0 rfl ?_
    refine kf_X7_10 C (pc2 := 21) (o := 0) (o2 := 1) hX.1 rfl (dkAt dkX7_days 10 (q := (18, .getfield 10, 3)) rfl) rfl ?_
    refine kf_X7_134 C (pc2 := 24) (o := 1) (o2 := 0) hX.2.1.1 (dkAt dkX7_days 11 (q := (21, .getfield 134, 3)) rfl) rfl ?_
    refine kb_istore_n C (pc2 := 25) (dkAt dkX7_days 12 (q := (24, .istore_n 2, 1)) rfl) rfl rfl (by decide) (lv2 := fun v3 => [(2, .int v3), (0, rA G 0), (1, .int x1)]) (fun _ => rfl) h (fun v3 h => ?_)
    refine k_aload_n C (pc2 := 26) (dkAt dkX7_days 13 (q := (25, .aload_n 0, 1)) rfl) rfl rfl 1 rfl ?_
    refine kf_X7_10 C (pc2 := 29) (o := 0) (o2 := 1) hX.1 rfl (dkAt dkX7_days 14 (q := (26, .getfield 10, 3)) rfl) rfl ?_
    refine k_iload_n C (pc2 := 30) (dkAt dkX7_days 15 (q := (29, .iload_n 1, 1)) rfl) rfl rfl 2 rfl ?_
    obtain ⟨q4, e5, h⟩ := ob_inv h
    refine kc_V C (As := [.int x1]) (st2 := []) (ct_X1_changeDays l G sh xs 1 hX.2.1 x1 M q4 e5) (cl_X7_137 (hts_of C) ⟨Nat.le_of_ble_eq_true rfl, Nat.le_of_ble_eq_true rfl⟩ rfl rfl) hX.2.1.1 rfl rfl rfl rfl rfl (Nat.le_of_ble_eq_true rfl) (dkAt dkX7_days 16 (q := (30, .invokevirtual 137, 3)) rfl) ⟨Nat.zero_le _, Nat.zero_le _⟩ (pc2 := 33) rfl rfl ?_
    refine k_iload_n C (pc2 := 34) (dkAt dkX7_days 17 (q := (33, .iload_n 2, 1)) rfl) rfl rfl 0 rfl ?_
    exact k_iret C (dkAt dkX7_days 18 (q := (34, .ireturn, 1)) rfl) (pe2 (Option.some.inj h)) rfl (pe1 (Option.some.inj h)) rfl
  · refine k_aload_n C (pc2 := 11) (dkAt dkX7_days 5 (q := (10, .aload_n 0, 1)) rfl) rfl rfl 0 rfl ?_
    refine k_bipush C (pc2 := 13) (dkAt dkX7_days 6 (q := (11, .bipush (-2), 2)) rfl) rfl (v := (-2)) rfl ?_
    obtain ⟨q6, e7, h⟩ := ob_inv h
    refine kc_V C (As := [.int (-2)]) (st2 := [.int q6.2]) (ct_X7_refuse l G sh xs hX (-2) M q6 e7) (cl_X7_62 (hts_of C) ⟨Nat.le_of_ble_eq_true rfl, Nat.le_of_ble_eq_true rfl⟩ rfl rfl) hX.1 rfl rfl rfl rfl rfl (Nat.le_of_ble_eq_true rfl) (dkAt dkX7_days 7 (q := (13, .invokevirtual 62, 3)) rfl) ⟨Nat.zero_le _, Nat.zero_le _⟩ (pc2 := 16) rfl rfl ?_
    exact k_iret C (dkAt dkX7_days 8 (q := (16, .ireturn, 1)) rfl) (pe2 (Option.some.inj h)) rfl (pe1 (Option.some.inj h)) rfl
set_option maxRecDepth 100000 in
set_option maxHeartbeats 4000000 in
theorem ct_X7_person (l : Launch) (G : GG) (sh : Sh) (xs : List va_E) (hX : isX sh) (x1 : Int32) (x2 : Int32) (x3 : Int32) (M : Mm) (r : Mm × Int32) (h : f_X7_person x1 x2 x3 M = some r) : Ct l yX7_person cX7_person 4 (some .int) rm_X7_person G [rA G 0, .int x1, .int x2, .int x3] sh M xs (some (.int r.2)) sh r.1 xs 0 0 := by
  refine ct_of (by decide) (Nat.le_of_ble_eq_true rfl) ?_
  intro p e s m args below meth c hnm C
  refine k_lv [0, 1, 2, 3] (lv2 := [(0, rA G 0), (1, .int x1), (2, .int x2), (3, .int x3)]) rfl ?_
  unfold f_X7_person at h
  refine k_iload_n C (pc2 := 1) (dkAt dkX7_person 0 (q := (0, .iload_n 1, 1)) rfl) rfl rfl 1 rfl ?_
  obtain ⟨q1, e2, h⟩ := ob_inv h
  refine kc_S C (As := [.int x1]) (st2 := [.int q1]) (ct_X7_isKind l G sh xs x1 M q1 e2) (cl_X7_115 (hts_of C) ⟨Nat.le_of_ble_eq_true rfl, Nat.le_of_ble_eq_true rfl⟩ rfl rfl) rfl rfl (Nat.le_of_ble_eq_true rfl) (dkAt dkX7_person 1 (q := (1, .invokestatic 115, 3)) rfl) ⟨Nat.zero_le _, Nat.zero_le _⟩ (pc2 := 4) rfl rfl ?_
  refine k_if_eq C (tgt := 27) (pc2 := 7) (dkAt dkX7_person 2 (q := (4, .ifCond .eq 23, 3)) rfl) (by decide) rfl h (fun h => ?_) (fun h => ?_)
  · refine k_aload_n C (pc2 := 28) (dkAt dkX7_person 13 (q := (27, .aload_n 0, 1)) rfl) rfl rfl 0 rfl ?_
    refine k_bipush C (pc2 := 30) (dkAt dkX7_person 14 (q := (28, .bipush (-2), 2)) rfl) rfl (v := (-2)) rfl ?_
    obtain ⟨q3, e4, h⟩ := ob_inv h
    refine kc_V C (As := [.int (-2)]) (st2 := [.int q3.2]) (ct_X7_refuse l G sh xs hX (-2) M q3 e4) (cl_X7_62 (hts_of C) ⟨Nat.le_of_ble_eq_true rfl, Nat.le_of_ble_eq_true rfl⟩ rfl rfl) hX.1 rfl rfl rfl rfl rfl (Nat.le_of_ble_eq_true rfl) (dkAt dkX7_person 15 (q := (30, .invokevirtual 62, 3)) rfl) ⟨Nat.zero_le _, Nat.zero_le _⟩ (pc2 := 33) rfl rfl ?_
    exact k_iret C (dkAt dkX7_person 16 (q := (33, .ireturn, 1)) rfl) (pe2 (Option.some.inj h)) rfl (pe1 (Option.some.inj h)) rfl
  · refine k_iload_n C (pc2 := 8) (dkAt dkX7_person 3 (q := (7, .iload_n 2, 1)) rfl) rfl rfl 2 rfl ?_
    refine k_iconst C (pc2 := 9) (dkAt dkX7_person 4 (q := (8, .iconst 0, 1)) rfl) rfl (v := 0) rfl ?_
    refine k_bipush C (pc2 := 11) (dkAt dkX7_person 5 (q := (9, .bipush 13, 2)) rfl) rfl (v := 13) rfl ?_
    obtain ⟨q5, e6, h⟩ := ob_inv h
    refine kc_S C (As := [.int x2, .int 0, .int 13]) (st2 := [.int q5]) (ct_X7_within l G sh xs x2 0 13 M q5 e6) (cl_X7_58 (hts_of C) ⟨Nat.le_of_ble_eq_true rfl, Nat.le_of_ble_eq_true rfl⟩ rfl rfl) rfl rfl (Nat.le_of_ble_eq_true rfl) (dkAt dkX7_person 6 (q := (11, .invokestatic 58, 3)) rfl) ⟨Nat.zero_le _, Nat.zero_le _⟩ (pc2 := 14) rfl rfl ?_
    refine k_if_eq C (tgt := 27) (pc2 := 17) (dkAt dkX7_person 7 (q := (14, .ifCond .eq 13, 3)) rfl) (by decide) rfl h (fun h => ?_) (fun h => ?_)
    · refine k_aload_n C (pc2 := 28) (dkAt dkX7_person 13 (q := (27, .aload_n 0, 1)) rfl) rfl rfl 0 rfl ?_
      refine k_bipush C (pc2 := 30) (dkAt dkX7_person 14 (q := (28, .bipush (-2), 2)) rfl) rfl (v := (-2)) rfl ?_
      obtain ⟨q7, e8, h⟩ := ob_inv h
      refine kc_V C (As := [.int (-2)]) (st2 := [.int q7.2]) (ct_X7_refuse l G sh xs hX (-2) M q7 e8) (cl_X7_62 (hts_of C) ⟨Nat.le_of_ble_eq_true rfl, Nat.le_of_ble_eq_true rfl⟩ rfl rfl) hX.1 rfl rfl rfl rfl rfl (Nat.le_of_ble_eq_true rfl) (dkAt dkX7_person 15 (q := (30, .invokevirtual 62, 3)) rfl) ⟨Nat.zero_le _, Nat.zero_le _⟩ (pc2 := 33) rfl rfl ?_
      exact k_iret C (dkAt dkX7_person 16 (q := (33, .ireturn, 1)) rfl) (pe2 (Option.some.inj h)) rfl (pe1 (Option.some.inj h)) rfl
    · refine k_iload_n C (pc2 := 18) (dkAt dkX7_person 8 (q := (17, .iload_n 3, 1)) rfl) rfl rfl 3 rfl ?_
      refine k_iconst C (pc2 := 19) (dkAt dkX7_person 9 (q := (18, .iconst 0, 1)) rfl) rfl (v := 0) rfl ?_
      refine k_bipush C (pc2 := 21) (dkAt dkX7_person 10 (q := (19, .bipush 12, 2)) rfl) rfl (v := 12) rfl ?_
      obtain ⟨q9, e10, h⟩ := ob_inv h
      refine kc_S C (As := [.int x3, .int 0, .int 12]) (st2 := [.int q9]) (ct_X7_within l G sh xs x3 0 12 M q9 e10) (cl_X7_58 (hts_of C) ⟨Nat.le_of_ble_eq_true rfl, Nat.le_of_ble_eq_true rfl⟩ rfl rfl) rfl rfl (Nat.le_of_ble_eq_true rfl) (dkAt dkX7_person 11 (q := (21, .invokestatic 58, 3)) rfl) ⟨Nat.zero_le _, Nat.zero_le _⟩ (pc2 := 24) rfl rfl ?_
      refine k_if_ne C (tgt := 34) (pc2 := 27) (dkAt dkX7_person 12 (q := (24, .ifCond .ne 10, 3)) rfl) (by decide) rfl h (fun h => ?_) (fun h => ?_)
      · refine k_aload_n C (pc2 := 35) (dkAt dkX7_person 17 (q := (34, .aload_n 0, 1)) rfl) rfl rfl 0 rfl ?_
        refine kf_X7_10 C (pc2 := 38) (o := 0) (o2 := 1) hX.1 rfl (dkAt dkX7_person 18 (q := (35, .getfield 10, 3)) rfl) rfl ?_
        obtain ⟨q11, e12, h⟩ := ob_inv h
        refine kc_V C (As := []) (st2 := [.int q11]) (ct_X1_isFull l G sh xs 1 hX.2.1 M q11 e12) (cl_X7_140 (hts_of C) ⟨Nat.le_of_ble_eq_true rfl, Nat.le_of_ble_eq_true rfl⟩ rfl rfl) hX.2.1.1 rfl rfl rfl rfl rfl (Nat.le_of_ble_eq_true rfl) (dkAt dkX7_person 19 (q := (38, .invokevirtual 140, 3)) rfl) ⟨Nat.zero_le _, Nat.zero_le _⟩ (pc2 := 41) rfl rfl ?_
        refine k_if_eq C (tgt := 51) (pc2 := 44) (dkAt dkX7_person 20 (q := (41, .ifCond .eq 10, 3)) rfl) (by decide) rfl h (fun h => ?_) (fun h => ?_)
        · refine k_aload_n C (pc2 := 52) (dkAt dkX7_person 25 (q := (51, .aload_n 0, 1)) rfl) rfl rfl 0 rfl ?_
          refine kf_X7_10 C (pc2 := 55) (o := 0) (o2 := 1) hX.1 rfl (dkAt dkX7_person 26 (q := (52, .getfield 10, 3)) rfl) rfl ?_
          refine k_iload_n C (pc2 := 56) (dkAt dkX7_person 27 (q := (55, .iload_n 1, 1)) rfl) rfl rfl 1 rfl ?_
          refine k_iload_n C (pc2 := 57) (dkAt dkX7_person 28 (q := (56, .iload_n 2, 1)) rfl) rfl rfl 2 rfl ?_
          refine k_iload_n C (pc2 := 58) (dkAt dkX7_person 29 (q := (57, .iload_n 3, 1)) rfl) rfl rfl 3 rfl ?_
          obtain ⟨q13, e14, h⟩ := ob_inv h
          refine kc_V C (As := [.int x1, .int x2, .int x3]) (st2 := [.int q13.2]) (ct_X1_takeIn l G sh xs 1 hX.2.1 x1 x2 x3 M q13 e14) (cl_X7_143 (hts_of C) ⟨Nat.le_of_ble_eq_true rfl, Nat.le_of_ble_eq_true rfl⟩ rfl rfl) hX.2.1.1 rfl rfl rfl rfl rfl (Nat.le_of_ble_eq_true rfl) (dkAt dkX7_person 30 (q := (58, .invokevirtual 143, 3)) rfl) ⟨Nat.zero_le _, Nat.zero_le _⟩ (pc2 := 61) rfl rfl ?_
          exact k_iret C (dkAt dkX7_person 31 (q := (61, .ireturn, 1)) rfl) (pe2 (Option.some.inj h)) rfl (pe1 (Option.some.inj h)) rfl
        · refine k_aload_n C (pc2 := 45) (dkAt dkX7_person 21 (q := (44, .aload_n 0, 1)) rfl) rfl rfl 0 rfl ?_
          refine k_bipush C (pc2 := 47) (dkAt dkX7_person 22 (q := (45, .bipush (-6), 2)) rfl) rfl (v := (-6)) rfl ?_
          obtain ⟨q15, e16, h⟩ := ob_inv h
          refine kc_V C (As := [.int (-6)]) (st2 := [.int q15.2]) (ct_X7_refuse l G sh xs hX (-6) M q15 e16) (cl_X7_62 (hts_of C) ⟨Nat.le_of_ble_eq_true rfl, Nat.le_of_ble_eq_true rfl⟩ rfl rfl) hX.1 rfl rfl rfl rfl rfl (Nat.le_of_ble_eq_true rfl) (dkAt dkX7_person 23 (q := (47, .invokevirtual 62, 3)) rfl) ⟨Nat.zero_le _, Nat.zero_le _⟩ (pc2 := 50) rfl rfl ?_
          exact k_iret C (dkAt dkX7_person 24 (q := (50, .ireturn, 1)) rfl) (pe2 (Option.some.inj h)) rfl (pe1 (Option.some.inj h)) rfl
      · refine k_aload_n C (pc2 := 28) (dkAt dkX7_person 13 (q := (27, .aload_n 0, 1)) rfl) rfl rfl 0 rfl ?_
        refine k_bipush C (pc2 := 30) (dkAt dkX7_person 14 (q := (28, .bipush (-2), 2)) rfl) rfl (v := (-2)) rfl ?_
        obtain ⟨q17, e18, h⟩ := ob_inv h
        refine kc_V C (As := [.int (-2)]) (st2 := [.int q17.2]) (ct_X7_refuse l G sh xs hX (-2) M q17 e18) (cl_X7_62 (hts_of C) ⟨Nat.le_of_ble_eq_true rfl, Nat.le_of_ble_eq_true rfl⟩ rfl rfl) hX.1 rfl rfl rfl rfl rfl (Nat.le_of_ble_eq_true rfl) (dkAt dkX7_person 15 (q := (30, .invokevirtual 62, 3)) rfl) ⟨Nat.zero_le _, Nat.zero_le _⟩ (pc2 := 33) rfl rfl ?_
        exact k_iret C (dkAt dkX7_person 16 (q := (33, .ireturn, 1)) rfl) (pe2 (Option.some.inj h)) rfl (pe1 (Option.some.inj h)) rfl
set_option maxRecDepth 100000 in
set_option maxHeartbeats 4000000 in
theorem ct_X7_free (l : Launch) (G : GG) (sh : Sh) (xs : List va_E) (hX : isX sh) (x1 : Int32) (x2 : Int32) (x3 : Int32) (M : Mm) (r : Mm × Int32) (h : f_X7_free x1 x2 x3 M = some r) : Ct l yX7_free cX7_free 6 (some .int) rm_X7_free G [rA G 0, .int x1, .int x2, .int x3] sh M xs (some (.int r.2)) sh r.1 xs 0 0 := by
  refine ct_of (by decide) (Nat.le_of_ble_eq_true rfl) ?_
  intro p e s m args below meth c hnm C
  refine k_lv [0, 1, 2, 3] (lv2 := [(0, rA G 0), (1, .int x1), (2, .int x2), (3, .int x3)]) rfl ?_
  unfold f_X7_free at h
  refine k_aload_n C (pc2 := 1) (dkAt dkX7_free 0 (q := (0, .aload_n 0, 1)) rfl) rfl rfl 0 rfl ?_
  refine kf_X7_10 C (pc2 := 4) (o := 0) (o2 := 1) hX.1 rfl (dkAt dkX7_free 1 (q := (1, .getfield 10, 3)) rfl) rfl ?_
  refine k_iload_n C (pc2 := 5) (dkAt dkX7_free 2 (q := (4, .iload_n 1, 1)) rfl) rfl rfl 1 rfl ?_
  obtain ⟨q1, e2, h⟩ := ob_inv h
  refine kc_V C (As := [.int x1]) (st2 := [.int q1]) (ct_X1_hasPerson l G sh xs 1 hX.2.1 x1 M q1 e2) (cl_X7_105 (hts_of C) ⟨Nat.le_of_ble_eq_true rfl, Nat.le_of_ble_eq_true rfl⟩ rfl rfl) hX.2.1.1 rfl rfl rfl rfl rfl (Nat.le_of_ble_eq_true rfl) (dkAt dkX7_free 3 (q := (5, .invokevirtual 105, 3)) rfl) ⟨Nat.zero_le _, Nat.zero_le _⟩ (pc2 := 8) rfl rfl ?_
  refine k_if_eq C (tgt := 22) (pc2 := 11) (dkAt dkX7_free 4 (q := (8, .ifCond .eq 14, 3)) rfl) (by decide) rfl h (fun h => ?_) (fun h => ?_)
  · refine k_aload_n C (pc2 := 23) (dkAt dkX7_free 10 (q := (22, .aload_n 0, 1)) rfl) rfl rfl 0 rfl ?_
    refine k_bipush C (pc2 := 25) (dkAt dkX7_free 11 (q := (23, .bipush (-2), 2)) rfl) rfl (v := (-2)) rfl ?_
    obtain ⟨q3, e4, h⟩ := ob_inv h
    refine kc_V C (As := [.int (-2)]) (st2 := [.int q3.2]) (ct_X7_refuse l G sh xs hX (-2) M q3 e4) (cl_X7_62 (hts_of C) ⟨Nat.le_of_ble_eq_true rfl, Nat.le_of_ble_eq_true rfl⟩ rfl rfl) hX.1 rfl rfl rfl rfl rfl (Nat.le_of_ble_eq_true rfl) (dkAt dkX7_free 12 (q := (25, .invokevirtual 62, 3)) rfl) ⟨Nat.zero_le _, Nat.zero_le _⟩ (pc2 := 28) rfl rfl ?_
    exact k_iret C (dkAt dkX7_free 13 (q := (28, .ireturn, 1)) rfl) (pe2 (Option.some.inj h)) rfl (pe1 (Option.some.inj h)) rfl
  · refine k_aload_n C (pc2 := 12) (dkAt dkX7_free 5 (q := (11, .aload_n 0, 1)) rfl) rfl rfl 0 rfl ?_
    refine kf_X7_10 C (pc2 := 15) (o := 0) (o2 := 1) hX.1 rfl (dkAt dkX7_free 6 (q := (12, .getfield 10, 3)) rfl) rfl ?_
    refine k_iload_n C (pc2 := 16) (dkAt dkX7_free 7 (q := (15, .iload_n 2, 1)) rfl) rfl rfl 2 rfl ?_
    obtain ⟨q5, e6, h⟩ := ob_inv h
    refine kc_V C (As := [.int x2]) (st2 := [.int q5]) (ct_X1_hasDay l G sh xs 1 hX.2.1 x2 M q5 e6) (cl_X7_147 (hts_of C) ⟨Nat.le_of_ble_eq_true rfl, Nat.le_of_ble_eq_true rfl⟩ rfl rfl) hX.2.1.1 rfl rfl rfl rfl rfl (Nat.le_of_ble_eq_true rfl) (dkAt dkX7_free 8 (q := (16, .invokevirtual 147, 3)) rfl) ⟨Nat.zero_le _, Nat.zero_le _⟩ (pc2 := 19) rfl rfl ?_
    refine k_if_ne C (tgt := 29) (pc2 := 22) (dkAt dkX7_free 9 (q := (19, .ifCond .ne 10, 3)) rfl) (by decide) rfl h (fun h => ?_) (fun h => ?_)
    · refine k_aload_n C (pc2 := 30) (dkAt dkX7_free 14 (q := (29, .aload_n 0, 1)) rfl) rfl rfl 0 rfl ?_
      refine kf_X7_10 C (pc2 := 33) (o := 0) (o2 := 1) hX.1 rfl (dkAt dkX7_free 15 (q := (30, .getfield 10, 3)) rfl) rfl ?_
      refine kf_X7_122 C (pc2 := 36) (o := 1) (o2 := 2) hX.2.1.1 rfl (dkAt dkX7_free 16 (q := (33, .getfield 122, 3)) rfl) rfl ?_
      refine k_iload_n C (pc2 := 37) (dkAt dkX7_free 17 (q := (36, .iload_n 1, 1)) rfl) rfl rfl 1 rfl ?_
      refine k_aa11 C (pc2 := 38) (o := 2) (o2 := 3 + x1.toNatClampNeg) (nA := 8) hX.2.1.2.1 rfl (dkAt dkX7_free 18 (q := (37, .aaload, 1)) rfl) rfl h (fun h hl7 => ?_)
      refine k_astore C (pc2 := 40) (dkAt dkX7_free 19 (q := (38, .astore 4, 2)) rfl) rfl (by decide) (lv2 := [(4, rA G (3 + x1.toNatClampNeg)), (0, rA G 0), (1, .int x1), (2, .int x2), (3, .int x3)]) rfl ?_
      refine k_aload C (pc2 := 42) (dkAt dkX7_free 20 (q := (40, .aload 4, 2)) rfl) rfl 0 rfl ?_
      refine k_iload_n C (pc2 := 43) (dkAt dkX7_free 21 (q := (42, .iload_n 2, 1)) rfl) rfl rfl 3 rfl ?_
      obtain ⟨q8, e9, h⟩ := ob_inv h
      refine kc_V C (As := [.int x2]) (st2 := [.int q8]) (ct_X2_isFree l G sh xs (3 + x1.toNatClampNeg) (hX.2.1.2.2 _ hl7) x2 M q8 e9) (cl_X7_150 (hts_of C) ⟨Nat.le_of_ble_eq_true rfl, Nat.le_of_ble_eq_true rfl⟩ rfl rfl) (hX.2.1.2.2 _ hl7) rfl rfl rfl rfl rfl (Nat.le_of_ble_eq_true rfl) (dkAt dkX7_free 22 (q := (43, .invokevirtual 150, 3)) rfl) ⟨Nat.zero_le _, Nat.zero_le _⟩ (pc2 := 46) rfl rfl ?_
      refine k_if_eq C (tgt := 53) (pc2 := 49) (dkAt dkX7_free 23 (q := (46, .ifCond .eq 7, 3)) rfl) (by decide) rfl h (fun h => ?_) (fun h => ?_)
      · refine k_iconst C (pc2 := 54) (dkAt dkX7_free 26 (q := (53, .iconst 0, 1)) rfl) rfl (v := 0) rfl ?_
        refine k_istore C (pc2 := 56) (dkAt dkX7_free 27 (q := (54, .istore 5, 2)) rfl) rfl (by decide) (lv2 := [(5, .int 0), (4, rA G (3 + x1.toNatClampNeg)), (0, rA G 0), (1, .int x1), (2, .int x2), (3, .int x3)]) rfl ?_
        refine k_aload C (pc2 := 58) (dkAt dkX7_free 28 (q := (56, .aload 4, 2)) rfl) rfl 1 rfl ?_
        refine k_iload_n C (pc2 := 59) (dkAt dkX7_free 29 (q := (58, .iload_n 2, 1)) rfl) rfl rfl 4 rfl ?_
        refine k_iload_n C (pc2 := 60) (dkAt dkX7_free 30 (q := (59, .iload_n 3, 1)) rfl) rfl rfl 5 rfl ?_
        obtain ⟨q10, e11, h⟩ := ob_inv h
        refine kc_V C (As := [.int x2, .int x3]) (st2 := []) (ct_X2_changeFree l G sh xs (3 + x1.toNatClampNeg) (hX.2.1.2.2 _ hl7) x2 x3 M q10 e11) (cl_X7_153 (hts_of C) ⟨Nat.le_of_ble_eq_true rfl, Nat.le_of_ble_eq_true rfl⟩ rfl rfl) (hX.2.1.2.2 _ hl7) rfl rfl rfl rfl rfl (Nat.le_of_ble_eq_true rfl) (dkAt dkX7_free 31 (q := (60, .invokevirtual 153, 3)) rfl) ⟨Nat.zero_le _, Nat.zero_le _⟩ (pc2 := 63) rfl rfl ?_
        refine k_iload C (pc2 := 65) (dkAt dkX7_free 32 (q := (63, .iload 5, 2)) rfl) rfl 0 rfl ?_
        exact k_iret C (dkAt dkX7_free 33 (q := (65, .ireturn, 1)) rfl) (pe2 (Option.some.inj h)) rfl (pe1 (Option.some.inj h)) rfl
      · refine k_iconst C (pc2 := 50) (dkAt dkX7_free 24 (q := (49, .iconst 1, 1)) rfl) rfl (v := 1) rfl ?_
        refine k_goto C (tgt := 54) (dkAt dkX7_free 25 (q := (50, .goto 4, 3)) rfl) (by decide) ?_
        refine k_istore C (pc2 := 56) (dkAt dkX7_free 27 (q := (54, .istore 5, 2)) rfl) rfl (by decide) (lv2 := [(5, .int 1), (4, rA G (3 + x1.toNatClampNeg)), (0, rA G 0), (1, .int x1), (2, .int x2), (3, .int x3)]) rfl ?_
        refine k_aload C (pc2 := 58) (dkAt dkX7_free 28 (q := (56, .aload 4, 2)) rfl) rfl 1 rfl ?_
        refine k_iload_n C (pc2 := 59) (dkAt dkX7_free 29 (q := (58, .iload_n 2, 1)) rfl) rfl rfl 4 rfl ?_
        refine k_iload_n C (pc2 := 60) (dkAt dkX7_free 30 (q := (59, .iload_n 3, 1)) rfl) rfl rfl 5 rfl ?_
        obtain ⟨q12, e13, h⟩ := ob_inv h
        refine kc_V C (As := [.int x2, .int x3]) (st2 := []) (ct_X2_changeFree l G sh xs (3 + x1.toNatClampNeg) (hX.2.1.2.2 _ hl7) x2 x3 M q12 e13) (cl_X7_153 (hts_of C) ⟨Nat.le_of_ble_eq_true rfl, Nat.le_of_ble_eq_true rfl⟩ rfl rfl) (hX.2.1.2.2 _ hl7) rfl rfl rfl rfl rfl (Nat.le_of_ble_eq_true rfl) (dkAt dkX7_free 31 (q := (60, .invokevirtual 153, 3)) rfl) ⟨Nat.zero_le _, Nat.zero_le _⟩ (pc2 := 63) rfl rfl ?_
        refine k_iload C (pc2 := 65) (dkAt dkX7_free 32 (q := (63, .iload 5, 2)) rfl) rfl 0 rfl ?_
        exact k_iret C (dkAt dkX7_free 33 (q := (65, .ireturn, 1)) rfl) (pe2 (Option.some.inj h)) rfl (pe1 (Option.some.inj h)) rfl
    · refine k_aload_n C (pc2 := 23) (dkAt dkX7_free 10 (q := (22, .aload_n 0, 1)) rfl) rfl rfl 0 rfl ?_
      refine k_bipush C (pc2 := 25) (dkAt dkX7_free 11 (q := (23, .bipush (-2), 2)) rfl) rfl (v := (-2)) rfl ?_
      obtain ⟨q14, e15, h⟩ := ob_inv h
      refine kc_V C (As := [.int (-2)]) (st2 := [.int q14.2]) (ct_X7_refuse l G sh xs hX (-2) M q14 e15) (cl_X7_62 (hts_of C) ⟨Nat.le_of_ble_eq_true rfl, Nat.le_of_ble_eq_true rfl⟩ rfl rfl) hX.1 rfl rfl rfl rfl rfl (Nat.le_of_ble_eq_true rfl) (dkAt dkX7_free 12 (q := (25, .invokevirtual 62, 3)) rfl) ⟨Nat.zero_le _, Nat.zero_le _⟩ (pc2 := 28) rfl rfl ?_
      exact k_iret C (dkAt dkX7_free 13 (q := (28, .ireturn, 1)) rfl) (pe2 (Option.some.inj h)) rfl (pe1 (Option.some.inj h)) rfl
set_option maxRecDepth 100000 in
set_option maxHeartbeats 4000000 in
theorem ct_X7_ask (l : Launch) (G : GG) (sh : Sh) (xs : List va_E) (hX : isX sh) (x1 : Int32) (x2 : Int32) (M : Mm) (r : Mm × Int32) (h : f_X7_ask x1 x2 M = some r) : Ct l yX7_ask cX7_ask 4 (some .int) rm_X7_ask G [rA G 0, .int x1, .int x2] sh M xs (some (.int r.2)) sh r.1 xs 0 0 := by
  refine ct_of (by decide) (Nat.le_of_ble_eq_true rfl) ?_
  intro p e s m args below meth c hnm C
  refine k_lv [0, 1, 2] (lv2 := [(0, rA G 0), (1, .int x1), (2, .int x2)]) rfl ?_
  unfold f_X7_ask at h
  refine k_iload_n C (pc2 := 1) (dkAt dkX7_ask 0 (q := (0, .iload_n 1, 1)) rfl) rfl rfl 1 rfl ?_
  refine k_if_ne C (tgt := 34) (pc2 := 4) (dkAt dkX7_ask 1 (q := (1, .ifCond .ne 33, 3)) rfl) (by decide) rfl h (fun h => ?_) (fun h => ?_)
  · refine k_iload_n C (pc2 := 35) (dkAt dkX7_ask 16 (q := (34, .iload_n 1, 1)) rfl) rfl rfl 1 rfl ?_
    refine k_iconst C (pc2 := 36) (dkAt dkX7_ask 17 (q := (35, .iconst 1, 1)) rfl) rfl (v := 1) rfl ?_
    refine k_icmp_ne C (tgt := 68) (pc2 := 39) (dkAt dkX7_ask 18 (q := (36, .if_icmp .ne 32, 3)) rfl) (by decide) rfl h (fun h => ?_) (fun h => ?_)
    · refine k_iload_n C (pc2 := 69) (dkAt dkX7_ask 33 (q := (68, .iload_n 1, 1)) rfl) rfl rfl 1 rfl ?_
      refine k_iconst C (pc2 := 70) (dkAt dkX7_ask 34 (q := (69, .iconst 2, 1)) rfl) rfl (v := 2) rfl ?_
      refine k_icmp_ne C (tgt := 102) (pc2 := 73) (dkAt dkX7_ask 35 (q := (70, .if_icmp .ne 32, 3)) rfl) (by decide) rfl h (fun h => ?_) (fun h => ?_)
      · refine k_aload_n C (pc2 := 103) (dkAt dkX7_ask 50 (q := (102, .aload_n 0, 1)) rfl) rfl rfl 0 rfl ?_
        refine k_bipush C (pc2 := 105) (dkAt dkX7_ask 51 (q := (103, .bipush (-2), 2)) rfl) rfl (v := (-2)) rfl ?_
        obtain ⟨q1, e2, h⟩ := ob_inv h
        refine kc_V C (As := [.int (-2)]) (st2 := [.int q1.2]) (ct_X7_refuse l G sh xs hX (-2) M q1 e2) (cl_X7_62 (hts_of C) ⟨Nat.le_of_ble_eq_true rfl, Nat.le_of_ble_eq_true rfl⟩ rfl rfl) hX.1 rfl rfl rfl rfl rfl (Nat.le_of_ble_eq_true rfl) (dkAt dkX7_ask 52 (q := (105, .invokevirtual 62, 3)) rfl) ⟨Nat.zero_le _, Nat.zero_le _⟩ (pc2 := 108) rfl rfl ?_
        refine kb_istore_n C (pc2 := 109) (dkAt dkX7_ask 53 (q := (108, .istore_n 3, 1)) rfl) rfl rfl (by decide) (lv2 := fun v3 => [(3, .int v3), (0, rA G 0), (1, .int x1), (2, .int x2)]) (fun _ => rfl) h (fun v3 h => ?_)
        refine k_iload_n C (pc2 := 110) (dkAt dkX7_ask 54 (q := (109, .iload_n 3, 1)) rfl) rfl rfl 0 rfl ?_
        exact k_iret C (dkAt dkX7_ask 55 (q := (110, .ireturn, 1)) rfl) (pe2 (Option.some.inj h)) rfl (pe1 (Option.some.inj h)) rfl
      · refine k_iload_n C (pc2 := 74) (dkAt dkX7_ask 36 (q := (73, .iload_n 2, 1)) rfl) rfl rfl 2 rfl ?_
        refine k_iconst C (pc2 := 75) (dkAt dkX7_ask 37 (q := (74, .iconst 0, 1)) rfl) rfl (v := 0) rfl ?_
        refine k_bipush C (pc2 := 77) (dkAt dkX7_ask 38 (q := (75, .bipush 12, 2)) rfl) rfl (v := 12) rfl ?_
        obtain ⟨q4, e5, h⟩ := ob_inv h
        refine kc_S C (As := [.int x2, .int 0, .int 12]) (st2 := [.int q4]) (ct_X7_within l G sh xs x2 0 12 M q4 e5) (cl_X7_58 (hts_of C) ⟨Nat.le_of_ble_eq_true rfl, Nat.le_of_ble_eq_true rfl⟩ rfl rfl) rfl rfl (Nat.le_of_ble_eq_true rfl) (dkAt dkX7_ask 39 (q := (77, .invokestatic 58, 3)) rfl) ⟨Nat.zero_le _, Nat.zero_le _⟩ (pc2 := 80) rfl rfl ?_
        refine k_if_eq C (tgt := 102) (pc2 := 83) (dkAt dkX7_ask 40 (q := (80, .ifCond .eq 22, 3)) rfl) (by decide) rfl h (fun h => ?_) (fun h => ?_)
        · refine k_aload_n C (pc2 := 103) (dkAt dkX7_ask 50 (q := (102, .aload_n 0, 1)) rfl) rfl rfl 0 rfl ?_
          refine k_bipush C (pc2 := 105) (dkAt dkX7_ask 51 (q := (103, .bipush (-2), 2)) rfl) rfl (v := (-2)) rfl ?_
          obtain ⟨q6, e7, h⟩ := ob_inv h
          refine kc_V C (As := [.int (-2)]) (st2 := [.int q6.2]) (ct_X7_refuse l G sh xs hX (-2) M q6 e7) (cl_X7_62 (hts_of C) ⟨Nat.le_of_ble_eq_true rfl, Nat.le_of_ble_eq_true rfl⟩ rfl rfl) hX.1 rfl rfl rfl rfl rfl (Nat.le_of_ble_eq_true rfl) (dkAt dkX7_ask 52 (q := (105, .invokevirtual 62, 3)) rfl) ⟨Nat.zero_le _, Nat.zero_le _⟩ (pc2 := 108) rfl rfl ?_
          refine kb_istore_n C (pc2 := 109) (dkAt dkX7_ask 53 (q := (108, .istore_n 3, 1)) rfl) rfl rfl (by decide) (lv2 := fun v8 => [(3, .int v8), (0, rA G 0), (1, .int x1), (2, .int x2)]) (fun _ => rfl) h (fun v8 h => ?_)
          refine k_iload_n C (pc2 := 110) (dkAt dkX7_ask 54 (q := (109, .iload_n 3, 1)) rfl) rfl rfl 0 rfl ?_
          exact k_iret C (dkAt dkX7_ask 55 (q := (110, .ireturn, 1)) rfl) (pe2 (Option.some.inj h)) rfl (pe1 (Option.some.inj h)) rfl
        · refine k_aload_n C (pc2 := 84) (dkAt dkX7_ask 41 (q := (83, .aload_n 0, 1)) rfl) rfl rfl 0 rfl ?_
          refine kf_X7_10 C (pc2 := 87) (o := 0) (o2 := 1) hX.1 rfl (dkAt dkX7_ask 42 (q := (84, .getfield 10, 3)) rfl) rfl ?_
          refine kf_X7_163 C (pc2 := 90) (o := 1) (o2 := 0) hX.2.1.1 (dkAt dkX7_ask 43 (q := (87, .getfield 163, 3)) rfl) rfl ?_
          refine kb_istore_n C (pc2 := 91) (dkAt dkX7_ask 44 (q := (90, .istore_n 3, 1)) rfl) rfl rfl (by decide) (lv2 := fun v9 => [(3, .int v9), (0, rA G 0), (1, .int x1), (2, .int x2)]) (fun _ => rfl) h (fun v9 h => ?_)
          refine k_aload_n C (pc2 := 92) (dkAt dkX7_ask 45 (q := (91, .aload_n 0, 1)) rfl) rfl rfl 1 rfl ?_
          refine kf_X7_10 C (pc2 := 95) (o := 0) (o2 := 1) hX.1 rfl (dkAt dkX7_ask 46 (q := (92, .getfield 10, 3)) rfl) rfl ?_
          refine k_iload_n C (pc2 := 96) (dkAt dkX7_ask 47 (q := (95, .iload_n 2, 1)) rfl) rfl rfl 3 rfl ?_
          refine kp_X7_163 C (pc2 := 99) (o := 1) hX.2.1.1 (dkAt dkX7_ask 48 (q := (96, .putfield 163, 3)) rfl) rfl h (fun M10 h => ?_)
          refine k_goto C (tgt := 109) (dkAt dkX7_ask 49 (q := (99, .goto 10, 3)) rfl) (by decide) ?_
          refine k_iload_n C (pc2 := 110) (dkAt dkX7_ask 54 (q := (109, .iload_n 3, 1)) rfl) rfl rfl 0 rfl ?_
          exact k_iret C (dkAt dkX7_ask 55 (q := (110, .ireturn, 1)) rfl) (pe2 (Option.some.inj h)) rfl (pe1 (Option.some.inj h)) rfl
    · refine k_iload_n C (pc2 := 40) (dkAt dkX7_ask 19 (q := (39, .iload_n 2, 1)) rfl) rfl rfl 2 rfl ?_
      refine k_iconst C (pc2 := 41) (dkAt dkX7_ask 20 (q := (40, .iconst 1, 1)) rfl) rfl (v := 1) rfl ?_
      refine k_bipush C (pc2 := 43) (dkAt dkX7_ask 21 (q := (41, .bipush 8, 2)) rfl) rfl (v := 8) rfl ?_
      obtain ⟨q11, e12, h⟩ := ob_inv h
      refine kc_S C (As := [.int x2, .int 1, .int 8]) (st2 := [.int q11]) (ct_X7_within l G sh xs x2 1 8 M q11 e12) (cl_X7_58 (hts_of C) ⟨Nat.le_of_ble_eq_true rfl, Nat.le_of_ble_eq_true rfl⟩ rfl rfl) rfl rfl (Nat.le_of_ble_eq_true rfl) (dkAt dkX7_ask 22 (q := (43, .invokestatic 58, 3)) rfl) ⟨Nat.zero_le _, Nat.zero_le _⟩ (pc2 := 46) rfl rfl ?_
      refine k_if_eq C (tgt := 68) (pc2 := 49) (dkAt dkX7_ask 23 (q := (46, .ifCond .eq 22, 3)) rfl) (by decide) rfl h (fun h => ?_) (fun h => ?_)
      · refine k_iload_n C (pc2 := 69) (dkAt dkX7_ask 33 (q := (68, .iload_n 1, 1)) rfl) rfl rfl 1 rfl ?_
        refine k_iconst C (pc2 := 70) (dkAt dkX7_ask 34 (q := (69, .iconst 2, 1)) rfl) rfl (v := 2) rfl ?_
        refine k_icmp_ne C (tgt := 102) (pc2 := 73) (dkAt dkX7_ask 35 (q := (70, .if_icmp .ne 32, 3)) rfl) (by decide) rfl h (fun h => ?_) (fun h => ?_)
        · refine k_aload_n C (pc2 := 103) (dkAt dkX7_ask 50 (q := (102, .aload_n 0, 1)) rfl) rfl rfl 0 rfl ?_
          refine k_bipush C (pc2 := 105) (dkAt dkX7_ask 51 (q := (103, .bipush (-2), 2)) rfl) rfl (v := (-2)) rfl ?_
          obtain ⟨q13, e14, h⟩ := ob_inv h
          refine kc_V C (As := [.int (-2)]) (st2 := [.int q13.2]) (ct_X7_refuse l G sh xs hX (-2) M q13 e14) (cl_X7_62 (hts_of C) ⟨Nat.le_of_ble_eq_true rfl, Nat.le_of_ble_eq_true rfl⟩ rfl rfl) hX.1 rfl rfl rfl rfl rfl (Nat.le_of_ble_eq_true rfl) (dkAt dkX7_ask 52 (q := (105, .invokevirtual 62, 3)) rfl) ⟨Nat.zero_le _, Nat.zero_le _⟩ (pc2 := 108) rfl rfl ?_
          refine kb_istore_n C (pc2 := 109) (dkAt dkX7_ask 53 (q := (108, .istore_n 3, 1)) rfl) rfl rfl (by decide) (lv2 := fun v15 => [(3, .int v15), (0, rA G 0), (1, .int x1), (2, .int x2)]) (fun _ => rfl) h (fun v15 h => ?_)
          refine k_iload_n C (pc2 := 110) (dkAt dkX7_ask 54 (q := (109, .iload_n 3, 1)) rfl) rfl rfl 0 rfl ?_
          exact k_iret C (dkAt dkX7_ask 55 (q := (110, .ireturn, 1)) rfl) (pe2 (Option.some.inj h)) rfl (pe1 (Option.some.inj h)) rfl
        · refine k_iload_n C (pc2 := 74) (dkAt dkX7_ask 36 (q := (73, .iload_n 2, 1)) rfl) rfl rfl 2 rfl ?_
          refine k_iconst C (pc2 := 75) (dkAt dkX7_ask 37 (q := (74, .iconst 0, 1)) rfl) rfl (v := 0) rfl ?_
          refine k_bipush C (pc2 := 77) (dkAt dkX7_ask 38 (q := (75, .bipush 12, 2)) rfl) rfl (v := 12) rfl ?_
          obtain ⟨q16, e17, h⟩ := ob_inv h
          refine kc_S C (As := [.int x2, .int 0, .int 12]) (st2 := [.int q16]) (ct_X7_within l G sh xs x2 0 12 M q16 e17) (cl_X7_58 (hts_of C) ⟨Nat.le_of_ble_eq_true rfl, Nat.le_of_ble_eq_true rfl⟩ rfl rfl) rfl rfl (Nat.le_of_ble_eq_true rfl) (dkAt dkX7_ask 39 (q := (77, .invokestatic 58, 3)) rfl) ⟨Nat.zero_le _, Nat.zero_le _⟩ (pc2 := 80) rfl rfl ?_
          refine k_if_eq C (tgt := 102) (pc2 := 83) (dkAt dkX7_ask 40 (q := (80, .ifCond .eq 22, 3)) rfl) (by decide) rfl h (fun h => ?_) (fun h => ?_)
          · refine k_aload_n C (pc2 := 103) (dkAt dkX7_ask 50 (q := (102, .aload_n 0, 1)) rfl) rfl rfl 0 rfl ?_
            refine k_bipush C (pc2 := 105) (dkAt dkX7_ask 51 (q := (103, .bipush (-2), 2)) rfl) rfl (v := (-2)) rfl ?_
            obtain ⟨q18, e19, h⟩ := ob_inv h
            refine kc_V C (As := [.int (-2)]) (st2 := [.int q18.2]) (ct_X7_refuse l G sh xs hX (-2) M q18 e19) (cl_X7_62 (hts_of C) ⟨Nat.le_of_ble_eq_true rfl, Nat.le_of_ble_eq_true rfl⟩ rfl rfl) hX.1 rfl rfl rfl rfl rfl (Nat.le_of_ble_eq_true rfl) (dkAt dkX7_ask 52 (q := (105, .invokevirtual 62, 3)) rfl) ⟨Nat.zero_le _, Nat.zero_le _⟩ (pc2 := 108) rfl rfl ?_
            refine kb_istore_n C (pc2 := 109) (dkAt dkX7_ask 53 (q := (108, .istore_n 3, 1)) rfl) rfl rfl (by decide) (lv2 := fun v20 => [(3, .int v20), (0, rA G 0), (1, .int x1), (2, .int x2)]) (fun _ => rfl) h (fun v20 h => ?_)
            refine k_iload_n C (pc2 := 110) (dkAt dkX7_ask 54 (q := (109, .iload_n 3, 1)) rfl) rfl rfl 0 rfl ?_
            exact k_iret C (dkAt dkX7_ask 55 (q := (110, .ireturn, 1)) rfl) (pe2 (Option.some.inj h)) rfl (pe1 (Option.some.inj h)) rfl
          · refine k_aload_n C (pc2 := 84) (dkAt dkX7_ask 41 (q := (83, .aload_n 0, 1)) rfl) rfl rfl 0 rfl ?_
            refine kf_X7_10 C (pc2 := 87) (o := 0) (o2 := 1) hX.1 rfl (dkAt dkX7_ask 42 (q := (84, .getfield 10, 3)) rfl) rfl ?_
            refine kf_X7_163 C (pc2 := 90) (o := 1) (o2 := 0) hX.2.1.1 (dkAt dkX7_ask 43 (q := (87, .getfield 163, 3)) rfl) rfl ?_
            refine kb_istore_n C (pc2 := 91) (dkAt dkX7_ask 44 (q := (90, .istore_n 3, 1)) rfl) rfl rfl (by decide) (lv2 := fun v21 => [(3, .int v21), (0, rA G 0), (1, .int x1), (2, .int x2)]) (fun _ => rfl) h (fun v21 h => ?_)
            refine k_aload_n C (pc2 := 92) (dkAt dkX7_ask 45 (q := (91, .aload_n 0, 1)) rfl) rfl rfl 1 rfl ?_
            refine kf_X7_10 C (pc2 := 95) (o := 0) (o2 := 1) hX.1 rfl (dkAt dkX7_ask 46 (q := (92, .getfield 10, 3)) rfl) rfl ?_
            refine k_iload_n C (pc2 := 96) (dkAt dkX7_ask 47 (q := (95, .iload_n 2, 1)) rfl) rfl rfl 3 rfl ?_
            refine kp_X7_163 C (pc2 := 99) (o := 1) hX.2.1.1 (dkAt dkX7_ask 48 (q := (96, .putfield 163, 3)) rfl) rfl h (fun M22 h => ?_)
            refine k_goto C (tgt := 109) (dkAt dkX7_ask 49 (q := (99, .goto 10, 3)) rfl) (by decide) ?_
            refine k_iload_n C (pc2 := 110) (dkAt dkX7_ask 54 (q := (109, .iload_n 3, 1)) rfl) rfl rfl 0 rfl ?_
            exact k_iret C (dkAt dkX7_ask 55 (q := (110, .ireturn, 1)) rfl) (pe2 (Option.some.inj h)) rfl (pe1 (Option.some.inj h)) rfl
      · refine k_aload_n C (pc2 := 50) (dkAt dkX7_ask 24 (q := (49, .aload_n 0, 1)) rfl) rfl rfl 0 rfl ?_
        refine kf_X7_10 C (pc2 := 53) (o := 0) (o2 := 1) hX.1 rfl (dkAt dkX7_ask 25 (q := (50, .getfield 10, 3)) rfl) rfl ?_
        refine kf_X7_160 C (pc2 := 56) (o := 1) (o2 := 0) hX.2.1.1 (dkAt dkX7_ask 26 (q := (53, .getfield 160, 3)) rfl) rfl ?_
        refine kb_istore_n C (pc2 := 57) (dkAt dkX7_ask 27 (q := (56, .istore_n 3, 1)) rfl) rfl rfl (by decide) (lv2 := fun v23 => [(3, .int v23), (0, rA G 0), (1, .int x1), (2, .int x2)]) (fun _ => rfl) h (fun v23 h => ?_)
        refine k_aload_n C (pc2 := 58) (dkAt dkX7_ask 28 (q := (57, .aload_n 0, 1)) rfl) rfl rfl 1 rfl ?_
        refine kf_X7_10 C (pc2 := 61) (o := 0) (o2 := 1) hX.1 rfl (dkAt dkX7_ask 29 (q := (58, .getfield 10, 3)) rfl) rfl ?_
        refine k_iload_n C (pc2 := 62) (dkAt dkX7_ask 30 (q := (61, .iload_n 2, 1)) rfl) rfl rfl 3 rfl ?_
        refine kp_X7_160 C (pc2 := 65) (o := 1) hX.2.1.1 (dkAt dkX7_ask 31 (q := (62, .putfield 160, 3)) rfl) rfl h (fun M24 h => ?_)
        refine k_goto C (tgt := 109) (dkAt dkX7_ask 32 (q := (65, .goto 44, 3)) rfl) (by decide) ?_
        refine k_iload_n C (pc2 := 110) (dkAt dkX7_ask 54 (q := (109, .iload_n 3, 1)) rfl) rfl rfl 0 rfl ?_
        exact k_iret C (dkAt dkX7_ask 55 (q := (110, .ireturn, 1)) rfl) (pe2 (Option.some.inj h)) rfl (pe1 (Option.some.inj h)) rfl
  · refine k_aload_n C (pc2 := 5) (dkAt dkX7_ask 2 (q := (4, .aload_n 0, 1)) rfl) rfl rfl 0 rfl ?_
    refine kf_X7_10 C (pc2 := 8) (o := 0) (o2 := 1) hX.1 rfl (dkAt dkX7_ask 3 (q := (5, .getfield 10, 3)) rfl) rfl ?_
    refine k_iload_n C (pc2 := 9) (dkAt dkX7_ask 4 (q := (8, .iload_n 2, 1)) rfl) rfl rfl 2 rfl ?_
    obtain ⟨q25, e26, h⟩ := ob_inv h
    refine kc_V C (As := [.int x2]) (st2 := [.int q25]) (ct_X1_hasPerson l G sh xs 1 hX.2.1 x2 M q25 e26) (cl_X7_105 (hts_of C) ⟨Nat.le_of_ble_eq_true rfl, Nat.le_of_ble_eq_true rfl⟩ rfl rfl) hX.2.1.1 rfl rfl rfl rfl rfl (Nat.le_of_ble_eq_true rfl) (dkAt dkX7_ask 5 (q := (9, .invokevirtual 105, 3)) rfl) ⟨Nat.zero_le _, Nat.zero_le _⟩ (pc2 := 12) rfl rfl ?_
    refine k_if_eq C (tgt := 34) (pc2 := 15) (dkAt dkX7_ask 6 (q := (12, .ifCond .eq 22, 3)) rfl) (by decide) rfl h (fun h => ?_) (fun h => ?_)
    · refine k_iload_n C (pc2 := 35) (dkAt dkX7_ask 16 (q := (34, .iload_n 1, 1)) rfl) rfl rfl 1 rfl ?_
      refine k_iconst C (pc2 := 36) (dkAt dkX7_ask 17 (q := (35, .iconst 1, 1)) rfl) rfl (v := 1) rfl ?_
      refine k_icmp_ne C (tgt := 68) (pc2 := 39) (dkAt dkX7_ask 18 (q := (36, .if_icmp .ne 32, 3)) rfl) (by decide) rfl h (fun h => ?_) (fun h => ?_)
      · refine k_iload_n C (pc2 := 69) (dkAt dkX7_ask 33 (q := (68, .iload_n 1, 1)) rfl) rfl rfl 1 rfl ?_
        refine k_iconst C (pc2 := 70) (dkAt dkX7_ask 34 (q := (69, .iconst 2, 1)) rfl) rfl (v := 2) rfl ?_
        refine k_icmp_ne C (tgt := 102) (pc2 := 73) (dkAt dkX7_ask 35 (q := (70, .if_icmp .ne 32, 3)) rfl) (by decide) rfl h (fun h => ?_) (fun h => ?_)
        · refine k_aload_n C (pc2 := 103) (dkAt dkX7_ask 50 (q := (102, .aload_n 0, 1)) rfl) rfl rfl 0 rfl ?_
          refine k_bipush C (pc2 := 105) (dkAt dkX7_ask 51 (q := (103, .bipush (-2), 2)) rfl) rfl (v := (-2)) rfl ?_
          obtain ⟨q27, e28, h⟩ := ob_inv h
          refine kc_V C (As := [.int (-2)]) (st2 := [.int q27.2]) (ct_X7_refuse l G sh xs hX (-2) M q27 e28) (cl_X7_62 (hts_of C) ⟨Nat.le_of_ble_eq_true rfl, Nat.le_of_ble_eq_true rfl⟩ rfl rfl) hX.1 rfl rfl rfl rfl rfl (Nat.le_of_ble_eq_true rfl) (dkAt dkX7_ask 52 (q := (105, .invokevirtual 62, 3)) rfl) ⟨Nat.zero_le _, Nat.zero_le _⟩ (pc2 := 108) rfl rfl ?_
          refine kb_istore_n C (pc2 := 109) (dkAt dkX7_ask 53 (q := (108, .istore_n 3, 1)) rfl) rfl rfl (by decide) (lv2 := fun v29 => [(3, .int v29), (0, rA G 0), (1, .int x1), (2, .int x2)]) (fun _ => rfl) h (fun v29 h => ?_)
          refine k_iload_n C (pc2 := 110) (dkAt dkX7_ask 54 (q := (109, .iload_n 3, 1)) rfl) rfl rfl 0 rfl ?_
          exact k_iret C (dkAt dkX7_ask 55 (q := (110, .ireturn, 1)) rfl) (pe2 (Option.some.inj h)) rfl (pe1 (Option.some.inj h)) rfl
        · refine k_iload_n C (pc2 := 74) (dkAt dkX7_ask 36 (q := (73, .iload_n 2, 1)) rfl) rfl rfl 2 rfl ?_
          refine k_iconst C (pc2 := 75) (dkAt dkX7_ask 37 (q := (74, .iconst 0, 1)) rfl) rfl (v := 0) rfl ?_
          refine k_bipush C (pc2 := 77) (dkAt dkX7_ask 38 (q := (75, .bipush 12, 2)) rfl) rfl (v := 12) rfl ?_
          obtain ⟨q30, e31, h⟩ := ob_inv h
          refine kc_S C (As := [.int x2, .int 0, .int 12]) (st2 := [.int q30]) (ct_X7_within l G sh xs x2 0 12 M q30 e31) (cl_X7_58 (hts_of C) ⟨Nat.le_of_ble_eq_true rfl, Nat.le_of_ble_eq_true rfl⟩ rfl rfl) rfl rfl (Nat.le_of_ble_eq_true rfl) (dkAt dkX7_ask 39 (q := (77, .invokestatic 58, 3)) rfl) ⟨Nat.zero_le _, Nat.zero_le _⟩ (pc2 := 80) rfl rfl ?_
          refine k_if_eq C (tgt := 102) (pc2 := 83) (dkAt dkX7_ask 40 (q := (80, .ifCond .eq 22, 3)) rfl) (by decide) rfl h (fun h => ?_) (fun h => ?_)
          · refine k_aload_n C (pc2 := 103) (dkAt dkX7_ask 50 (q := (102, .aload_n 0, 1)) rfl) rfl rfl 0 rfl ?_
            refine k_bipush C (pc2 := 105) (dkAt dkX7_ask 51 (q := (103, .bipush (-2), 2)) rfl) rfl (v := (-2)) rfl ?_
            obtain ⟨q32, e33, h⟩ := ob_inv h
            refine kc_V C (As := [.int (-2)]) (st2 := [.int q32.2]) (ct_X7_refuse l G sh xs hX (-2) M q32 e33) (cl_X7_62 (hts_of C) ⟨Nat.le_of_ble_eq_true rfl, Nat.le_of_ble_eq_true rfl⟩ rfl rfl) hX.1 rfl rfl rfl rfl rfl (Nat.le_of_ble_eq_true rfl) (dkAt dkX7_ask 52 (q := (105, .invokevirtual 62, 3)) rfl) ⟨Nat.zero_le _, Nat.zero_le _⟩ (pc2 := 108) rfl rfl ?_
            refine kb_istore_n C (pc2 := 109) (dkAt dkX7_ask 53 (q := (108, .istore_n 3, 1)) rfl) rfl rfl (by decide) (lv2 := fun v34 => [(3, .int v34), (0, rA G 0), (1, .int x1), (2, .int x2)]) (fun _ => rfl) h (fun v34 h => ?_)
            refine k_iload_n C (pc2 := 110) (dkAt dkX7_ask 54 (q := (109, .iload_n 3, 1)) rfl) rfl rfl 0 rfl ?_
            exact k_iret C (dkAt dkX7_ask 55 (q := (110, .ireturn, 1)) rfl) (pe2 (Option.some.inj h)) rfl (pe1 (Option.some.inj h)) rfl
          · refine k_aload_n C (pc2 := 84) (dkAt dkX7_ask 41 (q := (83, .aload_n 0, 1)) rfl) rfl rfl 0 rfl ?_
            refine kf_X7_10 C (pc2 := 87) (o := 0) (o2 := 1) hX.1 rfl (dkAt dkX7_ask 42 (q := (84, .getfield 10, 3)) rfl) rfl ?_
            refine kf_X7_163 C (pc2 := 90) (o := 1) (o2 := 0) hX.2.1.1 (dkAt dkX7_ask 43 (q := (87, .getfield 163, 3)) rfl) rfl ?_
            refine kb_istore_n C (pc2 := 91) (dkAt dkX7_ask 44 (q := (90, .istore_n 3, 1)) rfl) rfl rfl (by decide) (lv2 := fun v35 => [(3, .int v35), (0, rA G 0), (1, .int x1), (2, .int x2)]) (fun _ => rfl) h (fun v35 h => ?_)
            refine k_aload_n C (pc2 := 92) (dkAt dkX7_ask 45 (q := (91, .aload_n 0, 1)) rfl) rfl rfl 1 rfl ?_
            refine kf_X7_10 C (pc2 := 95) (o := 0) (o2 := 1) hX.1 rfl (dkAt dkX7_ask 46 (q := (92, .getfield 10, 3)) rfl) rfl ?_
            refine k_iload_n C (pc2 := 96) (dkAt dkX7_ask 47 (q := (95, .iload_n 2, 1)) rfl) rfl rfl 3 rfl ?_
            refine kp_X7_163 C (pc2 := 99) (o := 1) hX.2.1.1 (dkAt dkX7_ask 48 (q := (96, .putfield 163, 3)) rfl) rfl h (fun M36 h => ?_)
            refine k_goto C (tgt := 109) (dkAt dkX7_ask 49 (q := (99, .goto 10, 3)) rfl) (by decide) ?_
            refine k_iload_n C (pc2 := 110) (dkAt dkX7_ask 54 (q := (109, .iload_n 3, 1)) rfl) rfl rfl 0 rfl ?_
            exact k_iret C (dkAt dkX7_ask 55 (q := (110, .ireturn, 1)) rfl) (pe2 (Option.some.inj h)) rfl (pe1 (Option.some.inj h)) rfl
      · refine k_iload_n C (pc2 := 40) (dkAt dkX7_ask 19 (q := (39, .iload_n 2, 1)) rfl) rfl rfl 2 rfl ?_
        refine k_iconst C (pc2 := 41) (dkAt dkX7_ask 20 (q := (40, .iconst 1, 1)) rfl) rfl (v := 1) rfl ?_
        refine k_bipush C (pc2 := 43) (dkAt dkX7_ask 21 (q := (41, .bipush 8, 2)) rfl) rfl (v := 8) rfl ?_
        obtain ⟨q37, e38, h⟩ := ob_inv h
        refine kc_S C (As := [.int x2, .int 1, .int 8]) (st2 := [.int q37]) (ct_X7_within l G sh xs x2 1 8 M q37 e38) (cl_X7_58 (hts_of C) ⟨Nat.le_of_ble_eq_true rfl, Nat.le_of_ble_eq_true rfl⟩ rfl rfl) rfl rfl (Nat.le_of_ble_eq_true rfl) (dkAt dkX7_ask 22 (q := (43, .invokestatic 58, 3)) rfl) ⟨Nat.zero_le _, Nat.zero_le _⟩ (pc2 := 46) rfl rfl ?_
        refine k_if_eq C (tgt := 68) (pc2 := 49) (dkAt dkX7_ask 23 (q := (46, .ifCond .eq 22, 3)) rfl) (by decide) rfl h (fun h => ?_) (fun h => ?_)
        · refine k_iload_n C (pc2 := 69) (dkAt dkX7_ask 33 (q := (68, .iload_n 1, 1)) rfl) rfl rfl 1 rfl ?_
          refine k_iconst C (pc2 := 70) (dkAt dkX7_ask 34 (q := (69, .iconst 2, 1)) rfl) rfl (v := 2) rfl ?_
          refine k_icmp_ne C (tgt := 102) (pc2 := 73) (dkAt dkX7_ask 35 (q := (70, .if_icmp .ne 32, 3)) rfl) (by decide) rfl h (fun h => ?_) (fun h => ?_)
          · refine k_aload_n C (pc2 := 103) (dkAt dkX7_ask 50 (q := (102, .aload_n 0, 1)) rfl) rfl rfl 0 rfl ?_
            refine k_bipush C (pc2 := 105) (dkAt dkX7_ask 51 (q := (103, .bipush (-2), 2)) rfl) rfl (v := (-2)) rfl ?_
            obtain ⟨q39, e40, h⟩ := ob_inv h
            refine kc_V C (As := [.int (-2)]) (st2 := [.int q39.2]) (ct_X7_refuse l G sh xs hX (-2) M q39 e40) (cl_X7_62 (hts_of C) ⟨Nat.le_of_ble_eq_true rfl, Nat.le_of_ble_eq_true rfl⟩ rfl rfl) hX.1 rfl rfl rfl rfl rfl (Nat.le_of_ble_eq_true rfl) (dkAt dkX7_ask 52 (q := (105, .invokevirtual 62, 3)) rfl) ⟨Nat.zero_le _, Nat.zero_le _⟩ (pc2 := 108) rfl rfl ?_
            refine kb_istore_n C (pc2 := 109) (dkAt dkX7_ask 53 (q := (108, .istore_n 3, 1)) rfl) rfl rfl (by decide) (lv2 := fun v41 => [(3, .int v41), (0, rA G 0), (1, .int x1), (2, .int x2)]) (fun _ => rfl) h (fun v41 h => ?_)
            refine k_iload_n C (pc2 := 110) (dkAt dkX7_ask 54 (q := (109, .iload_n 3, 1)) rfl) rfl rfl 0 rfl ?_
            exact k_iret C (dkAt dkX7_ask 55 (q := (110, .ireturn, 1)) rfl) (pe2 (Option.some.inj h)) rfl (pe1 (Option.some.inj h)) rfl
          · refine k_iload_n C (pc2 := 74) (dkAt dkX7_ask 36 (q := (73, .iload_n 2, 1)) rfl) rfl rfl 2 rfl ?_
            refine k_iconst C (pc2 := 75) (dkAt dkX7_ask 37 (q := (74, .iconst 0, 1)) rfl) rfl (v := 0) rfl ?_
            refine k_bipush C (pc2 := 77) (dkAt dkX7_ask 38 (q := (75, .bipush 12, 2)) rfl) rfl (v := 12) rfl ?_
            obtain ⟨q42, e43, h⟩ := ob_inv h
            refine kc_S C (As := [.int x2, .int 0, .int 12]) (st2 := [.int q42]) (ct_X7_within l G sh xs x2 0 12 M q42 e43) (cl_X7_58 (hts_of C) ⟨Nat.le_of_ble_eq_true rfl, Nat.le_of_ble_eq_true rfl⟩ rfl rfl) rfl rfl (Nat.le_of_ble_eq_true rfl) (dkAt dkX7_ask 39 (q := (77, .invokestatic 58, 3)) rfl) ⟨Nat.zero_le _, Nat.zero_le _⟩ (pc2 := 80) rfl rfl ?_
            refine k_if_eq C (tgt := 102) (pc2 := 83) (dkAt dkX7_ask 40 (q := (80, .ifCond .eq 22, 3)) rfl) (by decide) rfl h (fun h => ?_) (fun h => ?_)
            · refine k_aload_n C (pc2 := 103) (dkAt dkX7_ask 50 (q := (102, .aload_n 0, 1)) rfl) rfl rfl 0 rfl ?_
              refine k_bipush C (pc2 := 105) (dkAt dkX7_ask 51 (q := (103, .bipush (-2), 2)) rfl) rfl (v := (-2)) rfl ?_
              obtain ⟨q44, e45, h⟩ := ob_inv h
              refine kc_V C (As := [.int (-2)]) (st2 := [.int q44.2]) (ct_X7_refuse l G sh xs hX (-2) M q44 e45) (cl_X7_62 (hts_of C) ⟨Nat.le_of_ble_eq_true rfl, Nat.le_of_ble_eq_true rfl⟩ rfl rfl) hX.1 rfl rfl rfl rfl rfl (Nat.le_of_ble_eq_true rfl) (dkAt dkX7_ask 52 (q := (105, .invokevirtual 62, 3)) rfl) ⟨Nat.zero_le _, Nat.zero_le _⟩ (pc2 := 108) rfl rfl ?_
              refine kb_istore_n C (pc2 := 109) (dkAt dkX7_ask 53 (q := (108, .istore_n 3, 1)) rfl) rfl rfl (by decide) (lv2 := fun v46 => [(3, .int v46), (0, rA G 0), (1, .int x1), (2, .int x2)]) (fun _ => rfl) h (fun v46 h => ?_)
              refine k_iload_n C (pc2 := 110) (dkAt dkX7_ask 54 (q := (109, .iload_n 3, 1)) rfl) rfl rfl 0 rfl ?_
              exact k_iret C (dkAt dkX7_ask 55 (q := (110, .ireturn, 1)) rfl) (pe2 (Option.some.inj h)) rfl (pe1 (Option.some.inj h)) rfl
            · refine k_aload_n C (pc2 := 84) (dkAt dkX7_ask 41 (q := (83, .aload_n 0, 1)) rfl) rfl rfl 0 rfl ?_
              refine kf_X7_10 C (pc2 := 87) (o := 0) (o2 := 1) hX.1 rfl (dkAt dkX7_ask 42 (q := (84, .getfield 10, 3)) rfl) rfl ?_
              refine kf_X7_163 C (pc2 := 90) (o := 1) (o2 := 0) hX.2.1.1 (dkAt dkX7_ask 43 (q := (87, .getfield 163, 3)) rfl) rfl ?_
              refine kb_istore_n C (pc2 := 91) (dkAt dkX7_ask 44 (q := (90, .istore_n 3, 1)) rfl) rfl rfl (by decide) (lv2 := fun v47 => [(3, .int v47), (0, rA G 0), (1, .int x1), (2, .int x2)]) (fun _ => rfl) h (fun v47 h => ?_)
              refine k_aload_n C (pc2 := 92) (dkAt dkX7_ask 45 (q := (91, .aload_n 0, 1)) rfl) rfl rfl 1 rfl ?_
              refine kf_X7_10 C (pc2 := 95) (o := 0) (o2 := 1) hX.1 rfl (dkAt dkX7_ask 46 (q := (92, .getfield 10, 3)) rfl) rfl ?_
              refine k_iload_n C (pc2 := 96) (dkAt dkX7_ask 47 (q := (95, .iload_n 2, 1)) rfl) rfl rfl 3 rfl ?_
              refine kp_X7_163 C (pc2 := 99) (o := 1) hX.2.1.1 (dkAt dkX7_ask 48 (q := (96, .putfield 163, 3)) rfl) rfl h (fun M48 h => ?_)
              refine k_goto C (tgt := 109) (dkAt dkX7_ask 49 (q := (99, .goto 10, 3)) rfl) (by decide) ?_
              refine k_iload_n C (pc2 := 110) (dkAt dkX7_ask 54 (q := (109, .iload_n 3, 1)) rfl) rfl rfl 0 rfl ?_
              exact k_iret C (dkAt dkX7_ask 55 (q := (110, .ireturn, 1)) rfl) (pe2 (Option.some.inj h)) rfl (pe1 (Option.some.inj h)) rfl
        · refine k_aload_n C (pc2 := 50) (dkAt dkX7_ask 24 (q := (49, .aload_n 0, 1)) rfl) rfl rfl 0 rfl ?_
          refine kf_X7_10 C (pc2 := 53) (o := 0) (o2 := 1) hX.1 rfl (dkAt dkX7_ask 25 (q := (50, .getfield 10, 3)) rfl) rfl ?_
          refine kf_X7_160 C (pc2 := 56) (o := 1) (o2 := 0) hX.2.1.1 (dkAt dkX7_ask 26 (q := (53, .getfield 160, 3)) rfl) rfl ?_
          refine kb_istore_n C (pc2 := 57) (dkAt dkX7_ask 27 (q := (56, .istore_n 3, 1)) rfl) rfl rfl (by decide) (lv2 := fun v49 => [(3, .int v49), (0, rA G 0), (1, .int x1), (2, .int x2)]) (fun _ => rfl) h (fun v49 h => ?_)
          refine k_aload_n C (pc2 := 58) (dkAt dkX7_ask 28 (q := (57, .aload_n 0, 1)) rfl) rfl rfl 1 rfl ?_
          refine kf_X7_10 C (pc2 := 61) (o := 0) (o2 := 1) hX.1 rfl (dkAt dkX7_ask 29 (q := (58, .getfield 10, 3)) rfl) rfl ?_
          refine k_iload_n C (pc2 := 62) (dkAt dkX7_ask 30 (q := (61, .iload_n 2, 1)) rfl) rfl rfl 3 rfl ?_
          refine kp_X7_160 C (pc2 := 65) (o := 1) hX.2.1.1 (dkAt dkX7_ask 31 (q := (62, .putfield 160, 3)) rfl) rfl h (fun M50 h => ?_)
          refine k_goto C (tgt := 109) (dkAt dkX7_ask 32 (q := (65, .goto 44, 3)) rfl) (by decide) ?_
          refine k_iload_n C (pc2 := 110) (dkAt dkX7_ask 54 (q := (109, .iload_n 3, 1)) rfl) rfl rfl 0 rfl ?_
          exact k_iret C (dkAt dkX7_ask 55 (q := (110, .ireturn, 1)) rfl) (pe2 (Option.some.inj h)) rfl (pe1 (Option.some.inj h)) rfl
    · refine k_aload_n C (pc2 := 16) (dkAt dkX7_ask 7 (q := (15, .aload_n 0, 1)) rfl) rfl rfl 0 rfl ?_
      refine kf_X7_10 C (pc2 := 19) (o := 0) (o2 := 1) hX.1 rfl (dkAt dkX7_ask 8 (q := (16, .getfield 10, 3)) rfl) rfl ?_
      refine kf_X7_157 C (pc2 := 22) (o := 1) (o2 := 0) hX.2.1.1 (dkAt dkX7_ask 9 (q := (19, .getfield 157, 3)) rfl) rfl ?_
      refine kb_istore_n C (pc2 := 23) (dkAt dkX7_ask 10 (q := (22, .istore_n 3, 1)) rfl) rfl rfl (by decide) (lv2 := fun v51 => [(3, .int v51), (0, rA G 0), (1, .int x1), (2, .int x2)]) (fun _ => rfl) h (fun v51 h => ?_)
      refine k_aload_n C (pc2 := 24) (dkAt dkX7_ask 11 (q := (23, .aload_n 0, 1)) rfl) rfl rfl 1 rfl ?_
      refine kf_X7_10 C (pc2 := 27) (o := 0) (o2 := 1) hX.1 rfl (dkAt dkX7_ask 12 (q := (24, .getfield 10, 3)) rfl) rfl ?_
      refine k_iload_n C (pc2 := 28) (dkAt dkX7_ask 13 (q := (27, .iload_n 2, 1)) rfl) rfl rfl 3 rfl ?_
      refine kp_X7_157 C (pc2 := 31) (o := 1) hX.2.1.1 (dkAt dkX7_ask 14 (q := (28, .putfield 157, 3)) rfl) rfl h (fun M52 h => ?_)
      refine k_goto C (tgt := 109) (dkAt dkX7_ask 15 (q := (31, .goto 78, 3)) rfl) (by decide) ?_
      refine k_iload_n C (pc2 := 110) (dkAt dkX7_ask 54 (q := (109, .iload_n 3, 1)) rfl) rfl rfl 0 rfl ?_
      exact k_iret C (dkAt dkX7_ask 55 (q := (110, .ireturn, 1)) rfl) (pe2 (Option.some.inj h)) rfl (pe1 (Option.some.inj h)) rfl
set_option maxRecDepth 100000 in
set_option maxHeartbeats 4000000 in
theorem ct_X7_out (l : Launch) (G : GG) (sh : Sh) (xs : List va_E) (hX : isX sh) (x1 : Int32) (x2 : Int32) (M : Mm) (r : Mm × Int32) (h : f_X7_out x1 x2 M = some r) : Ct l yX7_out cX7_out 4 (some .int) rm_X7_out G [rA G 0, .int x1, .int x2] sh M xs (some (.int r.2)) sh r.1 xs 0 0 := by
  refine ct_of (by decide) (Nat.le_of_ble_eq_true rfl) ?_
  intro p e s m args below meth c hnm C
  refine k_lv [0, 1, 2] (lv2 := [(0, rA G 0), (1, .int x1), (2, .int x2)]) rfl ?_
  unfold f_X7_out at h
  refine k_aload_n C (pc2 := 1) (dkAt dkX7_out 0 (q := (0, .aload_n 0, 1)) rfl) rfl rfl 0 rfl ?_
  refine kf_X7_10 C (pc2 := 4) (o := 0) (o2 := 1) hX.1 rfl (dkAt dkX7_out 1 (q := (1, .getfield 10, 3)) rfl) rfl ?_
  refine k_iload_n C (pc2 := 5) (dkAt dkX7_out 2 (q := (4, .iload_n 1, 1)) rfl) rfl rfl 1 rfl ?_
  obtain ⟨q1, e2, h⟩ := ob_inv h
  refine kc_V C (As := [.int x1]) (st2 := [.int q1]) (ct_X1_hasPerson l G sh xs 1 hX.2.1 x1 M q1 e2) (cl_X7_105 (hts_of C) ⟨Nat.le_of_ble_eq_true rfl, Nat.le_of_ble_eq_true rfl⟩ rfl rfl) hX.2.1.1 rfl rfl rfl rfl rfl (Nat.le_of_ble_eq_true rfl) (dkAt dkX7_out 3 (q := (5, .invokevirtual 105, 3)) rfl) ⟨Nat.zero_le _, Nat.zero_le _⟩ (pc2 := 8) rfl rfl ?_
  refine k_if_eq C (tgt := 21) (pc2 := 11) (dkAt dkX7_out 4 (q := (8, .ifCond .eq 13, 3)) rfl) (by decide) rfl h (fun h => ?_) (fun h => ?_)
  · refine k_aload_n C (pc2 := 22) (dkAt dkX7_out 10 (q := (21, .aload_n 0, 1)) rfl) rfl rfl 0 rfl ?_
    refine k_bipush C (pc2 := 24) (dkAt dkX7_out 11 (q := (22, .bipush (-2), 2)) rfl) rfl (v := (-2)) rfl ?_
    obtain ⟨q3, e4, h⟩ := ob_inv h
    refine kc_V C (As := [.int (-2)]) (st2 := [.int q3.2]) (ct_X7_refuse l G sh xs hX (-2) M q3 e4) (cl_X7_62 (hts_of C) ⟨Nat.le_of_ble_eq_true rfl, Nat.le_of_ble_eq_true rfl⟩ rfl rfl) hX.1 rfl rfl rfl rfl rfl (Nat.le_of_ble_eq_true rfl) (dkAt dkX7_out 12 (q := (24, .invokevirtual 62, 3)) rfl) ⟨Nat.zero_le _, Nat.zero_le _⟩ (pc2 := 27) rfl rfl ?_
    exact k_iret C (dkAt dkX7_out 13 (q := (27, .ireturn, 1)) rfl) (pe2 (Option.some.inj h)) rfl (pe1 (Option.some.inj h)) rfl
  · refine k_iload_n C (pc2 := 12) (dkAt dkX7_out 5 (q := (11, .iload_n 2, 1)) rfl) rfl rfl 2 rfl ?_
    refine k_iconst C (pc2 := 13) (dkAt dkX7_out 6 (q := (12, .iconst 0, 1)) rfl) rfl (v := 0) rfl ?_
    refine k_bipush C (pc2 := 15) (dkAt dkX7_out 7 (q := (13, .bipush 99, 2)) rfl) rfl (v := 99) rfl ?_
    obtain ⟨q5, e6, h⟩ := ob_inv h
    refine kc_S C (As := [.int x2, .int 0, .int 99]) (st2 := [.int q5]) (ct_X7_within l G sh xs x2 0 99 M q5 e6) (cl_X7_58 (hts_of C) ⟨Nat.le_of_ble_eq_true rfl, Nat.le_of_ble_eq_true rfl⟩ rfl rfl) rfl rfl (Nat.le_of_ble_eq_true rfl) (dkAt dkX7_out 8 (q := (15, .invokestatic 58, 3)) rfl) ⟨Nat.zero_le _, Nat.zero_le _⟩ (pc2 := 18) rfl rfl ?_
    refine k_if_ne C (tgt := 28) (pc2 := 21) (dkAt dkX7_out 9 (q := (18, .ifCond .ne 10, 3)) rfl) (by decide) rfl h (fun h => ?_) (fun h => ?_)
    · refine k_aload_n C (pc2 := 29) (dkAt dkX7_out 14 (q := (28, .aload_n 0, 1)) rfl) rfl rfl 0 rfl ?_
      refine kf_X7_10 C (pc2 := 32) (o := 0) (o2 := 1) hX.1 rfl (dkAt dkX7_out 15 (q := (29, .getfield 10, 3)) rfl) rfl ?_
      refine kf_X7_122 C (pc2 := 35) (o := 1) (o2 := 2) hX.2.1.1 rfl (dkAt dkX7_out 16 (q := (32, .getfield 122, 3)) rfl) rfl ?_
      refine k_iload_n C (pc2 := 36) (dkAt dkX7_out 17 (q := (35, .iload_n 1, 1)) rfl) rfl rfl 1 rfl ?_
      refine k_aa11 C (pc2 := 37) (o := 2) (o2 := 3 + x1.toNatClampNeg) (nA := 8) hX.2.1.2.1 rfl (dkAt dkX7_out 18 (q := (36, .aaload, 1)) rfl) rfl h (fun h hl7 => ?_)
      refine kf_X7_166 C (pc2 := 40) (o := 3 + x1.toNatClampNeg) (o2 := 0) (hX.2.1.2.2 _ hl7) (dkAt dkX7_out 19 (q := (37, .getfield 166, 3)) rfl) rfl ?_
      refine kb_istore_n C (pc2 := 41) (dkAt dkX7_out 20 (q := (40, .istore_n 3, 1)) rfl) rfl rfl (by decide) (lv2 := fun v8 => [(3, .int v8), (0, rA G 0), (1, .int x1), (2, .int x2)]) (fun _ => rfl) h (fun v8 h => ?_)
      refine k_aload_n C (pc2 := 42) (dkAt dkX7_out 21 (q := (41, .aload_n 0, 1)) rfl) rfl rfl 1 rfl ?_
      refine kf_X7_10 C (pc2 := 45) (o := 0) (o2 := 1) hX.1 rfl (dkAt dkX7_out 22 (q := (42, .getfield 10, 3)) rfl) rfl ?_
      refine kf_X7_122 C (pc2 := 48) (o := 1) (o2 := 2) hX.2.1.1 rfl (dkAt dkX7_out 23 (q := (45, .getfield 122, 3)) rfl) rfl ?_
      refine k_iload_n C (pc2 := 49) (dkAt dkX7_out 24 (q := (48, .iload_n 1, 1)) rfl) rfl rfl 2 rfl ?_
      refine k_aa11 C (pc2 := 50) (o := 2) (o2 := 3 + x1.toNatClampNeg) (nA := 8) hX.2.1.2.1 rfl (dkAt dkX7_out 25 (q := (49, .aaload, 1)) rfl) rfl h (fun h hl9 => ?_)
      refine k_iload_n C (pc2 := 51) (dkAt dkX7_out 26 (q := (50, .iload_n 2, 1)) rfl) rfl rfl 3 rfl ?_
      refine kp_X7_166 C (pc2 := 54) (o := 3 + x1.toNatClampNeg) (hX.2.1.2.2 _ hl9) (dkAt dkX7_out 27 (q := (51, .putfield 166, 3)) rfl) rfl h (fun M10 h => ?_)
      refine k_iload_n C (pc2 := 55) (dkAt dkX7_out 28 (q := (54, .iload_n 3, 1)) rfl) rfl rfl 0 rfl ?_
      exact k_iret C (dkAt dkX7_out 29 (q := (55, .ireturn, 1)) rfl) (pe2 (Option.some.inj h)) rfl (pe1 (Option.some.inj h)) rfl
    · refine k_aload_n C (pc2 := 22) (dkAt dkX7_out 10 (q := (21, .aload_n 0, 1)) rfl) rfl rfl 0 rfl ?_
      refine k_bipush C (pc2 := 24) (dkAt dkX7_out 11 (q := (22, .bipush (-2), 2)) rfl) rfl (v := (-2)) rfl ?_
      obtain ⟨q11, e12, h⟩ := ob_inv h
      refine kc_V C (As := [.int (-2)]) (st2 := [.int q11.2]) (ct_X7_refuse l G sh xs hX (-2) M q11 e12) (cl_X7_62 (hts_of C) ⟨Nat.le_of_ble_eq_true rfl, Nat.le_of_ble_eq_true rfl⟩ rfl rfl) hX.1 rfl rfl rfl rfl rfl (Nat.le_of_ble_eq_true rfl) (dkAt dkX7_out 12 (q := (24, .invokevirtual 62, 3)) rfl) ⟨Nat.zero_le _, Nat.zero_le _⟩ (pc2 := 27) rfl rfl ?_
      exact k_iret C (dkAt dkX7_out 13 (q := (27, .ireturn, 1)) rfl) (pe2 (Option.some.inj h)) rfl (pe1 (Option.some.inj h)) rfl
set_option maxRecDepth 100000 in
set_option maxHeartbeats 4000000 in
theorem ct_X7_feed (l : Launch) (G : GG) (sh : Sh) (xs : List va_E) (hX : isX sh) (x1 : Int32) (M : Mm) (r : Mm × Int32) (h : f_X7_feed x1 M = some r) : Ct l yX7_feed cX7_feed 2 (some .int) rm_X7_feed G [rA G 0, .int x1] sh M xs (some (.int r.2)) sh r.1 xs 0 0 := by
  refine ct_of (by decide) (Nat.le_of_ble_eq_true rfl) ?_
  intro p e s m args below meth c hnm C
  refine k_lv [0, 1] (lv2 := [(0, rA G 0), (1, .int x1)]) rfl ?_
  unfold f_X7_feed at h
  refine k_iload_n C (pc2 := 1) (dkAt dkX7_feed 0 (q := (0, .iload_n 1, 1)) rfl) rfl rfl 1 rfl ?_
  refine k_iconst C (pc2 := 2) (dkAt dkX7_feed 1 (q := (1, .iconst 0, 1)) rfl) rfl (v := 0) rfl ?_
  refine k_sipush C (pc2 := 5) (dkAt dkX7_feed 2 (q := (2, .sipush 255, 3)) rfl) rfl (v := 255) rfl ?_
  obtain ⟨q1, e2, h⟩ := ob_inv h
  refine kc_S C (As := [.int x1, .int 0, .int 255]) (st2 := [.int q1]) (ct_X7_within l G sh xs x1 0 255 M q1 e2) (cl_X7_58 (hts_of C) ⟨Nat.le_of_ble_eq_true rfl, Nat.le_of_ble_eq_true rfl⟩ rfl rfl) rfl rfl (Nat.le_of_ble_eq_true rfl) (dkAt dkX7_feed 3 (q := (5, .invokestatic 58, 3)) rfl) ⟨Nat.zero_le _, Nat.zero_le _⟩ (pc2 := 8) rfl rfl ?_
  refine k_if_ne C (tgt := 18) (pc2 := 11) (dkAt dkX7_feed 4 (q := (8, .ifCond .ne 10, 3)) rfl) (by decide) rfl h (fun h => ?_) (fun h => ?_)
  · refine k_aload_n C (pc2 := 19) (dkAt dkX7_feed 9 (q := (18, .aload_n 0, 1)) rfl) rfl rfl 0 rfl ?_
    refine kf_X7_36 C (pc2 := 22) (o := 0) (o2 := 37) hX.1 rfl (dkAt dkX7_feed 10 (q := (19, .getfield 36, 3)) rfl) rfl ?_
    refine kf_X7_169 C (pc2 := 25) (o := 37) (o2 := 38) hX.2.2.2.2.2.1.1 rfl (dkAt dkX7_feed 11 (q := (22, .getfield 169, 3)) rfl) rfl ?_
    refine k_iload_n C (pc2 := 26) (dkAt dkX7_feed 12 (q := (25, .iload_n 1, 1)) rfl) rfl rfl 1 rfl ?_
    obtain ⟨q3, e4, h⟩ := ob_inv h
    refine kc_V C (As := [.int x1]) (st2 := [.int q3.2]) (ct_X5_takes l G sh xs 38 hX.2.2.2.2.2.1.2.1 x1 M q3 e4) (cl_X7_173 (hts_of C) ⟨Nat.le_of_ble_eq_true rfl, Nat.le_of_ble_eq_true rfl⟩ rfl rfl) hX.2.2.2.2.2.1.2.1.1 rfl rfl rfl rfl rfl (Nat.le_of_ble_eq_true rfl) (dkAt dkX7_feed 13 (q := (26, .invokevirtual 173, 3)) rfl) ⟨Nat.zero_le _, Nat.zero_le _⟩ (pc2 := 29) rfl rfl ?_
    refine k_if_ne C (tgt := 39) (pc2 := 32) (dkAt dkX7_feed 14 (q := (29, .ifCond .ne 10, 3)) rfl) (by decide) rfl h (fun h => ?_) (fun h => ?_)
    · refine k_aload_n C (pc2 := 40) (dkAt dkX7_feed 19 (q := (39, .aload_n 0, 1)) rfl) rfl rfl 0 rfl ?_
      refine kf_X7_36 C (pc2 := 43) (o := 0) (o2 := 37) hX.1 rfl (dkAt dkX7_feed 20 (q := (40, .getfield 36, 3)) rfl) rfl ?_
      refine kf_X7_169 C (pc2 := 46) (o := 37) (o2 := 38) hX.2.2.2.2.2.1.1 rfl (dkAt dkX7_feed 21 (q := (43, .getfield 169, 3)) rfl) rfl ?_
      refine kf_X7_178 C (pc2 := 49) (o := 38) (o2 := 0) hX.2.2.2.2.2.1.2.1.1 (dkAt dkX7_feed 22 (q := (46, .getfield 178, 3)) rfl) rfl ?_
      exact k_iret C (dkAt dkX7_feed 23 (q := (49, .ireturn, 1)) rfl) (pe2 (Option.some.inj h)) rfl (pe1 (Option.some.inj h)) rfl
    · refine k_aload_n C (pc2 := 33) (dkAt dkX7_feed 15 (q := (32, .aload_n 0, 1)) rfl) rfl rfl 0 rfl ?_
      refine k_bipush C (pc2 := 35) (dkAt dkX7_feed 16 (q := (33, .bipush (-6), 2)) rfl) rfl (v := (-6)) rfl ?_
      obtain ⟨q5, e6, h⟩ := ob_inv h
      refine kc_V C (As := [.int (-6)]) (st2 := [.int q5.2]) (ct_X7_refuse l G sh xs hX (-6) q3.1 q5 e6) (cl_X7_62 (hts_of C) ⟨Nat.le_of_ble_eq_true rfl, Nat.le_of_ble_eq_true rfl⟩ rfl rfl) hX.1 rfl rfl rfl rfl rfl (Nat.le_of_ble_eq_true rfl) (dkAt dkX7_feed 17 (q := (35, .invokevirtual 62, 3)) rfl) ⟨Nat.zero_le _, Nat.zero_le _⟩ (pc2 := 38) rfl rfl ?_
      exact k_iret C (dkAt dkX7_feed 18 (q := (38, .ireturn, 1)) rfl) (pe2 (Option.some.inj h)) rfl (pe1 (Option.some.inj h)) rfl
  · refine k_aload_n C (pc2 := 12) (dkAt dkX7_feed 5 (q := (11, .aload_n 0, 1)) rfl) rfl rfl 0 rfl ?_
    refine k_bipush C (pc2 := 14) (dkAt dkX7_feed 6 (q := (12, .bipush (-2), 2)) rfl) rfl (v := (-2)) rfl ?_
    obtain ⟨q7, e8, h⟩ := ob_inv h
    refine kc_V C (As := [.int (-2)]) (st2 := [.int q7.2]) (ct_X7_refuse l G sh xs hX (-2) M q7 e8) (cl_X7_62 (hts_of C) ⟨Nat.le_of_ble_eq_true rfl, Nat.le_of_ble_eq_true rfl⟩ rfl rfl) hX.1 rfl rfl rfl rfl rfl (Nat.le_of_ble_eq_true rfl) (dkAt dkX7_feed 7 (q := (14, .invokevirtual 62, 3)) rfl) ⟨Nat.zero_le _, Nat.zero_le _⟩ (pc2 := 17) rfl rfl ?_
    exact k_iret C (dkAt dkX7_feed 8 (q := (17, .ireturn, 1)) rfl) (pe2 (Option.some.inj h)) rfl (pe1 (Option.some.inj h)) rfl
set_option maxRecDepth 100000 in
set_option maxHeartbeats 4000000 in
theorem ct_X7_wipe (l : Launch) (G : GG) (sh : Sh) (xs : List va_E) (hX : isX sh) (M : Mm) (r : Mm × Int32) (h : f_X7_wipe M = some r) : Ct l yX7_wipe cX7_wipe 2 (some .int) rm_X7_wipe G [rA G 0] sh M xs (some (.int r.2)) sh r.1 xs 0 0 := by
  refine ct_of (by decide) (Nat.le_of_ble_eq_true rfl) ?_
  intro p e s m args below meth c hnm C
  refine k_lv [0] (lv2 := [(0, rA G 0)]) rfl ?_
  unfold f_X7_wipe at h
  refine k_aload_n C (pc2 := 1) (dkAt dkX7_wipe 0 (q := (0, .aload_n 0, 1)) rfl) rfl rfl 0 rfl ?_
  refine kf_X7_36 C (pc2 := 4) (o := 0) (o2 := 37) hX.1 rfl (dkAt dkX7_wipe 1 (q := (1, .getfield 36, 3)) rfl) rfl ?_
  refine kf_X7_169 C (pc2 := 7) (o := 37) (o2 := 38) hX.2.2.2.2.2.1.1 rfl (dkAt dkX7_wipe 2 (q := (4, .getfield 169, 3)) rfl) rfl ?_
  refine kf_X7_178 C (pc2 := 10) (o := 38) (o2 := 0) hX.2.2.2.2.2.1.2.1.1 (dkAt dkX7_wipe 3 (q := (7, .getfield 178, 3)) rfl) rfl ?_
  refine kb_istore_n C (pc2 := 11) (dkAt dkX7_wipe 4 (q := (10, .istore_n 1, 1)) rfl) rfl rfl (by decide) (lv2 := fun v1 => [(1, .int v1), (0, rA G 0)]) (fun _ => rfl) h (fun v1 h => ?_)
  refine k_aload_n C (pc2 := 12) (dkAt dkX7_wipe 5 (q := (11, .aload_n 0, 1)) rfl) rfl rfl 1 rfl ?_
  refine kf_X7_36 C (pc2 := 15) (o := 0) (o2 := 37) hX.1 rfl (dkAt dkX7_wipe 6 (q := (12, .getfield 36, 3)) rfl) rfl ?_
  refine kf_X7_169 C (pc2 := 18) (o := 37) (o2 := 38) hX.2.2.2.2.2.1.1 rfl (dkAt dkX7_wipe 7 (q := (15, .getfield 169, 3)) rfl) rfl ?_
  refine k_iconst C (pc2 := 19) (dkAt dkX7_wipe 8 (q := (18, .iconst 0, 1)) rfl) rfl (v := 0) rfl ?_
  refine kp_X7_178 C (pc2 := 22) (o := 38) hX.2.2.2.2.2.1.2.1.1 (dkAt dkX7_wipe 9 (q := (19, .putfield 178, 3)) rfl) rfl h (fun M2 h => ?_)
  refine k_iload_n C (pc2 := 23) (dkAt dkX7_wipe 10 (q := (22, .iload_n 1, 1)) rfl) rfl rfl 0 rfl ?_
  exact k_iret C (dkAt dkX7_wipe 11 (q := (23, .ireturn, 1)) rfl) (pe2 (Option.some.inj h)) rfl (pe1 (Option.some.inj h)) rfl
set_option maxRecDepth 100000 in
set_option maxHeartbeats 4000000 in
theorem ct_X7_calendar (l : Launch) (G : GG) (sh : Sh) (xs : List va_E) (hX : isX sh) (M : Mm) (r : Mm × Int32) (h : f_X7_calendar M = some r) : Ct l yX7_calendar cX7_calendar 2 (some .int) rm_X7_calendar G [rA G 0] sh M xs (some (.int r.2)) sh r.1 xs 0 0 := by
  refine ct_of (by decide) (Nat.le_of_ble_eq_true rfl) ?_
  intro p e s m args below meth c hnm C
  refine k_lv [0] (lv2 := [(0, rA G 0)]) rfl ?_
  unfold f_X7_calendar at h
  refine k_aload_n C (pc2 := 1) (dkAt dkX7_calendar 0 (q := (0, .aload_n 0, 1)) rfl) rfl rfl 0 rfl ?_
  refine kf_X7_36 C (pc2 := 4) (o := 0) (o2 := 37) hX.1 rfl (dkAt dkX7_calendar 1 (q := (1, .getfield 36, 3)) rfl) rfl ?_
  refine kf_X7_181 C (pc2 := 7) (o := 37) (o2 := 40) hX.2.2.2.2.2.1.1 rfl (dkAt dkX7_calendar 2 (q := (4, .getfield 181, 3)) rfl) rfl ?_
  refine k_aload_n C (pc2 := 8) (dkAt dkX7_calendar 3 (q := (7, .aload_n 0, 1)) rfl) rfl rfl 0 rfl ?_
  refine kf_X7_10 C (pc2 := 11) (o := 0) (o2 := 1) hX.1 rfl (dkAt dkX7_calendar 4 (q := (8, .getfield 10, 3)) rfl) rfl ?_
  obtain ⟨q1, e2, h⟩ := ob_inv h
  refine kc_V C (As := [rA G 1]) (st2 := []) (ct_X1_takeOver l G sh xs 40 hX.2.2.2.2.2.1.2.2 1 hX.2.1 M q1 e2) (cl_X7_184 (hts_of C) ⟨Nat.le_of_ble_eq_true rfl, Nat.le_of_ble_eq_true rfl⟩ rfl rfl) hX.2.2.2.2.2.1.2.2.1 rfl rfl rfl rfl rfl (Nat.le_of_ble_eq_true rfl) (dkAt dkX7_calendar 5 (q := (11, .invokevirtual 184, 3)) rfl) ⟨Nat.zero_le _, Nat.zero_le _⟩ (pc2 := 14) rfl rfl ?_
  refine k_aload_n C (pc2 := 15) (dkAt dkX7_calendar 6 (q := (14, .aload_n 0, 1)) rfl) rfl rfl 0 rfl ?_
  refine kf_X7_36 C (pc2 := 18) (o := 0) (o2 := 37) hX.1 rfl (dkAt dkX7_calendar 7 (q := (15, .getfield 36, 3)) rfl) rfl ?_
  obtain ⟨q3, e4, h⟩ := ob_inv h
  refine kc_V C (As := []) (st2 := [.int q3.2]) (ct_X3_readStatements l G sh xs 37 hX.2.2.2.2.2.1 q1 q3 e4) (cl_X7_188 (hts_of C) ⟨Nat.le_of_ble_eq_true rfl, Nat.le_of_ble_eq_true rfl⟩ rfl rfl) hX.2.2.2.2.2.1.1 rfl rfl rfl rfl rfl (Nat.le_of_ble_eq_true rfl) (dkAt dkX7_calendar 8 (q := (18, .invokevirtual 188, 3)) rfl) ⟨Nat.zero_le _, Nat.zero_le _⟩ (pc2 := 21) rfl rfl ?_
  refine kb_istore_n C (pc2 := 22) (dkAt dkX7_calendar 9 (q := (21, .istore_n 1, 1)) rfl) rfl rfl (by decide) (lv2 := fun v5 => [(1, .int v5), (0, rA G 0)]) (fun _ => rfl) h (fun v5 h => ?_)
  refine k_aload_n C (pc2 := 23) (dkAt dkX7_calendar 10 (q := (22, .aload_n 0, 1)) rfl) rfl rfl 1 rfl ?_
  refine kf_X7_36 C (pc2 := 26) (o := 0) (o2 := 37) hX.1 rfl (dkAt dkX7_calendar 11 (q := (23, .getfield 36, 3)) rfl) rfl ?_
  refine kf_X7_169 C (pc2 := 29) (o := 37) (o2 := 38) hX.2.2.2.2.2.1.1 rfl (dkAt dkX7_calendar 12 (q := (26, .getfield 169, 3)) rfl) rfl ?_
  refine k_iconst C (pc2 := 30) (dkAt dkX7_calendar 13 (q := (29, .iconst 0, 1)) rfl) rfl (v := 0) rfl ?_
  refine kp_X7_178 C (pc2 := 33) (o := 38) hX.2.2.2.2.2.1.2.1.1 (dkAt dkX7_calendar 14 (q := (30, .putfield 178, 3)) rfl) rfl h (fun M6 h => ?_)
  refine k_aload_n C (pc2 := 34) (dkAt dkX7_calendar 15 (q := (33, .aload_n 0, 1)) rfl) rfl rfl 1 rfl ?_
  refine kf_X7_36 C (pc2 := 37) (o := 0) (o2 := 37) hX.1 rfl (dkAt dkX7_calendar 16 (q := (34, .getfield 36, 3)) rfl) rfl ?_
  refine kf_X7_191 C (pc2 := 40) (o := 37) (o2 := 0) hX.2.2.2.2.2.1.1 (dkAt dkX7_calendar 17 (q := (37, .getfield 191, 3)) rfl) rfl ?_
  refine k_iconst C (pc2 := 41) (dkAt dkX7_calendar 18 (q := (40, .iconst (-1), 1)) rfl) rfl (v := (-1)) rfl ?_
  refine k_icmp_eq C (tgt := 62) (pc2 := 44) (dkAt dkX7_calendar 19 (q := (41, .if_icmp .eq 21, 3)) rfl) (by decide) rfl h (fun h => ?_) (fun h => ?_)
  · refine k_aload_n C (pc2 := 63) (dkAt dkX7_calendar 30 (q := (62, .aload_n 0, 1)) rfl) rfl rfl 1 rfl ?_
    refine kf_X7_10 C (pc2 := 66) (o := 0) (o2 := 1) hX.1 rfl (dkAt dkX7_calendar 31 (q := (63, .getfield 10, 3)) rfl) rfl ?_
    refine k_aload_n C (pc2 := 67) (dkAt dkX7_calendar 32 (q := (66, .aload_n 0, 1)) rfl) rfl rfl 1 rfl ?_
    refine kf_X7_36 C (pc2 := 70) (o := 0) (o2 := 37) hX.1 rfl (dkAt dkX7_calendar 33 (q := (67, .getfield 36, 3)) rfl) rfl ?_
    refine kf_X7_181 C (pc2 := 73) (o := 37) (o2 := 40) hX.2.2.2.2.2.1.1 rfl (dkAt dkX7_calendar 34 (q := (70, .getfield 181, 3)) rfl) rfl ?_
    obtain ⟨q7, e8, h⟩ := ob_inv h
    refine kc_V C (As := [rA G 40]) (st2 := []) (ct_X1_takeOver l G sh xs 1 hX.2.1 40 hX.2.2.2.2.2.1.2.2 M6 q7 e8) (cl_X7_184 (hts_of C) ⟨Nat.le_of_ble_eq_true rfl, Nat.le_of_ble_eq_true rfl⟩ rfl rfl) hX.2.1.1 rfl rfl rfl rfl rfl (Nat.le_of_ble_eq_true rfl) (dkAt dkX7_calendar 35 (q := (73, .invokevirtual 184, 3)) rfl) ⟨Nat.zero_le _, Nat.zero_le _⟩ (pc2 := 76) rfl rfl ?_
    refine k_iload_n C (pc2 := 77) (dkAt dkX7_calendar 36 (q := (76, .iload_n 1, 1)) rfl) rfl rfl 0 rfl ?_
    exact k_iret C (dkAt dkX7_calendar 37 (q := (77, .ireturn, 1)) rfl) (pe2 (Option.some.inj h)) rfl (pe1 (Option.some.inj h)) rfl
  · refine k_aload_n C (pc2 := 45) (dkAt dkX7_calendar 20 (q := (44, .aload_n 0, 1)) rfl) rfl rfl 1 rfl ?_
    refine k_bipush C (pc2 := 47) (dkAt dkX7_calendar 21 (q := (45, .bipush (-2), 2)) rfl) rfl (v := (-2)) rfl ?_
    obtain ⟨q9, e10, h⟩ := ob_inv h
    refine kc_V C (As := [.int (-2)]) (st2 := [.int q9.2]) (ct_X7_refuse l G sh xs hX (-2) M6 q9 e10) (cl_X7_62 (hts_of C) ⟨Nat.le_of_ble_eq_true rfl, Nat.le_of_ble_eq_true rfl⟩ rfl rfl) hX.1 rfl rfl rfl rfl rfl (Nat.le_of_ble_eq_true rfl) (dkAt dkX7_calendar 22 (q := (47, .invokevirtual 62, 3)) rfl) ⟨Nat.zero_le _, Nat.zero_le _⟩ (pc2 := 50) rfl rfl ?_
    refine k_pop C (pc2 := 51) (dkAt dkX7_calendar 23 (q := (50, .pop, 1)) rfl) rfl rfl ?_
    refine k_bipush C (pc2 := 53) (dkAt dkX7_calendar 24 (q := (51, .bipush (-20), 2)) rfl) rfl (v := (-20)) rfl ?_
    refine k_aload_n C (pc2 := 54) (dkAt dkX7_calendar 25 (q := (53, .aload_n 0, 1)) rfl) rfl rfl 1 rfl ?_
    refine kf_X7_36 C (pc2 := 57) (o := 0) (o2 := 37) hX.1 rfl (dkAt dkX7_calendar 26 (q := (54, .getfield 36, 3)) rfl) rfl ?_
    refine kf_X7_191 C (pc2 := 60) (o := 37) (o2 := 0) hX.2.2.2.2.2.1.1 (dkAt dkX7_calendar 27 (q := (57, .getfield 191, 3)) rfl) rfl ?_
    refine k_isub C (pc2 := 61) (dkAt dkX7_calendar 28 (q := (60, .isub, 1)) rfl) rfl ?_
    exact k_iret C (dkAt dkX7_calendar 29 (q := (61, .ireturn, 1)) rfl) (pe2 (Option.some.inj h)) rfl (pe1 (Option.some.inj h)) rfl
set_option maxRecDepth 100000 in
set_option maxHeartbeats 4000000 in
theorem ct_X7_personOf (l : Launch) (G : GG) (sh : Sh) (xs : List va_E) (hX : isX sh) (x1 : Int32) (x2 : Int32) (M : Mm) (r : Mm × Int32) (h : f_X7_personOf x1 x2 M = some r) : Ct l yX7_personOf cX7_personOf 4 (some .int) rm_X7_personOf G [rA G 0, .int x1, .int x2] sh M xs (some (.int r.2)) sh r.1 xs 0 0 := by
  refine ct_of (by decide) (Nat.le_of_ble_eq_true rfl) ?_
  intro p e s m args below meth c hnm C
  refine k_lv [0, 1, 2] (lv2 := [(0, rA G 0), (1, .int x1), (2, .int x2)]) rfl ?_
  unfold f_X7_personOf at h
  refine k_aload_n C (pc2 := 1) (dkAt dkX7_personOf 0 (q := (0, .aload_n 0, 1)) rfl) rfl rfl 0 rfl ?_
  refine kf_X7_10 C (pc2 := 4) (o := 0) (o2 := 1) hX.1 rfl (dkAt dkX7_personOf 1 (q := (1, .getfield 10, 3)) rfl) rfl ?_
  refine k_iload_n C (pc2 := 5) (dkAt dkX7_personOf 2 (q := (4, .iload_n 1, 1)) rfl) rfl rfl 1 rfl ?_
  obtain ⟨q1, e2, h⟩ := ob_inv h
  refine kc_V C (As := [.int x1]) (st2 := [.int q1]) (ct_X1_hasPerson l G sh xs 1 hX.2.1 x1 M q1 e2) (cl_X7_105 (hts_of C) ⟨Nat.le_of_ble_eq_true rfl, Nat.le_of_ble_eq_true rfl⟩ rfl rfl) hX.2.1.1 rfl rfl rfl rfl rfl (Nat.le_of_ble_eq_true rfl) (dkAt dkX7_personOf 3 (q := (5, .invokevirtual 105, 3)) rfl) ⟨Nat.zero_le _, Nat.zero_le _⟩ (pc2 := 8) rfl rfl ?_
  refine k_if_ne C (tgt := 18) (pc2 := 11) (dkAt dkX7_personOf 4 (q := (8, .ifCond .ne 10, 3)) rfl) (by decide) rfl h (fun h => ?_) (fun h => ?_)
  · refine k_aload_n C (pc2 := 19) (dkAt dkX7_personOf 9 (q := (18, .aload_n 0, 1)) rfl) rfl rfl 0 rfl ?_
    refine kf_X7_10 C (pc2 := 22) (o := 0) (o2 := 1) hX.1 rfl (dkAt dkX7_personOf 10 (q := (19, .getfield 10, 3)) rfl) rfl ?_
    refine kf_X7_122 C (pc2 := 25) (o := 1) (o2 := 2) hX.2.1.1 rfl (dkAt dkX7_personOf 11 (q := (22, .getfield 122, 3)) rfl) rfl ?_
    refine k_iload_n C (pc2 := 26) (dkAt dkX7_personOf 12 (q := (25, .iload_n 1, 1)) rfl) rfl rfl 1 rfl ?_
    refine k_aa11 C (pc2 := 27) (o := 2) (o2 := 3 + x1.toNatClampNeg) (nA := 8) hX.2.1.2.1 rfl (dkAt dkX7_personOf 13 (q := (26, .aaload, 1)) rfl) rfl h (fun h hl3 => ?_)
    refine k_astore_n C (pc2 := 28) (dkAt dkX7_personOf 14 (q := (27, .astore_n 3, 1)) rfl) rfl rfl (by decide) (lv2 := [(3, rA G (3 + x1.toNatClampNeg)), (0, rA G 0), (1, .int x1), (2, .int x2)]) rfl ?_
    refine k_iload_n C (pc2 := 29) (dkAt dkX7_personOf 15 (q := (28, .iload_n 2, 1)) rfl) rfl rfl 3 rfl ?_
    by_cases q4 : x2 = 0
    · rw [if_pos q4] at h
      refine k_swc C (tgt := 64) (off := 35) (dkAt dkX7_personOf 16 (q := (29, .tableswitch 60 0 4 #[35, 40, 45, 50, 55], 35)) rfl) q4 (by decide) (by decide) ?_
      refine k_aload_n C (pc2 := 65) (dkAt dkX7_personOf 17 (q := (64, .aload_n 3, 1)) rfl) rfl rfl 0 rfl ?_
      refine kf_X7_194 C (pc2 := 68) (o := 3 + x1.toNatClampNeg) (o2 := 0) (hX.2.1.2.2 _ hl3) (dkAt dkX7_personOf 18 (q := (65, .getfield 194, 3)) rfl) rfl ?_
      exact k_iret C (dkAt dkX7_personOf 19 (q := (68, .ireturn, 1)) rfl) (pe2 (Option.some.inj h)) rfl (pe1 (Option.some.inj h)) rfl
    rw [if_neg q4] at h
    by_cases q5 : x2 = 1
    · rw [if_pos q5] at h
      refine k_swc C (tgt := 69) (off := 40) (dkAt dkX7_personOf 16 (q := (29, .tableswitch 60 0 4 #[35, 40, 45, 50, 55], 35)) rfl) q5 (by decide) (by decide) ?_
      refine k_aload_n C (pc2 := 70) (dkAt dkX7_personOf 20 (q := (69, .aload_n 3, 1)) rfl) rfl rfl 0 rfl ?_
      refine kf_X7_197 C (pc2 := 73) (o := 3 + x1.toNatClampNeg) (o2 := 0) (hX.2.1.2.2 _ hl3) (dkAt dkX7_personOf 21 (q := (70, .getfield 197, 3)) rfl) rfl ?_
      exact k_iret C (dkAt dkX7_personOf 22 (q := (73, .ireturn, 1)) rfl) (pe2 (Option.some.inj h)) rfl (pe1 (Option.some.inj h)) rfl
    rw [if_neg q5] at h
    by_cases q6 : x2 = 2
    · rw [if_pos q6] at h
      refine k_swc C (tgt := 74) (off := 45) (dkAt dkX7_personOf 16 (q := (29, .tableswitch 60 0 4 #[35, 40, 45, 50, 55], 35)) rfl) q6 (by decide) (by decide) ?_
      refine k_aload_n C (pc2 := 75) (dkAt dkX7_personOf 23 (q := (74, .aload_n 3, 1)) rfl) rfl rfl 0 rfl ?_
      refine kf_X7_200 C (pc2 := 78) (o := 3 + x1.toNatClampNeg) (o2 := 0) (hX.2.1.2.2 _ hl3) (dkAt dkX7_personOf 24 (q := (75, .getfield 200, 3)) rfl) rfl ?_
      exact k_iret C (dkAt dkX7_personOf 25 (q := (78, .ireturn, 1)) rfl) (pe2 (Option.some.inj h)) rfl (pe1 (Option.some.inj h)) rfl
    rw [if_neg q6] at h
    by_cases q7 : x2 = 3
    · rw [if_pos q7] at h
      refine k_swc C (tgt := 79) (off := 50) (dkAt dkX7_personOf 16 (q := (29, .tableswitch 60 0 4 #[35, 40, 45, 50, 55], 35)) rfl) q7 (by decide) (by decide) ?_
      refine k_aload_n C (pc2 := 80) (dkAt dkX7_personOf 26 (q := (79, .aload_n 3, 1)) rfl) rfl rfl 0 rfl ?_
      refine kf_X7_203 C (pc2 := 83) (o := 3 + x1.toNatClampNeg) (o2 := 0) (hX.2.1.2.2 _ hl3) (dkAt dkX7_personOf 27 (q := (80, .getfield 203, 3)) rfl) rfl ?_
      exact k_iret C (dkAt dkX7_personOf 28 (q := (83, .ireturn, 1)) rfl) (pe2 (Option.some.inj h)) rfl (pe1 (Option.some.inj h)) rfl
    rw [if_neg q7] at h
    by_cases q8 : x2 = 4
    · rw [if_pos q8] at h
      refine k_swc C (tgt := 84) (off := 55) (dkAt dkX7_personOf 16 (q := (29, .tableswitch 60 0 4 #[35, 40, 45, 50, 55], 35)) rfl) q8 (by decide) (by decide) ?_
      refine k_aload_n C (pc2 := 85) (dkAt dkX7_personOf 29 (q := (84, .aload_n 3, 1)) rfl) rfl rfl 0 rfl ?_
      refine kf_X7_166 C (pc2 := 88) (o := 3 + x1.toNatClampNeg) (o2 := 0) (hX.2.1.2.2 _ hl3) (dkAt dkX7_personOf 30 (q := (85, .getfield 166, 3)) rfl) rfl ?_
      exact k_iret C (dkAt dkX7_personOf 31 (q := (88, .ireturn, 1)) rfl) (pe2 (Option.some.inj h)) rfl (pe1 (Option.some.inj h)) rfl
    rw [if_neg q8] at h
    have zq4 := ne_toInt q4
    have zq5 := ne_toInt q5
    have zq6 := ne_toInt q6
    have zq7 := ne_toInt q7
    have zq8 := ne_toInt q8
    refine k_swOut C (tgt := 89) (dkAt dkX7_personOf 16 (q := (29, .tableswitch 60 0 4 #[35, 40, 45, 50, 55], 35)) rfl) (by have w0 : (0 : Int32).toInt = 0 := (by decide); have w1 : (1 : Int32).toInt = 1 := (by decide); have w2 : (2 : Int32).toInt = 2 := (by decide); have w3 : (3 : Int32).toInt = 3 := (by decide); have w4 : (4 : Int32).toInt = 4 := (by decide); rw [w0] at zq4; rw [w1] at zq5; rw [w2] at zq6; rw [w3] at zq7; rw [w4] at zq8; omega) (by decide) ?_
    refine k_aload_n C (pc2 := 90) (dkAt dkX7_personOf 32 (q := (89, .aload_n 0, 1)) rfl) rfl rfl 1 rfl ?_
    refine k_bipush C (pc2 := 92) (dkAt dkX7_personOf 33 (q := (90, .bipush (-2), 2)) rfl) rfl (v := (-2)) rfl ?_
    obtain ⟨q9, e10, h⟩ := ob_inv h
    refine kc_V C (As := [.int (-2)]) (st2 := [.int q9.2]) (ct_X7_refuse l G sh xs hX (-2) M q9 e10) (cl_X7_62 (hts_of C) ⟨Nat.le_of_ble_eq_true rfl, Nat.le_of_ble_eq_true rfl⟩ rfl rfl) hX.1 rfl rfl rfl rfl rfl (Nat.le_of_ble_eq_true rfl) (dkAt dkX7_personOf 34 (q := (92, .invokevirtual 62, 3)) rfl) ⟨Nat.zero_le _, Nat.zero_le _⟩ (pc2 := 95) rfl rfl ?_
    exact k_iret C (dkAt dkX7_personOf 35 (q := (95, .ireturn, 1)) rfl) (pe2 (Option.some.inj h)) rfl (pe1 (Option.some.inj h)) rfl
  · refine k_aload_n C (pc2 := 12) (dkAt dkX7_personOf 5 (q := (11, .aload_n 0, 1)) rfl) rfl rfl 0 rfl ?_
    refine k_bipush C (pc2 := 14) (dkAt dkX7_personOf 6 (q := (12, .bipush (-2), 2)) rfl) rfl (v := (-2)) rfl ?_
    obtain ⟨q11, e12, h⟩ := ob_inv h
    refine kc_V C (As := [.int (-2)]) (st2 := [.int q11.2]) (ct_X7_refuse l G sh xs hX (-2) M q11 e12) (cl_X7_62 (hts_of C) ⟨Nat.le_of_ble_eq_true rfl, Nat.le_of_ble_eq_true rfl⟩ rfl rfl) hX.1 rfl rfl rfl rfl rfl (Nat.le_of_ble_eq_true rfl) (dkAt dkX7_personOf 7 (q := (14, .invokevirtual 62, 3)) rfl) ⟨Nat.zero_le _, Nat.zero_le _⟩ (pc2 := 17) rfl rfl ?_
    exact k_iret C (dkAt dkX7_personOf 8 (q := (17, .ireturn, 1)) rfl) (pe2 (Option.some.inj h)) rfl (pe1 (Option.some.inj h)) rfl
set_option maxRecDepth 100000 in
set_option maxHeartbeats 4000000 in
theorem ct_X7_tick (l : Launch) (G : GG) (sh : Sh) (xs : List va_E) (hX : isX sh) (x1 : Int32) (x2 : Int32) (M : Mm) (r : Mm × Int32) (h : f_X7_tick x1 x2 M = some r) : Ct l yX7_tick cX7_tick 3 (some .int) rm_X7_tick G [rA G 0, .int x1, .int x2] sh M xs (some (.int r.2)) sh r.1 xs 0 0 := by
  refine ct_of (by decide) (Nat.le_of_ble_eq_true rfl) ?_
  intro p e s m args below meth c hnm C
  refine k_lv [0, 1, 2] (lv2 := [(0, rA G 0), (1, .int x1), (2, .int x2)]) rfl ?_
  unfold f_X7_tick at h
  refine k_aload_n C (pc2 := 1) (dkAt dkX7_tick 0 (q := (0, .aload_n 0, 1)) rfl) rfl rfl 0 rfl ?_
  refine kf_X7_10 C (pc2 := 4) (o := 0) (o2 := 1) hX.1 rfl (dkAt dkX7_tick 1 (q := (1, .getfield 10, 3)) rfl) rfl ?_
  refine k_iload_n C (pc2 := 5) (dkAt dkX7_tick 2 (q := (4, .iload_n 1, 1)) rfl) rfl rfl 1 rfl ?_
  obtain ⟨q1, e2, h⟩ := ob_inv h
  refine kc_V C (As := [.int x1]) (st2 := [.int q1]) (ct_X1_hasPerson l G sh xs 1 hX.2.1 x1 M q1 e2) (cl_X7_105 (hts_of C) ⟨Nat.le_of_ble_eq_true rfl, Nat.le_of_ble_eq_true rfl⟩ rfl rfl) hX.2.1.1 rfl rfl rfl rfl rfl (Nat.le_of_ble_eq_true rfl) (dkAt dkX7_tick 3 (q := (5, .invokevirtual 105, 3)) rfl) ⟨Nat.zero_le _, Nat.zero_le _⟩ (pc2 := 8) rfl rfl ?_
  refine k_if_eq C (tgt := 22) (pc2 := 11) (dkAt dkX7_tick 4 (q := (8, .ifCond .eq 14, 3)) rfl) (by decide) rfl h (fun h => ?_) (fun h => ?_)
  · refine k_aload_n C (pc2 := 23) (dkAt dkX7_tick 10 (q := (22, .aload_n 0, 1)) rfl) rfl rfl 0 rfl ?_
    refine k_bipush C (pc2 := 25) (dkAt dkX7_tick 11 (q := (23, .bipush (-2), 2)) rfl) rfl (v := (-2)) rfl ?_
    obtain ⟨q3, e4, h⟩ := ob_inv h
    refine kc_V C (As := [.int (-2)]) (st2 := [.int q3.2]) (ct_X7_refuse l G sh xs hX (-2) M q3 e4) (cl_X7_62 (hts_of C) ⟨Nat.le_of_ble_eq_true rfl, Nat.le_of_ble_eq_true rfl⟩ rfl rfl) hX.1 rfl rfl rfl rfl rfl (Nat.le_of_ble_eq_true rfl) (dkAt dkX7_tick 12 (q := (25, .invokevirtual 62, 3)) rfl) ⟨Nat.zero_le _, Nat.zero_le _⟩ (pc2 := 28) rfl rfl ?_
    exact k_iret C (dkAt dkX7_tick 13 (q := (28, .ireturn, 1)) rfl) (pe2 (Option.some.inj h)) rfl (pe1 (Option.some.inj h)) rfl
  · refine k_aload_n C (pc2 := 12) (dkAt dkX7_tick 5 (q := (11, .aload_n 0, 1)) rfl) rfl rfl 0 rfl ?_
    refine kf_X7_10 C (pc2 := 15) (o := 0) (o2 := 1) hX.1 rfl (dkAt dkX7_tick 6 (q := (12, .getfield 10, 3)) rfl) rfl ?_
    refine k_iload_n C (pc2 := 16) (dkAt dkX7_tick 7 (q := (15, .iload_n 2, 1)) rfl) rfl rfl 2 rfl ?_
    obtain ⟨q5, e6, h⟩ := ob_inv h
    refine kc_V C (As := [.int x2]) (st2 := [.int q5]) (ct_X1_hasDay l G sh xs 1 hX.2.1 x2 M q5 e6) (cl_X7_147 (hts_of C) ⟨Nat.le_of_ble_eq_true rfl, Nat.le_of_ble_eq_true rfl⟩ rfl rfl) hX.2.1.1 rfl rfl rfl rfl rfl (Nat.le_of_ble_eq_true rfl) (dkAt dkX7_tick 8 (q := (16, .invokevirtual 147, 3)) rfl) ⟨Nat.zero_le _, Nat.zero_le _⟩ (pc2 := 19) rfl rfl ?_
    refine k_if_ne C (tgt := 29) (pc2 := 22) (dkAt dkX7_tick 9 (q := (19, .ifCond .ne 10, 3)) rfl) (by decide) rfl h (fun h => ?_) (fun h => ?_)
    · refine k_aload_n C (pc2 := 30) (dkAt dkX7_tick 14 (q := (29, .aload_n 0, 1)) rfl) rfl rfl 0 rfl ?_
      refine kf_X7_22 C (pc2 := 33) (o := 0) (o2 := 21) hX.1 rfl (dkAt dkX7_tick 15 (q := (30, .getfield 22, 3)) rfl) rfl ?_
      refine k_aload_n C (pc2 := 34) (dkAt dkX7_tick 16 (q := (33, .aload_n 0, 1)) rfl) rfl rfl 0 rfl ?_
      refine kf_X7_10 C (pc2 := 37) (o := 0) (o2 := 1) hX.1 rfl (dkAt dkX7_tick 17 (q := (34, .getfield 10, 3)) rfl) rfl ?_
      obtain ⟨q7, e8, h⟩ := ob_inv h
      refine kc_V C (As := [rA G 1]) (st2 := []) (ct_X6_reckon l G sh xs 21 hX.2.2.2.1 1 hX.2.1 M q7 e8) (cl_X7_206 (hts_of C) ⟨Nat.le_of_ble_eq_true rfl, Nat.le_of_ble_eq_true rfl⟩ rfl rfl) hX.2.2.2.1.1 rfl rfl rfl rfl rfl (Nat.le_of_ble_eq_true rfl) (dkAt dkX7_tick 18 (q := (37, .invokevirtual 206, 3)) rfl) ⟨Nat.zero_le _, Nat.zero_le _⟩ (pc2 := 40) rfl rfl ?_
      refine k_aload_n C (pc2 := 41) (dkAt dkX7_tick 19 (q := (40, .aload_n 0, 1)) rfl) rfl rfl 0 rfl ?_
      refine kf_X7_22 C (pc2 := 44) (o := 0) (o2 := 21) hX.1 rfl (dkAt dkX7_tick 20 (q := (41, .getfield 22, 3)) rfl) rfl ?_
      refine kf_X7_209 C (pc2 := 47) (o := 21) (o2 := 22) hX.2.2.2.1.1 rfl (dkAt dkX7_tick 21 (q := (44, .getfield 209, 3)) rfl) rfl ?_
      refine k_iload_n C (pc2 := 48) (dkAt dkX7_tick 22 (q := (47, .iload_n 1, 1)) rfl) rfl rfl 1 rfl ?_
      refine k_aa13 C (pc2 := 49) (o := 22) (o2 := 23 + x1.toNatClampNeg) (nA := 8) hX.2.2.2.1.2.1 rfl (dkAt dkX7_tick 23 (q := (48, .aaload, 1)) rfl) rfl h (fun h hl9 => ?_)
      refine k_iload_n C (pc2 := 50) (dkAt dkX7_tick 24 (q := (49, .iload_n 2, 1)) rfl) rfl rfl 2 rfl ?_
      refine k_iald C (pc2 := 51) (o := 23 + x1.toNatClampNeg) (nA := 14) (hX.2.2.2.1.2.2.1 _ hl9) (dkAt dkX7_tick 25 (q := (50, .iaload, 1)) rfl) rfl h (fun h => ?_)
      exact k_iret C (dkAt dkX7_tick 26 (q := (51, .ireturn, 1)) rfl) (pe2 (Option.some.inj h)) rfl (pe1 (Option.some.inj h)) rfl
    · refine k_aload_n C (pc2 := 23) (dkAt dkX7_tick 10 (q := (22, .aload_n 0, 1)) rfl) rfl rfl 0 rfl ?_
      refine k_bipush C (pc2 := 25) (dkAt dkX7_tick 11 (q := (23, .bipush (-2), 2)) rfl) rfl (v := (-2)) rfl ?_
      obtain ⟨q10, e11, h⟩ := ob_inv h
      refine kc_V C (As := [.int (-2)]) (st2 := [.int q10.2]) (ct_X7_refuse l G sh xs hX (-2) M q10 e11) (cl_X7_62 (hts_of C) ⟨Nat.le_of_ble_eq_true rfl, Nat.le_of_ble_eq_true rfl⟩ rfl rfl) hX.1 rfl rfl rfl rfl rfl (Nat.le_of_ble_eq_true rfl) (dkAt dkX7_tick 12 (q := (25, .invokevirtual 62, 3)) rfl) ⟨Nat.zero_le _, Nat.zero_le _⟩ (pc2 := 28) rfl rfl ?_
      exact k_iret C (dkAt dkX7_tick 13 (q := (28, .ireturn, 1)) rfl) (pe2 (Option.some.inj h)) rfl (pe1 (Option.some.inj h)) rfl
set_option maxRecDepth 100000 in
set_option maxHeartbeats 4000000 in
theorem ct_X7_count (l : Launch) (G : GG) (sh : Sh) (xs : List va_E) (hX : isX sh) (x1 : Int32) (M : Mm) (r : Mm × Int32) (h : f_X7_count x1 M = some r) : Ct l yX7_count cX7_count 2 (some .int) rm_X7_count G [rA G 0, .int x1] sh M xs (some (.int r.2)) sh r.1 xs 0 0 := by
  refine ct_of (by decide) (Nat.le_of_ble_eq_true rfl) ?_
  intro p e s m args below meth c hnm C
  refine k_lv [0, 1] (lv2 := [(0, rA G 0), (1, .int x1)]) rfl ?_
  unfold f_X7_count at h
  refine k_aload_n C (pc2 := 1) (dkAt dkX7_count 0 (q := (0, .aload_n 0, 1)) rfl) rfl rfl 0 rfl ?_
  refine kf_X7_10 C (pc2 := 4) (o := 0) (o2 := 1) hX.1 rfl (dkAt dkX7_count 1 (q := (1, .getfield 10, 3)) rfl) rfl ?_
  refine k_iload_n C (pc2 := 5) (dkAt dkX7_count 2 (q := (4, .iload_n 1, 1)) rfl) rfl rfl 1 rfl ?_
  obtain ⟨q1, e2, h⟩ := ob_inv h
  refine kc_V C (As := [.int x1]) (st2 := [.int q1]) (ct_X1_hasDay l G sh xs 1 hX.2.1 x1 M q1 e2) (cl_X7_147 (hts_of C) ⟨Nat.le_of_ble_eq_true rfl, Nat.le_of_ble_eq_true rfl⟩ rfl rfl) hX.2.1.1 rfl rfl rfl rfl rfl (Nat.le_of_ble_eq_true rfl) (dkAt dkX7_count 3 (q := (5, .invokevirtual 147, 3)) rfl) ⟨Nat.zero_le _, Nat.zero_le _⟩ (pc2 := 8) rfl rfl ?_
  refine k_if_ne C (tgt := 18) (pc2 := 11) (dkAt dkX7_count 4 (q := (8, .ifCond .ne 10, 3)) rfl) (by decide) rfl h (fun h => ?_) (fun h => ?_)
  · refine k_aload_n C (pc2 := 19) (dkAt dkX7_count 9 (q := (18, .aload_n 0, 1)) rfl) rfl rfl 0 rfl ?_
    refine kf_X7_22 C (pc2 := 22) (o := 0) (o2 := 21) hX.1 rfl (dkAt dkX7_count 10 (q := (19, .getfield 22, 3)) rfl) rfl ?_
    refine k_aload_n C (pc2 := 23) (dkAt dkX7_count 11 (q := (22, .aload_n 0, 1)) rfl) rfl rfl 0 rfl ?_
    refine kf_X7_10 C (pc2 := 26) (o := 0) (o2 := 1) hX.1 rfl (dkAt dkX7_count 12 (q := (23, .getfield 10, 3)) rfl) rfl ?_
    obtain ⟨q3, e4, h⟩ := ob_inv h
    refine kc_V C (As := [rA G 1]) (st2 := []) (ct_X6_reckon l G sh xs 21 hX.2.2.2.1 1 hX.2.1 M q3 e4) (cl_X7_206 (hts_of C) ⟨Nat.le_of_ble_eq_true rfl, Nat.le_of_ble_eq_true rfl⟩ rfl rfl) hX.2.2.2.1.1 rfl rfl rfl rfl rfl (Nat.le_of_ble_eq_true rfl) (dkAt dkX7_count 13 (q := (26, .invokevirtual 206, 3)) rfl) ⟨Nat.zero_le _, Nat.zero_le _⟩ (pc2 := 29) rfl rfl ?_
    refine k_aload_n C (pc2 := 30) (dkAt dkX7_count 14 (q := (29, .aload_n 0, 1)) rfl) rfl rfl 0 rfl ?_
    refine kf_X7_22 C (pc2 := 33) (o := 0) (o2 := 21) hX.1 rfl (dkAt dkX7_count 15 (q := (30, .getfield 22, 3)) rfl) rfl ?_
    refine kf_X7_213 C (pc2 := 36) (o := 21) (o2 := 31) hX.2.2.2.1.1 rfl (dkAt dkX7_count 16 (q := (33, .getfield 213, 3)) rfl) rfl ?_
    refine k_iload_n C (pc2 := 37) (dkAt dkX7_count 17 (q := (36, .iload_n 1, 1)) rfl) rfl rfl 1 rfl ?_
    refine k_iald C (pc2 := 38) (o := 31) (nA := 14) hX.2.2.2.1.2.2.2.1 (dkAt dkX7_count 18 (q := (37, .iaload, 1)) rfl) rfl h (fun h => ?_)
    exact k_iret C (dkAt dkX7_count 19 (q := (38, .ireturn, 1)) rfl) (pe2 (Option.some.inj h)) rfl (pe1 (Option.some.inj h)) rfl
  · refine k_aload_n C (pc2 := 12) (dkAt dkX7_count 5 (q := (11, .aload_n 0, 1)) rfl) rfl rfl 0 rfl ?_
    refine k_bipush C (pc2 := 14) (dkAt dkX7_count 6 (q := (12, .bipush (-2), 2)) rfl) rfl (v := (-2)) rfl ?_
    obtain ⟨q5, e6, h⟩ := ob_inv h
    refine kc_V C (As := [.int (-2)]) (st2 := [.int q5.2]) (ct_X7_refuse l G sh xs hX (-2) M q5 e6) (cl_X7_62 (hts_of C) ⟨Nat.le_of_ble_eq_true rfl, Nat.le_of_ble_eq_true rfl⟩ rfl rfl) hX.1 rfl rfl rfl rfl rfl (Nat.le_of_ble_eq_true rfl) (dkAt dkX7_count 7 (q := (14, .invokevirtual 62, 3)) rfl) ⟨Nat.zero_le _, Nat.zero_le _⟩ (pc2 := 17) rfl rfl ?_
    exact k_iret C (dkAt dkX7_count 8 (q := (17, .ireturn, 1)) rfl) (pe2 (Option.some.inj h)) rfl (pe1 (Option.some.inj h)) rfl
set_option maxRecDepth 100000 in
set_option maxHeartbeats 4000000 in
theorem ct_X7_best (l : Launch) (G : GG) (sh : Sh) (xs : List va_E) (hX : isX sh) (x1 : Int32) (M : Mm) (r : Mm × Int32) (h : f_X7_best x1 M = some r) : Ct l yX7_best cX7_best 2 (some .int) rm_X7_best G [rA G 0, .int x1] sh M xs (some (.int r.2)) sh r.1 xs 0 0 := by
  refine ct_of (by decide) (Nat.le_of_ble_eq_true rfl) ?_
  intro p e s m args below meth c hnm C
  refine k_lv [0, 1] (lv2 := [(0, rA G 0), (1, .int x1)]) rfl ?_
  unfold f_X7_best at h
  refine k_iload_n C (pc2 := 1) (dkAt dkX7_best 0 (q := (0, .iload_n 1, 1)) rfl) rfl rfl 1 rfl ?_
  refine k_iconst C (pc2 := 2) (dkAt dkX7_best 1 (q := (1, .iconst 0, 1)) rfl) rfl (v := 0) rfl ?_
  refine k_iconst C (pc2 := 3) (dkAt dkX7_best 2 (q := (2, .iconst 1, 1)) rfl) rfl (v := 1) rfl ?_
  obtain ⟨q1, e2, h⟩ := ob_inv h
  refine kc_S C (As := [.int x1, .int 0, .int 1]) (st2 := [.int q1]) (ct_X7_within l G sh xs x1 0 1 M q1 e2) (cl_X7_58 (hts_of C) ⟨Nat.le_of_ble_eq_true rfl, Nat.le_of_ble_eq_true rfl⟩ rfl rfl) rfl rfl (Nat.le_of_ble_eq_true rfl) (dkAt dkX7_best 3 (q := (3, .invokestatic 58, 3)) rfl) ⟨Nat.zero_le _, Nat.zero_le _⟩ (pc2 := 6) rfl rfl ?_
  refine k_if_ne C (tgt := 16) (pc2 := 9) (dkAt dkX7_best 4 (q := (6, .ifCond .ne 10, 3)) rfl) (by decide) rfl h (fun h => ?_) (fun h => ?_)
  · refine k_aload_n C (pc2 := 17) (dkAt dkX7_best 9 (q := (16, .aload_n 0, 1)) rfl) rfl rfl 0 rfl ?_
    refine kf_X7_10 C (pc2 := 20) (o := 0) (o2 := 1) hX.1 rfl (dkAt dkX7_best 10 (q := (17, .getfield 10, 3)) rfl) rfl ?_
    refine kf_X7_216 C (pc2 := 23) (o := 1) (o2 := 0) hX.2.1.1 (dkAt dkX7_best 11 (q := (20, .getfield 216, 3)) rfl) rfl ?_
    refine k_if_ne C (tgt := 33) (pc2 := 26) (dkAt dkX7_best 12 (q := (23, .ifCond .ne 10, 3)) rfl) (by decide) rfl h (fun h => ?_) (fun h => ?_)
    · refine k_aload_n C (pc2 := 34) (dkAt dkX7_best 17 (q := (33, .aload_n 0, 1)) rfl) rfl rfl 0 rfl ?_
      refine kf_X7_22 C (pc2 := 37) (o := 0) (o2 := 21) hX.1 rfl (dkAt dkX7_best 18 (q := (34, .getfield 22, 3)) rfl) rfl ?_
      refine k_aload_n C (pc2 := 38) (dkAt dkX7_best 19 (q := (37, .aload_n 0, 1)) rfl) rfl rfl 0 rfl ?_
      refine kf_X7_10 C (pc2 := 41) (o := 0) (o2 := 1) hX.1 rfl (dkAt dkX7_best 20 (q := (38, .getfield 10, 3)) rfl) rfl ?_
      obtain ⟨q3, e4, h⟩ := ob_inv h
      refine kc_V C (As := [rA G 1]) (st2 := []) (ct_X6_reckon l G sh xs 21 hX.2.2.2.1 1 hX.2.1 M q3 e4) (cl_X7_206 (hts_of C) ⟨Nat.le_of_ble_eq_true rfl, Nat.le_of_ble_eq_true rfl⟩ rfl rfl) hX.2.2.2.1.1 rfl rfl rfl rfl rfl (Nat.le_of_ble_eq_true rfl) (dkAt dkX7_best 21 (q := (41, .invokevirtual 206, 3)) rfl) ⟨Nat.zero_le _, Nat.zero_le _⟩ (pc2 := 44) rfl rfl ?_
      refine k_iload_n C (pc2 := 45) (dkAt dkX7_best 22 (q := (44, .iload_n 1, 1)) rfl) rfl rfl 1 rfl ?_
      refine k_if_ne C (tgt := 58) (pc2 := 48) (dkAt dkX7_best 23 (q := (45, .ifCond .ne 13, 3)) rfl) (by decide) rfl h (fun h => ?_) (fun h => ?_)
      · refine k_aload_n C (pc2 := 59) (dkAt dkX7_best 28 (q := (58, .aload_n 0, 1)) rfl) rfl rfl 0 rfl ?_
        refine kf_X7_22 C (pc2 := 62) (o := 0) (o2 := 21) hX.1 rfl (dkAt dkX7_best 29 (q := (59, .getfield 22, 3)) rfl) rfl ?_
        refine k_aload_n C (pc2 := 63) (dkAt dkX7_best 30 (q := (62, .aload_n 0, 1)) rfl) rfl rfl 0 rfl ?_
        refine kf_X7_22 C (pc2 := 66) (o := 0) (o2 := 21) hX.1 rfl (dkAt dkX7_best 31 (q := (63, .getfield 22, 3)) rfl) rfl ?_
        refine k_aload_n C (pc2 := 67) (dkAt dkX7_best 32 (q := (66, .aload_n 0, 1)) rfl) rfl rfl 0 rfl ?_
        refine kf_X7_10 C (pc2 := 70) (o := 0) (o2 := 1) hX.1 rfl (dkAt dkX7_best 33 (q := (67, .getfield 10, 3)) rfl) rfl ?_
        refine kf_X7_157 C (pc2 := 73) (o := 1) (o2 := 0) hX.2.1.1 (dkAt dkX7_best 34 (q := (70, .getfield 157, 3)) rfl) rfl ?_
        obtain ⟨q5, e6, h⟩ := ob_inv h
        refine kc_V C (As := [.int (q3.1 1 2)]) (st2 := [.int q5, rA G 21]) (ct_X6_daysWithYes l G sh xs 21 hX.2.2.2.1 (q3.1 1 2) q3 q5 e6) (cl_X7_220 (hts_of C) ⟨Nat.le_of_ble_eq_true rfl, Nat.le_of_ble_eq_true rfl⟩ rfl rfl) hX.2.2.2.1.1 rfl rfl rfl rfl rfl (Nat.le_of_ble_eq_true rfl) (dkAt dkX7_best 35 (q := (73, .invokevirtual 220, 3)) rfl) ⟨Nat.zero_le _, Nat.zero_le _⟩ (pc2 := 76) rfl rfl ?_
        obtain ⟨q7, e8, h⟩ := ob_inv h
        refine kc_V C (As := [.int q5]) (st2 := [.int q7]) (ct_X6_bestAmong l G sh xs 21 hX.2.2.2.1 q5 q3 q7 e8) (cl_X7_223 (hts_of C) ⟨Nat.le_of_ble_eq_true rfl, Nat.le_of_ble_eq_true rfl⟩ rfl rfl) hX.2.2.2.1.1 rfl rfl rfl rfl rfl (Nat.le_of_ble_eq_true rfl) (dkAt dkX7_best 36 (q := (76, .invokevirtual 223, 3)) rfl) ⟨Nat.zero_le _, Nat.zero_le _⟩ (pc2 := 79) rfl rfl ?_
        exact k_iret C (dkAt dkX7_best 37 (q := (79, .ireturn, 1)) rfl) (pe2 (Option.some.inj h)) rfl (pe1 (Option.some.inj h)) rfl
      · refine k_aload_n C (pc2 := 49) (dkAt dkX7_best 24 (q := (48, .aload_n 0, 1)) rfl) rfl rfl 0 rfl ?_
        refine kf_X7_22 C (pc2 := 52) (o := 0) (o2 := 21) hX.1 rfl (dkAt dkX7_best 25 (q := (49, .getfield 22, 3)) rfl) rfl ?_
        obtain ⟨q9, e10, h⟩ := ob_inv h
        refine kc_V C (As := []) (st2 := [.int q9]) (ct_X6_bestOfAll l G sh xs 21 hX.2.2.2.1 q3 q9 e10) (cl_X7_217 (hts_of C) ⟨Nat.le_of_ble_eq_true rfl, Nat.le_of_ble_eq_true rfl⟩ rfl rfl) hX.2.2.2.1.1 rfl rfl rfl rfl rfl (Nat.le_of_ble_eq_true rfl) (dkAt dkX7_best 26 (q := (52, .invokevirtual 217, 3)) rfl) ⟨Nat.zero_le _, Nat.zero_le _⟩ (pc2 := 55) rfl rfl ?_
        refine k_goto C (tgt := 79) (dkAt dkX7_best 27 (q := (55, .goto 24, 3)) rfl) (by decide) ?_
        exact k_iret C (dkAt dkX7_best 37 (q := (79, .ireturn, 1)) rfl) (pe2 (Option.some.inj h)) rfl (pe1 (Option.some.inj h)) rfl
    · refine k_aload_n C (pc2 := 27) (dkAt dkX7_best 13 (q := (26, .aload_n 0, 1)) rfl) rfl rfl 0 rfl ?_
      refine k_bipush C (pc2 := 29) (dkAt dkX7_best 14 (q := (27, .bipush (-5), 2)) rfl) rfl (v := (-5)) rfl ?_
      obtain ⟨q11, e12, h⟩ := ob_inv h
      refine kc_V C (As := [.int (-5)]) (st2 := [.int q11.2]) (ct_X7_refuse l G sh xs hX (-5) M q11 e12) (cl_X7_62 (hts_of C) ⟨Nat.le_of_ble_eq_true rfl, Nat.le_of_ble_eq_true rfl⟩ rfl rfl) hX.1 rfl rfl rfl rfl rfl (Nat.le_of_ble_eq_true rfl) (dkAt dkX7_best 15 (q := (29, .invokevirtual 62, 3)) rfl) ⟨Nat.zero_le _, Nat.zero_le _⟩ (pc2 := 32) rfl rfl ?_
      exact k_iret C (dkAt dkX7_best 16 (q := (32, .ireturn, 1)) rfl) (pe2 (Option.some.inj h)) rfl (pe1 (Option.some.inj h)) rfl
  · refine k_aload_n C (pc2 := 10) (dkAt dkX7_best 5 (q := (9, .aload_n 0, 1)) rfl) rfl rfl 0 rfl ?_
    refine k_bipush C (pc2 := 12) (dkAt dkX7_best 6 (q := (10, .bipush (-2), 2)) rfl) rfl (v := (-2)) rfl ?_
    obtain ⟨q13, e14, h⟩ := ob_inv h
    refine kc_V C (As := [.int (-2)]) (st2 := [.int q13.2]) (ct_X7_refuse l G sh xs hX (-2) M q13 e14) (cl_X7_62 (hts_of C) ⟨Nat.le_of_ble_eq_true rfl, Nat.le_of_ble_eq_true rfl⟩ rfl rfl) hX.1 rfl rfl rfl rfl rfl (Nat.le_of_ble_eq_true rfl) (dkAt dkX7_best 7 (q := (12, .invokevirtual 62, 3)) rfl) ⟨Nat.zero_le _, Nat.zero_le _⟩ (pc2 := 15) rfl rfl ?_
    exact k_iret C (dkAt dkX7_best 8 (q := (15, .ireturn, 1)) rfl) (pe2 (Option.some.inj h)) rfl (pe1 (Option.some.inj h)) rfl
set_option maxRecDepth 100000 in
set_option maxHeartbeats 4000000 in
theorem ct_X7_there (l : Launch) (G : GG) (sh : Sh) (xs : List va_E) (hX : isX sh) (x1 : Int32) (M : Mm) (r : Mm × Int32) (h : f_X7_there x1 M = some r) : Ct l yX7_there cX7_there 2 (some .int) rm_X7_there G [rA G 0, .int x1] sh M xs (some (.int r.2)) sh r.1 xs 0 0 := by
  refine ct_of (by decide) (Nat.le_of_ble_eq_true rfl) ?_
  intro p e s m args below meth c hnm C
  refine k_lv [0, 1] (lv2 := [(0, rA G 0), (1, .int x1)]) rfl ?_
  unfold f_X7_there at h
  refine k_aload_n C (pc2 := 1) (dkAt dkX7_there 0 (q := (0, .aload_n 0, 1)) rfl) rfl rfl 0 rfl ?_
  refine kf_X7_10 C (pc2 := 4) (o := 0) (o2 := 1) hX.1 rfl (dkAt dkX7_there 1 (q := (1, .getfield 10, 3)) rfl) rfl ?_
  refine k_iload_n C (pc2 := 5) (dkAt dkX7_there 2 (q := (4, .iload_n 1, 1)) rfl) rfl rfl 1 rfl ?_
  obtain ⟨q1, e2, h⟩ := ob_inv h
  refine kc_V C (As := [.int x1]) (st2 := [.int q1]) (ct_X1_hasDay l G sh xs 1 hX.2.1 x1 M q1 e2) (cl_X7_147 (hts_of C) ⟨Nat.le_of_ble_eq_true rfl, Nat.le_of_ble_eq_true rfl⟩ rfl rfl) hX.2.1.1 rfl rfl rfl rfl rfl (Nat.le_of_ble_eq_true rfl) (dkAt dkX7_there 3 (q := (5, .invokevirtual 147, 3)) rfl) ⟨Nat.zero_le _, Nat.zero_le _⟩ (pc2 := 8) rfl rfl ?_
  refine k_if_eq C (tgt := 22) (pc2 := 11) (dkAt dkX7_there 4 (q := (8, .ifCond .eq 14, 3)) rfl) (by decide) rfl h (fun h => ?_) (fun h => ?_)
  · refine k_aload_n C (pc2 := 23) (dkAt dkX7_there 10 (q := (22, .aload_n 0, 1)) rfl) rfl rfl 0 rfl ?_
    refine k_bipush C (pc2 := 25) (dkAt dkX7_there 11 (q := (23, .bipush (-2), 2)) rfl) rfl (v := (-2)) rfl ?_
    obtain ⟨q3, e4, h⟩ := ob_inv h
    refine kc_V C (As := [.int (-2)]) (st2 := [.int q3.2]) (ct_X7_refuse l G sh xs hX (-2) M q3 e4) (cl_X7_62 (hts_of C) ⟨Nat.le_of_ble_eq_true rfl, Nat.le_of_ble_eq_true rfl⟩ rfl rfl) hX.1 rfl rfl rfl rfl rfl (Nat.le_of_ble_eq_true rfl) (dkAt dkX7_there 12 (q := (25, .invokevirtual 62, 3)) rfl) ⟨Nat.zero_le _, Nat.zero_le _⟩ (pc2 := 28) rfl rfl ?_
    exact k_iret C (dkAt dkX7_there 13 (q := (28, .ireturn, 1)) rfl) (pe2 (Option.some.inj h)) rfl (pe1 (Option.some.inj h)) rfl
  · refine k_aload_n C (pc2 := 12) (dkAt dkX7_there 5 (q := (11, .aload_n 0, 1)) rfl) rfl rfl 0 rfl ?_
    refine kf_X7_10 C (pc2 := 15) (o := 0) (o2 := 1) hX.1 rfl (dkAt dkX7_there 6 (q := (12, .getfield 10, 3)) rfl) rfl ?_
    refine k_iload_n C (pc2 := 16) (dkAt dkX7_there 7 (q := (15, .iload_n 1, 1)) rfl) rfl rfl 1 rfl ?_
    obtain ⟨q5, e6, h⟩ := ob_inv h
    refine kc_V C (As := [.int x1]) (st2 := [.int q5]) (ct_X1_thereOn l G sh xs 1 hX.2.1 x1 M q5 e6) (cl_X7_226 (hts_of C) ⟨Nat.le_of_ble_eq_true rfl, Nat.le_of_ble_eq_true rfl⟩ rfl rfl) hX.2.1.1 rfl rfl rfl rfl rfl (Nat.le_of_ble_eq_true rfl) (dkAt dkX7_there 8 (q := (16, .invokevirtual 226, 3)) rfl) ⟨Nat.zero_le _, Nat.zero_le _⟩ (pc2 := 19) rfl rfl ?_
    refine k_goto C (tgt := 28) (dkAt dkX7_there 9 (q := (19, .goto 9, 3)) rfl) (by decide) ?_
    exact k_iret C (dkAt dkX7_there 13 (q := (28, .ireturn, 1)) rfl) (pe2 (Option.some.inj h)) rfl (pe1 (Option.some.inj h)) rfl
set_option maxRecDepth 100000 in
set_option maxHeartbeats 4000000 in
theorem ct_X7_all (l : Launch) (G : GG) (sh : Sh) (xs : List va_E) (hX : isX sh) (M : Mm) (r : Int32) (h : f_X7_all M = some r) : Ct l yX7_all cX7_all 1 (some .int) rm_X7_all G [rA G 0] sh M xs (some (.int r)) sh M xs 0 0 := by
  refine ct_of (by decide) (Nat.le_of_ble_eq_true rfl) ?_
  intro p e s m args below meth c hnm C
  refine k_lv [0] (lv2 := [(0, rA G 0)]) rfl ?_
  unfold f_X7_all at h
  refine k_aload_n C (pc2 := 1) (dkAt dkX7_all 0 (q := (0, .aload_n 0, 1)) rfl) rfl rfl 0 rfl ?_
  refine kf_X7_10 C (pc2 := 4) (o := 0) (o2 := 1) hX.1 rfl (dkAt dkX7_all 1 (q := (1, .getfield 10, 3)) rfl) rfl ?_
  refine k_iconst C (pc2 := 5) (dkAt dkX7_all 2 (q := (4, .iconst (-1), 1)) rfl) rfl (v := (-1)) rfl ?_
  obtain ⟨q1, e2, h⟩ := ob_inv h
  refine kc_V C (As := [.int (-1)]) (st2 := [.int q1]) (ct_X1_daysOfAllBut l G sh xs 1 hX.2.1 (-1) M q1 e2) (cl_X7_229 (hts_of C) ⟨Nat.le_of_ble_eq_true rfl, Nat.le_of_ble_eq_true rfl⟩ rfl rfl) hX.2.1.1 rfl rfl rfl rfl rfl (Nat.le_of_ble_eq_true rfl) (dkAt dkX7_all 3 (q := (5, .invokevirtual 229, 3)) rfl) ⟨Nat.zero_le _, Nat.zero_le _⟩ (pc2 := 8) rfl rfl ?_
  exact k_iret C (dkAt dkX7_all 4 (q := (8, .ireturn, 1)) rfl) (Option.some.inj h) rfl rfl rfl
set_option maxRecDepth 100000 in
set_option maxHeartbeats 4000000 in
theorem ct_X7_held (l : Launch) (G : GG) (sh : Sh) (xs : List va_E) (hX : isX sh) (x1 : Int32) (x2 : Int32) (M : Mm) (r : Mm × Int32) (h : f_X7_held x1 x2 M = some r) : Ct l yX7_held cX7_held 4 (some .int) rm_X7_held G [rA G 0, .int x1, .int x2] sh M xs (some (.int r.2)) sh r.1 xs 0 0 := by
  refine ct_of (by decide) (Nat.le_of_ble_eq_true rfl) ?_
  intro p e s m args below meth c hnm C
  refine k_lv [0, 1, 2] (lv2 := [(0, rA G 0), (1, .int x1), (2, .int x2)]) rfl ?_
  unfold f_X7_held at h
  refine k_aload_n C (pc2 := 1) (dkAt dkX7_held 0 (q := (0, .aload_n 0, 1)) rfl) rfl rfl 0 rfl ?_
  refine kf_X7_10 C (pc2 := 4) (o := 0) (o2 := 1) hX.1 rfl (dkAt dkX7_held 1 (q := (1, .getfield 10, 3)) rfl) rfl ?_
  refine k_iload_n C (pc2 := 5) (dkAt dkX7_held 2 (q := (4, .iload_n 1, 1)) rfl) rfl rfl 1 rfl ?_
  obtain ⟨q1, e2, h⟩ := ob_inv h
  refine kc_V C (As := [.int x1]) (st2 := [.int q1]) (ct_X1_hasPerson l G sh xs 1 hX.2.1 x1 M q1 e2) (cl_X7_105 (hts_of C) ⟨Nat.le_of_ble_eq_true rfl, Nat.le_of_ble_eq_true rfl⟩ rfl rfl) hX.2.1.1 rfl rfl rfl rfl rfl (Nat.le_of_ble_eq_true rfl) (dkAt dkX7_held 3 (q := (5, .invokevirtual 105, 3)) rfl) ⟨Nat.zero_le _, Nat.zero_le _⟩ (pc2 := 8) rfl rfl ?_
  refine k_if_eq C (tgt := 20) (pc2 := 11) (dkAt dkX7_held 4 (q := (8, .ifCond .eq 12, 3)) rfl) (by decide) rfl h (fun h => ?_) (fun h => ?_)
  · refine k_aload_n C (pc2 := 21) (dkAt dkX7_held 10 (q := (20, .aload_n 0, 1)) rfl) rfl rfl 0 rfl ?_
    refine k_bipush C (pc2 := 23) (dkAt dkX7_held 11 (q := (21, .bipush (-2), 2)) rfl) rfl (v := (-2)) rfl ?_
    obtain ⟨q3, e4, h⟩ := ob_inv h
    refine kc_V C (As := [.int (-2)]) (st2 := [.int q3.2]) (ct_X7_refuse l G sh xs hX (-2) M q3 e4) (cl_X7_62 (hts_of C) ⟨Nat.le_of_ble_eq_true rfl, Nat.le_of_ble_eq_true rfl⟩ rfl rfl) hX.1 rfl rfl rfl rfl rfl (Nat.le_of_ble_eq_true rfl) (dkAt dkX7_held 12 (q := (23, .invokevirtual 62, 3)) rfl) ⟨Nat.zero_le _, Nat.zero_le _⟩ (pc2 := 26) rfl rfl ?_
    exact k_iret C (dkAt dkX7_held 13 (q := (26, .ireturn, 1)) rfl) (pe2 (Option.some.inj h)) rfl (pe1 (Option.some.inj h)) rfl
  · refine k_iload_n C (pc2 := 12) (dkAt dkX7_held 5 (q := (11, .iload_n 2, 1)) rfl) rfl rfl 2 rfl ?_
    refine k_iconst C (pc2 := 13) (dkAt dkX7_held 6 (q := (12, .iconst 0, 1)) rfl) rfl (v := 0) rfl ?_
    refine k_iconst C (pc2 := 14) (dkAt dkX7_held 7 (q := (13, .iconst 1, 1)) rfl) rfl (v := 1) rfl ?_
    obtain ⟨q5, e6, h⟩ := ob_inv h
    refine kc_S C (As := [.int x2, .int 0, .int 1]) (st2 := [.int q5]) (ct_X7_within l G sh xs x2 0 1 M q5 e6) (cl_X7_58 (hts_of C) ⟨Nat.le_of_ble_eq_true rfl, Nat.le_of_ble_eq_true rfl⟩ rfl rfl) rfl rfl (Nat.le_of_ble_eq_true rfl) (dkAt dkX7_held 8 (q := (14, .invokestatic 58, 3)) rfl) ⟨Nat.zero_le _, Nat.zero_le _⟩ (pc2 := 17) rfl rfl ?_
    refine k_if_ne C (tgt := 27) (pc2 := 20) (dkAt dkX7_held 9 (q := (17, .ifCond .ne 10, 3)) rfl) (by decide) rfl h (fun h => ?_) (fun h => ?_)
    · refine k_aload_n C (pc2 := 28) (dkAt dkX7_held 14 (q := (27, .aload_n 0, 1)) rfl) rfl rfl 0 rfl ?_
      refine kf_X7_22 C (pc2 := 31) (o := 0) (o2 := 21) hX.1 rfl (dkAt dkX7_held 15 (q := (28, .getfield 22, 3)) rfl) rfl ?_
      refine k_aload_n C (pc2 := 32) (dkAt dkX7_held 16 (q := (31, .aload_n 0, 1)) rfl) rfl rfl 0 rfl ?_
      refine kf_X7_10 C (pc2 := 35) (o := 0) (o2 := 1) hX.1 rfl (dkAt dkX7_held 17 (q := (32, .getfield 10, 3)) rfl) rfl ?_
      obtain ⟨q7, e8, h⟩ := ob_inv h
      refine kc_V C (As := [rA G 1]) (st2 := []) (ct_X6_reckon l G sh xs 21 hX.2.2.2.1 1 hX.2.1 M q7 e8) (cl_X7_206 (hts_of C) ⟨Nat.le_of_ble_eq_true rfl, Nat.le_of_ble_eq_true rfl⟩ rfl rfl) hX.2.2.2.1.1 rfl rfl rfl rfl rfl (Nat.le_of_ble_eq_true rfl) (dkAt dkX7_held 18 (q := (35, .invokevirtual 206, 3)) rfl) ⟨Nat.zero_le _, Nat.zero_le _⟩ (pc2 := 38) rfl rfl ?_
      refine k_aload_n C (pc2 := 39) (dkAt dkX7_held 19 (q := (38, .aload_n 0, 1)) rfl) rfl rfl 0 rfl ?_
      refine kf_X7_22 C (pc2 := 42) (o := 0) (o2 := 21) hX.1 rfl (dkAt dkX7_held 20 (q := (39, .getfield 22, 3)) rfl) rfl ?_
      refine k_iload_n C (pc2 := 43) (dkAt dkX7_held 21 (q := (42, .iload_n 1, 1)) rfl) rfl rfl 1 rfl ?_
      obtain ⟨q9, e10, h⟩ := ob_inv h
      refine kc_V C (As := [.int x1]) (st2 := [.int q9]) (ct_X6_daysWithYes l G sh xs 21 hX.2.2.2.1 x1 q7 q9 e10) (cl_X7_220 (hts_of C) ⟨Nat.le_of_ble_eq_true rfl, Nat.le_of_ble_eq_true rfl⟩ rfl rfl) hX.2.2.2.1.1 rfl rfl rfl rfl rfl (Nat.le_of_ble_eq_true rfl) (dkAt dkX7_held 22 (q := (43, .invokevirtual 220, 3)) rfl) ⟨Nat.zero_le _, Nat.zero_le _⟩ (pc2 := 46) rfl rfl ?_
      refine k_istore_n C (pc2 := 47) (dkAt dkX7_held 23 (q := (46, .istore_n 3, 1)) rfl) rfl rfl (by decide) (lv2 := [(3, .int q9), (0, rA G 0), (1, .int x1), (2, .int x2)]) rfl ?_
      refine k_iload_n C (pc2 := 48) (dkAt dkX7_held 24 (q := (47, .iload_n 2, 1)) rfl) rfl rfl 3 rfl ?_
      refine k_iconst C (pc2 := 49) (dkAt dkX7_held 25 (q := (48, .iconst 1, 1)) rfl) rfl (v := 1) rfl ?_
      refine k_icmp_ne C (tgt := 66) (pc2 := 52) (dkAt dkX7_held 26 (q := (49, .if_icmp .ne 17, 3)) rfl) (by decide) rfl h (fun h => ?_) (fun h => ?_)
      · refine k_iload_n C (pc2 := 67) (dkAt dkX7_held 37 (q := (66, .iload_n 3, 1)) rfl) rfl rfl 0 rfl ?_
        obtain ⟨q11, e12, h⟩ := ob_inv h
        refine kc_S C (As := [.int q9]) (st2 := [.int q11]) (ct_J6_bitCount_0f7a4 l G sh xs q9 q7 q11 e12) (cl_X7_232 (hts_of C) ⟨Nat.le_of_ble_eq_true rfl, Nat.le_of_ble_eq_true rfl⟩ rfl rfl) rfl rfl (Nat.le_of_ble_eq_true rfl) (dkAt dkX7_held 38 (q := (67, .invokestatic 232, 3)) rfl) ⟨Nat.zero_le _, Nat.zero_le _⟩ (pc2 := 70) rfl rfl ?_
        exact k_iret C (dkAt dkX7_held 39 (q := (70, .ireturn, 1)) rfl) (pe2 (Option.some.inj h)) rfl (pe1 (Option.some.inj h)) rfl
      · refine k_iload_n C (pc2 := 53) (dkAt dkX7_held 27 (q := (52, .iload_n 3, 1)) rfl) rfl rfl 0 rfl ?_
        refine k_iconst C (pc2 := 54) (dkAt dkX7_held 28 (q := (53, .iconst 1, 1)) rfl) rfl (v := 1) rfl ?_
        refine k_aload_n C (pc2 := 55) (dkAt dkX7_held 29 (q := (54, .aload_n 0, 1)) rfl) rfl rfl 1 rfl ?_
        refine kf_X7_22 C (pc2 := 58) (o := 0) (o2 := 21) hX.1 rfl (dkAt dkX7_held 30 (q := (55, .getfield 22, 3)) rfl) rfl ?_
        obtain ⟨q13, e14, h⟩ := ob_inv h
        refine kc_V C (As := []) (st2 := [.int q13, .int 1, .int q9]) (ct_X6_bestOfAll l G sh xs 21 hX.2.2.2.1 q7 q13 e14) (cl_X7_217 (hts_of C) ⟨Nat.le_of_ble_eq_true rfl, Nat.le_of_ble_eq_true rfl⟩ rfl rfl) hX.2.2.2.1.1 rfl rfl rfl rfl rfl (Nat.le_of_ble_eq_true rfl) (dkAt dkX7_held 31 (q := (58, .invokevirtual 217, 3)) rfl) ⟨Nat.zero_le _, Nat.zero_le _⟩ (pc2 := 61) rfl rfl ?_
        refine k_ishl C (pc2 := 62) (dkAt dkX7_held 32 (q := (61, .ishl, 1)) rfl) rfl ?_
        refine k_iconst C (pc2 := 63) (dkAt dkX7_held 33 (q := (62, .iconst (-1), 1)) rfl) rfl (v := (-1)) rfl ?_
        refine k_ixor C (pc2 := 64) (dkAt dkX7_held 34 (q := (63, .ixor, 1)) rfl) rfl ?_
        refine k_iand C (pc2 := 65) (dkAt dkX7_held 35 (q := (64, .iand, 1)) rfl) rfl ?_
        refine kb_istore_n C (pc2 := 66) (dkAt dkX7_held 36 (q := (65, .istore_n 3, 1)) rfl) rfl rfl (by decide) (lv2 := fun v15 => [(3, .int v15), (0, rA G 0), (1, .int x1), (2, .int x2)]) (fun _ => rfl) h (fun v15 h => ?_)
        refine k_iload_n C (pc2 := 67) (dkAt dkX7_held 37 (q := (66, .iload_n 3, 1)) rfl) rfl rfl 0 rfl ?_
        obtain ⟨q16, e17, h⟩ := ob_inv h
        refine kc_S C (As := [.int v15]) (st2 := [.int q16]) (ct_J6_bitCount_0f7a4 l G sh xs v15 q7 q16 e17) (cl_X7_232 (hts_of C) ⟨Nat.le_of_ble_eq_true rfl, Nat.le_of_ble_eq_true rfl⟩ rfl rfl) rfl rfl (Nat.le_of_ble_eq_true rfl) (dkAt dkX7_held 38 (q := (67, .invokestatic 232, 3)) rfl) ⟨Nat.zero_le _, Nat.zero_le _⟩ (pc2 := 70) rfl rfl ?_
        exact k_iret C (dkAt dkX7_held 39 (q := (70, .ireturn, 1)) rfl) (pe2 (Option.some.inj h)) rfl (pe1 (Option.some.inj h)) rfl
    · refine k_aload_n C (pc2 := 21) (dkAt dkX7_held 10 (q := (20, .aload_n 0, 1)) rfl) rfl rfl 0 rfl ?_
      refine k_bipush C (pc2 := 23) (dkAt dkX7_held 11 (q := (21, .bipush (-2), 2)) rfl) rfl (v := (-2)) rfl ?_
      obtain ⟨q18, e19, h⟩ := ob_inv h
      refine kc_V C (As := [.int (-2)]) (st2 := [.int q18.2]) (ct_X7_refuse l G sh xs hX (-2) M q18 e19) (cl_X7_62 (hts_of C) ⟨Nat.le_of_ble_eq_true rfl, Nat.le_of_ble_eq_true rfl⟩ rfl rfl) hX.1 rfl rfl rfl rfl rfl (Nat.le_of_ble_eq_true rfl) (dkAt dkX7_held 12 (q := (23, .invokevirtual 62, 3)) rfl) ⟨Nat.zero_le _, Nat.zero_le _⟩ (pc2 := 26) rfl rfl ?_
      exact k_iret C (dkAt dkX7_held 13 (q := (26, .ireturn, 1)) rfl) (pe2 (Option.some.inj h)) rfl (pe1 (Option.some.inj h)) rfl
set_option maxRecDepth 100000 in
set_option maxHeartbeats 4000000 in
theorem ct_X7_leftAfterDay (l : Launch) (G : GG) (sh : Sh) (xs : List va_E) (x0 : Int32) (x1 : Int32) (M : Mm) (r : Int32) (h : f_X7_leftAfterDay x0 x1 = some r) : Ct l yX7_leftAfterDay cX7_leftAfterDay 2 (some .int) rm_X7_leftAfterDay G [.int x0, .int x1] sh M xs (some (.int r)) sh M xs 0 0 := by
  refine ct_of (by decide) (Nat.le_of_ble_eq_true rfl) ?_
  intro p e s m args below meth c hnm C
  refine k_lv [0, 1] (lv2 := [(0, .int x0), (1, .int x1)]) rfl ?_
  unfold f_X7_leftAfterDay at h
  refine k_iload_n C (pc2 := 1) (dkAt dkX7_leftAfterDay 0 (q := (0, .iload_n 0, 1)) rfl) rfl rfl 0 rfl ?_
  refine k_i2l C (pc2 := 2) (dkAt dkX7_leftAfterDay 1 (q := (1, .i2l, 1)) rfl) rfl ?_
  refine k_ldc C (pc2 := 4) (dkAt dkX7_leftAfterDay 2 (q := (2, .ldc 244, 2)) rfl) rfl (v := 1000000) tK_X7_244 ?_
  refine k_iload_n C (pc2 := 5) (dkAt dkX7_leftAfterDay 3 (q := (4, .iload_n 1, 1)) rfl) rfl rfl 1 rfl ?_
  refine k_isub C (pc2 := 6) (dkAt dkX7_leftAfterDay 4 (q := (5, .isub, 1)) rfl) rfl ?_
  refine k_i2l C (pc2 := 7) (dkAt dkX7_leftAfterDay 5 (q := (6, .i2l, 1)) rfl) rfl ?_
  refine k_lmul C (pc2 := 8) (dkAt dkX7_leftAfterDay 6 (q := (7, .lmul, 1)) rfl) rfl ?_
  refine k_ldc2 C (pc2 := 11) (dkAt dkX7_leftAfterDay 7 (q := (8, .ldc2_w 377, 3)) rfl) rfl (v := 1000000) tL_X7_377 ?_
  refine k_ldivc C (pc2 := 12) (dkAt dkX7_leftAfterDay 8 (q := (11, .ldiv, 1)) rfl) rfl (by decide) ?_
  refine k_l2i C (pc2 := 13) (dkAt dkX7_leftAfterDay 9 (q := (12, .l2i, 1)) rfl) rfl ?_
  exact k_iret C (dkAt dkX7_leftAfterDay 10 (q := (13, .ireturn, 1)) rfl) (Option.some.inj h) rfl rfl rfl
set_option maxRecDepth 100000 in
set_option maxHeartbeats 4000000 in
theorem kl_X7_oddsOfDays_L5 {p : Program} {l : Launch} {e : Env} {s : State} {m : MethodId} {args : Array Value} {below : List Frame} {meth : Method} {c : Code} {G : GG} {sh : Sh} {xs : List va_E} {Q : State → Prop} (C : Cx p s m c args meth G RX7 cX7_oddsOfDays 4 (some .int)) (x0 : Int32) (x1 : Int32) (M : Mm) (y2 : Int32) (hcont : KW p l e rm_X7_oddsOfDays s m args below meth c G 4 Q sh xs 0 0 M 22 [(2, .int y2)] []) : ∀ (n : Nat) (x2 : Int32) (x3 : Int32), f_X7_oddsOfDays_L5 x0 x1 n x2 x3 = some y2 → KW p l e rm_X7_oddsOfDays s m args below meth c G 4 Q sh xs 0 0 M 5 [(0, .int x0), (1, .int x1), (2, .int x2), (3, .int x3)] [] := by
  intro n
  induction n with
  | zero =>
    intro x2 x3 h
    cases h
  | succ n ih =>
    intro x2 x3 h
    unfold f_X7_oddsOfDays_L5 at h
    refine k_iload_n C (pc2 := 6) (dkAt dkX7_oddsOfDays 4 (q := (5, .iload_n 3, 1)) rfl) rfl rfl 3 rfl ?_
    refine k_iload_n C (pc2 := 7) (dkAt dkX7_oddsOfDays 5 (q := (6, .iload_n 1, 1)) rfl) rfl rfl 1 rfl ?_
    refine k_icmp_ge C (tgt := 22) (pc2 := 10) (dkAt dkX7_oddsOfDays 6 (q := (7, .if_icmp .ge 15, 3)) rfl) (by decide) rfl h (fun h => ?_) (fun h => ?_)
    · refine k_lv [2] (lv2 := [(2, .int x2)]) rfl ?_
      cases h
      exact hcont
    · refine k_iload_n C (pc2 := 11) (dkAt dkX7_oddsOfDays 7 (q := (10, .iload_n 2, 1)) rfl) rfl rfl 2 rfl ?_
      refine k_iload_n C (pc2 := 12) (dkAt dkX7_oddsOfDays 8 (q := (11, .iload_n 0, 1)) rfl) rfl rfl 0 rfl ?_
      obtain ⟨q1, e2, h⟩ := ob_inv h
      refine kc_S C (As := [.int x2, .int x0]) (st2 := [.int q1]) (ct_X7_leftAfterDay l G sh xs x2 x0 M q1 e2) (cl_X7_245 (hts_of C) ⟨Nat.le_of_ble_eq_true rfl, Nat.le_of_ble_eq_true rfl⟩ rfl rfl) rfl rfl (Nat.le_of_ble_eq_true rfl) (dkAt dkX7_oddsOfDays 9 (q := (12, .invokestatic 245, 3)) rfl) ⟨Nat.zero_le _, Nat.zero_le _⟩ (pc2 := 15) rfl rfl ?_
      refine k_istore_n C (pc2 := 16) (dkAt dkX7_oddsOfDays 10 (q := (15, .istore_n 2, 1)) rfl) rfl rfl (by decide) (lv2 := [(2, .int q1), (0, .int x0), (1, .int x1), (3, .int x3)]) rfl ?_
      refine kb_iinc C (pc2 := 19) (dkAt dkX7_oddsOfDays 11 (q := (16, .iinc 3 1, 3)) rfl) rfl (j := 3) rfl (v := x3 + 1) rfl (by decide) (lv2 := fun v3 => [(3, .int v3), (2, .int q1), (0, .int x0), (1, .int x1)]) (fun _ => rfl) h (fun v3 h => ?_)
      refine k_goto C (tgt := 5) (dkAt dkX7_oddsOfDays 12 (q := (19, .goto (-14), 3)) rfl) (by decide) ?_
      refine k_lv [2, 3, 1, 0] (lv2 := [(0, .int x0), (1, .int x1), (2, .int q1), (3, .int v3)]) rfl ?_
      exact ih q1 v3 h
set_option maxRecDepth 100000 in
set_option maxHeartbeats 4000000 in
theorem ct_X7_oddsOfDays (l : Launch) (G : GG) (sh : Sh) (xs : List va_E) (x0 : Int32) (x1 : Int32) (M : Mm) (r : Int32) (h : f_X7_oddsOfDays x0 x1 = some r) : Ct l yX7_oddsOfDays cX7_oddsOfDays 4 (some .int) rm_X7_oddsOfDays G [.int x0, .int x1] sh M xs (some (.int r)) sh M xs 0 0 := by
  refine ct_of (by decide) (Nat.le_of_ble_eq_true rfl) ?_
  intro p e s m args below meth c hnm C
  refine k_lv [0, 1] (lv2 := [(0, .int x0), (1, .int x1)]) rfl ?_
  unfold f_X7_oddsOfDays at h
  refine k_ldc C (pc2 := 2) (dkAt dkX7_oddsOfDays 0 (q := (0, .ldc 244, 2)) rfl) rfl (v := 1000000) tK_X7_244 ?_
  refine k_istore_n C (pc2 := 3) (dkAt dkX7_oddsOfDays 1 (q := (2, .istore_n 2, 1)) rfl) rfl rfl (by decide) (lv2 := [(2, .int 1000000), (0, .int x0), (1, .int x1)]) rfl ?_
  refine k_iconst C (pc2 := 4) (dkAt dkX7_oddsOfDays 2 (q := (3, .iconst 0, 1)) rfl) rfl (v := 0) rfl ?_
  refine k_istore_n C (pc2 := 5) (dkAt dkX7_oddsOfDays 3 (q := (4, .istore_n 3, 1)) rfl) rfl rfl (by decide) (lv2 := [(3, .int 0), (2, .int 1000000), (0, .int x0), (1, .int x1)]) rfl ?_
  refine k_lv [2, 3, 1, 0] (lv2 := [(0, .int x0), (1, .int x1), (2, .int 1000000), (3, .int 0)]) rfl ?_
  obtain ⟨v6, e5, h⟩ := ob_inv h
  refine kl_X7_oddsOfDays_L5 C x0 x1 M v6 ?_ 1000 1000000 0 e5
  refine k_ldc C (pc2 := 24) (dkAt dkX7_oddsOfDays 13 (q := (22, .ldc 244, 2)) rfl) rfl (v := 1000000) tK_X7_244 ?_
  refine k_iload_n C (pc2 := 25) (dkAt dkX7_oddsOfDays 14 (q := (24, .iload_n 2, 1)) rfl) rfl rfl 0 rfl ?_
  refine k_isub C (pc2 := 26) (dkAt dkX7_oddsOfDays 15 (q := (25, .isub, 1)) rfl) rfl ?_
  exact k_iret C (dkAt dkX7_oddsOfDays 16 (q := (26, .ireturn, 1)) rfl) (Option.some.inj h) rfl rfl rfl
set_option maxRecDepth 100000 in
set_option maxHeartbeats 4000000 in
theorem kl_X7_oneDay_L5 {p : Program} {l : Launch} {e : Env} {s : State} {m : MethodId} {args : Array Value} {below : List Frame} {meth : Method} {c : Code} {G : GG} {sh : Sh} {xs : List va_E} {Q : State → Prop} (C : Cx p s m c args meth G RX7 cX7_oneDay 4 (some .int)) (x0 : Int32) (x1 : Int32) (M : Mm) (y2 : Int32) (hcont : KW p l e rm_X7_oneDay s m args below meth c G 4 Q sh xs 0 0 M 22 [(2, .int y2)] []) : ∀ (n : Nat) (x2 : Int32) (x3 : Int32), f_X7_oneDay_L5 x0 x1 n x2 x3 = some y2 → KW p l e rm_X7_oneDay s m args below meth c G 4 Q sh xs 0 0 M 5 [(0, .int x0), (1, .int x1), (2, .int x2), (3, .int x3)] [] := by
  intro n
  induction n with
  | zero =>
    intro x2 x3 h
    cases h
  | succ n ih =>
    intro x2 x3 h
    unfold f_X7_oneDay_L5 at h
    refine k_iload_n C (pc2 := 6) (dkAt dkX7_oneDay 4 (q := (5, .iload_n 3, 1)) rfl) rfl rfl 3 rfl ?_
    refine k_iload_n C (pc2 := 7) (dkAt dkX7_oneDay 5 (q := (6, .iload_n 0, 1)) rfl) rfl rfl 0 rfl ?_
    refine k_icmp_ge C (tgt := 22) (pc2 := 10) (dkAt dkX7_oneDay 6 (q := (7, .if_icmp .ge 15, 3)) rfl) (by decide) rfl h (fun h => ?_) (fun h => ?_)
    · refine k_lv [2] (lv2 := [(2, .int x2)]) rfl ?_
      cases h
      exact hcont
    · refine k_iload_n C (pc2 := 11) (dkAt dkX7_oneDay 7 (q := (10, .iload_n 2, 1)) rfl) rfl rfl 2 rfl ?_
      refine k_iload_n C (pc2 := 12) (dkAt dkX7_oneDay 8 (q := (11, .iload_n 1, 1)) rfl) rfl rfl 1 rfl ?_
      obtain ⟨q1, e2, h⟩ := ob_inv h
      refine kc_S C (As := [.int x2, .int x1]) (st2 := [.int q1]) (ct_X7_twelfths l G sh xs x2 x1 M q1 e2) (cl_X7_248 (hts_of C) ⟨Nat.le_of_ble_eq_true rfl, Nat.le_of_ble_eq_true rfl⟩ rfl rfl) rfl rfl (Nat.le_of_ble_eq_true rfl) (dkAt dkX7_oneDay 9 (q := (12, .invokestatic 248, 3)) rfl) ⟨Nat.zero_le _, Nat.zero_le _⟩ (pc2 := 15) rfl rfl ?_
      refine k_istore_n C (pc2 := 16) (dkAt dkX7_oneDay 10 (q := (15, .istore_n 2, 1)) rfl) rfl rfl (by decide) (lv2 := [(2, .int q1), (0, .int x0), (1, .int x1), (3, .int x3)]) rfl ?_
      refine kb_iinc C (pc2 := 19) (dkAt dkX7_oneDay 11 (q := (16, .iinc 3 1, 3)) rfl) rfl (j := 3) rfl (v := x3 + 1) rfl (by decide) (lv2 := fun v3 => [(3, .int v3), (2, .int q1), (0, .int x0), (1, .int x1)]) (fun _ => rfl) h (fun v3 h => ?_)
      refine k_goto C (tgt := 5) (dkAt dkX7_oneDay 12 (q := (19, .goto (-14), 3)) rfl) (by decide) ?_
      refine k_lv [2, 3, 1, 0] (lv2 := [(0, .int x0), (1, .int x1), (2, .int q1), (3, .int v3)]) rfl ?_
      exact ih q1 v3 h
set_option maxRecDepth 100000 in
set_option maxHeartbeats 4000000 in
theorem ct_X7_oneDay (l : Launch) (G : GG) (sh : Sh) (xs : List va_E) (x0 : Int32) (x1 : Int32) (M : Mm) (r : Int32) (h : f_X7_oneDay x0 x1 = some r) : Ct l yX7_oneDay cX7_oneDay 4 (some .int) rm_X7_oneDay G [.int x0, .int x1] sh M xs (some (.int r)) sh M xs 0 0 := by
  refine ct_of (by decide) (Nat.le_of_ble_eq_true rfl) ?_
  intro p e s m args below meth c hnm C
  refine k_lv [0, 1] (lv2 := [(0, .int x0), (1, .int x1)]) rfl ?_
  unfold f_X7_oneDay at h
  refine k_ldc C (pc2 := 2) (dkAt dkX7_oneDay 0 (q := (0, .ldc 244, 2)) rfl) rfl (v := 1000000) tK_X7_244 ?_
  refine k_istore_n C (pc2 := 3) (dkAt dkX7_oneDay 1 (q := (2, .istore_n 2, 1)) rfl) rfl rfl (by decide) (lv2 := [(2, .int 1000000), (0, .int x0), (1, .int x1)]) rfl ?_
  refine k_iconst C (pc2 := 4) (dkAt dkX7_oneDay 2 (q := (3, .iconst 0, 1)) rfl) rfl (v := 0) rfl ?_
  refine k_istore_n C (pc2 := 5) (dkAt dkX7_oneDay 3 (q := (4, .istore_n 3, 1)) rfl) rfl rfl (by decide) (lv2 := [(3, .int 0), (2, .int 1000000), (0, .int x0), (1, .int x1)]) rfl ?_
  refine k_lv [2, 3, 1, 0] (lv2 := [(0, .int x0), (1, .int x1), (2, .int 1000000), (3, .int 0)]) rfl ?_
  obtain ⟨v6, e5, h⟩ := ob_inv h
  refine kl_X7_oneDay_L5 C x0 x1 M v6 ?_ 1000 1000000 0 e5
  refine k_iload_n C (pc2 := 23) (dkAt dkX7_oneDay 13 (q := (22, .iload_n 2, 1)) rfl) rfl rfl 0 rfl ?_
  exact k_iret C (dkAt dkX7_oneDay 14 (q := (23, .ireturn, 1)) rfl) (Option.some.inj h) rfl rfl rfl
set_option maxRecDepth 100000 in
set_option maxHeartbeats 4000000 in
theorem ct_X7_odds (l : Launch) (G : GG) (sh : Sh) (xs : List va_E) (hX : isX sh) (x1 : Int32) (x2 : Int32) (x3 : Int32) (M : Mm) (r : Mm × Int32) (h : f_X7_odds x1 x2 x3 M = some r) : Ct l yX7_odds cX7_odds 4 (some .int) rm_X7_odds G [rA G 0, .int x1, .int x2, .int x3] sh M xs (some (.int r.2)) sh r.1 xs 0 0 := by
  refine ct_of (by decide) (Nat.le_of_ble_eq_true rfl) ?_
  intro p e s m args below meth c hnm C
  refine k_lv [0, 1, 2, 3] (lv2 := [(0, rA G 0), (1, .int x1), (2, .int x2), (3, .int x3)]) rfl ?_
  unfold f_X7_odds at h
  refine k_iload_n C (pc2 := 1) (dkAt dkX7_odds 0 (q := (0, .iload_n 1, 1)) rfl) rfl rfl 1 rfl ?_
  refine k_iconst C (pc2 := 2) (dkAt dkX7_odds 1 (q := (1, .iconst 1, 1)) rfl) rfl (v := 1) rfl ?_
  refine k_bipush C (pc2 := 4) (dkAt dkX7_odds 2 (q := (2, .bipush 99, 2)) rfl) rfl (v := 99) rfl ?_
  obtain ⟨q1, e2, h⟩ := ob_inv h
  refine kc_S C (As := [.int x1, .int 1, .int 99]) (st2 := [.int q1]) (ct_X7_within l G sh xs x1 1 99 M q1 e2) (cl_X7_58 (hts_of C) ⟨Nat.le_of_ble_eq_true rfl, Nat.le_of_ble_eq_true rfl⟩ rfl rfl) rfl rfl (Nat.le_of_ble_eq_true rfl) (dkAt dkX7_odds 3 (q := (4, .invokestatic 58, 3)) rfl) ⟨Nat.zero_le _, Nat.zero_le _⟩ (pc2 := 7) rfl rfl ?_
  refine k_if_eq C (tgt := 30) (pc2 := 10) (dkAt dkX7_odds 4 (q := (7, .ifCond .eq 23, 3)) rfl) (by decide) rfl h (fun h => ?_) (fun h => ?_)
  · refine k_aload_n C (pc2 := 31) (dkAt dkX7_odds 15 (q := (30, .aload_n 0, 1)) rfl) rfl rfl 0 rfl ?_
    refine k_bipush C (pc2 := 33) (dkAt dkX7_odds 16 (q := (31, .bipush (-2), 2)) rfl) rfl (v := (-2)) rfl ?_
    obtain ⟨q3, e4, h⟩ := ob_inv h
    refine kc_V C (As := [.int (-2)]) (st2 := [.int q3.2]) (ct_X7_refuse l G sh xs hX (-2) M q3 e4) (cl_X7_62 (hts_of C) ⟨Nat.le_of_ble_eq_true rfl, Nat.le_of_ble_eq_true rfl⟩ rfl rfl) hX.1 rfl rfl rfl rfl rfl (Nat.le_of_ble_eq_true rfl) (dkAt dkX7_odds 17 (q := (33, .invokevirtual 62, 3)) rfl) ⟨Nat.zero_le _, Nat.zero_le _⟩ (pc2 := 36) rfl rfl ?_
    exact k_iret C (dkAt dkX7_odds 18 (q := (36, .ireturn, 1)) rfl) (pe2 (Option.some.inj h)) rfl (pe1 (Option.some.inj h)) rfl
  · refine k_iload_n C (pc2 := 11) (dkAt dkX7_odds 5 (q := (10, .iload_n 2, 1)) rfl) rfl rfl 2 rfl ?_
    refine k_iconst C (pc2 := 12) (dkAt dkX7_odds 6 (q := (11, .iconst 1, 1)) rfl) rfl (v := 1) rfl ?_
    refine k_bipush C (pc2 := 14) (dkAt dkX7_odds 7 (q := (12, .bipush 99, 2)) rfl) rfl (v := 99) rfl ?_
    obtain ⟨q5, e6, h⟩ := ob_inv h
    refine kc_S C (As := [.int x2, .int 1, .int 99]) (st2 := [.int q5]) (ct_X7_within l G sh xs x2 1 99 M q5 e6) (cl_X7_58 (hts_of C) ⟨Nat.le_of_ble_eq_true rfl, Nat.le_of_ble_eq_true rfl⟩ rfl rfl) rfl rfl (Nat.le_of_ble_eq_true rfl) (dkAt dkX7_odds 8 (q := (14, .invokestatic 58, 3)) rfl) ⟨Nat.zero_le _, Nat.zero_le _⟩ (pc2 := 17) rfl rfl ?_
    refine k_if_eq C (tgt := 30) (pc2 := 20) (dkAt dkX7_odds 9 (q := (17, .ifCond .eq 13, 3)) rfl) (by decide) rfl h (fun h => ?_) (fun h => ?_)
    · refine k_aload_n C (pc2 := 31) (dkAt dkX7_odds 15 (q := (30, .aload_n 0, 1)) rfl) rfl rfl 0 rfl ?_
      refine k_bipush C (pc2 := 33) (dkAt dkX7_odds 16 (q := (31, .bipush (-2), 2)) rfl) rfl (v := (-2)) rfl ?_
      obtain ⟨q7, e8, h⟩ := ob_inv h
      refine kc_V C (As := [.int (-2)]) (st2 := [.int q7.2]) (ct_X7_refuse l G sh xs hX (-2) M q7 e8) (cl_X7_62 (hts_of C) ⟨Nat.le_of_ble_eq_true rfl, Nat.le_of_ble_eq_true rfl⟩ rfl rfl) hX.1 rfl rfl rfl rfl rfl (Nat.le_of_ble_eq_true rfl) (dkAt dkX7_odds 17 (q := (33, .invokevirtual 62, 3)) rfl) ⟨Nat.zero_le _, Nat.zero_le _⟩ (pc2 := 36) rfl rfl ?_
      exact k_iret C (dkAt dkX7_odds 18 (q := (36, .ireturn, 1)) rfl) (pe2 (Option.some.inj h)) rfl (pe1 (Option.some.inj h)) rfl
    · refine k_iload_n C (pc2 := 21) (dkAt dkX7_odds 10 (q := (20, .iload_n 3, 1)) rfl) rfl rfl 3 rfl ?_
      refine k_iconst C (pc2 := 22) (dkAt dkX7_odds 11 (q := (21, .iconst 0, 1)) rfl) rfl (v := 0) rfl ?_
      refine k_bipush C (pc2 := 24) (dkAt dkX7_odds 12 (q := (22, .bipush 12, 2)) rfl) rfl (v := 12) rfl ?_
      obtain ⟨q9, e10, h⟩ := ob_inv h
      refine kc_S C (As := [.int x3, .int 0, .int 12]) (st2 := [.int q9]) (ct_X7_within l G sh xs x3 0 12 M q9 e10) (cl_X7_58 (hts_of C) ⟨Nat.le_of_ble_eq_true rfl, Nat.le_of_ble_eq_true rfl⟩ rfl rfl) rfl rfl (Nat.le_of_ble_eq_true rfl) (dkAt dkX7_odds 13 (q := (24, .invokestatic 58, 3)) rfl) ⟨Nat.zero_le _, Nat.zero_le _⟩ (pc2 := 27) rfl rfl ?_
      refine k_if_ne C (tgt := 37) (pc2 := 30) (dkAt dkX7_odds 14 (q := (27, .ifCond .ne 10, 3)) rfl) (by decide) rfl h (fun h => ?_) (fun h => ?_)
      · refine k_iload_n C (pc2 := 38) (dkAt dkX7_odds 19 (q := (37, .iload_n 1, 1)) rfl) rfl rfl 1 rfl ?_
        refine k_iload_n C (pc2 := 39) (dkAt dkX7_odds 20 (q := (38, .iload_n 3, 1)) rfl) rfl rfl 3 rfl ?_
        obtain ⟨q11, e12, h⟩ := ob_inv h
        refine kc_S C (As := [.int x1, .int x3]) (st2 := [.int q11]) (ct_X7_oneDay l G sh xs x1 x3 M q11 e12) (cl_X7_237 (hts_of C) ⟨Nat.le_of_ble_eq_true rfl, Nat.le_of_ble_eq_true rfl⟩ rfl rfl) rfl rfl (Nat.le_of_ble_eq_true rfl) (dkAt dkX7_odds 21 (q := (39, .invokestatic 237, 3)) rfl) ⟨Nat.zero_le _, Nat.zero_le _⟩ (pc2 := 42) rfl rfl ?_
        refine k_iload_n C (pc2 := 43) (dkAt dkX7_odds 22 (q := (42, .iload_n 2, 1)) rfl) rfl rfl 2 rfl ?_
        obtain ⟨q13, e14, h⟩ := ob_inv h
        refine kc_S C (As := [.int q11, .int x2]) (st2 := [.int q13]) (ct_X7_oddsOfDays l G sh xs q11 x2 M q13 e14) (cl_X7_241 (hts_of C) ⟨Nat.le_of_ble_eq_true rfl, Nat.le_of_ble_eq_true rfl⟩ rfl rfl) rfl rfl (Nat.le_of_ble_eq_true rfl) (dkAt dkX7_odds 23 (q := (43, .invokestatic 241, 3)) rfl) ⟨Nat.zero_le _, Nat.zero_le _⟩ (pc2 := 46) rfl rfl ?_
        exact k_iret C (dkAt dkX7_odds 24 (q := (46, .ireturn, 1)) rfl) (pe2 (Option.some.inj h)) rfl (pe1 (Option.some.inj h)) rfl
      · refine k_aload_n C (pc2 := 31) (dkAt dkX7_odds 15 (q := (30, .aload_n 0, 1)) rfl) rfl rfl 0 rfl ?_
        refine k_bipush C (pc2 := 33) (dkAt dkX7_odds 16 (q := (31, .bipush (-2), 2)) rfl) rfl (v := (-2)) rfl ?_
        obtain ⟨q15, e16, h⟩ := ob_inv h
        refine kc_V C (As := [.int (-2)]) (st2 := [.int q15.2]) (ct_X7_refuse l G sh xs hX (-2) M q15 e16) (cl_X7_62 (hts_of C) ⟨Nat.le_of_ble_eq_true rfl, Nat.le_of_ble_eq_true rfl⟩ rfl rfl) hX.1 rfl rfl rfl rfl rfl (Nat.le_of_ble_eq_true rfl) (dkAt dkX7_odds 17 (q := (33, .invokevirtual 62, 3)) rfl) ⟨Nat.zero_le _, Nat.zero_le _⟩ (pc2 := 36) rfl rfl ?_
        exact k_iret C (dkAt dkX7_odds 18 (q := (36, .ireturn, 1)) rfl) (pe2 (Option.some.inj h)) rfl (pe1 (Option.some.inj h)) rfl
set_option maxRecDepth 100000 in
set_option maxHeartbeats 4000000 in
theorem kl_X7_offer_L51 {p : Program} {l : Launch} {e : Env} {s : State} {m : MethodId} {args : Array Value} {below : List Frame} {meth : Method} {c : Code} {G : GG} {sh : Sh} {xs : List va_E} (C : Cx p s m c args meth G RX7 cX7_offer 7 (some .int)) (x3 : Int32) (x4 : Int32) (M : Mm) (r : Mm × Int32) (t : (Unit) ⊕ (Mm × Int32)) (hcont : t = Sum.inl () → KW p l e rm_X7_offer s m args below meth c G 7 (MQ below (QO G (some (.int r.2)) sh r.1 xs) args s 0 0 (gA G)) sh xs 0 0 M 85 [] []) (hres : ∀ z, t = Sum.inr z → z = r) : ∀ (n : Nat) (x5 : Int32) (x6 : Int32), f_X7_offer_L51 x3 x4 M n x5 x6 = some t → KW p l e rm_X7_offer s m args below meth c G 7 (MQ below (QO G (some (.int r.2)) sh r.1 xs) args s 0 0 (gA G)) sh xs 0 0 M 51 [(3, .int x3), (4, .int x4), (5, .int x5), (6, .int x6)] [] := by
  intro n
  induction n with
  | zero =>
    intro x5 x6 h
    cases h
  | succ n ih =>
    intro x5 x6 h
    unfold f_X7_offer_L51 at h
    refine k_iload C (pc2 := 53) (dkAt dkX7_offer 27 (q := (51, .iload 6, 2)) rfl) rfl 3 rfl ?_
    refine k_bipush C (pc2 := 55) (dkAt dkX7_offer 28 (q := (53, .bipush 99, 2)) rfl) rfl (v := 99) rfl ?_
    refine k_icmp_gt C (tgt := 85) (pc2 := 58) (dkAt dkX7_offer 29 (q := (55, .if_icmp .gt 30, 3)) rfl) (by decide) rfl h (fun h => ?_) (fun h => ?_)
    · refine k_lv [] (lv2 := []) rfl ?_
      exact hcont (Option.some.inj h).symm
    · refine k_iload C (pc2 := 60) (dkAt dkX7_offer 30 (q := (58, .iload 5, 2)) rfl) rfl 2 rfl ?_
      refine k_iload C (pc2 := 62) (dkAt dkX7_offer 31 (q := (60, .iload 4, 2)) rfl) rfl 1 rfl ?_
      obtain ⟨q13, e14, h⟩ := ob_inv h
      refine kc_S C (As := [.int x5, .int x4]) (st2 := [.int q13]) (ct_X7_leftAfterDay l G sh xs x5 x4 M q13 e14) (cl_X7_245 (hts_of C) ⟨Nat.le_of_ble_eq_true rfl, Nat.le_of_ble_eq_true rfl⟩ rfl rfl) rfl rfl (Nat.le_of_ble_eq_true rfl) (dkAt dkX7_offer 32 (q := (62, .invokestatic 245, 3)) rfl) ⟨Nat.zero_le _, Nat.zero_le _⟩ (pc2 := 65) rfl rfl ?_
      refine k_istore C (pc2 := 67) (dkAt dkX7_offer 33 (q := (65, .istore 5, 2)) rfl) rfl (by decide) (lv2 := [(5, .int q13), (3, .int x3), (4, .int x4), (6, .int x6)]) rfl ?_
      refine k_ldc C (pc2 := 69) (dkAt dkX7_offer 34 (q := (67, .ldc 244, 2)) rfl) rfl (v := 1000000) tK_X7_244 ?_
      refine k_iload C (pc2 := 71) (dkAt dkX7_offer 35 (q := (69, .iload 5, 2)) rfl) rfl 0 rfl ?_
      refine k_isub C (pc2 := 72) (dkAt dkX7_offer 36 (q := (71, .isub, 1)) rfl) rfl ?_
      refine k_iload_n C (pc2 := 73) (dkAt dkX7_offer 37 (q := (72, .iload_n 3, 1)) rfl) rfl rfl 1 rfl ?_
      refine k_icmp_lt C (tgt := 79) (pc2 := 76) (dkAt dkX7_offer 38 (q := (73, .if_icmp .lt 6, 3)) rfl) (by decide) rfl h (fun h => ?_) (fun h => ?_)
      · refine kb_iinc C (pc2 := 82) (dkAt dkX7_offer 41 (q := (79, .iinc 6 1, 3)) rfl) rfl (j := 3) rfl (v := x6 + 1) rfl (by decide) (lv2 := fun v15 => [(6, .int v15), (5, .int q13), (3, .int x3), (4, .int x4)]) (fun _ => rfl) h (fun v15 h => ?_)
        refine k_goto C (tgt := 51) (dkAt dkX7_offer 42 (q := (82, .goto (-31), 3)) rfl) (by decide) ?_
        refine k_lv [2, 3, 1, 0] (lv2 := [(3, .int x3), (4, .int x4), (5, .int q13), (6, .int v15)]) rfl ?_
        exact ih q13 v15 h
      · refine k_iload C (pc2 := 78) (dkAt dkX7_offer 39 (q := (76, .iload 6, 2)) rfl) rfl 3 rfl ?_
        exact k_iret C (dkAt dkX7_offer 40 (q := (78, .ireturn, 1)) rfl) (pe2 (hres _ (Option.some.inj h).symm)) rfl (pe1 (hres _ (Option.some.inj h).symm)) rfl
set_option maxRecDepth 100000 in
set_option maxHeartbeats 4000000 in
theorem ct_X7_offer (l : Launch) (G : GG) (sh : Sh) (xs : List va_E) (hX : isX sh) (x1 : Int32) (x2 : Int32) (x3 : Int32) (M : Mm) (r : Mm × Int32) (h : f_X7_offer x1 x2 x3 M = some r) : Ct l yX7_offer cX7_offer 7 (some .int) rm_X7_offer G [rA G 0, .int x1, .int x2, .int x3] sh M xs (some (.int r.2)) sh r.1 xs 0 0 := by
  refine ct_of (by decide) (Nat.le_of_ble_eq_true rfl) ?_
  intro p e s m args below meth c hnm C
  refine k_lv [0, 1, 2, 3] (lv2 := [(0, rA G 0), (1, .int x1), (2, .int x2), (3, .int x3)]) rfl ?_
  unfold f_X7_offer at h
  refine k_iload_n C (pc2 := 1) (dkAt dkX7_offer 0 (q := (0, .iload_n 1, 1)) rfl) rfl rfl 1 rfl ?_
  refine k_iconst C (pc2 := 2) (dkAt dkX7_offer 1 (q := (1, .iconst 1, 1)) rfl) rfl (v := 1) rfl ?_
  refine k_bipush C (pc2 := 4) (dkAt dkX7_offer 2 (q := (2, .bipush 99, 2)) rfl) rfl (v := 99) rfl ?_
  obtain ⟨q1, e2, h⟩ := ob_inv h
  refine kc_S C (As := [.int x1, .int 1, .int 99]) (st2 := [.int q1]) (ct_X7_within l G sh xs x1 1 99 M q1 e2) (cl_X7_58 (hts_of C) ⟨Nat.le_of_ble_eq_true rfl, Nat.le_of_ble_eq_true rfl⟩ rfl rfl) rfl rfl (Nat.le_of_ble_eq_true rfl) (dkAt dkX7_offer 3 (q := (4, .invokestatic 58, 3)) rfl) ⟨Nat.zero_le _, Nat.zero_le _⟩ (pc2 := 7) rfl rfl ?_
  refine k_if_eq C (tgt := 30) (pc2 := 10) (dkAt dkX7_offer 4 (q := (7, .ifCond .eq 23, 3)) rfl) (by decide) rfl h (fun h => ?_) (fun h => ?_)
  · refine k_aload_n C (pc2 := 31) (dkAt dkX7_offer 15 (q := (30, .aload_n 0, 1)) rfl) rfl rfl 0 rfl ?_
    refine k_bipush C (pc2 := 33) (dkAt dkX7_offer 16 (q := (31, .bipush (-2), 2)) rfl) rfl (v := (-2)) rfl ?_
    obtain ⟨q3, e4, h⟩ := ob_inv h
    refine kc_V C (As := [.int (-2)]) (st2 := [.int q3.2]) (ct_X7_refuse l G sh xs hX (-2) M q3 e4) (cl_X7_62 (hts_of C) ⟨Nat.le_of_ble_eq_true rfl, Nat.le_of_ble_eq_true rfl⟩ rfl rfl) hX.1 rfl rfl rfl rfl rfl (Nat.le_of_ble_eq_true rfl) (dkAt dkX7_offer 17 (q := (33, .invokevirtual 62, 3)) rfl) ⟨Nat.zero_le _, Nat.zero_le _⟩ (pc2 := 36) rfl rfl ?_
    exact k_iret C (dkAt dkX7_offer 18 (q := (36, .ireturn, 1)) rfl) (pe2 (Option.some.inj h)) rfl (pe1 (Option.some.inj h)) rfl
  · refine k_iload_n C (pc2 := 11) (dkAt dkX7_offer 5 (q := (10, .iload_n 2, 1)) rfl) rfl rfl 2 rfl ?_
    refine k_iconst C (pc2 := 12) (dkAt dkX7_offer 6 (q := (11, .iconst 0, 1)) rfl) rfl (v := 0) rfl ?_
    refine k_bipush C (pc2 := 14) (dkAt dkX7_offer 7 (q := (12, .bipush 12, 2)) rfl) rfl (v := 12) rfl ?_
    obtain ⟨q5, e6, h⟩ := ob_inv h
    refine kc_S C (As := [.int x2, .int 0, .int 12]) (st2 := [.int q5]) (ct_X7_within l G sh xs x2 0 12 M q5 e6) (cl_X7_58 (hts_of C) ⟨Nat.le_of_ble_eq_true rfl, Nat.le_of_ble_eq_true rfl⟩ rfl rfl) rfl rfl (Nat.le_of_ble_eq_true rfl) (dkAt dkX7_offer 8 (q := (14, .invokestatic 58, 3)) rfl) ⟨Nat.zero_le _, Nat.zero_le _⟩ (pc2 := 17) rfl rfl ?_
    refine k_if_eq C (tgt := 30) (pc2 := 20) (dkAt dkX7_offer 9 (q := (17, .ifCond .eq 13, 3)) rfl) (by decide) rfl h (fun h => ?_) (fun h => ?_)
    · refine k_aload_n C (pc2 := 31) (dkAt dkX7_offer 15 (q := (30, .aload_n 0, 1)) rfl) rfl rfl 0 rfl ?_
      refine k_bipush C (pc2 := 33) (dkAt dkX7_offer 16 (q := (31, .bipush (-2), 2)) rfl) rfl (v := (-2)) rfl ?_
      obtain ⟨q7, e8, h⟩ := ob_inv h
      refine kc_V C (As := [.int (-2)]) (st2 := [.int q7.2]) (ct_X7_refuse l G sh xs hX (-2) M q7 e8) (cl_X7_62 (hts_of C) ⟨Nat.le_of_ble_eq_true rfl, Nat.le_of_ble_eq_true rfl⟩ rfl rfl) hX.1 rfl rfl rfl rfl rfl (Nat.le_of_ble_eq_true rfl) (dkAt dkX7_offer 17 (q := (33, .invokevirtual 62, 3)) rfl) ⟨Nat.zero_le _, Nat.zero_le _⟩ (pc2 := 36) rfl rfl ?_
      exact k_iret C (dkAt dkX7_offer 18 (q := (36, .ireturn, 1)) rfl) (pe2 (Option.some.inj h)) rfl (pe1 (Option.some.inj h)) rfl
    · refine k_iload_n C (pc2 := 21) (dkAt dkX7_offer 10 (q := (20, .iload_n 3, 1)) rfl) rfl rfl 3 rfl ?_
      refine k_iconst C (pc2 := 22) (dkAt dkX7_offer 11 (q := (21, .iconst 0, 1)) rfl) rfl (v := 0) rfl ?_
      refine k_ldc C (pc2 := 24) (dkAt dkX7_offer 12 (q := (22, .ldc 244, 2)) rfl) rfl (v := 1000000) tK_X7_244 ?_
      obtain ⟨q9, e10, h⟩ := ob_inv h
      refine kc_S C (As := [.int x3, .int 0, .int 1000000]) (st2 := [.int q9]) (ct_X7_within l G sh xs x3 0 1000000 M q9 e10) (cl_X7_58 (hts_of C) ⟨Nat.le_of_ble_eq_true rfl, Nat.le_of_ble_eq_true rfl⟩ rfl rfl) rfl rfl (Nat.le_of_ble_eq_true rfl) (dkAt dkX7_offer 13 (q := (24, .invokestatic 58, 3)) rfl) ⟨Nat.zero_le _, Nat.zero_le _⟩ (pc2 := 27) rfl rfl ?_
      refine k_if_ne C (tgt := 37) (pc2 := 30) (dkAt dkX7_offer 14 (q := (27, .ifCond .ne 10, 3)) rfl) (by decide) rfl h (fun h => ?_) (fun h => ?_)
      · refine k_iload_n C (pc2 := 38) (dkAt dkX7_offer 19 (q := (37, .iload_n 1, 1)) rfl) rfl rfl 1 rfl ?_
        refine k_iload_n C (pc2 := 39) (dkAt dkX7_offer 20 (q := (38, .iload_n 2, 1)) rfl) rfl rfl 2 rfl ?_
        obtain ⟨q11, e12, h⟩ := ob_inv h
        refine kc_S C (As := [.int x1, .int x2]) (st2 := [.int q11]) (ct_X7_oneDay l G sh xs x1 x2 M q11 e12) (cl_X7_237 (hts_of C) ⟨Nat.le_of_ble_eq_true rfl, Nat.le_of_ble_eq_true rfl⟩ rfl rfl) rfl rfl (Nat.le_of_ble_eq_true rfl) (dkAt dkX7_offer 21 (q := (39, .invokestatic 237, 3)) rfl) ⟨Nat.zero_le _, Nat.zero_le _⟩ (pc2 := 42) rfl rfl ?_
        refine k_istore C (pc2 := 44) (dkAt dkX7_offer 22 (q := (42, .istore 4, 2)) rfl) rfl (by decide) (lv2 := [(4, .int q11), (0, rA G 0), (1, .int x1), (2, .int x2), (3, .int x3)]) rfl ?_
        refine k_ldc C (pc2 := 46) (dkAt dkX7_offer 23 (q := (44, .ldc 244, 2)) rfl) rfl (v := 1000000) tK_X7_244 ?_
        refine k_istore C (pc2 := 48) (dkAt dkX7_offer 24 (q := (46, .istore 5, 2)) rfl) rfl (by decide) (lv2 := [(5, .int 1000000), (4, .int q11), (0, rA G 0), (1, .int x1), (2, .int x2), (3, .int x3)]) rfl ?_
        refine k_iconst C (pc2 := 49) (dkAt dkX7_offer 25 (q := (48, .iconst 1, 1)) rfl) rfl (v := 1) rfl ?_
        refine k_istore C (pc2 := 51) (dkAt dkX7_offer 26 (q := (49, .istore 6, 2)) rfl) rfl (by decide) (lv2 := [(6, .int 1), (5, .int 1000000), (4, .int q11), (0, rA G 0), (1, .int x1), (2, .int x2), (3, .int x3)]) rfl ?_
        refine k_lv [6, 2, 1, 0] (lv2 := [(3, .int x3), (4, .int q11), (5, .int 1000000), (6, .int 1)]) rfl ?_
        obtain ⟨t16, e17, hA, hB⟩ := obS_inv h
        refine kl_X7_offer_L51 C x3 q11 M r t16 ?_ ?_ 1000 1000000 1 e17
        · intro et
          have h := hA _ et
          refine k_iconst C (pc2 := 86) (dkAt dkX7_offer 43 (q := (85, .iconst (-1), 1)) rfl) rfl (v := (-1)) rfl ?_
          exact k_iret C (dkAt dkX7_offer 44 (q := (86, .ireturn, 1)) rfl) (pe2 (Option.some.inj h)) rfl (pe1 (Option.some.inj h)) rfl
        · intro z et
          have h := hB _ et
          exact Option.some.inj h
      · refine k_aload_n C (pc2 := 31) (dkAt dkX7_offer 15 (q := (30, .aload_n 0, 1)) rfl) rfl rfl 0 rfl ?_
        refine k_bipush C (pc2 := 33) (dkAt dkX7_offer 16 (q := (31, .bipush (-2), 2)) rfl) rfl (v := (-2)) rfl ?_
        obtain ⟨q18, e19, h⟩ := ob_inv h
        refine kc_V C (As := [.int (-2)]) (st2 := [.int q18.2]) (ct_X7_refuse l G sh xs hX (-2) M q18 e19) (cl_X7_62 (hts_of C) ⟨Nat.le_of_ble_eq_true rfl, Nat.le_of_ble_eq_true rfl⟩ rfl rfl) hX.1 rfl rfl rfl rfl rfl (Nat.le_of_ble_eq_true rfl) (dkAt dkX7_offer 17 (q := (33, .invokevirtual 62, 3)) rfl) ⟨Nat.zero_le _, Nat.zero_le _⟩ (pc2 := 36) rfl rfl ?_
        exact k_iret C (dkAt dkX7_offer 18 (q := (36, .ireturn, 1)) rfl) (pe2 (Option.some.inj h)) rfl (pe1 (Option.some.inj h)) rfl
set_option maxRecDepth 100000 in
set_option maxHeartbeats 4000000 in
theorem kl_X7_never_L44 {p : Program} {l : Launch} {e : Env} {s : State} {m : MethodId} {args : Array Value} {below : List Frame} {meth : Method} {c : Code} {G : GG} {sh : Sh} {xs : List va_E} (C : Cx p s m c args meth G RX7 cX7_never 6 (some .int)) (x1 : Int32) (x2 : Int32) (x3 : Int32) (M : Mm) (r : Mm × Int32) (t : (Unit) ⊕ (Mm × Int32)) (hcont : t = Sum.inl () → KW p l e rm_X7_never s m args below meth c G 6 (MQ below (QO G (some (.int r.2)) sh r.1 xs) args s 0 0 (gA G)) sh xs 0 0 M 78 [] []) (hres : ∀ z, t = Sum.inr z → z = r) : ∀ (n : Nat) (x4 : Int32) (x5 : Int32), f_X7_never_L44 x1 x2 x3 M n x4 x5 = some t → KW p l e rm_X7_never s m args below meth c G 6 (MQ below (QO G (some (.int r.2)) sh r.1 xs) args s 0 0 (gA G)) sh xs 0 0 M 44 [(1, .int x1), (2, .int x2), (3, .int x3), (4, .int x4), (5, .int x5)] [] := by
  intro n
  induction n with
  | zero =>
    intro x4 x5 h
    cases h
  | succ n ih =>
    intro x4 x5 h
    unfold f_X7_never_L44 at h
    refine k_iload C (pc2 := 46) (dkAt dkX7_never 23 (q := (44, .iload 5, 2)) rfl) rfl 4 rfl ?_
    refine k_bipush C (pc2 := 48) (dkAt dkX7_never 24 (q := (46, .bipush 99, 2)) rfl) rfl (v := 99) rfl ?_
    refine k_icmp_gt C (tgt := 78) (pc2 := 51) (dkAt dkX7_never 25 (q := (48, .if_icmp .gt 30, 3)) rfl) (by decide) rfl h (fun h => ?_) (fun h => ?_)
    · refine k_lv [] (lv2 := []) rfl ?_
      exact hcont (Option.some.inj h).symm
    · refine k_iload C (pc2 := 53) (dkAt dkX7_never 26 (q := (51, .iload 4, 2)) rfl) rfl 3 rfl ?_
      refine k_iload_n C (pc2 := 54) (dkAt dkX7_never 27 (q := (53, .iload_n 2, 1)) rfl) rfl rfl 1 rfl ?_
      obtain ⟨q11, e12, h⟩ := ob_inv h
      refine kc_S C (As := [.int x4, .int x2]) (st2 := [.int q11]) (ct_X7_twelfths l G sh xs x4 x2 M q11 e12) (cl_X7_248 (hts_of C) ⟨Nat.le_of_ble_eq_true rfl, Nat.le_of_ble_eq_true rfl⟩ rfl rfl) rfl rfl (Nat.le_of_ble_eq_true rfl) (dkAt dkX7_never 28 (q := (54, .invokestatic 248, 3)) rfl) ⟨Nat.zero_le _, Nat.zero_le _⟩ (pc2 := 57) rfl rfl ?_
      refine k_istore C (pc2 := 59) (dkAt dkX7_never 29 (q := (57, .istore 4, 2)) rfl) rfl (by decide) (lv2 := [(4, .int q11), (1, .int x1), (2, .int x2), (3, .int x3), (5, .int x5)]) rfl ?_
      refine k_iload C (pc2 := 61) (dkAt dkX7_never 30 (q := (59, .iload 4, 2)) rfl) rfl 0 rfl ?_
      refine k_iload_n C (pc2 := 62) (dkAt dkX7_never 31 (q := (61, .iload_n 1, 1)) rfl) rfl rfl 1 rfl ?_
      obtain ⟨q13, e14, h⟩ := ob_inv h
      refine kc_S C (As := [.int q11, .int x1]) (st2 := [.int q13]) (ct_X7_oddsOfDays l G sh xs q11 x1 M q13 e14) (cl_X7_241 (hts_of C) ⟨Nat.le_of_ble_eq_true rfl, Nat.le_of_ble_eq_true rfl⟩ rfl rfl) rfl rfl (Nat.le_of_ble_eq_true rfl) (dkAt dkX7_never 32 (q := (62, .invokestatic 241, 3)) rfl) ⟨Nat.zero_le _, Nat.zero_le _⟩ (pc2 := 65) rfl rfl ?_
      refine k_iload_n C (pc2 := 66) (dkAt dkX7_never 33 (q := (65, .iload_n 3, 1)) rfl) rfl rfl 3 rfl ?_
      refine k_icmp_ge C (tgt := 72) (pc2 := 69) (dkAt dkX7_never 34 (q := (66, .if_icmp .ge 6, 3)) rfl) (by decide) rfl h (fun h => ?_) (fun h => ?_)
      · refine kb_iinc C (pc2 := 75) (dkAt dkX7_never 37 (q := (72, .iinc 5 1, 3)) rfl) rfl (j := 4) rfl (v := x5 + 1) rfl (by decide) (lv2 := fun v15 => [(5, .int v15), (4, .int q11), (1, .int x1), (2, .int x2), (3, .int x3)]) (fun _ => rfl) h (fun v15 h => ?_)
        refine k_goto C (tgt := 44) (dkAt dkX7_never 38 (q := (75, .goto (-31), 3)) rfl) (by decide) ?_
        refine k_lv [2, 3, 4, 1, 0] (lv2 := [(1, .int x1), (2, .int x2), (3, .int x3), (4, .int q11), (5, .int v15)]) rfl ?_
        exact ih q11 v15 h
      · refine k_iload C (pc2 := 71) (dkAt dkX7_never 35 (q := (69, .iload 5, 2)) rfl) rfl 4 rfl ?_
        exact k_iret C (dkAt dkX7_never 36 (q := (71, .ireturn, 1)) rfl) (pe2 (hres _ (Option.some.inj h).symm)) rfl (pe1 (hres _ (Option.some.inj h).symm)) rfl
set_option maxRecDepth 100000 in
set_option maxHeartbeats 4000000 in
theorem ct_X7_never (l : Launch) (G : GG) (sh : Sh) (xs : List va_E) (hX : isX sh) (x1 : Int32) (x2 : Int32) (x3 : Int32) (M : Mm) (r : Mm × Int32) (h : f_X7_never x1 x2 x3 M = some r) : Ct l yX7_never cX7_never 6 (some .int) rm_X7_never G [rA G 0, .int x1, .int x2, .int x3] sh M xs (some (.int r.2)) sh r.1 xs 0 0 := by
  refine ct_of (by decide) (Nat.le_of_ble_eq_true rfl) ?_
  intro p e s m args below meth c hnm C
  refine k_lv [0, 1, 2, 3] (lv2 := [(0, rA G 0), (1, .int x1), (2, .int x2), (3, .int x3)]) rfl ?_
  unfold f_X7_never at h
  refine k_iload_n C (pc2 := 1) (dkAt dkX7_never 0 (q := (0, .iload_n 1, 1)) rfl) rfl rfl 1 rfl ?_
  refine k_iconst C (pc2 := 2) (dkAt dkX7_never 1 (q := (1, .iconst 1, 1)) rfl) rfl (v := 1) rfl ?_
  refine k_bipush C (pc2 := 4) (dkAt dkX7_never 2 (q := (2, .bipush 99, 2)) rfl) rfl (v := 99) rfl ?_
  obtain ⟨q1, e2, h⟩ := ob_inv h
  refine kc_S C (As := [.int x1, .int 1, .int 99]) (st2 := [.int q1]) (ct_X7_within l G sh xs x1 1 99 M q1 e2) (cl_X7_58 (hts_of C) ⟨Nat.le_of_ble_eq_true rfl, Nat.le_of_ble_eq_true rfl⟩ rfl rfl) rfl rfl (Nat.le_of_ble_eq_true rfl) (dkAt dkX7_never 3 (q := (4, .invokestatic 58, 3)) rfl) ⟨Nat.zero_le _, Nat.zero_le _⟩ (pc2 := 7) rfl rfl ?_
  refine k_if_eq C (tgt := 30) (pc2 := 10) (dkAt dkX7_never 4 (q := (7, .ifCond .eq 23, 3)) rfl) (by decide) rfl h (fun h => ?_) (fun h => ?_)
  · refine k_aload_n C (pc2 := 31) (dkAt dkX7_never 15 (q := (30, .aload_n 0, 1)) rfl) rfl rfl 0 rfl ?_
    refine k_bipush C (pc2 := 33) (dkAt dkX7_never 16 (q := (31, .bipush (-2), 2)) rfl) rfl (v := (-2)) rfl ?_
    obtain ⟨q3, e4, h⟩ := ob_inv h
    refine kc_V C (As := [.int (-2)]) (st2 := [.int q3.2]) (ct_X7_refuse l G sh xs hX (-2) M q3 e4) (cl_X7_62 (hts_of C) ⟨Nat.le_of_ble_eq_true rfl, Nat.le_of_ble_eq_true rfl⟩ rfl rfl) hX.1 rfl rfl rfl rfl rfl (Nat.le_of_ble_eq_true rfl) (dkAt dkX7_never 17 (q := (33, .invokevirtual 62, 3)) rfl) ⟨Nat.zero_le _, Nat.zero_le _⟩ (pc2 := 36) rfl rfl ?_
    exact k_iret C (dkAt dkX7_never 18 (q := (36, .ireturn, 1)) rfl) (pe2 (Option.some.inj h)) rfl (pe1 (Option.some.inj h)) rfl
  · refine k_iload_n C (pc2 := 11) (dkAt dkX7_never 5 (q := (10, .iload_n 2, 1)) rfl) rfl rfl 2 rfl ?_
    refine k_iconst C (pc2 := 12) (dkAt dkX7_never 6 (q := (11, .iconst 0, 1)) rfl) rfl (v := 0) rfl ?_
    refine k_bipush C (pc2 := 14) (dkAt dkX7_never 7 (q := (12, .bipush 12, 2)) rfl) rfl (v := 12) rfl ?_
    obtain ⟨q5, e6, h⟩ := ob_inv h
    refine kc_S C (As := [.int x2, .int 0, .int 12]) (st2 := [.int q5]) (ct_X7_within l G sh xs x2 0 12 M q5 e6) (cl_X7_58 (hts_of C) ⟨Nat.le_of_ble_eq_true rfl, Nat.le_of_ble_eq_true rfl⟩ rfl rfl) rfl rfl (Nat.le_of_ble_eq_true rfl) (dkAt dkX7_never 8 (q := (14, .invokestatic 58, 3)) rfl) ⟨Nat.zero_le _, Nat.zero_le _⟩ (pc2 := 17) rfl rfl ?_
    refine k_if_eq C (tgt := 30) (pc2 := 20) (dkAt dkX7_never 9 (q := (17, .ifCond .eq 13, 3)) rfl) (by decide) rfl h (fun h => ?_) (fun h => ?_)
    · refine k_aload_n C (pc2 := 31) (dkAt dkX7_never 15 (q := (30, .aload_n 0, 1)) rfl) rfl rfl 0 rfl ?_
      refine k_bipush C (pc2 := 33) (dkAt dkX7_never 16 (q := (31, .bipush (-2), 2)) rfl) rfl (v := (-2)) rfl ?_
      obtain ⟨q7, e8, h⟩ := ob_inv h
      refine kc_V C (As := [.int (-2)]) (st2 := [.int q7.2]) (ct_X7_refuse l G sh xs hX (-2) M q7 e8) (cl_X7_62 (hts_of C) ⟨Nat.le_of_ble_eq_true rfl, Nat.le_of_ble_eq_true rfl⟩ rfl rfl) hX.1 rfl rfl rfl rfl rfl (Nat.le_of_ble_eq_true rfl) (dkAt dkX7_never 17 (q := (33, .invokevirtual 62, 3)) rfl) ⟨Nat.zero_le _, Nat.zero_le _⟩ (pc2 := 36) rfl rfl ?_
      exact k_iret C (dkAt dkX7_never 18 (q := (36, .ireturn, 1)) rfl) (pe2 (Option.some.inj h)) rfl (pe1 (Option.some.inj h)) rfl
    · refine k_iload_n C (pc2 := 21) (dkAt dkX7_never 10 (q := (20, .iload_n 3, 1)) rfl) rfl rfl 3 rfl ?_
      refine k_iconst C (pc2 := 22) (dkAt dkX7_never 11 (q := (21, .iconst 0, 1)) rfl) rfl (v := 0) rfl ?_
      refine k_ldc C (pc2 := 24) (dkAt dkX7_never 12 (q := (22, .ldc 244, 2)) rfl) rfl (v := 1000000) tK_X7_244 ?_
      obtain ⟨q9, e10, h⟩ := ob_inv h
      refine kc_S C (As := [.int x3, .int 0, .int 1000000]) (st2 := [.int q9]) (ct_X7_within l G sh xs x3 0 1000000 M q9 e10) (cl_X7_58 (hts_of C) ⟨Nat.le_of_ble_eq_true rfl, Nat.le_of_ble_eq_true rfl⟩ rfl rfl) rfl rfl (Nat.le_of_ble_eq_true rfl) (dkAt dkX7_never 13 (q := (24, .invokestatic 58, 3)) rfl) ⟨Nat.zero_le _, Nat.zero_le _⟩ (pc2 := 27) rfl rfl ?_
      refine k_if_ne C (tgt := 37) (pc2 := 30) (dkAt dkX7_never 14 (q := (27, .ifCond .ne 10, 3)) rfl) (by decide) rfl h (fun h => ?_) (fun h => ?_)
      · refine k_ldc C (pc2 := 39) (dkAt dkX7_never 19 (q := (37, .ldc 244, 2)) rfl) rfl (v := 1000000) tK_X7_244 ?_
        refine k_istore C (pc2 := 41) (dkAt dkX7_never 20 (q := (39, .istore 4, 2)) rfl) rfl (by decide) (lv2 := [(4, .int 1000000), (0, rA G 0), (1, .int x1), (2, .int x2), (3, .int x3)]) rfl ?_
        refine k_iconst C (pc2 := 42) (dkAt dkX7_never 21 (q := (41, .iconst 1, 1)) rfl) rfl (v := 1) rfl ?_
        refine k_istore C (pc2 := 44) (dkAt dkX7_never 22 (q := (42, .istore 5, 2)) rfl) rfl (by decide) (lv2 := [(5, .int 1), (4, .int 1000000), (0, rA G 0), (1, .int x1), (2, .int x2), (3, .int x3)]) rfl ?_
        refine k_lv [3, 4, 5, 1, 0] (lv2 := [(1, .int x1), (2, .int x2), (3, .int x3), (4, .int 1000000), (5, .int 1)]) rfl ?_
        obtain ⟨t16, e17, hA, hB⟩ := obS_inv h
        refine kl_X7_never_L44 C x1 x2 x3 M r t16 ?_ ?_ 1000 1000000 1 e17
        · intro et
          have h := hA _ et
          refine k_iconst C (pc2 := 79) (dkAt dkX7_never 39 (q := (78, .iconst (-1), 1)) rfl) rfl (v := (-1)) rfl ?_
          exact k_iret C (dkAt dkX7_never 40 (q := (79, .ireturn, 1)) rfl) (pe2 (Option.some.inj h)) rfl (pe1 (Option.some.inj h)) rfl
        · intro z et
          have h := hB _ et
          exact Option.some.inj h
      · refine k_aload_n C (pc2 := 31) (dkAt dkX7_never 15 (q := (30, .aload_n 0, 1)) rfl) rfl rfl 0 rfl ?_
        refine k_bipush C (pc2 := 33) (dkAt dkX7_never 16 (q := (31, .bipush (-2), 2)) rfl) rfl (v := (-2)) rfl ?_
        obtain ⟨q18, e19, h⟩ := ob_inv h
        refine kc_V C (As := [.int (-2)]) (st2 := [.int q18.2]) (ct_X7_refuse l G sh xs hX (-2) M q18 e19) (cl_X7_62 (hts_of C) ⟨Nat.le_of_ble_eq_true rfl, Nat.le_of_ble_eq_true rfl⟩ rfl rfl) hX.1 rfl rfl rfl rfl rfl (Nat.le_of_ble_eq_true rfl) (dkAt dkX7_never 17 (q := (33, .invokevirtual 62, 3)) rfl) ⟨Nat.zero_le _, Nat.zero_le _⟩ (pc2 := 36) rfl rfl ?_
        exact k_iret C (dkAt dkX7_never 18 (q := (36, .ireturn, 1)) rfl) (pe2 (Option.some.inj h)) rfl (pe1 (Option.some.inj h)) rfl
