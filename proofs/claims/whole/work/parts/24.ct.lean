set_option maxRecDepth 100000 in
set_option maxHeartbeats 4000000 in
theorem kl_X7_known_L40 {p : Program} {l : Launch} {e : Env} {s : State} {m : MethodId} {args : Array Value} {below : List Frame} {meth : Method} {c : Code} {G : GG} {sh : Sh} {xs : List va_E} {Q : State → Prop} (C : Cx p s m c args meth G RX7 cX7_known 5 (some .int)) (hX : isX sh) (x2 : Int32) (M : Mm) (y3 : Int32) (hcont : KW p l e rm_X7_known s m args below meth c G 5 Q sh xs 0 0 M 61 [(3, .int y3)] []) : ∀ (n : Nat) (x3 : Int32) (x4 : Int32), f_X7_known_L40 x2 M n x3 x4 = some y3 → KW p l e rm_X7_known s m args below meth c G 5 Q sh xs 0 0 M 40 [(0, rA G 0), (2, .int x2), (3, .int x3), (4, .int x4)] [] := by
  intro n
  induction n with
  | zero =>
    intro x3 x4 h
    cases h
  | succ n ih =>
    intro x3 x4 h
    unfold f_X7_known_L40 at h
    refine k_iload C (pc2 := 42) (dkAt dkX7_known 21 (q := (40, .iload 4, 2)) rfl) rfl 3 rfl ?_
    refine k_iload_n C (pc2 := 43) (dkAt dkX7_known 22 (q := (42, .iload_n 2, 1)) rfl) rfl rfl 1 rfl ?_
    refine k_icmp_ge C (tgt := 61) (pc2 := 46) (dkAt dkX7_known 23 (q := (43, .if_icmp .ge 18, 3)) rfl) (by decide) rfl h (fun h => ?_) (fun h => ?_)
    · refine k_lv [2] (lv2 := [(3, .int x3)]) rfl ?_
      cases h
      exact hcont
    · refine k_aload_n C (pc2 := 47) (dkAt dkX7_known 24 (q := (46, .aload_n 0, 1)) rfl) rfl rfl 0 rfl ?_
      refine kf_X7_10 C (pc2 := 50) (o := 0) (o2 := 1) hX.1 rfl (dkAt dkX7_known 25 (q := (47, .getfield 10, 3)) rfl) rfl ?_
      refine k_iload_n C (pc2 := 51) (dkAt dkX7_known 26 (q := (50, .iload_n 3, 1)) rfl) rfl rfl 2 rfl ?_
      obtain ⟨q9, e10, h⟩ := ob_inv h
      refine kc_V C (As := [.int x3]) (st2 := [.int q9]) (ct_X1_oddsNextDay l G sh xs 1 hX.2.1 x3 M q9 e10) (cl_X7_254 (hts_of C) ⟨Nat.le_of_ble_eq_true rfl, Nat.le_of_ble_eq_true rfl⟩ rfl rfl) hX.2.1.1 rfl rfl rfl rfl rfl (Nat.le_of_ble_eq_true rfl) (dkAt dkX7_known 27 (q := (51, .invokevirtual 254, 3)) rfl) ⟨Nat.zero_le _, Nat.zero_le _⟩ (pc2 := 54) rfl rfl ?_
      refine k_istore_n C (pc2 := 55) (dkAt dkX7_known 28 (q := (54, .istore_n 3, 1)) rfl) rfl rfl (by decide) (lv2 := [(3, .int q9), (0, rA G 0), (2, .int x2), (4, .int x4)]) rfl ?_
      refine kb_iinc C (pc2 := 58) (dkAt dkX7_known 29 (q := (55, .iinc 4 1, 3)) rfl) rfl (j := 3) rfl (v := x4 + 1) rfl (by decide) (lv2 := fun v11 => [(4, .int v11), (3, .int q9), (0, rA G 0), (2, .int x2)]) (fun _ => rfl) h (fun v11 h => ?_)
      refine k_goto C (tgt := 40) (dkAt dkX7_known 30 (q := (58, .goto (-18), 3)) rfl) (by decide) ?_
      refine k_lv [2, 3, 1, 0] (lv2 := [(0, rA G 0), (2, .int x2), (3, .int q9), (4, .int v11)]) rfl ?_
      exact ih q9 v11 h
set_option maxRecDepth 100000 in
set_option maxHeartbeats 4000000 in
theorem ct_X7_known (l : Launch) (G : GG) (sh : Sh) (xs : List va_E) (hX : isX sh) (x1 : Int32) (x2 : Int32) (M : Mm) (r : Mm × Int32) (h : f_X7_known x1 x2 M = some r) : Ct l yX7_known cX7_known 5 (some .int) rm_X7_known G [rA G 0, .int x1, .int x2] sh M xs (some (.int r.2)) sh r.1 xs 0 0 := by
  refine ct_of (by decide) (Nat.le_of_ble_eq_true rfl) ?_
  intro p e s m args below meth c hnm C
  refine k_lv [0, 1, 2] (lv2 := [(0, rA G 0), (1, .int x1), (2, .int x2)]) rfl ?_
  unfold f_X7_known at h
  refine k_aload_n C (pc2 := 1) (dkAt dkX7_known 0 (q := (0, .aload_n 0, 1)) rfl) rfl rfl 0 rfl ?_
  refine kf_X7_10 C (pc2 := 4) (o := 0) (o2 := 1) hX.1 rfl (dkAt dkX7_known 1 (q := (1, .getfield 10, 3)) rfl) rfl ?_
  refine k_iload_n C (pc2 := 5) (dkAt dkX7_known 2 (q := (4, .iload_n 1, 1)) rfl) rfl rfl 1 rfl ?_
  obtain ⟨q1, e2, h⟩ := ob_inv h
  refine kc_V C (As := [.int x1]) (st2 := [.int q1]) (ct_X1_hasDay l G sh xs 1 hX.2.1 x1 M q1 e2) (cl_X7_147 (hts_of C) ⟨Nat.le_of_ble_eq_true rfl, Nat.le_of_ble_eq_true rfl⟩ rfl rfl) hX.2.1.1 rfl rfl rfl rfl rfl (Nat.le_of_ble_eq_true rfl) (dkAt dkX7_known 3 (q := (5, .invokevirtual 147, 3)) rfl) ⟨Nat.zero_le _, Nat.zero_le _⟩ (pc2 := 8) rfl rfl ?_
  refine k_if_eq C (tgt := 21) (pc2 := 11) (dkAt dkX7_known 4 (q := (8, .ifCond .eq 13, 3)) rfl) (by decide) rfl h (fun h => ?_) (fun h => ?_)
  · refine k_aload_n C (pc2 := 22) (dkAt dkX7_known 10 (q := (21, .aload_n 0, 1)) rfl) rfl rfl 0 rfl ?_
    refine k_bipush C (pc2 := 24) (dkAt dkX7_known 11 (q := (22, .bipush (-2), 2)) rfl) rfl (v := (-2)) rfl ?_
    obtain ⟨q3, e4, h⟩ := ob_inv h
    refine kc_V C (As := [.int (-2)]) (st2 := [.int q3.2]) (ct_X7_refuse l G sh xs hX (-2) M q3 e4) (cl_X7_62 (hts_of C) ⟨Nat.le_of_ble_eq_true rfl, Nat.le_of_ble_eq_true rfl⟩ rfl rfl) hX.1 rfl rfl rfl rfl rfl (Nat.le_of_ble_eq_true rfl) (dkAt dkX7_known 12 (q := (24, .invokevirtual 62, 3)) rfl) ⟨Nat.zero_le _, Nat.zero_le _⟩ (pc2 := 27) rfl rfl ?_
    exact k_iret C (dkAt dkX7_known 13 (q := (27, .ireturn, 1)) rfl) (pe2 (Option.some.inj h)) rfl (pe1 (Option.some.inj h)) rfl
  · refine k_iload_n C (pc2 := 12) (dkAt dkX7_known 5 (q := (11, .iload_n 2, 1)) rfl) rfl rfl 2 rfl ?_
    refine k_iconst C (pc2 := 13) (dkAt dkX7_known 6 (q := (12, .iconst 0, 1)) rfl) rfl (v := 0) rfl ?_
    refine k_bipush C (pc2 := 15) (dkAt dkX7_known 7 (q := (13, .bipush 99, 2)) rfl) rfl (v := 99) rfl ?_
    obtain ⟨q5, e6, h⟩ := ob_inv h
    refine kc_S C (As := [.int x2, .int 0, .int 99]) (st2 := [.int q5]) (ct_X7_within l G sh xs x2 0 99 M q5 e6) (cl_X7_58 (hts_of C) ⟨Nat.le_of_ble_eq_true rfl, Nat.le_of_ble_eq_true rfl⟩ rfl rfl) rfl rfl (Nat.le_of_ble_eq_true rfl) (dkAt dkX7_known 8 (q := (15, .invokestatic 58, 3)) rfl) ⟨Nat.zero_le _, Nat.zero_le _⟩ (pc2 := 18) rfl rfl ?_
    refine k_if_ne C (tgt := 28) (pc2 := 21) (dkAt dkX7_known 9 (q := (18, .ifCond .ne 10, 3)) rfl) (by decide) rfl h (fun h => ?_) (fun h => ?_)
    · refine k_aload_n C (pc2 := 29) (dkAt dkX7_known 14 (q := (28, .aload_n 0, 1)) rfl) rfl rfl 0 rfl ?_
      refine kf_X7_10 C (pc2 := 32) (o := 0) (o2 := 1) hX.1 rfl (dkAt dkX7_known 15 (q := (29, .getfield 10, 3)) rfl) rfl ?_
      refine k_iload_n C (pc2 := 33) (dkAt dkX7_known 16 (q := (32, .iload_n 1, 1)) rfl) rfl rfl 1 rfl ?_
      obtain ⟨q7, e8, h⟩ := ob_inv h
      refine kc_V C (As := [.int x1]) (st2 := [.int q7]) (ct_X1_oddsToday l G sh xs 1 hX.2.1 x1 M q7 e8) (cl_X7_251 (hts_of C) ⟨Nat.le_of_ble_eq_true rfl, Nat.le_of_ble_eq_true rfl⟩ rfl rfl) hX.2.1.1 rfl rfl rfl rfl rfl (Nat.le_of_ble_eq_true rfl) (dkAt dkX7_known 17 (q := (33, .invokevirtual 251, 3)) rfl) ⟨Nat.zero_le _, Nat.zero_le _⟩ (pc2 := 36) rfl rfl ?_
      refine k_istore_n C (pc2 := 37) (dkAt dkX7_known 18 (q := (36, .istore_n 3, 1)) rfl) rfl rfl (by decide) (lv2 := [(3, .int q7), (0, rA G 0), (1, .int x1), (2, .int x2)]) rfl ?_
      refine k_iconst C (pc2 := 38) (dkAt dkX7_known 19 (q := (37, .iconst 0, 1)) rfl) rfl (v := 0) rfl ?_
      refine k_istore C (pc2 := 40) (dkAt dkX7_known 20 (q := (38, .istore 4, 2)) rfl) rfl (by decide) (lv2 := [(4, .int 0), (3, .int q7), (0, rA G 0), (1, .int x1), (2, .int x2)]) rfl ?_
      refine k_lv [2, 4, 1, 0] (lv2 := [(0, rA G 0), (2, .int x2), (3, .int q7), (4, .int 0)]) rfl ?_
      obtain ⟨v14, e13, h⟩ := ob_inv h
      refine kl_X7_known_L40 C hX x2 M v14 ?_ 1000 q7 0 e13
      refine k_iload_n C (pc2 := 62) (dkAt dkX7_known 31 (q := (61, .iload_n 3, 1)) rfl) rfl rfl 0 rfl ?_
      exact k_iret C (dkAt dkX7_known 32 (q := (62, .ireturn, 1)) rfl) (pe2 (Option.some.inj h)) rfl (pe1 (Option.some.inj h)) rfl
    · refine k_aload_n C (pc2 := 22) (dkAt dkX7_known 10 (q := (21, .aload_n 0, 1)) rfl) rfl rfl 0 rfl ?_
      refine k_bipush C (pc2 := 24) (dkAt dkX7_known 11 (q := (22, .bipush (-2), 2)) rfl) rfl (v := (-2)) rfl ?_
      obtain ⟨q15, e16, h⟩ := ob_inv h
      refine kc_V C (As := [.int (-2)]) (st2 := [.int q15.2]) (ct_X7_refuse l G sh xs hX (-2) M q15 e16) (cl_X7_62 (hts_of C) ⟨Nat.le_of_ble_eq_true rfl, Nat.le_of_ble_eq_true rfl⟩ rfl rfl) hX.1 rfl rfl rfl rfl rfl (Nat.le_of_ble_eq_true rfl) (dkAt dkX7_known 12 (q := (24, .invokevirtual 62, 3)) rfl) ⟨Nat.zero_le _, Nat.zero_le _⟩ (pc2 := 27) rfl rfl ?_
      exact k_iret C (dkAt dkX7_known 13 (q := (27, .ireturn, 1)) rfl) (pe2 (Option.some.inj h)) rfl (pe1 (Option.some.inj h)) rfl
set_option maxRecDepth 100000 in
set_option maxHeartbeats 4000000 in
theorem ct_X7_first (l : Launch) (G : GG) (sh : Sh) (xs : List va_E) (hX : isX sh) (x1 : Int32) (M : Mm) (r : Mm × Int32) (h : f_X7_first x1 M = some r) : Ct l yX7_first cX7_first 2 (some .int) rm_X7_first G [rA G 0, .int x1] sh M xs (some (.int r.2)) sh r.1 xs 0 0 := by
  refine ct_of (by decide) (Nat.le_of_ble_eq_true rfl) ?_
  intro p e s m args below meth c hnm C
  refine k_lv [0, 1] (lv2 := [(0, rA G 0), (1, .int x1)]) rfl ?_
  unfold f_X7_first at h
  refine k_iload_n C (pc2 := 1) (dkAt dkX7_first 0 (q := (0, .iload_n 1, 1)) rfl) rfl rfl 1 rfl ?_
  refine k_iconst C (pc2 := 2) (dkAt dkX7_first 1 (q := (1, .iconst (-1), 1)) rfl) rfl (v := (-1)) rfl ?_
  refine k_aload_n C (pc2 := 3) (dkAt dkX7_first 2 (q := (2, .aload_n 0, 1)) rfl) rfl rfl 0 rfl ?_
  refine kf_X7_10 C (pc2 := 6) (o := 0) (o2 := 1) hX.1 rfl (dkAt dkX7_first 3 (q := (3, .getfield 10, 3)) rfl) rfl ?_
  refine kf_X7_216 C (pc2 := 9) (o := 1) (o2 := 0) hX.2.1.1 (dkAt dkX7_first 4 (q := (6, .getfield 216, 3)) rfl) rfl ?_
  refine k_iconst C (pc2 := 10) (dkAt dkX7_first 5 (q := (9, .iconst 1, 1)) rfl) rfl (v := 1) rfl ?_
  refine k_isub C (pc2 := 11) (dkAt dkX7_first 6 (q := (10, .isub, 1)) rfl) rfl ?_
  obtain ⟨q1, e2, h⟩ := ob_inv h
  refine kc_S C (As := [.int x1, .int (-1), .int ((M.1 1 1) - 1)]) (st2 := [.int q1]) (ct_X7_within l G sh xs x1 (-1) ((M.1 1 1) - 1) M q1 e2) (cl_X7_58 (hts_of C) ⟨Nat.le_of_ble_eq_true rfl, Nat.le_of_ble_eq_true rfl⟩ rfl rfl) rfl rfl (Nat.le_of_ble_eq_true rfl) (dkAt dkX7_first 7 (q := (11, .invokestatic 58, 3)) rfl) ⟨Nat.zero_le _, Nat.zero_le _⟩ (pc2 := 14) rfl rfl ?_
  refine k_if_ne C (tgt := 24) (pc2 := 17) (dkAt dkX7_first 8 (q := (14, .ifCond .ne 10, 3)) rfl) (by decide) rfl h (fun h => ?_) (fun h => ?_)
  · refine k_aload_n C (pc2 := 25) (dkAt dkX7_first 13 (q := (24, .aload_n 0, 1)) rfl) rfl rfl 0 rfl ?_
    refine kf_X7_10 C (pc2 := 28) (o := 0) (o2 := 1) hX.1 rfl (dkAt dkX7_first 14 (q := (25, .getfield 10, 3)) rfl) rfl ?_
    refine kf_X7_216 C (pc2 := 31) (o := 1) (o2 := 0) hX.2.1.1 (dkAt dkX7_first 15 (q := (28, .getfield 216, 3)) rfl) rfl ?_
    refine k_if_ne C (tgt := 41) (pc2 := 34) (dkAt dkX7_first 16 (q := (31, .ifCond .ne 10, 3)) rfl) (by decide) rfl h (fun h => ?_) (fun h => ?_)
    · refine k_iload_n C (pc2 := 42) (dkAt dkX7_first 21 (q := (41, .iload_n 1, 1)) rfl) rfl rfl 1 rfl ?_
      refine k_iconst C (pc2 := 43) (dkAt dkX7_first 22 (q := (42, .iconst (-1), 1)) rfl) rfl (v := (-1)) rfl ?_
      refine k_icmp_ne C (tgt := 56) (pc2 := 46) (dkAt dkX7_first 23 (q := (43, .if_icmp .ne 13, 3)) rfl) (by decide) rfl h (fun h => ?_) (fun h => ?_)
      · refine k_aload_n C (pc2 := 57) (dkAt dkX7_first 28 (q := (56, .aload_n 0, 1)) rfl) rfl rfl 0 rfl ?_
        refine kf_X7_10 C (pc2 := 60) (o := 0) (o2 := 1) hX.1 rfl (dkAt dkX7_first 29 (q := (57, .getfield 10, 3)) rfl) rfl ?_
        refine k_iload_n C (pc2 := 61) (dkAt dkX7_first 30 (q := (60, .iload_n 1, 1)) rfl) rfl rfl 1 rfl ?_
        obtain ⟨q3, e4, h⟩ := ob_inv h
        refine kc_V C (As := [.int x1]) (st2 := [.int q3]) (ct_X1_placeByLikely l G sh xs 1 hX.2.1 x1 M q3 e4) (cl_X7_260 (hts_of C) ⟨Nat.le_of_ble_eq_true rfl, Nat.le_of_ble_eq_true rfl⟩ rfl rfl) hX.2.1.1 rfl rfl rfl rfl rfl (Nat.le_of_ble_eq_true rfl) (dkAt dkX7_first 31 (q := (61, .invokevirtual 260, 3)) rfl) ⟨Nat.zero_le _, Nat.zero_le _⟩ (pc2 := 64) rfl rfl ?_
        exact k_iret C (dkAt dkX7_first 32 (q := (64, .ireturn, 1)) rfl) (pe2 (Option.some.inj h)) rfl (pe1 (Option.some.inj h)) rfl
      · refine k_aload_n C (pc2 := 47) (dkAt dkX7_first 24 (q := (46, .aload_n 0, 1)) rfl) rfl rfl 0 rfl ?_
        refine kf_X7_10 C (pc2 := 50) (o := 0) (o2 := 1) hX.1 rfl (dkAt dkX7_first 25 (q := (47, .getfield 10, 3)) rfl) rfl ?_
        obtain ⟨q5, e6, h⟩ := ob_inv h
        refine kc_V C (As := []) (st2 := [.int q5]) (ct_X1_meanAsked l G sh xs 1 hX.2.1 M q5 e6) (cl_X7_257 (hts_of C) ⟨Nat.le_of_ble_eq_true rfl, Nat.le_of_ble_eq_true rfl⟩ rfl rfl) hX.2.1.1 rfl rfl rfl rfl rfl (Nat.le_of_ble_eq_true rfl) (dkAt dkX7_first 26 (q := (50, .invokevirtual 257, 3)) rfl) ⟨Nat.zero_le _, Nat.zero_le _⟩ (pc2 := 53) rfl rfl ?_
        refine k_goto C (tgt := 64) (dkAt dkX7_first 27 (q := (53, .goto 11, 3)) rfl) (by decide) ?_
        exact k_iret C (dkAt dkX7_first 32 (q := (64, .ireturn, 1)) rfl) (pe2 (Option.some.inj h)) rfl (pe1 (Option.some.inj h)) rfl
    · refine k_aload_n C (pc2 := 35) (dkAt dkX7_first 17 (q := (34, .aload_n 0, 1)) rfl) rfl rfl 0 rfl ?_
      refine k_bipush C (pc2 := 37) (dkAt dkX7_first 18 (q := (35, .bipush (-5), 2)) rfl) rfl (v := (-5)) rfl ?_
      obtain ⟨q7, e8, h⟩ := ob_inv h
      refine kc_V C (As := [.int (-5)]) (st2 := [.int q7.2]) (ct_X7_refuse l G sh xs hX (-5) M q7 e8) (cl_X7_62 (hts_of C) ⟨Nat.le_of_ble_eq_true rfl, Nat.le_of_ble_eq_true rfl⟩ rfl rfl) hX.1 rfl rfl rfl rfl rfl (Nat.le_of_ble_eq_true rfl) (dkAt dkX7_first 19 (q := (37, .invokevirtual 62, 3)) rfl) ⟨Nat.zero_le _, Nat.zero_le _⟩ (pc2 := 40) rfl rfl ?_
      exact k_iret C (dkAt dkX7_first 20 (q := (40, .ireturn, 1)) rfl) (pe2 (Option.some.inj h)) rfl (pe1 (Option.some.inj h)) rfl
  · refine k_aload_n C (pc2 := 18) (dkAt dkX7_first 9 (q := (17, .aload_n 0, 1)) rfl) rfl rfl 0 rfl ?_
    refine k_bipush C (pc2 := 20) (dkAt dkX7_first 10 (q := (18, .bipush (-2), 2)) rfl) rfl (v := (-2)) rfl ?_
    obtain ⟨q9, e10, h⟩ := ob_inv h
    refine kc_V C (As := [.int (-2)]) (st2 := [.int q9.2]) (ct_X7_refuse l G sh xs hX (-2) M q9 e10) (cl_X7_62 (hts_of C) ⟨Nat.le_of_ble_eq_true rfl, Nat.le_of_ble_eq_true rfl⟩ rfl rfl) hX.1 rfl rfl rfl rfl rfl (Nat.le_of_ble_eq_true rfl) (dkAt dkX7_first 11 (q := (20, .invokevirtual 62, 3)) rfl) ⟨Nat.zero_le _, Nat.zero_le _⟩ (pc2 := 23) rfl rfl ?_
    exact k_iret C (dkAt dkX7_first 12 (q := (23, .ireturn, 1)) rfl) (pe2 (Option.some.inj h)) rfl (pe1 (Option.some.inj h)) rfl
set_option maxRecDepth 100000 in
set_option maxHeartbeats 4000000 in
theorem ct_X7_meeting (l : Launch) (G : GG) (sh : Sh) (xs : List va_E) (hX : isX sh) (x1 : Int32) (x2 : Int32) (M : Mm) (r : Mm × Int32) (h : f_X7_meeting x1 x2 M = some r) : Ct l yX7_meeting cX7_meeting 3 (some .int) rm_X7_meeting G [rA G 0, .int x1, .int x2] sh M xs (some (.int r.2)) sh r.1 xs 0 0 := by
  refine ct_of (by decide) (Nat.le_of_ble_eq_true rfl) ?_
  intro p e s m args below meth c hnm C
  refine k_lv [0, 1, 2] (lv2 := [(0, rA G 0), (1, .int x1), (2, .int x2)]) rfl ?_
  unfold f_X7_meeting at h
  refine k_iload_n C (pc2 := 1) (dkAt dkX7_meeting 0 (q := (0, .iload_n 2, 1)) rfl) rfl rfl 2 rfl ?_
  refine k_iconst C (pc2 := 2) (dkAt dkX7_meeting 1 (q := (1, .iconst (-1), 1)) rfl) rfl (v := (-1)) rfl ?_
  refine k_iload_n C (pc2 := 3) (dkAt dkX7_meeting 2 (q := (2, .iload_n 1, 1)) rfl) rfl rfl 1 rfl ?_
  refine k_iconst C (pc2 := 4) (dkAt dkX7_meeting 3 (q := (3, .iconst 1, 1)) rfl) rfl (v := 1) rfl ?_
  refine k_isub C (pc2 := 5) (dkAt dkX7_meeting 4 (q := (4, .isub, 1)) rfl) rfl ?_
  obtain ⟨q1, e2, h⟩ := ob_inv h
  refine kc_S C (As := [.int x2, .int (-1), .int (x1 - 1)]) (st2 := [.int q1]) (ct_X7_within l G sh xs x2 (-1) (x1 - 1) M q1 e2) (cl_X7_58 (hts_of C) ⟨Nat.le_of_ble_eq_true rfl, Nat.le_of_ble_eq_true rfl⟩ rfl rfl) rfl rfl (Nat.le_of_ble_eq_true rfl) (dkAt dkX7_meeting 5 (q := (5, .invokestatic 58, 3)) rfl) ⟨Nat.zero_le _, Nat.zero_le _⟩ (pc2 := 8) rfl rfl ?_
  refine k_if_ne C (tgt := 18) (pc2 := 11) (dkAt dkX7_meeting 6 (q := (8, .ifCond .ne 10, 3)) rfl) (by decide) rfl h (fun h => ?_) (fun h => ?_)
  · refine k_aload_n C (pc2 := 19) (dkAt dkX7_meeting 11 (q := (18, .aload_n 0, 1)) rfl) rfl rfl 0 rfl ?_
    refine kf_X7_10 C (pc2 := 22) (o := 0) (o2 := 1) hX.1 rfl (dkAt dkX7_meeting 12 (q := (19, .getfield 10, 3)) rfl) rfl ?_
    refine kf_X7_134 C (pc2 := 25) (o := 1) (o2 := 0) hX.2.1.1 (dkAt dkX7_meeting 13 (q := (22, .getfield 134, 3)) rfl) rfl ?_
    refine k_iload_n C (pc2 := 26) (dkAt dkX7_meeting 14 (q := (25, .iload_n 1, 1)) rfl) rfl rfl 1 rfl ?_
    refine k_icmp_ge C (tgt := 36) (pc2 := 29) (dkAt dkX7_meeting 15 (q := (26, .if_icmp .ge 10, 3)) rfl) (by decide) rfl h (fun h => ?_) (fun h => ?_)
    · refine k_aload_n C (pc2 := 37) (dkAt dkX7_meeting 20 (q := (36, .aload_n 0, 1)) rfl) rfl rfl 0 rfl ?_
      refine kf_X7_29 C (pc2 := 40) (o := 0) (o2 := 33) hX.1 rfl (dkAt dkX7_meeting 21 (q := (37, .getfield 29, 3)) rfl) rfl ?_
      refine k_aload_n C (pc2 := 41) (dkAt dkX7_meeting 22 (q := (40, .aload_n 0, 1)) rfl) rfl rfl 0 rfl ?_
      refine kf_X7_10 C (pc2 := 44) (o := 0) (o2 := 1) hX.1 rfl (dkAt dkX7_meeting 23 (q := (41, .getfield 10, 3)) rfl) rfl ?_
      refine k_iload_n C (pc2 := 45) (dkAt dkX7_meeting 24 (q := (44, .iload_n 1, 1)) rfl) rfl rfl 1 rfl ?_
      obtain ⟨q3, e4, h⟩ := ob_inv h
      refine kc_V C (As := [rA G 1, .int x1]) (st2 := []) (ct_X0_chooseMeeting l G sh xs 33 hX.2.2.2.2.1 1 hX.2.1 x1 M q3 e4) (cl_X7_379 (hts_of C) ⟨Nat.le_of_ble_eq_true rfl, Nat.le_of_ble_eq_true rfl⟩ rfl rfl) hX.2.2.2.2.1.1 rfl rfl rfl rfl rfl (Nat.le_of_ble_eq_true rfl) (dkAt dkX7_meeting 25 (q := (45, .invokevirtual 379, 3)) rfl) ⟨Nat.zero_le _, Nat.zero_le _⟩ (pc2 := 48) rfl rfl ?_
      refine k_iload_n C (pc2 := 49) (dkAt dkX7_meeting 26 (q := (48, .iload_n 2, 1)) rfl) rfl rfl 2 rfl ?_
      refine k_iconst C (pc2 := 50) (dkAt dkX7_meeting 27 (q := (49, .iconst (-1), 1)) rfl) rfl (v := (-1)) rfl ?_
      refine k_icmp_ne C (tgt := 63) (pc2 := 53) (dkAt dkX7_meeting 28 (q := (50, .if_icmp .ne 13, 3)) rfl) (by decide) rfl h (fun h => ?_) (fun h => ?_)
      · refine k_aload_n C (pc2 := 64) (dkAt dkX7_meeting 33 (q := (63, .aload_n 0, 1)) rfl) rfl rfl 0 rfl ?_
        refine kf_X7_29 C (pc2 := 67) (o := 0) (o2 := 33) hX.1 rfl (dkAt dkX7_meeting 34 (q := (64, .getfield 29, 3)) rfl) rfl ?_
        refine kf_X7_276 C (pc2 := 70) (o := 33) (o2 := 36) hX.2.2.2.2.1.1 rfl (dkAt dkX7_meeting 35 (q := (67, .getfield 276, 3)) rfl) rfl ?_
        refine k_iload_n C (pc2 := 71) (dkAt dkX7_meeting 36 (q := (70, .iload_n 2, 1)) rfl) rfl rfl 2 rfl ?_
        refine k_iald C (pc2 := 72) (o := 36) (nA := 3) hX.2.2.2.2.1.2.2.2 (dkAt dkX7_meeting 37 (q := (71, .iaload, 1)) rfl) rfl h (fun h => ?_)
        exact k_iret C (dkAt dkX7_meeting 38 (q := (72, .ireturn, 1)) rfl) (pe2 (Option.some.inj h)) rfl (pe1 (Option.some.inj h)) rfl
      · refine k_aload_n C (pc2 := 54) (dkAt dkX7_meeting 29 (q := (53, .aload_n 0, 1)) rfl) rfl rfl 0 rfl ?_
        refine kf_X7_29 C (pc2 := 57) (o := 0) (o2 := 33) hX.1 rfl (dkAt dkX7_meeting 30 (q := (54, .getfield 29, 3)) rfl) rfl ?_
        refine kf_X7_382 C (pc2 := 60) (o := 33) (o2 := 0) hX.2.2.2.2.1.1 (dkAt dkX7_meeting 31 (q := (57, .getfield 382, 3)) rfl) rfl ?_
        refine k_goto C (tgt := 72) (dkAt dkX7_meeting 32 (q := (60, .goto 12, 3)) rfl) (by decide) ?_
        exact k_iret C (dkAt dkX7_meeting 38 (q := (72, .ireturn, 1)) rfl) (pe2 (Option.some.inj h)) rfl (pe1 (Option.some.inj h)) rfl
    · refine k_aload_n C (pc2 := 30) (dkAt dkX7_meeting 16 (q := (29, .aload_n 0, 1)) rfl) rfl rfl 0 rfl ?_
      refine k_bipush C (pc2 := 32) (dkAt dkX7_meeting 17 (q := (30, .bipush (-5), 2)) rfl) rfl (v := (-5)) rfl ?_
      obtain ⟨q5, e6, h⟩ := ob_inv h
      refine kc_V C (As := [.int (-5)]) (st2 := [.int q5.2]) (ct_X7_refuse l G sh xs hX (-5) M q5 e6) (cl_X7_62 (hts_of C) ⟨Nat.le_of_ble_eq_true rfl, Nat.le_of_ble_eq_true rfl⟩ rfl rfl) hX.1 rfl rfl rfl rfl rfl (Nat.le_of_ble_eq_true rfl) (dkAt dkX7_meeting 18 (q := (32, .invokevirtual 62, 3)) rfl) ⟨Nat.zero_le _, Nat.zero_le _⟩ (pc2 := 35) rfl rfl ?_
      exact k_iret C (dkAt dkX7_meeting 19 (q := (35, .ireturn, 1)) rfl) (pe2 (Option.some.inj h)) rfl (pe1 (Option.some.inj h)) rfl
  · refine k_aload_n C (pc2 := 12) (dkAt dkX7_meeting 7 (q := (11, .aload_n 0, 1)) rfl) rfl rfl 0 rfl ?_
    refine k_bipush C (pc2 := 14) (dkAt dkX7_meeting 8 (q := (12, .bipush (-2), 2)) rfl) rfl (v := (-2)) rfl ?_
    obtain ⟨q7, e8, h⟩ := ob_inv h
    refine kc_V C (As := [.int (-2)]) (st2 := [.int q7.2]) (ct_X7_refuse l G sh xs hX (-2) M q7 e8) (cl_X7_62 (hts_of C) ⟨Nat.le_of_ble_eq_true rfl, Nat.le_of_ble_eq_true rfl⟩ rfl rfl) hX.1 rfl rfl rfl rfl rfl (Nat.le_of_ble_eq_true rfl) (dkAt dkX7_meeting 9 (q := (14, .invokevirtual 62, 3)) rfl) ⟨Nat.zero_le _, Nat.zero_le _⟩ (pc2 := 17) rfl rfl ?_
    exact k_iret C (dkAt dkX7_meeting 10 (q := (17, .ireturn, 1)) rfl) (pe2 (Option.some.inj h)) rfl (pe1 (Option.some.inj h)) rfl
set_option maxRecDepth 100000 in
set_option maxHeartbeats 4000000 in
theorem ct_X7_two (l : Launch) (G : GG) (sh : Sh) (xs : List va_E) (hX : isX sh) (x1 : Int32) (M : Mm) (r : Mm × Int32) (h : f_X7_two x1 M = some r) : Ct l yX7_two cX7_two 2 (some .int) rm_X7_two G [rA G 0, .int x1] sh M xs (some (.int r.2)) sh r.1 xs 0 0 := by
  refine ct_of (by decide) (Nat.le_of_ble_eq_true rfl) ?_
  intro p e s m args below meth c hnm C
  refine k_lv [0, 1] (lv2 := [(0, rA G 0), (1, .int x1)]) rfl ?_
  unfold f_X7_two at h
  refine k_aload_n C (pc2 := 1) (dkAt dkX7_two 0 (q := (0, .aload_n 0, 1)) rfl) rfl rfl 0 rfl ?_
  refine k_iconst C (pc2 := 2) (dkAt dkX7_two 1 (q := (1, .iconst 2, 1)) rfl) rfl (v := 2) rfl ?_
  refine k_iload_n C (pc2 := 3) (dkAt dkX7_two 2 (q := (2, .iload_n 1, 1)) rfl) rfl rfl 1 rfl ?_
  obtain ⟨q1, e2, h⟩ := ob_inv h
  refine kc_V C (As := [.int 2, .int x1]) (st2 := [.int q1.2]) (ct_X7_meeting l G sh xs hX 2 x1 M q1 e2) (cl_X7_263 (hts_of C) ⟨Nat.le_of_ble_eq_true rfl, Nat.le_of_ble_eq_true rfl⟩ rfl rfl) hX.1 rfl rfl rfl rfl rfl (Nat.le_of_ble_eq_true rfl) (dkAt dkX7_two 3 (q := (3, .invokevirtual 263, 3)) rfl) ⟨Nat.zero_le _, Nat.zero_le _⟩ (pc2 := 6) rfl rfl ?_
  exact k_iret C (dkAt dkX7_two 4 (q := (6, .ireturn, 1)) rfl) (pe2 (Option.some.inj h)) rfl (pe1 (Option.some.inj h)) rfl
set_option maxRecDepth 100000 in
set_option maxHeartbeats 4000000 in
theorem kl_X7_fixed_L4 {p : Program} {l : Launch} {e : Env} {s : State} {m : MethodId} {args : Array Value} {below : List Frame} {meth : Method} {c : Code} {G : GG} {sh : Sh} {xs : List va_E} {Q : State → Prop} (C : Cx p s m c args meth G RX7 cX7_fixed 3 (some .int)) (hX : isX sh) (M : Mm) (y1 : Int32) (hcont : KW p l e rm_X7_fixed s m args below meth c G 3 Q sh xs 0 0 M 37 [(1, .int y1)] []) : ∀ (n : Nat) (x1 : Int32) (x2 : Int32), f_X7_fixed_L4 M n x1 x2 = some y1 → KW p l e rm_X7_fixed s m args below meth c G 3 Q sh xs 0 0 M 4 [(0, rA G 0), (1, .int x1), (2, .int x2)] [] := by
  intro n
  induction n with
  | zero =>
    intro x1 x2 h
    cases h
  | succ n ih =>
    intro x1 x2 h
    unfold f_X7_fixed_L4 at h
    refine k_iload_n C (pc2 := 5) (dkAt dkX7_fixed 4 (q := (4, .iload_n 2, 1)) rfl) rfl rfl 2 rfl ?_
    refine k_bipush C (pc2 := 7) (dkAt dkX7_fixed 5 (q := (5, .bipush 7, 2)) rfl) rfl (v := 7) rfl ?_
    refine k_icmp_ge C (tgt := 37) (pc2 := 10) (dkAt dkX7_fixed 6 (q := (7, .if_icmp .ge 30, 3)) rfl) (by decide) rfl h (fun h => ?_) (fun h => ?_)
    · refine k_lv [1] (lv2 := [(1, .int x1)]) rfl ?_
      cases h
      exact hcont
    · refine k_aload_n C (pc2 := 11) (dkAt dkX7_fixed 7 (q := (10, .aload_n 0, 1)) rfl) rfl rfl 0 rfl ?_
      refine kf_X7_10 C (pc2 := 14) (o := 0) (o2 := 1) hX.1 rfl (dkAt dkX7_fixed 8 (q := (11, .getfield 10, 3)) rfl) rfl ?_
      refine k_iload_n C (pc2 := 15) (dkAt dkX7_fixed 9 (q := (14, .iload_n 2, 1)) rfl) rfl rfl 2 rfl ?_
      obtain ⟨q1, e2, h⟩ := ob_inv h
      refine kc_V C (As := [.int x2]) (st2 := [.int q1]) (ct_X1_totalOnWeekday l G sh xs 1 hX.2.1 x2 M q1 e2) (cl_X7_266 (hts_of C) ⟨Nat.le_of_ble_eq_true rfl, Nat.le_of_ble_eq_true rfl⟩ rfl rfl) hX.2.1.1 rfl rfl rfl rfl rfl (Nat.le_of_ble_eq_true rfl) (dkAt dkX7_fixed 10 (q := (15, .invokevirtual 266, 3)) rfl) ⟨Nat.zero_le _, Nat.zero_le _⟩ (pc2 := 18) rfl rfl ?_
      refine k_aload_n C (pc2 := 19) (dkAt dkX7_fixed 11 (q := (18, .aload_n 0, 1)) rfl) rfl rfl 0 rfl ?_
      refine kf_X7_10 C (pc2 := 22) (o := 0) (o2 := 1) hX.1 rfl (dkAt dkX7_fixed 12 (q := (19, .getfield 10, 3)) rfl) rfl ?_
      refine k_iload_n C (pc2 := 23) (dkAt dkX7_fixed 13 (q := (22, .iload_n 1, 1)) rfl) rfl rfl 1 rfl ?_
      obtain ⟨q3, e4, h⟩ := ob_inv h
      refine kc_V C (As := [.int x1]) (st2 := [.int q3, .int q1]) (ct_X1_totalOnWeekday l G sh xs 1 hX.2.1 x1 M q3 e4) (cl_X7_266 (hts_of C) ⟨Nat.le_of_ble_eq_true rfl, Nat.le_of_ble_eq_true rfl⟩ rfl rfl) hX.2.1.1 rfl rfl rfl rfl rfl (Nat.le_of_ble_eq_true rfl) (dkAt dkX7_fixed 14 (q := (23, .invokevirtual 266, 3)) rfl) ⟨Nat.zero_le _, Nat.zero_le _⟩ (pc2 := 26) rfl rfl ?_
      refine k_icmp_le C (tgt := 31) (pc2 := 29) (dkAt dkX7_fixed 15 (q := (26, .if_icmp .le 5, 3)) rfl) (by decide) rfl h (fun h => ?_) (fun h => ?_)
      · refine kb_iinc C (pc2 := 34) (dkAt dkX7_fixed 18 (q := (31, .iinc 2 1, 3)) rfl) rfl (j := 2) rfl (v := x2 + 1) rfl (by decide) (lv2 := fun v5 => [(2, .int v5), (0, rA G 0), (1, .int x1)]) (fun _ => rfl) h (fun v5 h => ?_)
        refine k_goto C (tgt := 4) (dkAt dkX7_fixed 19 (q := (34, .goto (-30), 3)) rfl) (by decide) ?_
        refine k_lv [1, 2, 0] (lv2 := [(0, rA G 0), (1, .int x1), (2, .int v5)]) rfl ?_
        exact ih x1 v5 h
      · refine k_iload_n C (pc2 := 30) (dkAt dkX7_fixed 16 (q := (29, .iload_n 2, 1)) rfl) rfl rfl 2 rfl ?_
        refine k_istore_n C (pc2 := 31) (dkAt dkX7_fixed 17 (q := (30, .istore_n 1, 1)) rfl) rfl rfl (by decide) (lv2 := [(1, .int x2), (0, rA G 0), (2, .int x2)]) rfl ?_
        refine kb_iinc C (pc2 := 34) (dkAt dkX7_fixed 18 (q := (31, .iinc 2 1, 3)) rfl) rfl (j := 2) rfl (v := x2 + 1) rfl (by decide) (lv2 := fun v6 => [(2, .int v6), (1, .int x2), (0, rA G 0)]) (fun _ => rfl) h (fun v6 h => ?_)
        refine k_goto C (tgt := 4) (dkAt dkX7_fixed 19 (q := (34, .goto (-30), 3)) rfl) (by decide) ?_
        refine k_lv [2, 1, 0] (lv2 := [(0, rA G 0), (1, .int x2), (2, .int v6)]) rfl ?_
        exact ih x2 v6 h
set_option maxRecDepth 100000 in
set_option maxHeartbeats 4000000 in
theorem ct_X7_fixed (l : Launch) (G : GG) (sh : Sh) (xs : List va_E) (hX : isX sh) (M : Mm) (r : Int32) (h : f_X7_fixed M = some r) : Ct l yX7_fixed cX7_fixed 3 (some .int) rm_X7_fixed G [rA G 0] sh M xs (some (.int r)) sh M xs 0 0 := by
  refine ct_of (by decide) (Nat.le_of_ble_eq_true rfl) ?_
  intro p e s m args below meth c hnm C
  refine k_lv [0] (lv2 := [(0, rA G 0)]) rfl ?_
  unfold f_X7_fixed at h
  refine k_iconst C (pc2 := 1) (dkAt dkX7_fixed 0 (q := (0, .iconst 0, 1)) rfl) rfl (v := 0) rfl ?_
  refine k_istore_n C (pc2 := 2) (dkAt dkX7_fixed 1 (q := (1, .istore_n 1, 1)) rfl) rfl rfl (by decide) (lv2 := [(1, .int 0), (0, rA G 0)]) rfl ?_
  refine k_iconst C (pc2 := 3) (dkAt dkX7_fixed 2 (q := (2, .iconst 1, 1)) rfl) rfl (v := 1) rfl ?_
  refine k_istore_n C (pc2 := 4) (dkAt dkX7_fixed 3 (q := (3, .istore_n 2, 1)) rfl) rfl rfl (by decide) (lv2 := [(2, .int 1), (1, .int 0), (0, rA G 0)]) rfl ?_
  refine k_lv [2, 1, 0] (lv2 := [(0, rA G 0), (1, .int 0), (2, .int 1)]) rfl ?_
  obtain ⟨v9, e8, h⟩ := ob_inv h
  refine kl_X7_fixed_L4 C hX M v9 ?_ 1000 0 1 e8
  refine k_iload_n C (pc2 := 38) (dkAt dkX7_fixed 20 (q := (37, .iload_n 1, 1)) rfl) rfl rfl 0 rfl ?_
  exact k_iret C (dkAt dkX7_fixed 21 (q := (38, .ireturn, 1)) rfl) (Option.some.inj h) rfl rfl rfl
set_option maxRecDepth 100000 in
set_option maxHeartbeats 4000000 in
theorem ct_X7_fair (l : Launch) (G : GG) (sh : Sh) (xs : List va_E) (hX : isX sh) (x1 : Int32) (x2 : Int32) (M : Mm) (r : Mm × Int32) (h : f_X7_fair x1 x2 M = some r) : Ct l yX7_fair cX7_fair 3 (some .int) rm_X7_fair G [rA G 0, .int x1, .int x2] sh M xs (some (.int r.2)) sh r.1 xs 0 0 := by
  refine ct_of (by decide) (Nat.le_of_ble_eq_true rfl) ?_
  intro p e s m args below meth c hnm C
  refine k_lv [0, 1, 2] (lv2 := [(0, rA G 0), (1, .int x1), (2, .int x2)]) rfl ?_
  unfold f_X7_fair at h
  refine k_iload_n C (pc2 := 1) (dkAt dkX7_fair 0 (q := (0, .iload_n 1, 1)) rfl) rfl rfl 1 rfl ?_
  refine k_iconst C (pc2 := 2) (dkAt dkX7_fair 1 (q := (1, .iconst 1, 1)) rfl) rfl (v := 1) rfl ?_
  refine k_iconst C (pc2 := 3) (dkAt dkX7_fair 2 (q := (2, .iconst 3, 1)) rfl) rfl (v := 3) rfl ?_
  obtain ⟨q1, e2, h⟩ := ob_inv h
  refine kc_S C (As := [.int x1, .int 1, .int 3]) (st2 := [.int q1]) (ct_X7_within l G sh xs x1 1 3 M q1 e2) (cl_X7_58 (hts_of C) ⟨Nat.le_of_ble_eq_true rfl, Nat.le_of_ble_eq_true rfl⟩ rfl rfl) rfl rfl (Nat.le_of_ble_eq_true rfl) (dkAt dkX7_fair 3 (q := (3, .invokestatic 58, 3)) rfl) ⟨Nat.zero_le _, Nat.zero_le _⟩ (pc2 := 6) rfl rfl ?_
  refine k_if_eq C (tgt := 20) (pc2 := 9) (dkAt dkX7_fair 4 (q := (6, .ifCond .eq 14, 3)) rfl) (by decide) rfl h (fun h => ?_) (fun h => ?_)
  · refine k_aload_n C (pc2 := 21) (dkAt dkX7_fair 12 (q := (20, .aload_n 0, 1)) rfl) rfl rfl 0 rfl ?_
    refine k_bipush C (pc2 := 23) (dkAt dkX7_fair 13 (q := (21, .bipush (-2), 2)) rfl) rfl (v := (-2)) rfl ?_
    obtain ⟨q3, e4, h⟩ := ob_inv h
    refine kc_V C (As := [.int (-2)]) (st2 := [.int q3.2]) (ct_X7_refuse l G sh xs hX (-2) M q3 e4) (cl_X7_62 (hts_of C) ⟨Nat.le_of_ble_eq_true rfl, Nat.le_of_ble_eq_true rfl⟩ rfl rfl) hX.1 rfl rfl rfl rfl rfl (Nat.le_of_ble_eq_true rfl) (dkAt dkX7_fair 14 (q := (23, .invokevirtual 62, 3)) rfl) ⟨Nat.zero_le _, Nat.zero_le _⟩ (pc2 := 26) rfl rfl ?_
    exact k_iret C (dkAt dkX7_fair 15 (q := (26, .ireturn, 1)) rfl) (pe2 (Option.some.inj h)) rfl (pe1 (Option.some.inj h)) rfl
  · refine k_iload_n C (pc2 := 10) (dkAt dkX7_fair 5 (q := (9, .iload_n 2, 1)) rfl) rfl rfl 2 rfl ?_
    refine k_iconst C (pc2 := 11) (dkAt dkX7_fair 6 (q := (10, .iconst (-1), 1)) rfl) rfl (v := (-1)) rfl ?_
    refine k_iload_n C (pc2 := 12) (dkAt dkX7_fair 7 (q := (11, .iload_n 1, 1)) rfl) rfl rfl 1 rfl ?_
    refine k_iconst C (pc2 := 13) (dkAt dkX7_fair 8 (q := (12, .iconst 1, 1)) rfl) rfl (v := 1) rfl ?_
    refine k_isub C (pc2 := 14) (dkAt dkX7_fair 9 (q := (13, .isub, 1)) rfl) rfl ?_
    obtain ⟨q5, e6, h⟩ := ob_inv h
    refine kc_S C (As := [.int x2, .int (-1), .int (x1 - 1)]) (st2 := [.int q5]) (ct_X7_within l G sh xs x2 (-1) (x1 - 1) M q5 e6) (cl_X7_58 (hts_of C) ⟨Nat.le_of_ble_eq_true rfl, Nat.le_of_ble_eq_true rfl⟩ rfl rfl) rfl rfl (Nat.le_of_ble_eq_true rfl) (dkAt dkX7_fair 10 (q := (14, .invokestatic 58, 3)) rfl) ⟨Nat.zero_le _, Nat.zero_le _⟩ (pc2 := 17) rfl rfl ?_
    refine k_if_ne C (tgt := 27) (pc2 := 20) (dkAt dkX7_fair 11 (q := (17, .ifCond .ne 10, 3)) rfl) (by decide) rfl h (fun h => ?_) (fun h => ?_)
    · refine k_aload_n C (pc2 := 28) (dkAt dkX7_fair 16 (q := (27, .aload_n 0, 1)) rfl) rfl rfl 0 rfl ?_
      refine kf_X7_10 C (pc2 := 31) (o := 0) (o2 := 1) hX.1 rfl (dkAt dkX7_fair 17 (q := (28, .getfield 10, 3)) rfl) rfl ?_
      refine kf_X7_134 C (pc2 := 34) (o := 1) (o2 := 0) hX.2.1.1 (dkAt dkX7_fair 18 (q := (31, .getfield 134, 3)) rfl) rfl ?_
      refine k_iload_n C (pc2 := 35) (dkAt dkX7_fair 19 (q := (34, .iload_n 1, 1)) rfl) rfl rfl 1 rfl ?_
      refine k_icmp_lt C (tgt := 48) (pc2 := 38) (dkAt dkX7_fair 20 (q := (35, .if_icmp .lt 13, 3)) rfl) (by decide) rfl h (fun h => ?_) (fun h => ?_)
      · refine k_aload_n C (pc2 := 49) (dkAt dkX7_fair 25 (q := (48, .aload_n 0, 1)) rfl) rfl rfl 0 rfl ?_
        refine k_bipush C (pc2 := 51) (dkAt dkX7_fair 26 (q := (49, .bipush (-5), 2)) rfl) rfl (v := (-5)) rfl ?_
        obtain ⟨q7, e8, h⟩ := ob_inv h
        refine kc_V C (As := [.int (-5)]) (st2 := [.int q7.2]) (ct_X7_refuse l G sh xs hX (-5) M q7 e8) (cl_X7_62 (hts_of C) ⟨Nat.le_of_ble_eq_true rfl, Nat.le_of_ble_eq_true rfl⟩ rfl rfl) hX.1 rfl rfl rfl rfl rfl (Nat.le_of_ble_eq_true rfl) (dkAt dkX7_fair 27 (q := (51, .invokevirtual 62, 3)) rfl) ⟨Nat.zero_le _, Nat.zero_le _⟩ (pc2 := 54) rfl rfl ?_
        exact k_iret C (dkAt dkX7_fair 28 (q := (54, .ireturn, 1)) rfl) (pe2 (Option.some.inj h)) rfl (pe1 (Option.some.inj h)) rfl
      · refine k_aload_n C (pc2 := 39) (dkAt dkX7_fair 21 (q := (38, .aload_n 0, 1)) rfl) rfl rfl 0 rfl ?_
        refine kf_X7_10 C (pc2 := 42) (o := 0) (o2 := 1) hX.1 rfl (dkAt dkX7_fair 22 (q := (39, .getfield 10, 3)) rfl) rfl ?_
        refine kf_X7_216 C (pc2 := 45) (o := 1) (o2 := 0) hX.2.1.1 (dkAt dkX7_fair 23 (q := (42, .getfield 216, 3)) rfl) rfl ?_
        refine k_if_ne C (tgt := 55) (pc2 := 48) (dkAt dkX7_fair 24 (q := (45, .ifCond .ne 10, 3)) rfl) (by decide) rfl h (fun h => ?_) (fun h => ?_)
        · refine k_aload_n C (pc2 := 56) (dkAt dkX7_fair 29 (q := (55, .aload_n 0, 1)) rfl) rfl rfl 0 rfl ?_
          refine kf_X7_29 C (pc2 := 59) (o := 0) (o2 := 33) hX.1 rfl (dkAt dkX7_fair 30 (q := (56, .getfield 29, 3)) rfl) rfl ?_
          refine k_aload_n C (pc2 := 60) (dkAt dkX7_fair 31 (q := (59, .aload_n 0, 1)) rfl) rfl rfl 0 rfl ?_
          refine kf_X7_10 C (pc2 := 63) (o := 0) (o2 := 1) hX.1 rfl (dkAt dkX7_fair 32 (q := (60, .getfield 10, 3)) rfl) rfl ?_
          refine k_iload_n C (pc2 := 64) (dkAt dkX7_fair 33 (q := (63, .iload_n 1, 1)) rfl) rfl rfl 1 rfl ?_
          obtain ⟨q9, e10, h⟩ := ob_inv h
          refine kc_V C (As := [rA G 1, .int x1]) (st2 := []) (ct_X0_chooseFair l G sh xs 33 hX.2.2.2.2.1 1 hX.2.1 x1 M q9 e10) (cl_X7_269 (hts_of C) ⟨Nat.le_of_ble_eq_true rfl, Nat.le_of_ble_eq_true rfl⟩ rfl rfl) hX.2.2.2.2.1.1 rfl rfl rfl rfl rfl (Nat.le_of_ble_eq_true rfl) (dkAt dkX7_fair 34 (q := (64, .invokevirtual 269, 3)) rfl) ⟨Nat.zero_le _, Nat.zero_le _⟩ (pc2 := 67) rfl rfl ?_
          refine k_iload_n C (pc2 := 68) (dkAt dkX7_fair 35 (q := (67, .iload_n 2, 1)) rfl) rfl rfl 2 rfl ?_
          refine k_iconst C (pc2 := 69) (dkAt dkX7_fair 36 (q := (68, .iconst (-1), 1)) rfl) rfl (v := (-1)) rfl ?_
          refine k_icmp_ne C (tgt := 82) (pc2 := 72) (dkAt dkX7_fair 37 (q := (69, .if_icmp .ne 13, 3)) rfl) (by decide) rfl h (fun h => ?_) (fun h => ?_)
          · refine k_aload_n C (pc2 := 83) (dkAt dkX7_fair 42 (q := (82, .aload_n 0, 1)) rfl) rfl rfl 0 rfl ?_
            refine kf_X7_29 C (pc2 := 86) (o := 0) (o2 := 33) hX.1 rfl (dkAt dkX7_fair 43 (q := (83, .getfield 29, 3)) rfl) rfl ?_
            refine kf_X7_276 C (pc2 := 89) (o := 33) (o2 := 36) hX.2.2.2.2.1.1 rfl (dkAt dkX7_fair 44 (q := (86, .getfield 276, 3)) rfl) rfl ?_
            refine k_iload_n C (pc2 := 90) (dkAt dkX7_fair 45 (q := (89, .iload_n 2, 1)) rfl) rfl rfl 2 rfl ?_
            refine k_iald C (pc2 := 91) (o := 36) (nA := 3) hX.2.2.2.2.1.2.2.2 (dkAt dkX7_fair 46 (q := (90, .iaload, 1)) rfl) rfl h (fun h => ?_)
            exact k_iret C (dkAt dkX7_fair 47 (q := (91, .ireturn, 1)) rfl) (pe2 (Option.some.inj h)) rfl (pe1 (Option.some.inj h)) rfl
          · refine k_aload_n C (pc2 := 73) (dkAt dkX7_fair 38 (q := (72, .aload_n 0, 1)) rfl) rfl rfl 0 rfl ?_
            refine kf_X7_29 C (pc2 := 76) (o := 0) (o2 := 33) hX.1 rfl (dkAt dkX7_fair 39 (q := (73, .getfield 29, 3)) rfl) rfl ?_
            obtain ⟨q11, e12, h⟩ := ob_inv h
            refine kc_V C (As := []) (st2 := [.int q11]) (ct_X0_greatestOut l G sh xs 33 hX.2.2.2.2.1 q9 q11 e12) (cl_X7_273 (hts_of C) ⟨Nat.le_of_ble_eq_true rfl, Nat.le_of_ble_eq_true rfl⟩ rfl rfl) hX.2.2.2.2.1.1 rfl rfl rfl rfl rfl (Nat.le_of_ble_eq_true rfl) (dkAt dkX7_fair 40 (q := (76, .invokevirtual 273, 3)) rfl) ⟨Nat.zero_le _, Nat.zero_le _⟩ (pc2 := 79) rfl rfl ?_
            refine k_goto C (tgt := 91) (dkAt dkX7_fair 41 (q := (79, .goto 12, 3)) rfl) (by decide) ?_
            exact k_iret C (dkAt dkX7_fair 47 (q := (91, .ireturn, 1)) rfl) (pe2 (Option.some.inj h)) rfl (pe1 (Option.some.inj h)) rfl
        · refine k_aload_n C (pc2 := 49) (dkAt dkX7_fair 25 (q := (48, .aload_n 0, 1)) rfl) rfl rfl 0 rfl ?_
          refine k_bipush C (pc2 := 51) (dkAt dkX7_fair 26 (q := (49, .bipush (-5), 2)) rfl) rfl (v := (-5)) rfl ?_
          obtain ⟨q13, e14, h⟩ := ob_inv h
          refine kc_V C (As := [.int (-5)]) (st2 := [.int q13.2]) (ct_X7_refuse l G sh xs hX (-5) M q13 e14) (cl_X7_62 (hts_of C) ⟨Nat.le_of_ble_eq_true rfl, Nat.le_of_ble_eq_true rfl⟩ rfl rfl) hX.1 rfl rfl rfl rfl rfl (Nat.le_of_ble_eq_true rfl) (dkAt dkX7_fair 27 (q := (51, .invokevirtual 62, 3)) rfl) ⟨Nat.zero_le _, Nat.zero_le _⟩ (pc2 := 54) rfl rfl ?_
          exact k_iret C (dkAt dkX7_fair 28 (q := (54, .ireturn, 1)) rfl) (pe2 (Option.some.inj h)) rfl (pe1 (Option.some.inj h)) rfl
    · refine k_aload_n C (pc2 := 21) (dkAt dkX7_fair 12 (q := (20, .aload_n 0, 1)) rfl) rfl rfl 0 rfl ?_
      refine k_bipush C (pc2 := 23) (dkAt dkX7_fair 13 (q := (21, .bipush (-2), 2)) rfl) rfl (v := (-2)) rfl ?_
      obtain ⟨q15, e16, h⟩ := ob_inv h
      refine kc_V C (As := [.int (-2)]) (st2 := [.int q15.2]) (ct_X7_refuse l G sh xs hX (-2) M q15 e16) (cl_X7_62 (hts_of C) ⟨Nat.le_of_ble_eq_true rfl, Nat.le_of_ble_eq_true rfl⟩ rfl rfl) hX.1 rfl rfl rfl rfl rfl (Nat.le_of_ble_eq_true rfl) (dkAt dkX7_fair 14 (q := (23, .invokevirtual 62, 3)) rfl) ⟨Nat.zero_le _, Nat.zero_le _⟩ (pc2 := 26) rfl rfl ?_
      exact k_iret C (dkAt dkX7_fair 15 (q := (26, .ireturn, 1)) rfl) (pe2 (Option.some.inj h)) rfl (pe1 (Option.some.inj h)) rfl
set_option maxRecDepth 100000 in
set_option maxHeartbeats 4000000 in
theorem kl_X7_worst_L21 {p : Program} {l : Launch} {e : Env} {s : State} {m : MethodId} {args : Array Value} {below : List Frame} {meth : Method} {c : Code} {G : GG} {sh : Sh} {xs : List va_E} {Q : State → Prop} (C : Cx p s m c args meth G RX7 cX7_worst 3 (some .int)) (hX : isX sh) (M : Mm) (y1 : Int32) (hcont : KW p l e rm_X7_worst s m args below meth c G 3 Q sh xs 0 0 M 67 [(1, .int y1)] []) : ∀ (n : Nat) (x1 : Int32) (x2 : Int32), f_X7_worst_L21 M n x1 x2 = some y1 → KW p l e rm_X7_worst s m args below meth c G 3 Q sh xs 0 0 M 21 [(0, rA G 0), (1, .int x1), (2, .int x2)] [] := by
  intro n
  induction n with
  | zero =>
    intro x1 x2 h
    cases h
  | succ n ih =>
    intro x1 x2 h
    unfold f_X7_worst_L21 at h
    refine k_iload_n C (pc2 := 22) (dkAt dkX7_worst 12 (q := (21, .iload_n 2, 1)) rfl) rfl rfl 2 rfl ?_
    refine k_aload_n C (pc2 := 23) (dkAt dkX7_worst 13 (q := (22, .aload_n 0, 1)) rfl) rfl rfl 0 rfl ?_
    refine kf_X7_10 C (pc2 := 26) (o := 0) (o2 := 1) hX.1 rfl (dkAt dkX7_worst 14 (q := (23, .getfield 10, 3)) rfl) rfl ?_
    refine kf_X7_216 C (pc2 := 29) (o := 1) (o2 := 0) hX.2.1.1 (dkAt dkX7_worst 15 (q := (26, .getfield 216, 3)) rfl) rfl ?_
    refine k_icmp_ge C (tgt := 67) (pc2 := 32) (dkAt dkX7_worst 16 (q := (29, .if_icmp .ge 38, 3)) rfl) (by decide) rfl h (fun h => ?_) (fun h => ?_)
    · refine k_lv [1] (lv2 := [(1, .int x1)]) rfl ?_
      cases h
      exact hcont
    · refine k_aload_n C (pc2 := 33) (dkAt dkX7_worst 17 (q := (32, .aload_n 0, 1)) rfl) rfl rfl 0 rfl ?_
      refine kf_X7_10 C (pc2 := 36) (o := 0) (o2 := 1) hX.1 rfl (dkAt dkX7_worst 18 (q := (33, .getfield 10, 3)) rfl) rfl ?_
      refine kf_X7_122 C (pc2 := 39) (o := 1) (o2 := 2) hX.2.1.1 rfl (dkAt dkX7_worst 19 (q := (36, .getfield 122, 3)) rfl) rfl ?_
      refine k_iload_n C (pc2 := 40) (dkAt dkX7_worst 20 (q := (39, .iload_n 2, 1)) rfl) rfl rfl 2 rfl ?_
      refine k_aa11 C (pc2 := 41) (o := 2) (o2 := 3 + x2.toNatClampNeg) (nA := 8) hX.2.1.2.1 rfl (dkAt dkX7_worst 21 (q := (40, .aaload, 1)) rfl) rfl h (fun h hl1 => ?_)
      refine kf_X7_166 C (pc2 := 44) (o := 3 + x2.toNatClampNeg) (o2 := 0) (hX.2.1.2.2 _ hl1) (dkAt dkX7_worst 22 (q := (41, .getfield 166, 3)) rfl) rfl ?_
      refine k_aload_n C (pc2 := 45) (dkAt dkX7_worst 23 (q := (44, .aload_n 0, 1)) rfl) rfl rfl 0 rfl ?_
      refine kf_X7_10 C (pc2 := 48) (o := 0) (o2 := 1) hX.1 rfl (dkAt dkX7_worst 24 (q := (45, .getfield 10, 3)) rfl) rfl ?_
      refine kf_X7_122 C (pc2 := 51) (o := 1) (o2 := 2) hX.2.1.1 rfl (dkAt dkX7_worst 25 (q := (48, .getfield 122, 3)) rfl) rfl ?_
      refine k_iload_n C (pc2 := 52) (dkAt dkX7_worst 26 (q := (51, .iload_n 1, 1)) rfl) rfl rfl 1 rfl ?_
      refine k_aa11 C (pc2 := 53) (o := 2) (o2 := 3 + x1.toNatClampNeg) (nA := 8) hX.2.1.2.1 rfl (dkAt dkX7_worst 27 (q := (52, .aaload, 1)) rfl) rfl h (fun h hl2 => ?_)
      refine kf_X7_166 C (pc2 := 56) (o := 3 + x1.toNatClampNeg) (o2 := 0) (hX.2.1.2.2 _ hl2) (dkAt dkX7_worst 28 (q := (53, .getfield 166, 3)) rfl) rfl ?_
      refine k_icmp_le C (tgt := 61) (pc2 := 59) (dkAt dkX7_worst 29 (q := (56, .if_icmp .le 5, 3)) rfl) (by decide) rfl h (fun h => ?_) (fun h => ?_)
      · refine kb_iinc C (pc2 := 64) (dkAt dkX7_worst 32 (q := (61, .iinc 2 1, 3)) rfl) rfl (j := 2) rfl (v := x2 + 1) rfl (by decide) (lv2 := fun v3 => [(2, .int v3), (0, rA G 0), (1, .int x1)]) (fun _ => rfl) h (fun v3 h => ?_)
        refine k_goto C (tgt := 21) (dkAt dkX7_worst 33 (q := (64, .goto (-43), 3)) rfl) (by decide) ?_
        refine k_lv [1, 2, 0] (lv2 := [(0, rA G 0), (1, .int x1), (2, .int v3)]) rfl ?_
        exact ih x1 v3 h
      · refine k_iload_n C (pc2 := 60) (dkAt dkX7_worst 30 (q := (59, .iload_n 2, 1)) rfl) rfl rfl 2 rfl ?_
        refine k_istore_n C (pc2 := 61) (dkAt dkX7_worst 31 (q := (60, .istore_n 1, 1)) rfl) rfl rfl (by decide) (lv2 := [(1, .int x2), (0, rA G 0), (2, .int x2)]) rfl ?_
        refine kb_iinc C (pc2 := 64) (dkAt dkX7_worst 32 (q := (61, .iinc 2 1, 3)) rfl) rfl (j := 2) rfl (v := x2 + 1) rfl (by decide) (lv2 := fun v4 => [(2, .int v4), (1, .int x2), (0, rA G 0)]) (fun _ => rfl) h (fun v4 h => ?_)
        refine k_goto C (tgt := 21) (dkAt dkX7_worst 33 (q := (64, .goto (-43), 3)) rfl) (by decide) ?_
        refine k_lv [2, 1, 0] (lv2 := [(0, rA G 0), (1, .int x2), (2, .int v4)]) rfl ?_
        exact ih x2 v4 h
set_option maxRecDepth 100000 in
set_option maxHeartbeats 4000000 in
theorem ct_X7_worst (l : Launch) (G : GG) (sh : Sh) (xs : List va_E) (hX : isX sh) (M : Mm) (r : Mm × Int32) (h : f_X7_worst M = some r) : Ct l yX7_worst cX7_worst 3 (some .int) rm_X7_worst G [rA G 0] sh M xs (some (.int r.2)) sh r.1 xs 0 0 := by
  refine ct_of (by decide) (Nat.le_of_ble_eq_true rfl) ?_
  intro p e s m args below meth c hnm C
  refine k_lv [0] (lv2 := [(0, rA G 0)]) rfl ?_
  unfold f_X7_worst at h
  refine k_aload_n C (pc2 := 1) (dkAt dkX7_worst 0 (q := (0, .aload_n 0, 1)) rfl) rfl rfl 0 rfl ?_
  refine kf_X7_10 C (pc2 := 4) (o := 0) (o2 := 1) hX.1 rfl (dkAt dkX7_worst 1 (q := (1, .getfield 10, 3)) rfl) rfl ?_
  refine kf_X7_216 C (pc2 := 7) (o := 1) (o2 := 0) hX.2.1.1 (dkAt dkX7_worst 2 (q := (4, .getfield 216, 3)) rfl) rfl ?_
  refine k_if_ne C (tgt := 17) (pc2 := 10) (dkAt dkX7_worst 3 (q := (7, .ifCond .ne 10, 3)) rfl) (by decide) rfl h (fun h => ?_) (fun h => ?_)
  · refine k_iconst C (pc2 := 18) (dkAt dkX7_worst 8 (q := (17, .iconst 0, 1)) rfl) rfl (v := 0) rfl ?_
    refine k_istore_n C (pc2 := 19) (dkAt dkX7_worst 9 (q := (18, .istore_n 1, 1)) rfl) rfl rfl (by decide) (lv2 := [(1, .int 0), (0, rA G 0)]) rfl ?_
    refine k_iconst C (pc2 := 20) (dkAt dkX7_worst 10 (q := (19, .iconst 1, 1)) rfl) rfl (v := 1) rfl ?_
    refine k_istore_n C (pc2 := 21) (dkAt dkX7_worst 11 (q := (20, .istore_n 2, 1)) rfl) rfl rfl (by decide) (lv2 := [(2, .int 1), (1, .int 0), (0, rA G 0)]) rfl ?_
    refine k_lv [2, 1, 0] (lv2 := [(0, rA G 0), (1, .int 0), (2, .int 1)]) rfl ?_
    obtain ⟨v7, e6, h⟩ := ob_inv h
    refine kl_X7_worst_L21 C hX M v7 ?_ 1000 0 1 e6
    refine k_iload_n C (pc2 := 68) (dkAt dkX7_worst 34 (q := (67, .iload_n 1, 1)) rfl) rfl rfl 0 rfl ?_
    exact k_iret C (dkAt dkX7_worst 35 (q := (68, .ireturn, 1)) rfl) (pe2 (Option.some.inj h)) rfl (pe1 (Option.some.inj h)) rfl
  · refine k_aload_n C (pc2 := 11) (dkAt dkX7_worst 4 (q := (10, .aload_n 0, 1)) rfl) rfl rfl 0 rfl ?_
    refine k_bipush C (pc2 := 13) (dkAt dkX7_worst 5 (q := (11, .bipush (-5), 2)) rfl) rfl (v := (-5)) rfl ?_
    obtain ⟨q8, e9, h⟩ := ob_inv h
    refine kc_V C (As := [.int (-5)]) (st2 := [.int q8.2]) (ct_X7_refuse l G sh xs hX (-5) M q8 e9) (cl_X7_62 (hts_of C) ⟨Nat.le_of_ble_eq_true rfl, Nat.le_of_ble_eq_true rfl⟩ rfl rfl) hX.1 rfl rfl rfl rfl rfl (Nat.le_of_ble_eq_true rfl) (dkAt dkX7_worst 6 (q := (13, .invokevirtual 62, 3)) rfl) ⟨Nat.zero_le _, Nat.zero_le _⟩ (pc2 := 16) rfl rfl ?_
    exact k_iret C (dkAt dkX7_worst 7 (q := (16, .ireturn, 1)) rfl) (pe2 (Option.some.inj h)) rfl (pe1 (Option.some.inj h)) rfl
set_option maxRecDepth 100000 in
set_option maxHeartbeats 4000000 in
theorem kl_X7_drop_L40 {p : Program} {l : Launch} {e : Env} {s : State} {m : MethodId} {args : Array Value} {below : List Frame} {meth : Method} {c : Code} {G : GG} {sh : Sh} {xs : List va_E} {Q : State → Prop} (C : Cx p s m c args meth G RX7 cX7_drop 6 (some .int)) (hX : isX sh) (x1 : Int32) (M : Mm) (y2 : Int32) (y3 : Int32) (hcont : KW p l e rm_X7_drop s m args below meth c G 6 Q sh xs 0 0 M 84 [(1, .int x1), (2, .int y2), (3, .int y3)] []) : ∀ (n : Nat) (x2 : Int32) (x3 : Int32) (x4 : Int32), f_X7_drop_L40 x1 M n x2 x3 x4 = some (y2, y3) → KW p l e rm_X7_drop s m args below meth c G 6 Q sh xs 0 0 M 40 [(0, rA G 0), (1, .int x1), (2, .int x2), (3, .int x3), (4, .int x4)] [] := by
  intro n
  induction n with
  | zero =>
    intro x2 x3 x4 h
    cases h
  | succ n ih =>
    intro x2 x3 x4 h
    unfold f_X7_drop_L40 at h
    refine k_iload C (pc2 := 42) (dkAt dkX7_drop 23 (q := (40, .iload 4, 2)) rfl) rfl 4 rfl ?_
    refine k_aload_n C (pc2 := 43) (dkAt dkX7_drop 24 (q := (42, .aload_n 0, 1)) rfl) rfl rfl 0 rfl ?_
    refine kf_X7_10 C (pc2 := 46) (o := 0) (o2 := 1) hX.1 rfl (dkAt dkX7_drop 25 (q := (43, .getfield 10, 3)) rfl) rfl ?_
    refine kf_X7_216 C (pc2 := 49) (o := 1) (o2 := 0) hX.2.1.1 (dkAt dkX7_drop 26 (q := (46, .getfield 216, 3)) rfl) rfl ?_
    refine k_icmp_ge C (tgt := 84) (pc2 := 52) (dkAt dkX7_drop 27 (q := (49, .if_icmp .ge 35, 3)) rfl) (by decide) rfl h (fun h => ?_) (fun h => ?_)
    · refine k_lv [1, 2, 3] (lv2 := [(1, .int x1), (2, .int x2), (3, .int x3)]) rfl ?_
      cases h
      exact hcont
    · refine k_aload_n C (pc2 := 53) (dkAt dkX7_drop 28 (q := (52, .aload_n 0, 1)) rfl) rfl rfl 0 rfl ?_
      refine kf_X7_10 C (pc2 := 56) (o := 0) (o2 := 1) hX.1 rfl (dkAt dkX7_drop 29 (q := (53, .getfield 10, 3)) rfl) rfl ?_
      refine k_iload C (pc2 := 58) (dkAt dkX7_drop 30 (q := (56, .iload 4, 2)) rfl) rfl 4 rfl ?_
      obtain ⟨q3, e4, h⟩ := ob_inv h
      refine kc_V C (As := [.int x4]) (st2 := [.int q3]) (ct_X1_daysOfAllBut l G sh xs 1 hX.2.1 x4 M q3 e4) (cl_X7_229 (hts_of C) ⟨Nat.le_of_ble_eq_true rfl, Nat.le_of_ble_eq_true rfl⟩ rfl rfl) hX.2.1.1 rfl rfl rfl rfl rfl (Nat.le_of_ble_eq_true rfl) (dkAt dkX7_drop 31 (q := (58, .invokevirtual 229, 3)) rfl) ⟨Nat.zero_le _, Nat.zero_le _⟩ (pc2 := 61) rfl rfl ?_
      obtain ⟨q5, e6, h⟩ := ob_inv h
      refine kc_S C (As := [.int q3]) (st2 := [.int q5]) (ct_J6_bitCount_0f7a4 l G sh xs q3 M q5 e6) (cl_X7_232 (hts_of C) ⟨Nat.le_of_ble_eq_true rfl, Nat.le_of_ble_eq_true rfl⟩ rfl rfl) rfl rfl (Nat.le_of_ble_eq_true rfl) (dkAt dkX7_drop 32 (q := (61, .invokestatic 232, 3)) rfl) ⟨Nat.zero_le _, Nat.zero_le _⟩ (pc2 := 64) rfl rfl ?_
      refine k_istore C (pc2 := 66) (dkAt dkX7_drop 33 (q := (64, .istore 5, 2)) rfl) rfl (by decide) (lv2 := [(5, .int q5), (0, rA G 0), (1, .int x1), (2, .int x2), (3, .int x3), (4, .int x4)]) rfl ?_
      refine k_iload C (pc2 := 68) (dkAt dkX7_drop 34 (q := (66, .iload 5, 2)) rfl) rfl 0 rfl ?_
      refine k_iload_n C (pc2 := 69) (dkAt dkX7_drop 35 (q := (68, .iload_n 3, 1)) rfl) rfl rfl 4 rfl ?_
      refine k_icmp_le C (tgt := 78) (pc2 := 72) (dkAt dkX7_drop 36 (q := (69, .if_icmp .le 9, 3)) rfl) (by decide) rfl h (fun h => ?_) (fun h => ?_)
      · refine kb_iinc C (pc2 := 81) (dkAt dkX7_drop 41 (q := (78, .iinc 4 1, 3)) rfl) rfl (j := 5) rfl (v := x4 + 1) rfl (by decide) (lv2 := fun v7 => [(4, .int v7), (5, .int q5), (0, rA G 0), (1, .int x1), (2, .int x2), (3, .int x3)]) (fun _ => rfl) h (fun v7 h => ?_)
        refine k_goto C (tgt := 40) (dkAt dkX7_drop 42 (q := (81, .goto (-41), 3)) rfl) (by decide) ?_
        refine k_lv [2, 3, 4, 5, 0] (lv2 := [(0, rA G 0), (1, .int x1), (2, .int x2), (3, .int x3), (4, .int v7)]) rfl ?_
        exact ih x2 x3 v7 h
      · refine k_iload C (pc2 := 74) (dkAt dkX7_drop 37 (q := (72, .iload 5, 2)) rfl) rfl 0 rfl ?_
        refine k_istore_n C (pc2 := 75) (dkAt dkX7_drop 38 (q := (74, .istore_n 3, 1)) rfl) rfl rfl (by decide) (lv2 := [(3, .int q5), (5, .int q5), (0, rA G 0), (1, .int x1), (2, .int x2), (4, .int x4)]) rfl ?_
        refine k_iload C (pc2 := 77) (dkAt dkX7_drop 39 (q := (75, .iload 4, 2)) rfl) rfl 5 rfl ?_
        refine k_istore_n C (pc2 := 78) (dkAt dkX7_drop 40 (q := (77, .istore_n 2, 1)) rfl) rfl rfl (by decide) (lv2 := [(2, .int x4), (3, .int q5), (5, .int q5), (0, rA G 0), (1, .int x1), (4, .int x4)]) rfl ?_
        refine kb_iinc C (pc2 := 81) (dkAt dkX7_drop 41 (q := (78, .iinc 4 1, 3)) rfl) rfl (j := 5) rfl (v := x4 + 1) rfl (by decide) (lv2 := fun v8 => [(4, .int v8), (2, .int x4), (3, .int q5), (5, .int q5), (0, rA G 0), (1, .int x1)]) (fun _ => rfl) h (fun v8 h => ?_)
        refine k_goto C (tgt := 40) (dkAt dkX7_drop 42 (q := (81, .goto (-41), 3)) rfl) (by decide) ?_
        refine k_lv [4, 5, 1, 2, 0] (lv2 := [(0, rA G 0), (1, .int x1), (2, .int x4), (3, .int q5), (4, .int v8)]) rfl ?_
        exact ih x4 q5 v8 h
set_option maxRecDepth 100000 in
set_option maxHeartbeats 4000000 in
theorem ct_X7_drop (l : Launch) (G : GG) (sh : Sh) (xs : List va_E) (hX : isX sh) (x1 : Int32) (M : Mm) (r : Mm × Int32) (h : f_X7_drop x1 M = some r) : Ct l yX7_drop cX7_drop 6 (some .int) rm_X7_drop G [rA G 0, .int x1] sh M xs (some (.int r.2)) sh r.1 xs 0 0 := by
  refine ct_of (by decide) (Nat.le_of_ble_eq_true rfl) ?_
  intro p e s m args below meth c hnm C
  refine k_lv [0, 1] (lv2 := [(0, rA G 0), (1, .int x1)]) rfl ?_
  unfold f_X7_drop at h
  refine k_iload_n C (pc2 := 1) (dkAt dkX7_drop 0 (q := (0, .iload_n 1, 1)) rfl) rfl rfl 1 rfl ?_
  refine k_iconst C (pc2 := 2) (dkAt dkX7_drop 1 (q := (1, .iconst 0, 1)) rfl) rfl (v := 0) rfl ?_
  refine k_iconst C (pc2 := 3) (dkAt dkX7_drop 2 (q := (2, .iconst 1, 1)) rfl) rfl (v := 1) rfl ?_
  obtain ⟨q1, e2, h⟩ := ob_inv h
  refine kc_S C (As := [.int x1, .int 0, .int 1]) (st2 := [.int q1]) (ct_X7_within l G sh xs x1 0 1 M q1 e2) (cl_X7_58 (hts_of C) ⟨Nat.le_of_ble_eq_true rfl, Nat.le_of_ble_eq_true rfl⟩ rfl rfl) rfl rfl (Nat.le_of_ble_eq_true rfl) (dkAt dkX7_drop 3 (q := (3, .invokestatic 58, 3)) rfl) ⟨Nat.zero_le _, Nat.zero_le _⟩ (pc2 := 6) rfl rfl ?_
  refine k_if_ne C (tgt := 16) (pc2 := 9) (dkAt dkX7_drop 4 (q := (6, .ifCond .ne 10, 3)) rfl) (by decide) rfl h (fun h => ?_) (fun h => ?_)
  · refine k_aload_n C (pc2 := 17) (dkAt dkX7_drop 9 (q := (16, .aload_n 0, 1)) rfl) rfl rfl 0 rfl ?_
    refine kf_X7_10 C (pc2 := 20) (o := 0) (o2 := 1) hX.1 rfl (dkAt dkX7_drop 10 (q := (17, .getfield 10, 3)) rfl) rfl ?_
    refine kf_X7_216 C (pc2 := 23) (o := 1) (o2 := 0) hX.2.1.1 (dkAt dkX7_drop 11 (q := (20, .getfield 216, 3)) rfl) rfl ?_
    refine k_if_ne C (tgt := 33) (pc2 := 26) (dkAt dkX7_drop 12 (q := (23, .ifCond .ne 10, 3)) rfl) (by decide) rfl h (fun h => ?_) (fun h => ?_)
    · refine k_iconst C (pc2 := 34) (dkAt dkX7_drop 17 (q := (33, .iconst (-1), 1)) rfl) rfl (v := (-1)) rfl ?_
      refine k_istore_n C (pc2 := 35) (dkAt dkX7_drop 18 (q := (34, .istore_n 2, 1)) rfl) rfl rfl (by decide) (lv2 := [(2, .int (-1)), (0, rA G 0), (1, .int x1)]) rfl ?_
      refine k_iconst C (pc2 := 36) (dkAt dkX7_drop 19 (q := (35, .iconst (-1), 1)) rfl) rfl (v := (-1)) rfl ?_
      refine k_istore_n C (pc2 := 37) (dkAt dkX7_drop 20 (q := (36, .istore_n 3, 1)) rfl) rfl rfl (by decide) (lv2 := [(3, .int (-1)), (2, .int (-1)), (0, rA G 0), (1, .int x1)]) rfl ?_
      refine k_iconst C (pc2 := 38) (dkAt dkX7_drop 21 (q := (37, .iconst 0, 1)) rfl) rfl (v := 0) rfl ?_
      refine k_istore C (pc2 := 40) (dkAt dkX7_drop 22 (q := (38, .istore 4, 2)) rfl) rfl (by decide) (lv2 := [(4, .int 0), (3, .int (-1)), (2, .int (-1)), (0, rA G 0), (1, .int x1)]) rfl ?_
      refine k_lv [3, 4, 2, 1, 0] (lv2 := [(0, rA G 0), (1, .int x1), (2, .int (-1)), (3, .int (-1)), (4, .int 0)]) rfl ?_
      obtain ⟨v11, v12, e10, h⟩ := ob2_inv h
      refine kl_X7_drop_L40 C hX x1 M v11 v12 ?_ 1000 (-1) (-1) 0 e10
      refine k_iload_n C (pc2 := 85) (dkAt dkX7_drop 43 (q := (84, .iload_n 1, 1)) rfl) rfl rfl 0 rfl ?_
      refine k_if_ne C (tgt := 92) (pc2 := 88) (dkAt dkX7_drop 44 (q := (85, .ifCond .ne 7, 3)) rfl) (by decide) rfl h (fun h => ?_) (fun h => ?_)
      · refine k_iload_n C (pc2 := 93) (dkAt dkX7_drop 47 (q := (92, .iload_n 3, 1)) rfl) rfl rfl 2 rfl ?_
        exact k_iret C (dkAt dkX7_drop 48 (q := (93, .ireturn, 1)) rfl) (pe2 (Option.some.inj h)) rfl (pe1 (Option.some.inj h)) rfl
      · refine k_iload_n C (pc2 := 89) (dkAt dkX7_drop 45 (q := (88, .iload_n 2, 1)) rfl) rfl rfl 1 rfl ?_
        refine k_goto C (tgt := 93) (dkAt dkX7_drop 46 (q := (89, .goto 4, 3)) rfl) (by decide) ?_
        exact k_iret C (dkAt dkX7_drop 48 (q := (93, .ireturn, 1)) rfl) (pe2 (Option.some.inj h)) rfl (pe1 (Option.some.inj h)) rfl
    · refine k_aload_n C (pc2 := 27) (dkAt dkX7_drop 13 (q := (26, .aload_n 0, 1)) rfl) rfl rfl 0 rfl ?_
      refine k_bipush C (pc2 := 29) (dkAt dkX7_drop 14 (q := (27, .bipush (-5), 2)) rfl) rfl (v := (-5)) rfl ?_
      obtain ⟨q13, e14, h⟩ := ob_inv h
      refine kc_V C (As := [.int (-5)]) (st2 := [.int q13.2]) (ct_X7_refuse l G sh xs hX (-5) M q13 e14) (cl_X7_62 (hts_of C) ⟨Nat.le_of_ble_eq_true rfl, Nat.le_of_ble_eq_true rfl⟩ rfl rfl) hX.1 rfl rfl rfl rfl rfl (Nat.le_of_ble_eq_true rfl) (dkAt dkX7_drop 15 (q := (29, .invokevirtual 62, 3)) rfl) ⟨Nat.zero_le _, Nat.zero_le _⟩ (pc2 := 32) rfl rfl ?_
      exact k_iret C (dkAt dkX7_drop 16 (q := (32, .ireturn, 1)) rfl) (pe2 (Option.some.inj h)) rfl (pe1 (Option.some.inj h)) rfl
  · refine k_aload_n C (pc2 := 10) (dkAt dkX7_drop 5 (q := (9, .aload_n 0, 1)) rfl) rfl rfl 0 rfl ?_
    refine k_bipush C (pc2 := 12) (dkAt dkX7_drop 6 (q := (10, .bipush (-2), 2)) rfl) rfl (v := (-2)) rfl ?_
    obtain ⟨q15, e16, h⟩ := ob_inv h
    refine kc_V C (As := [.int (-2)]) (st2 := [.int q15.2]) (ct_X7_refuse l G sh xs hX (-2) M q15 e16) (cl_X7_62 (hts_of C) ⟨Nat.le_of_ble_eq_true rfl, Nat.le_of_ble_eq_true rfl⟩ rfl rfl) hX.1 rfl rfl rfl rfl rfl (Nat.le_of_ble_eq_true rfl) (dkAt dkX7_drop 7 (q := (12, .invokevirtual 62, 3)) rfl) ⟨Nat.zero_le _, Nat.zero_le _⟩ (pc2 := 15) rfl rfl ?_
    exact k_iret C (dkAt dkX7_drop 8 (q := (15, .ireturn, 1)) rfl) (pe2 (Option.some.inj h)) rfl (pe1 (Option.some.inj h)) rfl
set_option maxRecDepth 100000 in
set_option maxHeartbeats 4000000 in
theorem kl_X7_pairs_L22 {p : Program} {l : Launch} {e : Env} {s : State} {m : MethodId} {args : Array Value} {below : List Frame} {meth : Method} {c : Code} {G : GG} {sh : Sh} {xs : List va_E} {Q : State → Prop} (C : Cx p s m c args meth G RX7 cX7_pairs 6 (some .int)) (hX : isX sh) (x3 : Int32) (M : Mm) (y1 : Int32) (y2 : Int32) (hcont : KW p l e rm_X7_pairs s m args below meth c G 6 Q sh xs 0 0 M 88 [(0, rA G 0), (1, .int y1), (2, .int y2), (3, .int x3)] []) : ∀ (n : Nat) (x1 : Int32) (x2 : Int32) (x4 : Int32), f_X7_pairs_L22 x3 M n x1 x2 x4 = some (y1, y2) → KW p l e rm_X7_pairs s m args below meth c G 6 Q sh xs 0 0 M 22 [(0, rA G 0), (1, .int x1), (2, .int x2), (3, .int x3), (4, .int x4)] [] := by
  intro n
  induction n with
  | zero =>
    intro x1 x2 x4 h
    cases h
  | succ n ih =>
    intro x1 x2 x4 h
    unfold f_X7_pairs_L22 at h
    refine k_iload C (pc2 := 24) (dkAt dkX7_pairs 15 (q := (22, .iload 4, 2)) rfl) rfl 4 rfl ?_
    refine k_aload_n C (pc2 := 25) (dkAt dkX7_pairs 16 (q := (24, .aload_n 0, 1)) rfl) rfl rfl 0 rfl ?_
    refine kf_X7_10 C (pc2 := 28) (o := 0) (o2 := 1) hX.1 rfl (dkAt dkX7_pairs 17 (q := (25, .getfield 10, 3)) rfl) rfl ?_
    refine kf_X7_216 C (pc2 := 31) (o := 1) (o2 := 0) hX.2.1.1 (dkAt dkX7_pairs 18 (q := (28, .getfield 216, 3)) rfl) rfl ?_
    refine k_icmp_ge C (tgt := 88) (pc2 := 34) (dkAt dkX7_pairs 19 (q := (31, .if_icmp .ge 57, 3)) rfl) (by decide) rfl h (fun h => ?_) (fun h => ?_)
    · refine k_lv [0, 1, 2, 3] (lv2 := [(0, rA G 0), (1, .int x1), (2, .int x2), (3, .int x3)]) rfl ?_
      cases h
      exact hcont
    · refine k_aload_n C (pc2 := 35) (dkAt dkX7_pairs 20 (q := (34, .aload_n 0, 1)) rfl) rfl rfl 0 rfl ?_
      refine kf_X7_10 C (pc2 := 38) (o := 0) (o2 := 1) hX.1 rfl (dkAt dkX7_pairs 21 (q := (35, .getfield 10, 3)) rfl) rfl ?_
      refine kf_X7_122 C (pc2 := 41) (o := 1) (o2 := 2) hX.2.1.1 rfl (dkAt dkX7_pairs 22 (q := (38, .getfield 122, 3)) rfl) rfl ?_
      refine k_iload_n C (pc2 := 42) (dkAt dkX7_pairs 23 (q := (41, .iload_n 3, 1)) rfl) rfl rfl 3 rfl ?_
      refine k_aa11 C (pc2 := 43) (o := 2) (o2 := 3 + x3.toNatClampNeg) (nA := 8) hX.2.1.2.1 rfl (dkAt dkX7_pairs 24 (q := (42, .aaload, 1)) rfl) rfl h (fun h hl2 => ?_)
      refine kf_X7_203 C (pc2 := 46) (o := 3 + x3.toNatClampNeg) (o2 := 0) (hX.2.1.2.2 _ hl2) (dkAt dkX7_pairs 25 (q := (43, .getfield 203, 3)) rfl) rfl ?_
      refine k_aload_n C (pc2 := 47) (dkAt dkX7_pairs 26 (q := (46, .aload_n 0, 1)) rfl) rfl rfl 0 rfl ?_
      refine kf_X7_10 C (pc2 := 50) (o := 0) (o2 := 1) hX.1 rfl (dkAt dkX7_pairs 27 (q := (47, .getfield 10, 3)) rfl) rfl ?_
      refine kf_X7_122 C (pc2 := 53) (o := 1) (o2 := 2) hX.2.1.1 rfl (dkAt dkX7_pairs 28 (q := (50, .getfield 122, 3)) rfl) rfl ?_
      refine k_iload C (pc2 := 55) (dkAt dkX7_pairs 29 (q := (53, .iload 4, 2)) rfl) rfl 4 rfl ?_
      refine k_aa11 C (pc2 := 56) (o := 2) (o2 := 3 + x4.toNatClampNeg) (nA := 8) hX.2.1.2.1 rfl (dkAt dkX7_pairs 30 (q := (55, .aaload, 1)) rfl) rfl h (fun h hl3 => ?_)
      refine kf_X7_203 C (pc2 := 59) (o := 3 + x4.toNatClampNeg) (o2 := 0) (hX.2.1.2.2 _ hl3) (dkAt dkX7_pairs 31 (q := (56, .getfield 203, 3)) rfl) rfl ?_
      refine k_iand C (pc2 := 60) (dkAt dkX7_pairs 32 (q := (59, .iand, 1)) rfl) rfl ?_
      obtain ⟨q4, e5, h⟩ := ob_inv h
      refine kc_S C (As := [.int ((M.1 (3 + x3.toNatClampNeg) 3) &&& (M.1 (3 + x4.toNatClampNeg) 3))]) (st2 := [.int q4]) (ct_J6_bitCount_0f7a4 l G sh xs ((M.1 (3 + x3.toNatClampNeg) 3) &&& (M.1 (3 + x4.toNatClampNeg) 3)) M q4 e5) (cl_X7_232 (hts_of C) ⟨Nat.le_of_ble_eq_true rfl, Nat.le_of_ble_eq_true rfl⟩ rfl rfl) rfl rfl (Nat.le_of_ble_eq_true rfl) (dkAt dkX7_pairs 33 (q := (60, .invokestatic 232, 3)) rfl) ⟨Nat.zero_le _, Nat.zero_le _⟩ (pc2 := 63) rfl rfl ?_
      refine k_istore C (pc2 := 65) (dkAt dkX7_pairs 34 (q := (63, .istore 5, 2)) rfl) rfl (by decide) (lv2 := [(5, .int q4), (0, rA G 0), (1, .int x1), (2, .int x2), (3, .int x3), (4, .int x4)]) rfl ?_
      refine k_iload C (pc2 := 67) (dkAt dkX7_pairs 35 (q := (65, .iload 5, 2)) rfl) rfl 0 rfl ?_
      refine k_iload_n C (pc2 := 68) (dkAt dkX7_pairs 36 (q := (67, .iload_n 2, 1)) rfl) rfl rfl 3 rfl ?_
      refine k_icmp_le C (tgt := 82) (pc2 := 71) (dkAt dkX7_pairs 37 (q := (68, .if_icmp .le 14, 3)) rfl) (by decide) rfl h (fun h => ?_) (fun h => ?_)
      · refine kb_iinc C (pc2 := 85) (dkAt dkX7_pairs 46 (q := (82, .iinc 4 1, 3)) rfl) rfl (j := 5) rfl (v := x4 + 1) rfl (by decide) (lv2 := fun v6 => [(4, .int v6), (5, .int q4), (0, rA G 0), (1, .int x1), (2, .int x2), (3, .int x3)]) (fun _ => rfl) h (fun v6 h => ?_)
        refine k_goto C (tgt := 22) (dkAt dkX7_pairs 47 (q := (85, .goto (-63), 3)) rfl) (by decide) ?_
        refine k_lv [2, 3, 4, 5, 0] (lv2 := [(0, rA G 0), (1, .int x1), (2, .int x2), (3, .int x3), (4, .int v6)]) rfl ?_
        exact ih x1 x2 v6 h
      · refine k_iload C (pc2 := 73) (dkAt dkX7_pairs 38 (q := (71, .iload 5, 2)) rfl) rfl 0 rfl ?_
        refine k_istore_n C (pc2 := 74) (dkAt dkX7_pairs 39 (q := (73, .istore_n 2, 1)) rfl) rfl rfl (by decide) (lv2 := [(2, .int q4), (5, .int q4), (0, rA G 0), (1, .int x1), (3, .int x3), (4, .int x4)]) rfl ?_
        refine k_bipush C (pc2 := 76) (dkAt dkX7_pairs 40 (q := (74, .bipush 10, 2)) rfl) rfl (v := 10) rfl ?_
        refine k_iload_n C (pc2 := 77) (dkAt dkX7_pairs 41 (q := (76, .iload_n 3, 1)) rfl) rfl rfl 4 rfl ?_
        refine k_imul C (pc2 := 78) (dkAt dkX7_pairs 42 (q := (77, .imul, 1)) rfl) rfl ?_
        refine k_iload C (pc2 := 80) (dkAt dkX7_pairs 43 (q := (78, .iload 4, 2)) rfl) rfl 5 rfl ?_
        refine k_iadd C (pc2 := 81) (dkAt dkX7_pairs 44 (q := (80, .iadd, 1)) rfl) rfl ?_
        refine kb_istore_n C (pc2 := 82) (dkAt dkX7_pairs 45 (q := (81, .istore_n 1, 1)) rfl) rfl rfl (by decide) (lv2 := fun v7 => [(1, .int v7), (2, .int q4), (5, .int q4), (0, rA G 0), (3, .int x3), (4, .int x4)]) (fun _ => rfl) h (fun v7 h => ?_)
        refine kb_iinc C (pc2 := 85) (dkAt dkX7_pairs 46 (q := (82, .iinc 4 1, 3)) rfl) rfl (j := 5) rfl (v := x4 + 1) rfl (by decide) (lv2 := fun v8 => [(4, .int v8), (1, .int v7), (2, .int q4), (5, .int q4), (0, rA G 0), (3, .int x3)]) (fun _ => rfl) h (fun v8 h => ?_)
        refine k_goto C (tgt := 22) (dkAt dkX7_pairs 47 (q := (85, .goto (-63), 3)) rfl) (by decide) ?_
        refine k_lv [4, 1, 2, 5, 0] (lv2 := [(0, rA G 0), (1, .int v7), (2, .int q4), (3, .int x3), (4, .int v8)]) rfl ?_
        exact ih v7 q4 v8 h
set_option maxRecDepth 100000 in
set_option maxHeartbeats 4000000 in
theorem kl_X7_pairs_L6 {p : Program} {l : Launch} {e : Env} {s : State} {m : MethodId} {args : Array Value} {below : List Frame} {meth : Method} {c : Code} {G : GG} {sh : Sh} {xs : List va_E} {Q : State → Prop} (C : Cx p s m c args meth G RX7 cX7_pairs 6 (some .int)) (hX : isX sh) (M : Mm) (y1 : Int32) (hcont : KW p l e rm_X7_pairs s m args below meth c G 6 Q sh xs 0 0 M 94 [(1, .int y1)] []) : ∀ (n : Nat) (x1 : Int32) (x2 : Int32) (x3 : Int32), f_X7_pairs_L6 M n x1 x2 x3 = some y1 → KW p l e rm_X7_pairs s m args below meth c G 6 Q sh xs 0 0 M 6 [(0, rA G 0), (1, .int x1), (2, .int x2), (3, .int x3)] [] := by
  intro n
  induction n with
  | zero =>
    intro x1 x2 x3 h
    cases h
  | succ n ih =>
    intro x1 x2 x3 h
    unfold f_X7_pairs_L6 at h
    refine k_iload_n C (pc2 := 7) (dkAt dkX7_pairs 6 (q := (6, .iload_n 3, 1)) rfl) rfl rfl 3 rfl ?_
    refine k_aload_n C (pc2 := 8) (dkAt dkX7_pairs 7 (q := (7, .aload_n 0, 1)) rfl) rfl rfl 0 rfl ?_
    refine kf_X7_10 C (pc2 := 11) (o := 0) (o2 := 1) hX.1 rfl (dkAt dkX7_pairs 8 (q := (8, .getfield 10, 3)) rfl) rfl ?_
    refine kf_X7_216 C (pc2 := 14) (o := 1) (o2 := 0) hX.2.1.1 (dkAt dkX7_pairs 9 (q := (11, .getfield 216, 3)) rfl) rfl ?_
    refine k_icmp_ge C (tgt := 94) (pc2 := 17) (dkAt dkX7_pairs 10 (q := (14, .if_icmp .ge 80, 3)) rfl) (by decide) rfl h (fun h => ?_) (fun h => ?_)
    · refine k_lv [1] (lv2 := [(1, .int x1)]) rfl ?_
      cases h
      exact hcont
    · refine k_iload_n C (pc2 := 18) (dkAt dkX7_pairs 11 (q := (17, .iload_n 3, 1)) rfl) rfl rfl 3 rfl ?_
      refine k_iconst C (pc2 := 19) (dkAt dkX7_pairs 12 (q := (18, .iconst 1, 1)) rfl) rfl (v := 1) rfl ?_
      refine k_iadd C (pc2 := 20) (dkAt dkX7_pairs 13 (q := (19, .iadd, 1)) rfl) rfl ?_
      refine kb_istore C (pc2 := 22) (dkAt dkX7_pairs 14 (q := (20, .istore 4, 2)) rfl) rfl (by decide) (lv2 := fun v1 => [(4, .int v1), (0, rA G 0), (1, .int x1), (2, .int x2), (3, .int x3)]) (fun _ => rfl) h (fun v1 h => ?_)
      refine k_lv [1, 2, 3, 4, 0] (lv2 := [(0, rA G 0), (1, .int x1), (2, .int x2), (3, .int x3), (4, .int v1)]) rfl ?_
      obtain ⟨v11, v12, e10, h⟩ := ob2_inv h
      refine kl_X7_pairs_L22 C hX x3 M v11 v12 ?_ 1000 x1 x2 v1 e10
      refine kb_iinc C (pc2 := 91) (dkAt dkX7_pairs 48 (q := (88, .iinc 3 1, 3)) rfl) rfl (j := 3) rfl (v := x3 + 1) rfl (by decide) (lv2 := fun v13 => [(3, .int v13), (0, rA G 0), (1, .int v11), (2, .int v12)]) (fun _ => rfl) h (fun v13 h => ?_)
      refine k_goto C (tgt := 6) (dkAt dkX7_pairs 49 (q := (91, .goto (-85), 3)) rfl) (by decide) ?_
      refine k_lv [1, 2, 3, 0] (lv2 := [(0, rA G 0), (1, .int v11), (2, .int v12), (3, .int v13)]) rfl ?_
      exact ih v11 v12 v13 h
set_option maxRecDepth 100000 in
set_option maxHeartbeats 4000000 in
theorem ct_X7_pairs (l : Launch) (G : GG) (sh : Sh) (xs : List va_E) (hX : isX sh) (M : Mm) (r : Int32) (h : f_X7_pairs M = some r) : Ct l yX7_pairs cX7_pairs 6 (some .int) rm_X7_pairs G [rA G 0] sh M xs (some (.int r)) sh M xs 0 0 := by
  refine ct_of (by decide) (Nat.le_of_ble_eq_true rfl) ?_
  intro p e s m args below meth c hnm C
  refine k_lv [0] (lv2 := [(0, rA G 0)]) rfl ?_
  unfold f_X7_pairs at h
  refine k_iconst C (pc2 := 1) (dkAt dkX7_pairs 0 (q := (0, .iconst (-1), 1)) rfl) rfl (v := (-1)) rfl ?_
  refine k_istore_n C (pc2 := 2) (dkAt dkX7_pairs 1 (q := (1, .istore_n 1, 1)) rfl) rfl rfl (by decide) (lv2 := [(1, .int (-1)), (0, rA G 0)]) rfl ?_
  refine k_iconst C (pc2 := 3) (dkAt dkX7_pairs 2 (q := (2, .iconst (-1), 1)) rfl) rfl (v := (-1)) rfl ?_
  refine k_istore_n C (pc2 := 4) (dkAt dkX7_pairs 3 (q := (3, .istore_n 2, 1)) rfl) rfl rfl (by decide) (lv2 := [(2, .int (-1)), (1, .int (-1)), (0, rA G 0)]) rfl ?_
  refine k_iconst C (pc2 := 5) (dkAt dkX7_pairs 4 (q := (4, .iconst 0, 1)) rfl) rfl (v := 0) rfl ?_
  refine k_istore_n C (pc2 := 6) (dkAt dkX7_pairs 5 (q := (5, .istore_n 3, 1)) rfl) rfl rfl (by decide) (lv2 := [(3, .int 0), (2, .int (-1)), (1, .int (-1)), (0, rA G 0)]) rfl ?_
  refine k_lv [3, 2, 1, 0] (lv2 := [(0, rA G 0), (1, .int (-1)), (2, .int (-1)), (3, .int 0)]) rfl ?_
  obtain ⟨v16, e15, h⟩ := ob_inv h
  refine kl_X7_pairs_L6 C hX M v16 ?_ 1000 (-1) (-1) 0 e15
  refine k_iload_n C (pc2 := 95) (dkAt dkX7_pairs 50 (q := (94, .iload_n 1, 1)) rfl) rfl rfl 0 rfl ?_
  exact k_iret C (dkAt dkX7_pairs 51 (q := (95, .ireturn, 1)) rfl) (Option.some.inj h) rfl rfl rfl
set_option maxRecDepth 100000 in
set_option maxHeartbeats 4000000 in
theorem kl_X7_quiet_L15 {p : Program} {l : Launch} {e : Env} {s : State} {m : MethodId} {args : Array Value} {below : List Frame} {meth : Method} {c : Code} {G : GG} {sh : Sh} {xs : List va_E} {Q : State → Prop} (C : Cx p s m c args meth G RX7 cX7_quiet 3 (some .int)) (hX : isX sh) (M : Mm) (y1 : Int32) (hcont : KW p l e rm_X7_quiet s m args below meth c G 3 Q sh xs 0 0 M 43 [(0, rA G 0), (1, .int y1)] []) : ∀ (n : Nat) (x1 : Int32) (x2 : Int32), f_X7_quiet_L15 M n x1 x2 = some y1 → KW p l e rm_X7_quiet s m args below meth c G 3 Q sh xs 0 0 M 15 [(0, rA G 0), (1, .int x1), (2, .int x2)] [] := by
  intro n
  induction n with
  | zero =>
    intro x1 x2 h
    cases h
  | succ n ih =>
    intro x1 x2 h
    unfold f_X7_quiet_L15 at h
    refine k_iload_n C (pc2 := 16) (dkAt dkX7_quiet 9 (q := (15, .iload_n 2, 1)) rfl) rfl rfl 2 rfl ?_
    refine k_aload_n C (pc2 := 17) (dkAt dkX7_quiet 10 (q := (16, .aload_n 0, 1)) rfl) rfl rfl 0 rfl ?_
    refine kf_X7_10 C (pc2 := 20) (o := 0) (o2 := 1) hX.1 rfl (dkAt dkX7_quiet 11 (q := (17, .getfield 10, 3)) rfl) rfl ?_
    refine kf_X7_216 C (pc2 := 23) (o := 1) (o2 := 0) hX.2.1.1 (dkAt dkX7_quiet 12 (q := (20, .getfield 216, 3)) rfl) rfl ?_
    refine k_icmp_ge C (tgt := 43) (pc2 := 26) (dkAt dkX7_quiet 13 (q := (23, .if_icmp .ge 20, 3)) rfl) (by decide) rfl h (fun h => ?_) (fun h => ?_)
    · refine k_lv [0, 1] (lv2 := [(0, rA G 0), (1, .int x1)]) rfl ?_
      cases h
      exact hcont
    · refine k_iload_n C (pc2 := 27) (dkAt dkX7_quiet 14 (q := (26, .iload_n 1, 1)) rfl) rfl rfl 1 rfl ?_
      refine k_aload_n C (pc2 := 28) (dkAt dkX7_quiet 15 (q := (27, .aload_n 0, 1)) rfl) rfl rfl 0 rfl ?_
      refine kf_X7_22 C (pc2 := 31) (o := 0) (o2 := 21) hX.1 rfl (dkAt dkX7_quiet 16 (q := (28, .getfield 22, 3)) rfl) rfl ?_
      refine k_iload_n C (pc2 := 32) (dkAt dkX7_quiet 17 (q := (31, .iload_n 2, 1)) rfl) rfl rfl 2 rfl ?_
      obtain ⟨q3, e4, h⟩ := ob_inv h
      refine kc_V C (As := [.int x2]) (st2 := [.int q3, .int x1]) (ct_X6_daysWithYes l G sh xs 21 hX.2.2.2.1 x2 M q3 e4) (cl_X7_220 (hts_of C) ⟨Nat.le_of_ble_eq_true rfl, Nat.le_of_ble_eq_true rfl⟩ rfl rfl) hX.2.2.2.1.1 rfl rfl rfl rfl rfl (Nat.le_of_ble_eq_true rfl) (dkAt dkX7_quiet 18 (q := (32, .invokevirtual 220, 3)) rfl) ⟨Nat.zero_le _, Nat.zero_le _⟩ (pc2 := 35) rfl rfl ?_
      refine k_ior C (pc2 := 36) (dkAt dkX7_quiet 19 (q := (35, .ior, 1)) rfl) rfl ?_
      refine kb_istore_n C (pc2 := 37) (dkAt dkX7_quiet 20 (q := (36, .istore_n 1, 1)) rfl) rfl rfl (by decide) (lv2 := fun v5 => [(1, .int v5), (0, rA G 0), (2, .int x2)]) (fun _ => rfl) h (fun v5 h => ?_)
      refine kb_iinc C (pc2 := 40) (dkAt dkX7_quiet 21 (q := (37, .iinc 2 1, 3)) rfl) rfl (j := 2) rfl (v := x2 + 1) rfl (by decide) (lv2 := fun v6 => [(2, .int v6), (1, .int v5), (0, rA G 0)]) (fun _ => rfl) h (fun v6 h => ?_)
      refine k_goto C (tgt := 15) (dkAt dkX7_quiet 22 (q := (40, .goto (-25), 3)) rfl) (by decide) ?_
      refine k_lv [2, 1, 0] (lv2 := [(0, rA G 0), (1, .int v5), (2, .int v6)]) rfl ?_
      exact ih v5 v6 h
set_option maxRecDepth 100000 in
set_option maxHeartbeats 4000000 in
theorem ct_X7_quiet (l : Launch) (G : GG) (sh : Sh) (xs : List va_E) (hX : isX sh) (M : Mm) (r : Mm × Int32) (h : f_X7_quiet M = some r) : Ct l yX7_quiet cX7_quiet 3 (some .int) rm_X7_quiet G [rA G 0] sh M xs (some (.int r.2)) sh r.1 xs 0 0 := by
  refine ct_of (by decide) (Nat.le_of_ble_eq_true rfl) ?_
  intro p e s m args below meth c hnm C
  refine k_lv [0] (lv2 := [(0, rA G 0)]) rfl ?_
  unfold f_X7_quiet at h
  refine k_aload_n C (pc2 := 1) (dkAt dkX7_quiet 0 (q := (0, .aload_n 0, 1)) rfl) rfl rfl 0 rfl ?_
  refine kf_X7_22 C (pc2 := 4) (o := 0) (o2 := 21) hX.1 rfl (dkAt dkX7_quiet 1 (q := (1, .getfield 22, 3)) rfl) rfl ?_
  refine k_aload_n C (pc2 := 5) (dkAt dkX7_quiet 2 (q := (4, .aload_n 0, 1)) rfl) rfl rfl 0 rfl ?_
  refine kf_X7_10 C (pc2 := 8) (o := 0) (o2 := 1) hX.1 rfl (dkAt dkX7_quiet 3 (q := (5, .getfield 10, 3)) rfl) rfl ?_
  obtain ⟨q1, e2, h⟩ := ob_inv h
  refine kc_V C (As := [rA G 1]) (st2 := []) (ct_X6_reckon l G sh xs 21 hX.2.2.2.1 1 hX.2.1 M q1 e2) (cl_X7_206 (hts_of C) ⟨Nat.le_of_ble_eq_true rfl, Nat.le_of_ble_eq_true rfl⟩ rfl rfl) hX.2.2.2.1.1 rfl rfl rfl rfl rfl (Nat.le_of_ble_eq_true rfl) (dkAt dkX7_quiet 4 (q := (8, .invokevirtual 206, 3)) rfl) ⟨Nat.zero_le _, Nat.zero_le _⟩ (pc2 := 11) rfl rfl ?_
  refine k_iconst C (pc2 := 12) (dkAt dkX7_quiet 5 (q := (11, .iconst 0, 1)) rfl) rfl (v := 0) rfl ?_
  refine k_istore_n C (pc2 := 13) (dkAt dkX7_quiet 6 (q := (12, .istore_n 1, 1)) rfl) rfl rfl (by decide) (lv2 := [(1, .int 0), (0, rA G 0)]) rfl ?_
  refine k_iconst C (pc2 := 14) (dkAt dkX7_quiet 7 (q := (13, .iconst 0, 1)) rfl) rfl (v := 0) rfl ?_
  refine k_istore_n C (pc2 := 15) (dkAt dkX7_quiet 8 (q := (14, .istore_n 2, 1)) rfl) rfl rfl (by decide) (lv2 := [(2, .int 0), (1, .int 0), (0, rA G 0)]) rfl ?_
  refine k_lv [2, 1, 0] (lv2 := [(0, rA G 0), (1, .int 0), (2, .int 0)]) rfl ?_
  obtain ⟨v9, e8, h⟩ := ob_inv h
  refine kl_X7_quiet_L15 C hX q1 v9 ?_ 1000 0 0 e8
  refine k_aload_n C (pc2 := 44) (dkAt dkX7_quiet 23 (q := (43, .aload_n 0, 1)) rfl) rfl rfl 0 rfl ?_
  refine kf_X7_10 C (pc2 := 47) (o := 0) (o2 := 1) hX.1 rfl (dkAt dkX7_quiet 24 (q := (44, .getfield 10, 3)) rfl) rfl ?_
  obtain ⟨q10, e11, h⟩ := ob_inv h
  refine kc_V C (As := []) (st2 := [.int q10]) (ct_X1_allDays l G sh xs 1 hX.2.1 q1 q10 e11) (cl_X7_279 (hts_of C) ⟨Nat.le_of_ble_eq_true rfl, Nat.le_of_ble_eq_true rfl⟩ rfl rfl) hX.2.1.1 rfl rfl rfl rfl rfl (Nat.le_of_ble_eq_true rfl) (dkAt dkX7_quiet 25 (q := (47, .invokevirtual 279, 3)) rfl) ⟨Nat.zero_le _, Nat.zero_le _⟩ (pc2 := 50) rfl rfl ?_
  refine k_iload_n C (pc2 := 51) (dkAt dkX7_quiet 26 (q := (50, .iload_n 1, 1)) rfl) rfl rfl 1 rfl ?_
  refine k_iconst C (pc2 := 52) (dkAt dkX7_quiet 27 (q := (51, .iconst (-1), 1)) rfl) rfl (v := (-1)) rfl ?_
  refine k_ixor C (pc2 := 53) (dkAt dkX7_quiet 28 (q := (52, .ixor, 1)) rfl) rfl ?_
  refine k_iand C (pc2 := 54) (dkAt dkX7_quiet 29 (q := (53, .iand, 1)) rfl) rfl ?_
  exact k_iret C (dkAt dkX7_quiet 30 (q := (54, .ireturn, 1)) rfl) (pe2 (Option.some.inj h)) rfl (pe1 (Option.some.inj h)) rfl
set_option maxRecDepth 100000 in
set_option maxHeartbeats 4000000 in
theorem ct_X7_agree (l : Launch) (G : GG) (sh : Sh) (xs : List va_E) (hX : isX sh) (x1 : Int32) (x2 : Int32) (M : Mm) (r : Mm × Int32) (h : f_X7_agree x1 x2 M = some r) : Ct l yX7_agree cX7_agree 3 (some .int) rm_X7_agree G [rA G 0, .int x1, .int x2] sh M xs (some (.int r.2)) sh r.1 xs 0 0 := by
  refine ct_of (by decide) (Nat.le_of_ble_eq_true rfl) ?_
  intro p e s m args below meth c hnm C
  refine k_lv [0, 1, 2] (lv2 := [(0, rA G 0), (1, .int x1), (2, .int x2)]) rfl ?_
  unfold f_X7_agree at h
  refine k_aload_n C (pc2 := 1) (dkAt dkX7_agree 0 (q := (0, .aload_n 0, 1)) rfl) rfl rfl 0 rfl ?_
  refine kf_X7_10 C (pc2 := 4) (o := 0) (o2 := 1) hX.1 rfl (dkAt dkX7_agree 1 (q := (1, .getfield 10, 3)) rfl) rfl ?_
  refine k_iload_n C (pc2 := 5) (dkAt dkX7_agree 2 (q := (4, .iload_n 1, 1)) rfl) rfl rfl 1 rfl ?_
  obtain ⟨q1, e2, h⟩ := ob_inv h
  refine kc_V C (As := [.int x1]) (st2 := [.int q1]) (ct_X1_hasPerson l G sh xs 1 hX.2.1 x1 M q1 e2) (cl_X7_105 (hts_of C) ⟨Nat.le_of_ble_eq_true rfl, Nat.le_of_ble_eq_true rfl⟩ rfl rfl) hX.2.1.1 rfl rfl rfl rfl rfl (Nat.le_of_ble_eq_true rfl) (dkAt dkX7_agree 3 (q := (5, .invokevirtual 105, 3)) rfl) ⟨Nat.zero_le _, Nat.zero_le _⟩ (pc2 := 8) rfl rfl ?_
  refine k_if_eq C (tgt := 27) (pc2 := 11) (dkAt dkX7_agree 4 (q := (8, .ifCond .eq 19, 3)) rfl) (by decide) rfl h (fun h => ?_) (fun h => ?_)
  · refine k_aload_n C (pc2 := 28) (dkAt dkX7_agree 13 (q := (27, .aload_n 0, 1)) rfl) rfl rfl 0 rfl ?_
    refine k_bipush C (pc2 := 30) (dkAt dkX7_agree 14 (q := (28, .bipush (-2), 2)) rfl) rfl (v := (-2)) rfl ?_
    obtain ⟨q3, e4, h⟩ := ob_inv h
    refine kc_V C (As := [.int (-2)]) (st2 := [.int q3.2]) (ct_X7_refuse l G sh xs hX (-2) M q3 e4) (cl_X7_62 (hts_of C) ⟨Nat.le_of_ble_eq_true rfl, Nat.le_of_ble_eq_true rfl⟩ rfl rfl) hX.1 rfl rfl rfl rfl rfl (Nat.le_of_ble_eq_true rfl) (dkAt dkX7_agree 15 (q := (30, .invokevirtual 62, 3)) rfl) ⟨Nat.zero_le _, Nat.zero_le _⟩ (pc2 := 33) rfl rfl ?_
    exact k_iret C (dkAt dkX7_agree 16 (q := (33, .ireturn, 1)) rfl) (pe2 (Option.some.inj h)) rfl (pe1 (Option.some.inj h)) rfl
  · refine k_aload_n C (pc2 := 12) (dkAt dkX7_agree 5 (q := (11, .aload_n 0, 1)) rfl) rfl rfl 0 rfl ?_
    refine kf_X7_10 C (pc2 := 15) (o := 0) (o2 := 1) hX.1 rfl (dkAt dkX7_agree 6 (q := (12, .getfield 10, 3)) rfl) rfl ?_
    refine k_iload_n C (pc2 := 16) (dkAt dkX7_agree 7 (q := (15, .iload_n 2, 1)) rfl) rfl rfl 2 rfl ?_
    obtain ⟨q5, e6, h⟩ := ob_inv h
    refine kc_V C (As := [.int x2]) (st2 := [.int q5]) (ct_X1_hasPerson l G sh xs 1 hX.2.1 x2 M q5 e6) (cl_X7_105 (hts_of C) ⟨Nat.le_of_ble_eq_true rfl, Nat.le_of_ble_eq_true rfl⟩ rfl rfl) hX.2.1.1 rfl rfl rfl rfl rfl (Nat.le_of_ble_eq_true rfl) (dkAt dkX7_agree 8 (q := (16, .invokevirtual 105, 3)) rfl) ⟨Nat.zero_le _, Nat.zero_le _⟩ (pc2 := 19) rfl rfl ?_
    refine k_if_eq C (tgt := 27) (pc2 := 22) (dkAt dkX7_agree 9 (q := (19, .ifCond .eq 8, 3)) rfl) (by decide) rfl h (fun h => ?_) (fun h => ?_)
    · refine k_aload_n C (pc2 := 28) (dkAt dkX7_agree 13 (q := (27, .aload_n 0, 1)) rfl) rfl rfl 0 rfl ?_
      refine k_bipush C (pc2 := 30) (dkAt dkX7_agree 14 (q := (28, .bipush (-2), 2)) rfl) rfl (v := (-2)) rfl ?_
      obtain ⟨q7, e8, h⟩ := ob_inv h
      refine kc_V C (As := [.int (-2)]) (st2 := [.int q7.2]) (ct_X7_refuse l G sh xs hX (-2) M q7 e8) (cl_X7_62 (hts_of C) ⟨Nat.le_of_ble_eq_true rfl, Nat.le_of_ble_eq_true rfl⟩ rfl rfl) hX.1 rfl rfl rfl rfl rfl (Nat.le_of_ble_eq_true rfl) (dkAt dkX7_agree 15 (q := (30, .invokevirtual 62, 3)) rfl) ⟨Nat.zero_le _, Nat.zero_le _⟩ (pc2 := 33) rfl rfl ?_
      exact k_iret C (dkAt dkX7_agree 16 (q := (33, .ireturn, 1)) rfl) (pe2 (Option.some.inj h)) rfl (pe1 (Option.some.inj h)) rfl
    · refine k_iload_n C (pc2 := 23) (dkAt dkX7_agree 10 (q := (22, .iload_n 1, 1)) rfl) rfl rfl 1 rfl ?_
      refine k_iload_n C (pc2 := 24) (dkAt dkX7_agree 11 (q := (23, .iload_n 2, 1)) rfl) rfl rfl 2 rfl ?_
      refine k_icmp_ne C (tgt := 34) (pc2 := 27) (dkAt dkX7_agree 12 (q := (24, .if_icmp .ne 10, 3)) rfl) (by decide) rfl h (fun h => ?_) (fun h => ?_)
      · refine k_aload_n C (pc2 := 35) (dkAt dkX7_agree 17 (q := (34, .aload_n 0, 1)) rfl) rfl rfl 0 rfl ?_
        refine kf_X7_22 C (pc2 := 38) (o := 0) (o2 := 21) hX.1 rfl (dkAt dkX7_agree 18 (q := (35, .getfield 22, 3)) rfl) rfl ?_
        refine k_aload_n C (pc2 := 39) (dkAt dkX7_agree 19 (q := (38, .aload_n 0, 1)) rfl) rfl rfl 0 rfl ?_
        refine kf_X7_10 C (pc2 := 42) (o := 0) (o2 := 1) hX.1 rfl (dkAt dkX7_agree 20 (q := (39, .getfield 10, 3)) rfl) rfl ?_
        obtain ⟨q9, e10, h⟩ := ob_inv h
        refine kc_V C (As := [rA G 1]) (st2 := []) (ct_X6_reckon l G sh xs 21 hX.2.2.2.1 1 hX.2.1 M q9 e10) (cl_X7_206 (hts_of C) ⟨Nat.le_of_ble_eq_true rfl, Nat.le_of_ble_eq_true rfl⟩ rfl rfl) hX.2.2.2.1.1 rfl rfl rfl rfl rfl (Nat.le_of_ble_eq_true rfl) (dkAt dkX7_agree 21 (q := (42, .invokevirtual 206, 3)) rfl) ⟨Nat.zero_le _, Nat.zero_le _⟩ (pc2 := 45) rfl rfl ?_
        refine k_aload_n C (pc2 := 46) (dkAt dkX7_agree 22 (q := (45, .aload_n 0, 1)) rfl) rfl rfl 0 rfl ?_
        refine kf_X7_22 C (pc2 := 49) (o := 0) (o2 := 21) hX.1 rfl (dkAt dkX7_agree 23 (q := (46, .getfield 22, 3)) rfl) rfl ?_
        refine k_iload_n C (pc2 := 50) (dkAt dkX7_agree 24 (q := (49, .iload_n 1, 1)) rfl) rfl rfl 1 rfl ?_
        obtain ⟨q11, e12, h⟩ := ob_inv h
        refine kc_V C (As := [.int x1]) (st2 := [.int q11]) (ct_X6_daysWithYes l G sh xs 21 hX.2.2.2.1 x1 q9 q11 e12) (cl_X7_220 (hts_of C) ⟨Nat.le_of_ble_eq_true rfl, Nat.le_of_ble_eq_true rfl⟩ rfl rfl) hX.2.2.2.1.1 rfl rfl rfl rfl rfl (Nat.le_of_ble_eq_true rfl) (dkAt dkX7_agree 25 (q := (50, .invokevirtual 220, 3)) rfl) ⟨Nat.zero_le _, Nat.zero_le _⟩ (pc2 := 53) rfl rfl ?_
        refine k_aload_n C (pc2 := 54) (dkAt dkX7_agree 26 (q := (53, .aload_n 0, 1)) rfl) rfl rfl 0 rfl ?_
        refine kf_X7_22 C (pc2 := 57) (o := 0) (o2 := 21) hX.1 rfl (dkAt dkX7_agree 27 (q := (54, .getfield 22, 3)) rfl) rfl ?_
        refine k_iload_n C (pc2 := 58) (dkAt dkX7_agree 28 (q := (57, .iload_n 2, 1)) rfl) rfl rfl 2 rfl ?_
        obtain ⟨q13, e14, h⟩ := ob_inv h
        refine kc_V C (As := [.int x2]) (st2 := [.int q13, .int q11]) (ct_X6_daysWithYes l G sh xs 21 hX.2.2.2.1 x2 q9 q13 e14) (cl_X7_220 (hts_of C) ⟨Nat.le_of_ble_eq_true rfl, Nat.le_of_ble_eq_true rfl⟩ rfl rfl) hX.2.2.2.1.1 rfl rfl rfl rfl rfl (Nat.le_of_ble_eq_true rfl) (dkAt dkX7_agree 29 (q := (58, .invokevirtual 220, 3)) rfl) ⟨Nat.zero_le _, Nat.zero_le _⟩ (pc2 := 61) rfl rfl ?_
        refine k_iand C (pc2 := 62) (dkAt dkX7_agree 30 (q := (61, .iand, 1)) rfl) rfl ?_
        exact k_iret C (dkAt dkX7_agree 31 (q := (62, .ireturn, 1)) rfl) (pe2 (Option.some.inj h)) rfl (pe1 (Option.some.inj h)) rfl
      · refine k_aload_n C (pc2 := 28) (dkAt dkX7_agree 13 (q := (27, .aload_n 0, 1)) rfl) rfl rfl 0 rfl ?_
        refine k_bipush C (pc2 := 30) (dkAt dkX7_agree 14 (q := (28, .bipush (-2), 2)) rfl) rfl (v := (-2)) rfl ?_
        obtain ⟨q15, e16, h⟩ := ob_inv h
        refine kc_V C (As := [.int (-2)]) (st2 := [.int q15.2]) (ct_X7_refuse l G sh xs hX (-2) M q15 e16) (cl_X7_62 (hts_of C) ⟨Nat.le_of_ble_eq_true rfl, Nat.le_of_ble_eq_true rfl⟩ rfl rfl) hX.1 rfl rfl rfl rfl rfl (Nat.le_of_ble_eq_true rfl) (dkAt dkX7_agree 15 (q := (30, .invokevirtual 62, 3)) rfl) ⟨Nat.zero_le _, Nat.zero_le _⟩ (pc2 := 33) rfl rfl ?_
        exact k_iret C (dkAt dkX7_agree 16 (q := (33, .ireturn, 1)) rfl) (pe2 (Option.some.inj h)) rfl (pe1 (Option.some.inj h)) rfl
set_option maxRecDepth 100000 in
set_option maxHeartbeats 4000000 in
theorem kl_X7_votes_L43 {p : Program} {l : Launch} {e : Env} {s : State} {m : MethodId} {args : Array Value} {below : List Frame} {meth : Method} {c : Code} {G : GG} {sh : Sh} {xs : List va_E} {Q : State → Prop} (C : Cx p s m c args meth G RX7 cX7_votes 5 (some .int)) (hX : isX sh) (x1 : Int32) (x2 : Int32) (M : Mm) (y3 : Int32) (hcont : KW p l e rm_X7_votes s m args below meth c G 5 Q sh xs 0 0 M 80 [(3, .int y3)] []) : ∀ (n : Nat) (x3 : Int32) (x4 : Int32), f_X7_votes_L43 x1 x2 M n x3 x4 = some y3 → KW p l e rm_X7_votes s m args below meth c G 5 Q sh xs 0 0 M 43 [(0, rA G 0), (1, .int x1), (2, .int x2), (3, .int x3), (4, .int x4)] [] := by
  intro n
  induction n with
  | zero =>
    intro x3 x4 h
    cases h
  | succ n ih =>
    intro x3 x4 h
    unfold f_X7_votes_L43 at h
    refine k_iload C (pc2 := 45) (dkAt dkX7_votes 23 (q := (43, .iload 4, 2)) rfl) rfl 4 rfl ?_
    refine k_aload_n C (pc2 := 46) (dkAt dkX7_votes 24 (q := (45, .aload_n 0, 1)) rfl) rfl rfl 0 rfl ?_
    refine kf_X7_10 C (pc2 := 49) (o := 0) (o2 := 1) hX.1 rfl (dkAt dkX7_votes 25 (q := (46, .getfield 10, 3)) rfl) rfl ?_
    refine kf_X7_216 C (pc2 := 52) (o := 1) (o2 := 0) hX.2.1.1 (dkAt dkX7_votes 26 (q := (49, .getfield 216, 3)) rfl) rfl ?_
    refine k_icmp_ge C (tgt := 80) (pc2 := 55) (dkAt dkX7_votes 27 (q := (52, .if_icmp .ge 28, 3)) rfl) (by decide) rfl h (fun h => ?_) (fun h => ?_)
    · refine k_lv [3] (lv2 := [(3, .int x3)]) rfl ?_
      cases h
      exact hcont
    · refine k_aload_n C (pc2 := 56) (dkAt dkX7_votes 28 (q := (55, .aload_n 0, 1)) rfl) rfl rfl 0 rfl ?_
      refine kf_X7_22 C (pc2 := 59) (o := 0) (o2 := 21) hX.1 rfl (dkAt dkX7_votes 29 (q := (56, .getfield 22, 3)) rfl) rfl ?_
      refine kf_X7_209 C (pc2 := 62) (o := 21) (o2 := 22) hX.2.2.2.1.1 rfl (dkAt dkX7_votes 30 (q := (59, .getfield 209, 3)) rfl) rfl ?_
      refine k_iload C (pc2 := 64) (dkAt dkX7_votes 31 (q := (62, .iload 4, 2)) rfl) rfl 4 rfl ?_
      refine k_aa13 C (pc2 := 65) (o := 22) (o2 := 23 + x4.toNatClampNeg) (nA := 8) hX.2.2.2.1.2.1 rfl (dkAt dkX7_votes 32 (q := (64, .aaload, 1)) rfl) rfl h (fun h hl9 => ?_)
      refine k_iload_n C (pc2 := 66) (dkAt dkX7_votes 33 (q := (65, .iload_n 1, 1)) rfl) rfl rfl 1 rfl ?_
      refine k_iald C (pc2 := 67) (o := 23 + x4.toNatClampNeg) (nA := 14) (hX.2.2.2.1.2.2.1 _ hl9) (dkAt dkX7_votes 34 (q := (66, .iaload, 1)) rfl) rfl h (fun h => ?_)
      refine k_iload_n C (pc2 := 68) (dkAt dkX7_votes 35 (q := (67, .iload_n 2, 1)) rfl) rfl rfl 2 rfl ?_
      refine k_icmp_ne C (tgt := 74) (pc2 := 71) (dkAt dkX7_votes 36 (q := (68, .if_icmp .ne 6, 3)) rfl) (by decide) rfl h (fun h => ?_) (fun h => ?_)
      · refine kb_iinc C (pc2 := 77) (dkAt dkX7_votes 38 (q := (74, .iinc 4 1, 3)) rfl) rfl (j := 4) rfl (v := x4 + 1) rfl (by decide) (lv2 := fun v10 => [(4, .int v10), (0, rA G 0), (1, .int x1), (2, .int x2), (3, .int x3)]) (fun _ => rfl) h (fun v10 h => ?_)
        refine k_goto C (tgt := 43) (dkAt dkX7_votes 39 (q := (77, .goto (-34), 3)) rfl) (by decide) ?_
        refine k_lv [1, 2, 3, 4, 0] (lv2 := [(0, rA G 0), (1, .int x1), (2, .int x2), (3, .int x3), (4, .int v10)]) rfl ?_
        exact ih x3 v10 h
      · refine kb_iinc C (pc2 := 74) (dkAt dkX7_votes 37 (q := (71, .iinc 3 1, 3)) rfl) rfl (j := 3) rfl (v := x3 + 1) rfl (by decide) (lv2 := fun v11 => [(3, .int v11), (0, rA G 0), (1, .int x1), (2, .int x2), (4, .int x4)]) (fun _ => rfl) h (fun v11 h => ?_)
        refine kb_iinc C (pc2 := 77) (dkAt dkX7_votes 38 (q := (74, .iinc 4 1, 3)) rfl) rfl (j := 4) rfl (v := x4 + 1) rfl (by decide) (lv2 := fun v12 => [(4, .int v12), (3, .int v11), (0, rA G 0), (1, .int x1), (2, .int x2)]) (fun _ => rfl) h (fun v12 h => ?_)
        refine k_goto C (tgt := 43) (dkAt dkX7_votes 39 (q := (77, .goto (-34), 3)) rfl) (by decide) ?_
        refine k_lv [2, 3, 4, 1, 0] (lv2 := [(0, rA G 0), (1, .int x1), (2, .int x2), (3, .int v11), (4, .int v12)]) rfl ?_
        exact ih v11 v12 h
set_option maxRecDepth 100000 in
set_option maxHeartbeats 4000000 in
theorem ct_X7_votes (l : Launch) (G : GG) (sh : Sh) (xs : List va_E) (hX : isX sh) (x1 : Int32) (x2 : Int32) (M : Mm) (r : Mm × Int32) (h : f_X7_votes x1 x2 M = some r) : Ct l yX7_votes cX7_votes 5 (some .int) rm_X7_votes G [rA G 0, .int x1, .int x2] sh M xs (some (.int r.2)) sh r.1 xs 0 0 := by
  refine ct_of (by decide) (Nat.le_of_ble_eq_true rfl) ?_
  intro p e s m args below meth c hnm C
  refine k_lv [0, 1, 2] (lv2 := [(0, rA G 0), (1, .int x1), (2, .int x2)]) rfl ?_
  unfold f_X7_votes at h
  refine k_aload_n C (pc2 := 1) (dkAt dkX7_votes 0 (q := (0, .aload_n 0, 1)) rfl) rfl rfl 0 rfl ?_
  refine kf_X7_10 C (pc2 := 4) (o := 0) (o2 := 1) hX.1 rfl (dkAt dkX7_votes 1 (q := (1, .getfield 10, 3)) rfl) rfl ?_
  refine k_iload_n C (pc2 := 5) (dkAt dkX7_votes 2 (q := (4, .iload_n 1, 1)) rfl) rfl rfl 1 rfl ?_
  obtain ⟨q1, e2, h⟩ := ob_inv h
  refine kc_V C (As := [.int x1]) (st2 := [.int q1]) (ct_X1_hasDay l G sh xs 1 hX.2.1 x1 M q1 e2) (cl_X7_147 (hts_of C) ⟨Nat.le_of_ble_eq_true rfl, Nat.le_of_ble_eq_true rfl⟩ rfl rfl) hX.2.1.1 rfl rfl rfl rfl rfl (Nat.le_of_ble_eq_true rfl) (dkAt dkX7_votes 3 (q := (5, .invokevirtual 147, 3)) rfl) ⟨Nat.zero_le _, Nat.zero_le _⟩ (pc2 := 8) rfl rfl ?_
  refine k_if_eq C (tgt := 20) (pc2 := 11) (dkAt dkX7_votes 4 (q := (8, .ifCond .eq 12, 3)) rfl) (by decide) rfl h (fun h => ?_) (fun h => ?_)
  · refine k_aload_n C (pc2 := 21) (dkAt dkX7_votes 10 (q := (20, .aload_n 0, 1)) rfl) rfl rfl 0 rfl ?_
    refine k_bipush C (pc2 := 23) (dkAt dkX7_votes 11 (q := (21, .bipush (-2), 2)) rfl) rfl (v := (-2)) rfl ?_
    obtain ⟨q3, e4, h⟩ := ob_inv h
    refine kc_V C (As := [.int (-2)]) (st2 := [.int q3.2]) (ct_X7_refuse l G sh xs hX (-2) M q3 e4) (cl_X7_62 (hts_of C) ⟨Nat.le_of_ble_eq_true rfl, Nat.le_of_ble_eq_true rfl⟩ rfl rfl) hX.1 rfl rfl rfl rfl rfl (Nat.le_of_ble_eq_true rfl) (dkAt dkX7_votes 12 (q := (23, .invokevirtual 62, 3)) rfl) ⟨Nat.zero_le _, Nat.zero_le _⟩ (pc2 := 26) rfl rfl ?_
    exact k_iret C (dkAt dkX7_votes 13 (q := (26, .ireturn, 1)) rfl) (pe2 (Option.some.inj h)) rfl (pe1 (Option.some.inj h)) rfl
  · refine k_iload_n C (pc2 := 12) (dkAt dkX7_votes 5 (q := (11, .iload_n 2, 1)) rfl) rfl rfl 2 rfl ?_
    refine k_iconst C (pc2 := 13) (dkAt dkX7_votes 6 (q := (12, .iconst 0, 1)) rfl) rfl (v := 0) rfl ?_
    refine k_iconst C (pc2 := 14) (dkAt dkX7_votes 7 (q := (13, .iconst 2, 1)) rfl) rfl (v := 2) rfl ?_
    obtain ⟨q5, e6, h⟩ := ob_inv h
    refine kc_S C (As := [.int x2, .int 0, .int 2]) (st2 := [.int q5]) (ct_X7_within l G sh xs x2 0 2 M q5 e6) (cl_X7_58 (hts_of C) ⟨Nat.le_of_ble_eq_true rfl, Nat.le_of_ble_eq_true rfl⟩ rfl rfl) rfl rfl (Nat.le_of_ble_eq_true rfl) (dkAt dkX7_votes 8 (q := (14, .invokestatic 58, 3)) rfl) ⟨Nat.zero_le _, Nat.zero_le _⟩ (pc2 := 17) rfl rfl ?_
    refine k_if_ne C (tgt := 27) (pc2 := 20) (dkAt dkX7_votes 9 (q := (17, .ifCond .ne 10, 3)) rfl) (by decide) rfl h (fun h => ?_) (fun h => ?_)
    · refine k_aload_n C (pc2 := 28) (dkAt dkX7_votes 14 (q := (27, .aload_n 0, 1)) rfl) rfl rfl 0 rfl ?_
      refine kf_X7_22 C (pc2 := 31) (o := 0) (o2 := 21) hX.1 rfl (dkAt dkX7_votes 15 (q := (28, .getfield 22, 3)) rfl) rfl ?_
      refine k_aload_n C (pc2 := 32) (dkAt dkX7_votes 16 (q := (31, .aload_n 0, 1)) rfl) rfl rfl 0 rfl ?_
      refine kf_X7_10 C (pc2 := 35) (o := 0) (o2 := 1) hX.1 rfl (dkAt dkX7_votes 17 (q := (32, .getfield 10, 3)) rfl) rfl ?_
      obtain ⟨q7, e8, h⟩ := ob_inv h
      refine kc_V C (As := [rA G 1]) (st2 := []) (ct_X6_reckon l G sh xs 21 hX.2.2.2.1 1 hX.2.1 M q7 e8) (cl_X7_206 (hts_of C) ⟨Nat.le_of_ble_eq_true rfl, Nat.le_of_ble_eq_true rfl⟩ rfl rfl) hX.2.2.2.1.1 rfl rfl rfl rfl rfl (Nat.le_of_ble_eq_true rfl) (dkAt dkX7_votes 18 (q := (35, .invokevirtual 206, 3)) rfl) ⟨Nat.zero_le _, Nat.zero_le _⟩ (pc2 := 38) rfl rfl ?_
      refine k_iconst C (pc2 := 39) (dkAt dkX7_votes 19 (q := (38, .iconst 0, 1)) rfl) rfl (v := 0) rfl ?_
      refine k_istore_n C (pc2 := 40) (dkAt dkX7_votes 20 (q := (39, .istore_n 3, 1)) rfl) rfl rfl (by decide) (lv2 := [(3, .int 0), (0, rA G 0), (1, .int x1), (2, .int x2)]) rfl ?_
      refine k_iconst C (pc2 := 41) (dkAt dkX7_votes 21 (q := (40, .iconst 0, 1)) rfl) rfl (v := 0) rfl ?_
      refine k_istore C (pc2 := 43) (dkAt dkX7_votes 22 (q := (41, .istore 4, 2)) rfl) rfl (by decide) (lv2 := [(4, .int 0), (3, .int 0), (0, rA G 0), (1, .int x1), (2, .int x2)]) rfl ?_
      refine k_lv [2, 3, 4, 1, 0] (lv2 := [(0, rA G 0), (1, .int x1), (2, .int x2), (3, .int 0), (4, .int 0)]) rfl ?_
      obtain ⟨v15, e14, h⟩ := ob_inv h
      refine kl_X7_votes_L43 C hX x1 x2 q7 v15 ?_ 1000 0 0 e14
      refine k_iload_n C (pc2 := 81) (dkAt dkX7_votes 40 (q := (80, .iload_n 3, 1)) rfl) rfl rfl 0 rfl ?_
      exact k_iret C (dkAt dkX7_votes 41 (q := (81, .ireturn, 1)) rfl) (pe2 (Option.some.inj h)) rfl (pe1 (Option.some.inj h)) rfl
    · refine k_aload_n C (pc2 := 21) (dkAt dkX7_votes 10 (q := (20, .aload_n 0, 1)) rfl) rfl rfl 0 rfl ?_
      refine k_bipush C (pc2 := 23) (dkAt dkX7_votes 11 (q := (21, .bipush (-2), 2)) rfl) rfl (v := (-2)) rfl ?_
      obtain ⟨q16, e17, h⟩ := ob_inv h
      refine kc_V C (As := [.int (-2)]) (st2 := [.int q16.2]) (ct_X7_refuse l G sh xs hX (-2) M q16 e17) (cl_X7_62 (hts_of C) ⟨Nat.le_of_ble_eq_true rfl, Nat.le_of_ble_eq_true rfl⟩ rfl rfl) hX.1 rfl rfl rfl rfl rfl (Nat.le_of_ble_eq_true rfl) (dkAt dkX7_votes 12 (q := (23, .invokevirtual 62, 3)) rfl) ⟨Nat.zero_le _, Nat.zero_le _⟩ (pc2 := 26) rfl rfl ?_
      exact k_iret C (dkAt dkX7_votes 13 (q := (26, .ireturn, 1)) rfl) (pe2 (Option.some.inj h)) rfl (pe1 (Option.some.inj h)) rfl
set_option maxRecDepth 100000 in
set_option maxHeartbeats 4000000 in
theorem ct_X7_order (l : Launch) (G : GG) (sh : Sh) (xs : List va_E) (hX : isX sh) (x1 : Int32) (M : Mm) (r : Mm × Int32) (h : f_X7_order x1 M = some r) : Ct l yX7_order cX7_order 2 (some .int) rm_X7_order G [rA G 0, .int x1] sh M xs (some (.int r.2)) sh r.1 xs 0 0 := by
  refine ct_of (by decide) (Nat.le_of_ble_eq_true rfl) ?_
  intro p e s m args below meth c hnm C
  refine k_lv [0, 1] (lv2 := [(0, rA G 0), (1, .int x1)]) rfl ?_
  unfold f_X7_order at h
  refine k_aload_n C (pc2 := 1) (dkAt dkX7_order 0 (q := (0, .aload_n 0, 1)) rfl) rfl rfl 0 rfl ?_
  refine kf_X7_10 C (pc2 := 4) (o := 0) (o2 := 1) hX.1 rfl (dkAt dkX7_order 1 (q := (1, .getfield 10, 3)) rfl) rfl ?_
  refine k_iload_n C (pc2 := 5) (dkAt dkX7_order 2 (q := (4, .iload_n 1, 1)) rfl) rfl rfl 1 rfl ?_
  obtain ⟨q1, e2, h⟩ := ob_inv h
  refine kc_V C (As := [.int x1]) (st2 := [.int q1]) (ct_X1_hasDay l G sh xs 1 hX.2.1 x1 M q1 e2) (cl_X7_147 (hts_of C) ⟨Nat.le_of_ble_eq_true rfl, Nat.le_of_ble_eq_true rfl⟩ rfl rfl) hX.2.1.1 rfl rfl rfl rfl rfl (Nat.le_of_ble_eq_true rfl) (dkAt dkX7_order 3 (q := (5, .invokevirtual 147, 3)) rfl) ⟨Nat.zero_le _, Nat.zero_le _⟩ (pc2 := 8) rfl rfl ?_
  refine k_if_ne C (tgt := 18) (pc2 := 11) (dkAt dkX7_order 4 (q := (8, .ifCond .ne 10, 3)) rfl) (by decide) rfl h (fun h => ?_) (fun h => ?_)
  · refine k_aload_n C (pc2 := 19) (dkAt dkX7_order 9 (q := (18, .aload_n 0, 1)) rfl) rfl rfl 0 rfl ?_
    refine kf_X7_22 C (pc2 := 22) (o := 0) (o2 := 21) hX.1 rfl (dkAt dkX7_order 10 (q := (19, .getfield 22, 3)) rfl) rfl ?_
    refine k_aload_n C (pc2 := 23) (dkAt dkX7_order 11 (q := (22, .aload_n 0, 1)) rfl) rfl rfl 0 rfl ?_
    refine kf_X7_10 C (pc2 := 26) (o := 0) (o2 := 1) hX.1 rfl (dkAt dkX7_order 12 (q := (23, .getfield 10, 3)) rfl) rfl ?_
    obtain ⟨q3, e4, h⟩ := ob_inv h
    refine kc_V C (As := [rA G 1]) (st2 := []) (ct_X6_reckon l G sh xs 21 hX.2.2.2.1 1 hX.2.1 M q3 e4) (cl_X7_206 (hts_of C) ⟨Nat.le_of_ble_eq_true rfl, Nat.le_of_ble_eq_true rfl⟩ rfl rfl) hX.2.2.2.1.1 rfl rfl rfl rfl rfl (Nat.le_of_ble_eq_true rfl) (dkAt dkX7_order 13 (q := (26, .invokevirtual 206, 3)) rfl) ⟨Nat.zero_le _, Nat.zero_le _⟩ (pc2 := 29) rfl rfl ?_
    refine k_aload_n C (pc2 := 30) (dkAt dkX7_order 14 (q := (29, .aload_n 0, 1)) rfl) rfl rfl 0 rfl ?_
    refine kf_X7_22 C (pc2 := 33) (o := 0) (o2 := 21) hX.1 rfl (dkAt dkX7_order 15 (q := (30, .getfield 22, 3)) rfl) rfl ?_
    refine k_iload_n C (pc2 := 34) (dkAt dkX7_order 16 (q := (33, .iload_n 1, 1)) rfl) rfl rfl 1 rfl ?_
    obtain ⟨q5, e6, h⟩ := ob_inv h
    refine kc_V C (As := [.int x1]) (st2 := [.int q5]) (ct_X6_dayAtPlace l G sh xs 21 hX.2.2.2.1 x1 q3 q5 e6) (cl_X7_282 (hts_of C) ⟨Nat.le_of_ble_eq_true rfl, Nat.le_of_ble_eq_true rfl⟩ rfl rfl) hX.2.2.2.1.1 rfl rfl rfl rfl rfl (Nat.le_of_ble_eq_true rfl) (dkAt dkX7_order 17 (q := (34, .invokevirtual 282, 3)) rfl) ⟨Nat.zero_le _, Nat.zero_le _⟩ (pc2 := 37) rfl rfl ?_
    exact k_iret C (dkAt dkX7_order 18 (q := (37, .ireturn, 1)) rfl) (pe2 (Option.some.inj h)) rfl (pe1 (Option.some.inj h)) rfl
  · refine k_aload_n C (pc2 := 12) (dkAt dkX7_order 5 (q := (11, .aload_n 0, 1)) rfl) rfl rfl 0 rfl ?_
    refine k_bipush C (pc2 := 14) (dkAt dkX7_order 6 (q := (12, .bipush (-2), 2)) rfl) rfl (v := (-2)) rfl ?_
    obtain ⟨q7, e8, h⟩ := ob_inv h
    refine kc_V C (As := [.int (-2)]) (st2 := [.int q7.2]) (ct_X7_refuse l G sh xs hX (-2) M q7 e8) (cl_X7_62 (hts_of C) ⟨Nat.le_of_ble_eq_true rfl, Nat.le_of_ble_eq_true rfl⟩ rfl rfl) hX.1 rfl rfl rfl rfl rfl (Nat.le_of_ble_eq_true rfl) (dkAt dkX7_order 7 (q := (14, .invokevirtual 62, 3)) rfl) ⟨Nat.zero_le _, Nat.zero_le _⟩ (pc2 := 17) rfl rfl ?_
    exact k_iret C (dkAt dkX7_order 8 (q := (17, .ireturn, 1)) rfl) (pe2 (Option.some.inj h)) rfl (pe1 (Option.some.inj h)) rfl
set_option maxRecDepth 100000 in
set_option maxHeartbeats 4000000 in
theorem ct_X7_without (l : Launch) (G : GG) (sh : Sh) (xs : List va_E) (hX : isX sh) (x1 : Int32) (M : Mm) (r : Mm × Int32) (h : f_X7_without x1 M = some r) : Ct l yX7_without cX7_without 2 (some .int) rm_X7_without G [rA G 0, .int x1] sh M xs (some (.int r.2)) sh r.1 xs 0 0 := by
  refine ct_of (by decide) (Nat.le_of_ble_eq_true rfl) ?_
  intro p e s m args below meth c hnm C
  refine k_lv [0, 1] (lv2 := [(0, rA G 0), (1, .int x1)]) rfl ?_
  unfold f_X7_without at h
  refine k_aload_n C (pc2 := 1) (dkAt dkX7_without 0 (q := (0, .aload_n 0, 1)) rfl) rfl rfl 0 rfl ?_
  refine kf_X7_10 C (pc2 := 4) (o := 0) (o2 := 1) hX.1 rfl (dkAt dkX7_without 1 (q := (1, .getfield 10, 3)) rfl) rfl ?_
  refine k_iload_n C (pc2 := 5) (dkAt dkX7_without 2 (q := (4, .iload_n 1, 1)) rfl) rfl rfl 1 rfl ?_
  obtain ⟨q1, e2, h⟩ := ob_inv h
  refine kc_V C (As := [.int x1]) (st2 := [.int q1]) (ct_X1_hasPerson l G sh xs 1 hX.2.1 x1 M q1 e2) (cl_X7_105 (hts_of C) ⟨Nat.le_of_ble_eq_true rfl, Nat.le_of_ble_eq_true rfl⟩ rfl rfl) hX.2.1.1 rfl rfl rfl rfl rfl (Nat.le_of_ble_eq_true rfl) (dkAt dkX7_without 3 (q := (5, .invokevirtual 105, 3)) rfl) ⟨Nat.zero_le _, Nat.zero_le _⟩ (pc2 := 8) rfl rfl ?_
  refine k_if_ne C (tgt := 18) (pc2 := 11) (dkAt dkX7_without 4 (q := (8, .ifCond .ne 10, 3)) rfl) (by decide) rfl h (fun h => ?_) (fun h => ?_)
  · refine k_aload_n C (pc2 := 19) (dkAt dkX7_without 9 (q := (18, .aload_n 0, 1)) rfl) rfl rfl 0 rfl ?_
    refine kf_X7_22 C (pc2 := 22) (o := 0) (o2 := 21) hX.1 rfl (dkAt dkX7_without 10 (q := (19, .getfield 22, 3)) rfl) rfl ?_
    refine k_aload_n C (pc2 := 23) (dkAt dkX7_without 11 (q := (22, .aload_n 0, 1)) rfl) rfl rfl 0 rfl ?_
    refine kf_X7_10 C (pc2 := 26) (o := 0) (o2 := 1) hX.1 rfl (dkAt dkX7_without 12 (q := (23, .getfield 10, 3)) rfl) rfl ?_
    obtain ⟨q3, e4, h⟩ := ob_inv h
    refine kc_V C (As := [rA G 1]) (st2 := []) (ct_X6_reckon l G sh xs 21 hX.2.2.2.1 1 hX.2.1 M q3 e4) (cl_X7_206 (hts_of C) ⟨Nat.le_of_ble_eq_true rfl, Nat.le_of_ble_eq_true rfl⟩ rfl rfl) hX.2.2.2.1.1 rfl rfl rfl rfl rfl (Nat.le_of_ble_eq_true rfl) (dkAt dkX7_without 13 (q := (26, .invokevirtual 206, 3)) rfl) ⟨Nat.zero_le _, Nat.zero_le _⟩ (pc2 := 29) rfl rfl ?_
    refine k_aload_n C (pc2 := 30) (dkAt dkX7_without 14 (q := (29, .aload_n 0, 1)) rfl) rfl rfl 0 rfl ?_
    refine kf_X7_22 C (pc2 := 33) (o := 0) (o2 := 21) hX.1 rfl (dkAt dkX7_without 15 (q := (30, .getfield 22, 3)) rfl) rfl ?_
    refine k_iload_n C (pc2 := 34) (dkAt dkX7_without 16 (q := (33, .iload_n 1, 1)) rfl) rfl rfl 1 rfl ?_
    obtain ⟨q5, e6, h⟩ := ob_inv h
    refine kc_V C (As := [.int x1]) (st2 := []) (ct_X6_leaveOut l G sh xs 21 hX.2.2.2.1 x1 q3 q5 e6) (cl_X7_285 (hts_of C) ⟨Nat.le_of_ble_eq_true rfl, Nat.le_of_ble_eq_true rfl⟩ rfl rfl) hX.2.2.2.1.1 rfl rfl rfl rfl rfl (Nat.le_of_ble_eq_true rfl) (dkAt dkX7_without 17 (q := (34, .invokevirtual 285, 3)) rfl) ⟨Nat.zero_le _, Nat.zero_le _⟩ (pc2 := 37) rfl rfl ?_
    refine k_aload_n C (pc2 := 38) (dkAt dkX7_without 18 (q := (37, .aload_n 0, 1)) rfl) rfl rfl 0 rfl ?_
    refine kf_X7_22 C (pc2 := 41) (o := 0) (o2 := 21) hX.1 rfl (dkAt dkX7_without 19 (q := (38, .getfield 22, 3)) rfl) rfl ?_
    obtain ⟨q7, e8, h⟩ := ob_inv h
    refine kc_V C (As := []) (st2 := [.int q7]) (ct_X6_bestOfAll l G sh xs 21 hX.2.2.2.1 q5 q7 e8) (cl_X7_217 (hts_of C) ⟨Nat.le_of_ble_eq_true rfl, Nat.le_of_ble_eq_true rfl⟩ rfl rfl) hX.2.2.2.1.1 rfl rfl rfl rfl rfl (Nat.le_of_ble_eq_true rfl) (dkAt dkX7_without 20 (q := (41, .invokevirtual 217, 3)) rfl) ⟨Nat.zero_le _, Nat.zero_le _⟩ (pc2 := 44) rfl rfl ?_
    exact k_iret C (dkAt dkX7_without 21 (q := (44, .ireturn, 1)) rfl) (pe2 (Option.some.inj h)) rfl (pe1 (Option.some.inj h)) rfl
  · refine k_aload_n C (pc2 := 12) (dkAt dkX7_without 5 (q := (11, .aload_n 0, 1)) rfl) rfl rfl 0 rfl ?_
    refine k_bipush C (pc2 := 14) (dkAt dkX7_without 6 (q := (12, .bipush (-2), 2)) rfl) rfl (v := (-2)) rfl ?_
    obtain ⟨q9, e10, h⟩ := ob_inv h
    refine kc_V C (As := [.int (-2)]) (st2 := [.int q9.2]) (ct_X7_refuse l G sh xs hX (-2) M q9 e10) (cl_X7_62 (hts_of C) ⟨Nat.le_of_ble_eq_true rfl, Nat.le_of_ble_eq_true rfl⟩ rfl rfl) hX.1 rfl rfl rfl rfl rfl (Nat.le_of_ble_eq_true rfl) (dkAt dkX7_without 7 (q := (14, .invokevirtual 62, 3)) rfl) ⟨Nat.zero_le _, Nat.zero_le _⟩ (pc2 := 17) rfl rfl ?_
    exact k_iret C (dkAt dkX7_without 8 (q := (17, .ireturn, 1)) rfl) (pe2 (Option.some.inj h)) rfl (pe1 (Option.some.inj h)) rfl
set_option maxRecDepth 100000 in
set_option maxHeartbeats 4000000 in
theorem kl_X7_until_L40 {p : Program} {l : Launch} {e : Env} {s : State} {m : MethodId} {args : Array Value} {below : List Frame} {meth : Method} {c : Code} {G : GG} {sh : Sh} {xs : List va_E} (C : Cx p s m c args meth G RX7 cX7_until 5 (some .int)) (hX : isX sh) (x2 : Int32) (M : Mm) (r : Mm × Int32) (t : (Unit) ⊕ (Mm × Int32)) (hcont : t = Sum.inl () → KW p l e rm_X7_until s m args below meth c G 5 (MQ below (QO G (some (.int r.2)) sh r.1 xs) args s 0 0 (gA G)) sh xs 0 0 M 70 [] []) (hres : ∀ z, t = Sum.inr z → z = r) : ∀ (n : Nat) (x3 : Int32) (x4 : Int32), f_X7_until_L40 x2 M n x3 x4 = some t → KW p l e rm_X7_until s m args below meth c G 5 (MQ below (QO G (some (.int r.2)) sh r.1 xs) args s 0 0 (gA G)) sh xs 0 0 M 40 [(0, rA G 0), (2, .int x2), (3, .int x3), (4, .int x4)] [] := by
  intro n
  induction n with
  | zero =>
    intro x3 x4 h
    cases h
  | succ n ih =>
    intro x3 x4 h
    unfold f_X7_until_L40 at h
    refine k_iload C (pc2 := 42) (dkAt dkX7_until 21 (q := (40, .iload 4, 2)) rfl) rfl 3 rfl ?_
    refine k_bipush C (pc2 := 44) (dkAt dkX7_until 22 (q := (42, .bipush 99, 2)) rfl) rfl (v := 99) rfl ?_
    refine k_icmp_gt C (tgt := 70) (pc2 := 47) (dkAt dkX7_until 23 (q := (44, .if_icmp .gt 26, 3)) rfl) (by decide) rfl h (fun h => ?_) (fun h => ?_)
    · refine k_lv [] (lv2 := []) rfl ?_
      exact hcont (Option.some.inj h).symm
    · refine k_iload_n C (pc2 := 48) (dkAt dkX7_until 24 (q := (47, .iload_n 3, 1)) rfl) rfl rfl 2 rfl ?_
      refine k_iload_n C (pc2 := 49) (dkAt dkX7_until 25 (q := (48, .iload_n 2, 1)) rfl) rfl rfl 1 rfl ?_
      refine k_icmp_ge C (tgt := 55) (pc2 := 52) (dkAt dkX7_until 26 (q := (49, .if_icmp .ge 6, 3)) rfl) (by decide) rfl h (fun h => ?_) (fun h => ?_)
      · refine k_aload_n C (pc2 := 56) (dkAt dkX7_until 29 (q := (55, .aload_n 0, 1)) rfl) rfl rfl 0 rfl ?_
        refine kf_X7_10 C (pc2 := 59) (o := 0) (o2 := 1) hX.1 rfl (dkAt dkX7_until 30 (q := (56, .getfield 10, 3)) rfl) rfl ?_
        refine k_iload_n C (pc2 := 60) (dkAt dkX7_until 31 (q := (59, .iload_n 3, 1)) rfl) rfl rfl 2 rfl ?_
        obtain ⟨q9, e10, h⟩ := ob_inv h
        refine kc_V C (As := [.int x3]) (st2 := [.int q9]) (ct_X1_oddsNextDay l G sh xs 1 hX.2.1 x3 M q9 e10) (cl_X7_254 (hts_of C) ⟨Nat.le_of_ble_eq_true rfl, Nat.le_of_ble_eq_true rfl⟩ rfl rfl) hX.2.1.1 rfl rfl rfl rfl rfl (Nat.le_of_ble_eq_true rfl) (dkAt dkX7_until 32 (q := (60, .invokevirtual 254, 3)) rfl) ⟨Nat.zero_le _, Nat.zero_le _⟩ (pc2 := 63) rfl rfl ?_
        refine k_istore_n C (pc2 := 64) (dkAt dkX7_until 33 (q := (63, .istore_n 3, 1)) rfl) rfl rfl (by decide) (lv2 := [(3, .int q9), (0, rA G 0), (2, .int x2), (4, .int x4)]) rfl ?_
        refine kb_iinc C (pc2 := 67) (dkAt dkX7_until 34 (q := (64, .iinc 4 1, 3)) rfl) rfl (j := 3) rfl (v := x4 + 1) rfl (by decide) (lv2 := fun v11 => [(4, .int v11), (3, .int q9), (0, rA G 0), (2, .int x2)]) (fun _ => rfl) h (fun v11 h => ?_)
        refine k_goto C (tgt := 40) (dkAt dkX7_until 35 (q := (67, .goto (-27), 3)) rfl) (by decide) ?_
        refine k_lv [2, 3, 1, 0] (lv2 := [(0, rA G 0), (2, .int x2), (3, .int q9), (4, .int v11)]) rfl ?_
        exact ih q9 v11 h
      · refine k_iload C (pc2 := 54) (dkAt dkX7_until 27 (q := (52, .iload 4, 2)) rfl) rfl 3 rfl ?_
        exact k_iret C (dkAt dkX7_until 28 (q := (54, .ireturn, 1)) rfl) (pe2 (hres _ (Option.some.inj h).symm)) rfl (pe1 (hres _ (Option.some.inj h).symm)) rfl
set_option maxRecDepth 100000 in
set_option maxHeartbeats 4000000 in
theorem ct_X7_until (l : Launch) (G : GG) (sh : Sh) (xs : List va_E) (hX : isX sh) (x1 : Int32) (x2 : Int32) (M : Mm) (r : Mm × Int32) (h : f_X7_until x1 x2 M = some r) : Ct l yX7_until cX7_until 5 (some .int) rm_X7_until G [rA G 0, .int x1, .int x2] sh M xs (some (.int r.2)) sh r.1 xs 0 0 := by
  refine ct_of (by decide) (Nat.le_of_ble_eq_true rfl) ?_
  intro p e s m args below meth c hnm C
  refine k_lv [0, 1, 2] (lv2 := [(0, rA G 0), (1, .int x1), (2, .int x2)]) rfl ?_
  unfold f_X7_until at h
  refine k_aload_n C (pc2 := 1) (dkAt dkX7_until 0 (q := (0, .aload_n 0, 1)) rfl) rfl rfl 0 rfl ?_
  refine kf_X7_10 C (pc2 := 4) (o := 0) (o2 := 1) hX.1 rfl (dkAt dkX7_until 1 (q := (1, .getfield 10, 3)) rfl) rfl ?_
  refine k_iload_n C (pc2 := 5) (dkAt dkX7_until 2 (q := (4, .iload_n 1, 1)) rfl) rfl rfl 1 rfl ?_
  obtain ⟨q1, e2, h⟩ := ob_inv h
  refine kc_V C (As := [.int x1]) (st2 := [.int q1]) (ct_X1_hasDay l G sh xs 1 hX.2.1 x1 M q1 e2) (cl_X7_147 (hts_of C) ⟨Nat.le_of_ble_eq_true rfl, Nat.le_of_ble_eq_true rfl⟩ rfl rfl) hX.2.1.1 rfl rfl rfl rfl rfl (Nat.le_of_ble_eq_true rfl) (dkAt dkX7_until 3 (q := (5, .invokevirtual 147, 3)) rfl) ⟨Nat.zero_le _, Nat.zero_le _⟩ (pc2 := 8) rfl rfl ?_
  refine k_if_eq C (tgt := 21) (pc2 := 11) (dkAt dkX7_until 4 (q := (8, .ifCond .eq 13, 3)) rfl) (by decide) rfl h (fun h => ?_) (fun h => ?_)
  · refine k_aload_n C (pc2 := 22) (dkAt dkX7_until 10 (q := (21, .aload_n 0, 1)) rfl) rfl rfl 0 rfl ?_
    refine k_bipush C (pc2 := 24) (dkAt dkX7_until 11 (q := (22, .bipush (-2), 2)) rfl) rfl (v := (-2)) rfl ?_
    obtain ⟨q3, e4, h⟩ := ob_inv h
    refine kc_V C (As := [.int (-2)]) (st2 := [.int q3.2]) (ct_X7_refuse l G sh xs hX (-2) M q3 e4) (cl_X7_62 (hts_of C) ⟨Nat.le_of_ble_eq_true rfl, Nat.le_of_ble_eq_true rfl⟩ rfl rfl) hX.1 rfl rfl rfl rfl rfl (Nat.le_of_ble_eq_true rfl) (dkAt dkX7_until 12 (q := (24, .invokevirtual 62, 3)) rfl) ⟨Nat.zero_le _, Nat.zero_le _⟩ (pc2 := 27) rfl rfl ?_
    exact k_iret C (dkAt dkX7_until 13 (q := (27, .ireturn, 1)) rfl) (pe2 (Option.some.inj h)) rfl (pe1 (Option.some.inj h)) rfl
  · refine k_iload_n C (pc2 := 12) (dkAt dkX7_until 5 (q := (11, .iload_n 2, 1)) rfl) rfl rfl 2 rfl ?_
    refine k_iconst C (pc2 := 13) (dkAt dkX7_until 6 (q := (12, .iconst 0, 1)) rfl) rfl (v := 0) rfl ?_
    refine k_ldc C (pc2 := 15) (dkAt dkX7_until 7 (q := (13, .ldc 244, 2)) rfl) rfl (v := 1000000) tK_X7_244 ?_
    obtain ⟨q5, e6, h⟩ := ob_inv h
    refine kc_S C (As := [.int x2, .int 0, .int 1000000]) (st2 := [.int q5]) (ct_X7_within l G sh xs x2 0 1000000 M q5 e6) (cl_X7_58 (hts_of C) ⟨Nat.le_of_ble_eq_true rfl, Nat.le_of_ble_eq_true rfl⟩ rfl rfl) rfl rfl (Nat.le_of_ble_eq_true rfl) (dkAt dkX7_until 8 (q := (15, .invokestatic 58, 3)) rfl) ⟨Nat.zero_le _, Nat.zero_le _⟩ (pc2 := 18) rfl rfl ?_
    refine k_if_ne C (tgt := 28) (pc2 := 21) (dkAt dkX7_until 9 (q := (18, .ifCond .ne 10, 3)) rfl) (by decide) rfl h (fun h => ?_) (fun h => ?_)
    · refine k_aload_n C (pc2 := 29) (dkAt dkX7_until 14 (q := (28, .aload_n 0, 1)) rfl) rfl rfl 0 rfl ?_
      refine kf_X7_10 C (pc2 := 32) (o := 0) (o2 := 1) hX.1 rfl (dkAt dkX7_until 15 (q := (29, .getfield 10, 3)) rfl) rfl ?_
      refine k_iload_n C (pc2 := 33) (dkAt dkX7_until 16 (q := (32, .iload_n 1, 1)) rfl) rfl rfl 1 rfl ?_
      obtain ⟨q7, e8, h⟩ := ob_inv h
      refine kc_V C (As := [.int x1]) (st2 := [.int q7]) (ct_X1_oddsToday l G sh xs 1 hX.2.1 x1 M q7 e8) (cl_X7_251 (hts_of C) ⟨Nat.le_of_ble_eq_true rfl, Nat.le_of_ble_eq_true rfl⟩ rfl rfl) hX.2.1.1 rfl rfl rfl rfl rfl (Nat.le_of_ble_eq_true rfl) (dkAt dkX7_until 17 (q := (33, .invokevirtual 251, 3)) rfl) ⟨Nat.zero_le _, Nat.zero_le _⟩ (pc2 := 36) rfl rfl ?_
      refine k_istore_n C (pc2 := 37) (dkAt dkX7_until 18 (q := (36, .istore_n 3, 1)) rfl) rfl rfl (by decide) (lv2 := [(3, .int q7), (0, rA G 0), (1, .int x1), (2, .int x2)]) rfl ?_
      refine k_iconst C (pc2 := 38) (dkAt dkX7_until 19 (q := (37, .iconst 0, 1)) rfl) rfl (v := 0) rfl ?_
      refine k_istore C (pc2 := 40) (dkAt dkX7_until 20 (q := (38, .istore 4, 2)) rfl) rfl (by decide) (lv2 := [(4, .int 0), (3, .int q7), (0, rA G 0), (1, .int x1), (2, .int x2)]) rfl ?_
      refine k_lv [2, 4, 1, 0] (lv2 := [(0, rA G 0), (2, .int x2), (3, .int q7), (4, .int 0)]) rfl ?_
      obtain ⟨t12, e13, hA, hB⟩ := obS_inv h
      refine kl_X7_until_L40 C hX x2 M r t12 ?_ ?_ 1000 q7 0 e13
      · intro et
        have h := hA _ et
        refine k_iconst C (pc2 := 71) (dkAt dkX7_until 36 (q := (70, .iconst (-1), 1)) rfl) rfl (v := (-1)) rfl ?_
        exact k_iret C (dkAt dkX7_until 37 (q := (71, .ireturn, 1)) rfl) (pe2 (Option.some.inj h)) rfl (pe1 (Option.some.inj h)) rfl
      · intro z et
        have h := hB _ et
        exact Option.some.inj h
    · refine k_aload_n C (pc2 := 22) (dkAt dkX7_until 10 (q := (21, .aload_n 0, 1)) rfl) rfl rfl 0 rfl ?_
      refine k_bipush C (pc2 := 24) (dkAt dkX7_until 11 (q := (22, .bipush (-2), 2)) rfl) rfl (v := (-2)) rfl ?_
      obtain ⟨q14, e15, h⟩ := ob_inv h
      refine kc_V C (As := [.int (-2)]) (st2 := [.int q14.2]) (ct_X7_refuse l G sh xs hX (-2) M q14 e15) (cl_X7_62 (hts_of C) ⟨Nat.le_of_ble_eq_true rfl, Nat.le_of_ble_eq_true rfl⟩ rfl rfl) hX.1 rfl rfl rfl rfl rfl (Nat.le_of_ble_eq_true rfl) (dkAt dkX7_until 12 (q := (24, .invokevirtual 62, 3)) rfl) ⟨Nat.zero_le _, Nat.zero_le _⟩ (pc2 := 27) rfl rfl ?_
      exact k_iret C (dkAt dkX7_until 13 (q := (27, .ireturn, 1)) rfl) (pe2 (Option.some.inj h)) rfl (pe1 (Option.some.inj h)) rfl
set_option maxRecDepth 100000 in
set_option maxHeartbeats 4000000 in
theorem kl_X7_alone_L4 {p : Program} {l : Launch} {e : Env} {s : State} {m : MethodId} {args : Array Value} {below : List Frame} {meth : Method} {c : Code} {G : GG} {sh : Sh} {xs : List va_E} {Q : State → Prop} (C : Cx p s m c args meth G RX7 cX7_alone 3 (some .int)) (hX : isX sh) (M : Mm) (y1 : Int32) (hcont : KW p l e rm_X7_alone s m args below meth c G 3 Q sh xs 0 0 M 38 [(1, .int y1)] []) : ∀ (n : Nat) (x1 : Int32) (x2 : Int32), f_X7_alone_L4 M n x1 x2 = some y1 → KW p l e rm_X7_alone s m args below meth c G 3 Q sh xs 0 0 M 4 [(0, rA G 0), (1, .int x1), (2, .int x2)] [] := by
  intro n
  induction n with
  | zero =>
    intro x1 x2 h
    cases h
  | succ n ih =>
    intro x1 x2 h
    unfold f_X7_alone_L4 at h
    refine k_iload_n C (pc2 := 5) (dkAt dkX7_alone 4 (q := (4, .iload_n 2, 1)) rfl) rfl rfl 2 rfl ?_
    refine k_aload_n C (pc2 := 6) (dkAt dkX7_alone 5 (q := (5, .aload_n 0, 1)) rfl) rfl rfl 0 rfl ?_
    refine kf_X7_10 C (pc2 := 9) (o := 0) (o2 := 1) hX.1 rfl (dkAt dkX7_alone 6 (q := (6, .getfield 10, 3)) rfl) rfl ?_
    refine kf_X7_216 C (pc2 := 12) (o := 1) (o2 := 0) hX.2.1.1 (dkAt dkX7_alone 7 (q := (9, .getfield 216, 3)) rfl) rfl ?_
    refine k_icmp_ge C (tgt := 38) (pc2 := 15) (dkAt dkX7_alone 8 (q := (12, .if_icmp .ge 26, 3)) rfl) (by decide) rfl h (fun h => ?_) (fun h => ?_)
    · refine k_lv [1] (lv2 := [(1, .int x1)]) rfl ?_
      cases h
      exact hcont
    · refine k_aload_n C (pc2 := 16) (dkAt dkX7_alone 9 (q := (15, .aload_n 0, 1)) rfl) rfl rfl 0 rfl ?_
      refine kf_X7_10 C (pc2 := 19) (o := 0) (o2 := 1) hX.1 rfl (dkAt dkX7_alone 10 (q := (16, .getfield 10, 3)) rfl) rfl ?_
      refine k_iload_n C (pc2 := 20) (dkAt dkX7_alone 11 (q := (19, .iload_n 2, 1)) rfl) rfl rfl 2 rfl ?_
      obtain ⟨q1, e2, h⟩ := ob_inv h
      refine kc_V C (As := [.int x2]) (st2 := [.int q1]) (ct_X1_howManyShare l G sh xs 1 hX.2.1 x2 M q1 e2) (cl_X7_288 (hts_of C) ⟨Nat.le_of_ble_eq_true rfl, Nat.le_of_ble_eq_true rfl⟩ rfl rfl) hX.2.1.1 rfl rfl rfl rfl rfl (Nat.le_of_ble_eq_true rfl) (dkAt dkX7_alone 12 (q := (20, .invokevirtual 288, 3)) rfl) ⟨Nat.zero_le _, Nat.zero_le _⟩ (pc2 := 23) rfl rfl ?_
      refine k_if_ne C (tgt := 32) (pc2 := 26) (dkAt dkX7_alone 13 (q := (23, .ifCond .ne 9, 3)) rfl) (by decide) rfl h (fun h => ?_) (fun h => ?_)
      · refine kb_iinc C (pc2 := 35) (dkAt dkX7_alone 20 (q := (32, .iinc 2 1, 3)) rfl) rfl (j := 2) rfl (v := x2 + 1) rfl (by decide) (lv2 := fun v3 => [(2, .int v3), (0, rA G 0), (1, .int x1)]) (fun _ => rfl) h (fun v3 h => ?_)
        refine k_goto C (tgt := 4) (dkAt dkX7_alone 21 (q := (35, .goto (-31), 3)) rfl) (by decide) ?_
        refine k_lv [1, 2, 0] (lv2 := [(0, rA G 0), (1, .int x1), (2, .int v3)]) rfl ?_
        exact ih x1 v3 h
      · refine k_iload_n C (pc2 := 27) (dkAt dkX7_alone 14 (q := (26, .iload_n 1, 1)) rfl) rfl rfl 1 rfl ?_
        refine k_iconst C (pc2 := 28) (dkAt dkX7_alone 15 (q := (27, .iconst 1, 1)) rfl) rfl (v := 1) rfl ?_
        refine k_iload_n C (pc2 := 29) (dkAt dkX7_alone 16 (q := (28, .iload_n 2, 1)) rfl) rfl rfl 2 rfl ?_
        refine k_ishl C (pc2 := 30) (dkAt dkX7_alone 17 (q := (29, .ishl, 1)) rfl) rfl ?_
        refine k_ior C (pc2 := 31) (dkAt dkX7_alone 18 (q := (30, .ior, 1)) rfl) rfl ?_
        refine kb_istore_n C (pc2 := 32) (dkAt dkX7_alone 19 (q := (31, .istore_n 1, 1)) rfl) rfl rfl (by decide) (lv2 := fun v4 => [(1, .int v4), (0, rA G 0), (2, .int x2)]) (fun _ => rfl) h (fun v4 h => ?_)
        refine kb_iinc C (pc2 := 35) (dkAt dkX7_alone 20 (q := (32, .iinc 2 1, 3)) rfl) rfl (j := 2) rfl (v := x2 + 1) rfl (by decide) (lv2 := fun v5 => [(2, .int v5), (1, .int v4), (0, rA G 0)]) (fun _ => rfl) h (fun v5 h => ?_)
        refine k_goto C (tgt := 4) (dkAt dkX7_alone 21 (q := (35, .goto (-31), 3)) rfl) (by decide) ?_
        refine k_lv [2, 1, 0] (lv2 := [(0, rA G 0), (1, .int v4), (2, .int v5)]) rfl ?_
        exact ih v4 v5 h
set_option maxRecDepth 100000 in
set_option maxHeartbeats 4000000 in
theorem ct_X7_alone (l : Launch) (G : GG) (sh : Sh) (xs : List va_E) (hX : isX sh) (M : Mm) (r : Int32) (h : f_X7_alone M = some r) : Ct l yX7_alone cX7_alone 3 (some .int) rm_X7_alone G [rA G 0] sh M xs (some (.int r)) sh M xs 0 0 := by
  refine ct_of (by decide) (Nat.le_of_ble_eq_true rfl) ?_
  intro p e s m args below meth c hnm C
  refine k_lv [0] (lv2 := [(0, rA G 0)]) rfl ?_
  unfold f_X7_alone at h
  refine k_iconst C (pc2 := 1) (dkAt dkX7_alone 0 (q := (0, .iconst 0, 1)) rfl) rfl (v := 0) rfl ?_
  refine k_istore_n C (pc2 := 2) (dkAt dkX7_alone 1 (q := (1, .istore_n 1, 1)) rfl) rfl rfl (by decide) (lv2 := [(1, .int 0), (0, rA G 0)]) rfl ?_
  refine k_iconst C (pc2 := 3) (dkAt dkX7_alone 2 (q := (2, .iconst 0, 1)) rfl) rfl (v := 0) rfl ?_
  refine k_istore_n C (pc2 := 4) (dkAt dkX7_alone 3 (q := (3, .istore_n 2, 1)) rfl) rfl rfl (by decide) (lv2 := [(2, .int 0), (1, .int 0), (0, rA G 0)]) rfl ?_
  refine k_lv [2, 1, 0] (lv2 := [(0, rA G 0), (1, .int 0), (2, .int 0)]) rfl ?_
  obtain ⟨v8, e7, h⟩ := ob_inv h
  refine kl_X7_alone_L4 C hX M v8 ?_ 1000 0 0 e7
  refine k_iload_n C (pc2 := 39) (dkAt dkX7_alone 22 (q := (38, .iload_n 1, 1)) rfl) rfl rfl 0 rfl ?_
  exact k_iret C (dkAt dkX7_alone 23 (q := (39, .ireturn, 1)) rfl) (Option.some.inj h) rfl rfl rfl
set_option maxRecDepth 100000 in
set_option maxHeartbeats 4000000 in
theorem ct_X7_with (l : Launch) (G : GG) (sh : Sh) (xs : List va_E) (hX : isX sh) (x1 : Int32) (M : Mm) (r : Mm × Int32) (h : f_X7_with x1 M = some r) : Ct l yX7_with cX7_with 2 (some .int) rm_X7_with G [rA G 0, .int x1] sh M xs (some (.int r.2)) sh r.1 xs 0 0 := by
  refine ct_of (by decide) (Nat.le_of_ble_eq_true rfl) ?_
  intro p e s m args below meth c hnm C
  refine k_lv [0, 1] (lv2 := [(0, rA G 0), (1, .int x1)]) rfl ?_
  unfold f_X7_with at h
  refine k_iload_n C (pc2 := 1) (dkAt dkX7_with 0 (q := (0, .iload_n 1, 1)) rfl) rfl rfl 1 rfl ?_
  refine k_iconst C (pc2 := 2) (dkAt dkX7_with 1 (q := (1, .iconst 0, 1)) rfl) rfl (v := 0) rfl ?_
  refine k_bipush C (pc2 := 4) (dkAt dkX7_with 2 (q := (2, .bipush 8, 2)) rfl) rfl (v := 8) rfl ?_
  obtain ⟨q1, e2, h⟩ := ob_inv h
  refine kc_S C (As := [.int x1, .int 0, .int 8]) (st2 := [.int q1]) (ct_X7_within l G sh xs x1 0 8 M q1 e2) (cl_X7_58 (hts_of C) ⟨Nat.le_of_ble_eq_true rfl, Nat.le_of_ble_eq_true rfl⟩ rfl rfl) rfl rfl (Nat.le_of_ble_eq_true rfl) (dkAt dkX7_with 3 (q := (4, .invokestatic 58, 3)) rfl) ⟨Nat.zero_le _, Nat.zero_le _⟩ (pc2 := 7) rfl rfl ?_
  refine k_if_eq C (tgt := 21) (pc2 := 10) (dkAt dkX7_with 4 (q := (7, .ifCond .eq 14, 3)) rfl) (by decide) rfl h (fun h => ?_) (fun h => ?_)
  · refine k_aload_n C (pc2 := 22) (dkAt dkX7_with 10 (q := (21, .aload_n 0, 1)) rfl) rfl rfl 0 rfl ?_
    refine k_bipush C (pc2 := 24) (dkAt dkX7_with 11 (q := (22, .bipush (-2), 2)) rfl) rfl (v := (-2)) rfl ?_
    obtain ⟨q3, e4, h⟩ := ob_inv h
    refine kc_V C (As := [.int (-2)]) (st2 := [.int q3.2]) (ct_X7_refuse l G sh xs hX (-2) M q3 e4) (cl_X7_62 (hts_of C) ⟨Nat.le_of_ble_eq_true rfl, Nat.le_of_ble_eq_true rfl⟩ rfl rfl) hX.1 rfl rfl rfl rfl rfl (Nat.le_of_ble_eq_true rfl) (dkAt dkX7_with 12 (q := (24, .invokevirtual 62, 3)) rfl) ⟨Nat.zero_le _, Nat.zero_le _⟩ (pc2 := 27) rfl rfl ?_
    exact k_iret C (dkAt dkX7_with 13 (q := (27, .ireturn, 1)) rfl) (pe2 (Option.some.inj h)) rfl (pe1 (Option.some.inj h)) rfl
  · refine k_aload_n C (pc2 := 11) (dkAt dkX7_with 5 (q := (10, .aload_n 0, 1)) rfl) rfl rfl 0 rfl ?_
    refine kf_X7_10 C (pc2 := 14) (o := 0) (o2 := 1) hX.1 rfl (dkAt dkX7_with 6 (q := (11, .getfield 10, 3)) rfl) rfl ?_
    refine k_iload_n C (pc2 := 15) (dkAt dkX7_with 7 (q := (14, .iload_n 1, 1)) rfl) rfl rfl 1 rfl ?_
    obtain ⟨q5, e6, h⟩ := ob_inv h
    refine kc_V C (As := [.int x1]) (st2 := [.int q5]) (ct_X1_daysWithAtLeast l G sh xs 1 hX.2.1 x1 M q5 e6) (cl_X7_291 (hts_of C) ⟨Nat.le_of_ble_eq_true rfl, Nat.le_of_ble_eq_true rfl⟩ rfl rfl) hX.2.1.1 rfl rfl rfl rfl rfl (Nat.le_of_ble_eq_true rfl) (dkAt dkX7_with 8 (q := (15, .invokevirtual 291, 3)) rfl) ⟨Nat.zero_le _, Nat.zero_le _⟩ (pc2 := 18) rfl rfl ?_
    refine k_goto C (tgt := 27) (dkAt dkX7_with 9 (q := (18, .goto 9, 3)) rfl) (by decide) ?_
    exact k_iret C (dkAt dkX7_with 13 (q := (27, .ireturn, 1)) rfl) (pe2 (Option.some.inj h)) rfl (pe1 (Option.some.inj h)) rfl
set_option maxRecDepth 100000 in
set_option maxHeartbeats 4000000 in
theorem ct_X7_reach (l : Launch) (G : GG) (sh : Sh) (xs : List va_E) (hX : isX sh) (x1 : Int32) (M : Mm) (r : Mm × Int32) (h : f_X7_reach x1 M = some r) : Ct l yX7_reach cX7_reach 2 (some .int) rm_X7_reach G [rA G 0, .int x1] sh M xs (some (.int r.2)) sh r.1 xs 0 0 := by
  refine ct_of (by decide) (Nat.le_of_ble_eq_true rfl) ?_
  intro p e s m args below meth c hnm C
  refine k_lv [0, 1] (lv2 := [(0, rA G 0), (1, .int x1)]) rfl ?_
  unfold f_X7_reach at h
  refine k_aload_n C (pc2 := 1) (dkAt dkX7_reach 0 (q := (0, .aload_n 0, 1)) rfl) rfl rfl 0 rfl ?_
  refine kf_X7_10 C (pc2 := 4) (o := 0) (o2 := 1) hX.1 rfl (dkAt dkX7_reach 1 (q := (1, .getfield 10, 3)) rfl) rfl ?_
  refine k_iload_n C (pc2 := 5) (dkAt dkX7_reach 2 (q := (4, .iload_n 1, 1)) rfl) rfl rfl 1 rfl ?_
  obtain ⟨q1, e2, h⟩ := ob_inv h
  refine kc_V C (As := [.int x1]) (st2 := [.int q1]) (ct_X1_hasPerson l G sh xs 1 hX.2.1 x1 M q1 e2) (cl_X7_105 (hts_of C) ⟨Nat.le_of_ble_eq_true rfl, Nat.le_of_ble_eq_true rfl⟩ rfl rfl) hX.2.1.1 rfl rfl rfl rfl rfl (Nat.le_of_ble_eq_true rfl) (dkAt dkX7_reach 3 (q := (5, .invokevirtual 105, 3)) rfl) ⟨Nat.zero_le _, Nat.zero_le _⟩ (pc2 := 8) rfl rfl ?_
  refine k_if_eq C (tgt := 22) (pc2 := 11) (dkAt dkX7_reach 4 (q := (8, .ifCond .eq 14, 3)) rfl) (by decide) rfl h (fun h => ?_) (fun h => ?_)
  · refine k_aload_n C (pc2 := 23) (dkAt dkX7_reach 10 (q := (22, .aload_n 0, 1)) rfl) rfl rfl 0 rfl ?_
    refine k_bipush C (pc2 := 25) (dkAt dkX7_reach 11 (q := (23, .bipush (-2), 2)) rfl) rfl (v := (-2)) rfl ?_
    obtain ⟨q3, e4, h⟩ := ob_inv h
    refine kc_V C (As := [.int (-2)]) (st2 := [.int q3.2]) (ct_X7_refuse l G sh xs hX (-2) M q3 e4) (cl_X7_62 (hts_of C) ⟨Nat.le_of_ble_eq_true rfl, Nat.le_of_ble_eq_true rfl⟩ rfl rfl) hX.1 rfl rfl rfl rfl rfl (Nat.le_of_ble_eq_true rfl) (dkAt dkX7_reach 12 (q := (25, .invokevirtual 62, 3)) rfl) ⟨Nat.zero_le _, Nat.zero_le _⟩ (pc2 := 28) rfl rfl ?_
    exact k_iret C (dkAt dkX7_reach 13 (q := (28, .ireturn, 1)) rfl) (pe2 (Option.some.inj h)) rfl (pe1 (Option.some.inj h)) rfl
  · refine k_aload_n C (pc2 := 12) (dkAt dkX7_reach 5 (q := (11, .aload_n 0, 1)) rfl) rfl rfl 0 rfl ?_
    refine kf_X7_10 C (pc2 := 15) (o := 0) (o2 := 1) hX.1 rfl (dkAt dkX7_reach 6 (q := (12, .getfield 10, 3)) rfl) rfl ?_
    refine k_iload_n C (pc2 := 16) (dkAt dkX7_reach 7 (q := (15, .iload_n 1, 1)) rfl) rfl rfl 1 rfl ?_
    obtain ⟨q5, e6, h⟩ := ob_inv h
    refine kc_V C (As := [.int x1]) (st2 := [.int q5]) (ct_X1_howManyShare l G sh xs 1 hX.2.1 x1 M q5 e6) (cl_X7_288 (hts_of C) ⟨Nat.le_of_ble_eq_true rfl, Nat.le_of_ble_eq_true rfl⟩ rfl rfl) hX.2.1.1 rfl rfl rfl rfl rfl (Nat.le_of_ble_eq_true rfl) (dkAt dkX7_reach 8 (q := (16, .invokevirtual 288, 3)) rfl) ⟨Nat.zero_le _, Nat.zero_le _⟩ (pc2 := 19) rfl rfl ?_
    refine k_goto C (tgt := 28) (dkAt dkX7_reach 9 (q := (19, .goto 9, 3)) rfl) (by decide) ?_
    exact k_iret C (dkAt dkX7_reach 13 (q := (28, .ireturn, 1)) rfl) (pe2 (Option.some.inj h)) rfl (pe1 (Option.some.inj h)) rfl
set_option maxRecDepth 100000 in
set_option maxHeartbeats 4000000 in
theorem ct_X7_three (l : Launch) (G : GG) (sh : Sh) (xs : List va_E) (hX : isX sh) (x1 : Int32) (M : Mm) (r : Mm × Int32) (h : f_X7_three x1 M = some r) : Ct l yX7_three cX7_three 2 (some .int) rm_X7_three G [rA G 0, .int x1] sh M xs (some (.int r.2)) sh r.1 xs 0 0 := by
  refine ct_of (by decide) (Nat.le_of_ble_eq_true rfl) ?_
  intro p e s m args below meth c hnm C
  refine k_lv [0, 1] (lv2 := [(0, rA G 0), (1, .int x1)]) rfl ?_
  unfold f_X7_three at h
  refine k_aload_n C (pc2 := 1) (dkAt dkX7_three 0 (q := (0, .aload_n 0, 1)) rfl) rfl rfl 0 rfl ?_
  refine k_iconst C (pc2 := 2) (dkAt dkX7_three 1 (q := (1, .iconst 3, 1)) rfl) rfl (v := 3) rfl ?_
  refine k_iload_n C (pc2 := 3) (dkAt dkX7_three 2 (q := (2, .iload_n 1, 1)) rfl) rfl rfl 1 rfl ?_
  obtain ⟨q1, e2, h⟩ := ob_inv h
  refine kc_V C (As := [.int 3, .int x1]) (st2 := [.int q1.2]) (ct_X7_meeting l G sh xs hX 3 x1 M q1 e2) (cl_X7_263 (hts_of C) ⟨Nat.le_of_ble_eq_true rfl, Nat.le_of_ble_eq_true rfl⟩ rfl rfl) hX.1 rfl rfl rfl rfl rfl (Nat.le_of_ble_eq_true rfl) (dkAt dkX7_three 3 (q := (3, .invokevirtual 263, 3)) rfl) ⟨Nat.zero_le _, Nat.zero_le _⟩ (pc2 := 6) rfl rfl ?_
  exact k_iret C (dkAt dkX7_three 4 (q := (6, .ireturn, 1)) rfl) (pe2 (Option.some.inj h)) rfl (pe1 (Option.some.inj h)) rfl
set_option maxRecDepth 100000 in
set_option maxHeartbeats 4000000 in
theorem kl_X7_run_L22 {p : Program} {l : Launch} {e : Env} {s : State} {m : MethodId} {args : Array Value} {below : List Frame} {meth : Method} {c : Code} {G : GG} {sh : Sh} {xs : List va_E} {Q : State → Prop} (C : Cx p s m c args meth G RX7 cX7_run 5 (some .int)) (hX : isX sh) (x1 : Int32) (M : Mm) (y3 : Int32) (hcont : KW p l e rm_X7_run s m args below meth c G 5 Q sh xs 0 0 M 63 [(3, .int y3)] []) : ∀ (n : Nat) (x2 : Int32) (x3 : Int32) (x4 : Int32), f_X7_run_L22 x1 M n x2 x3 x4 = some y3 → KW p l e rm_X7_run s m args below meth c G 5 Q sh xs 0 0 M 22 [(0, rA G 0), (1, .int x1), (2, .int x2), (3, .int x3), (4, .int x4)] [] := by
  intro n
  induction n with
  | zero =>
    intro x2 x3 x4 h
    cases h
  | succ n ih =>
    intro x2 x3 x4 h
    unfold f_X7_run_L22 at h
    refine k_iload C (pc2 := 24) (dkAt dkX7_run 13 (q := (22, .iload 4, 2)) rfl) rfl 4 rfl ?_
    refine k_aload_n C (pc2 := 25) (dkAt dkX7_run 14 (q := (24, .aload_n 0, 1)) rfl) rfl rfl 0 rfl ?_
    refine kf_X7_10 C (pc2 := 28) (o := 0) (o2 := 1) hX.1 rfl (dkAt dkX7_run 15 (q := (25, .getfield 10, 3)) rfl) rfl ?_
    refine kf_X7_134 C (pc2 := 31) (o := 1) (o2 := 0) hX.2.1.1 (dkAt dkX7_run 16 (q := (28, .getfield 134, 3)) rfl) rfl ?_
    refine k_icmp_ge C (tgt := 63) (pc2 := 34) (dkAt dkX7_run 17 (q := (31, .if_icmp .ge 32, 3)) rfl) (by decide) rfl h (fun h => ?_) (fun h => ?_)
    · refine k_lv [3] (lv2 := [(3, .int x3)]) rfl ?_
      cases h
      exact hcont
    · refine k_iload_n C (pc2 := 35) (dkAt dkX7_run 18 (q := (34, .iload_n 1, 1)) rfl) rfl rfl 1 rfl ?_
      refine k_iload C (pc2 := 37) (dkAt dkX7_run 19 (q := (35, .iload 4, 2)) rfl) rfl 4 rfl ?_
      obtain ⟨q3, e4, h⟩ := ob_inv h
      refine kc_S C (As := [.int x1, .int x4]) (st2 := [.int q3]) (ct_X7_hasBit l G sh xs x1 x4 M q3 e4) (cl_X7_294 (hts_of C) ⟨Nat.le_of_ble_eq_true rfl, Nat.le_of_ble_eq_true rfl⟩ rfl rfl) rfl rfl (Nat.le_of_ble_eq_true rfl) (dkAt dkX7_run 20 (q := (37, .invokestatic 294, 3)) rfl) ⟨Nat.zero_le _, Nat.zero_le _⟩ (pc2 := 40) rfl rfl ?_
      refine k_if_eq C (tgt := 49) (pc2 := 43) (dkAt dkX7_run 21 (q := (40, .ifCond .eq 9, 3)) rfl) (by decide) rfl h (fun h => ?_) (fun h => ?_)
      · refine k_iconst C (pc2 := 50) (dkAt dkX7_run 26 (q := (49, .iconst 0, 1)) rfl) rfl (v := 0) rfl ?_
        refine k_istore_n C (pc2 := 51) (dkAt dkX7_run 27 (q := (50, .istore_n 2, 1)) rfl) rfl rfl (by decide) (lv2 := [(2, .int 0), (0, rA G 0), (1, .int x1), (3, .int x3), (4, .int x4)]) rfl ?_
        refine k_iload_n C (pc2 := 52) (dkAt dkX7_run 28 (q := (51, .iload_n 3, 1)) rfl) rfl rfl 3 rfl ?_
        refine k_iload_n C (pc2 := 53) (dkAt dkX7_run 29 (q := (52, .iload_n 2, 1)) rfl) rfl rfl 0 rfl ?_
        refine k_mmax C tM_X7_298 (Nat.le_of_ble_eq_true rfl) (Nat.le_of_ble_eq_true rfl) (Nat.zero_le _) (Nat.zero_le _) (dkAt dkX7_run 30 (q := (53, .invokestatic 298, 3)) rfl) (pc2 := 56) rfl ?_
        refine kb_istore_n C (pc2 := 57) (dkAt dkX7_run 31 (q := (56, .istore_n 3, 1)) rfl) rfl rfl (by decide) (lv2 := fun v5 => [(3, .int v5), (2, .int 0), (0, rA G 0), (1, .int x1), (4, .int x4)]) (fun _ => rfl) h (fun v5 h => ?_)
        refine kb_iinc C (pc2 := 60) (dkAt dkX7_run 32 (q := (57, .iinc 4 1, 3)) rfl) rfl (j := 4) rfl (v := x4 + 1) rfl (by decide) (lv2 := fun v6 => [(4, .int v6), (3, .int v5), (2, .int 0), (0, rA G 0), (1, .int x1)]) (fun _ => rfl) h (fun v6 h => ?_)
        refine k_goto C (tgt := 22) (dkAt dkX7_run 33 (q := (60, .goto (-38), 3)) rfl) (by decide) ?_
        refine k_lv [3, 4, 2, 1, 0] (lv2 := [(0, rA G 0), (1, .int x1), (2, .int 0), (3, .int v5), (4, .int v6)]) rfl ?_
        exact ih 0 v5 v6 h
      · refine k_iload_n C (pc2 := 44) (dkAt dkX7_run 22 (q := (43, .iload_n 2, 1)) rfl) rfl rfl 2 rfl ?_
        refine k_iconst C (pc2 := 45) (dkAt dkX7_run 23 (q := (44, .iconst 1, 1)) rfl) rfl (v := 1) rfl ?_
        refine k_iadd C (pc2 := 46) (dkAt dkX7_run 24 (q := (45, .iadd, 1)) rfl) rfl ?_
        refine k_goto C (tgt := 50) (dkAt dkX7_run 25 (q := (46, .goto 4, 3)) rfl) (by decide) ?_
        refine kb_istore_n C (pc2 := 51) (dkAt dkX7_run 27 (q := (50, .istore_n 2, 1)) rfl) rfl rfl (by decide) (lv2 := fun v7 => [(2, .int v7), (0, rA G 0), (1, .int x1), (3, .int x3), (4, .int x4)]) (fun _ => rfl) h (fun v7 h => ?_)
        refine k_iload_n C (pc2 := 52) (dkAt dkX7_run 28 (q := (51, .iload_n 3, 1)) rfl) rfl rfl 3 rfl ?_
        refine k_iload_n C (pc2 := 53) (dkAt dkX7_run 29 (q := (52, .iload_n 2, 1)) rfl) rfl rfl 0 rfl ?_
        refine k_mmax C tM_X7_298 (Nat.le_of_ble_eq_true rfl) (Nat.le_of_ble_eq_true rfl) (Nat.zero_le _) (Nat.zero_le _) (dkAt dkX7_run 30 (q := (53, .invokestatic 298, 3)) rfl) (pc2 := 56) rfl ?_
        refine kb_istore_n C (pc2 := 57) (dkAt dkX7_run 31 (q := (56, .istore_n 3, 1)) rfl) rfl rfl (by decide) (lv2 := fun v8 => [(3, .int v8), (2, .int v7), (0, rA G 0), (1, .int x1), (4, .int x4)]) (fun _ => rfl) h (fun v8 h => ?_)
        refine kb_iinc C (pc2 := 60) (dkAt dkX7_run 32 (q := (57, .iinc 4 1, 3)) rfl) rfl (j := 4) rfl (v := x4 + 1) rfl (by decide) (lv2 := fun v9 => [(4, .int v9), (3, .int v8), (2, .int v7), (0, rA G 0), (1, .int x1)]) (fun _ => rfl) h (fun v9 h => ?_)
        refine k_goto C (tgt := 22) (dkAt dkX7_run 33 (q := (60, .goto (-38), 3)) rfl) (by decide) ?_
        refine k_lv [3, 4, 2, 1, 0] (lv2 := [(0, rA G 0), (1, .int x1), (2, .int v7), (3, .int v8), (4, .int v9)]) rfl ?_
        exact ih v7 v8 v9 h
set_option maxRecDepth 100000 in
set_option maxHeartbeats 4000000 in
theorem ct_X7_run (l : Launch) (G : GG) (sh : Sh) (xs : List va_E) (hX : isX sh) (M : Mm) (r : Int32) (h : f_X7_run M = some r) : Ct l yX7_run cX7_run 5 (some .int) rm_X7_run G [rA G 0] sh M xs (some (.int r)) sh M xs 0 0 := by
  refine ct_of (by decide) (Nat.le_of_ble_eq_true rfl) ?_
  intro p e s m args below meth c hnm C
  refine k_lv [0] (lv2 := [(0, rA G 0)]) rfl ?_
  unfold f_X7_run at h
  refine k_aload_n C (pc2 := 1) (dkAt dkX7_run 0 (q := (0, .aload_n 0, 1)) rfl) rfl rfl 0 rfl ?_
  refine kf_X7_10 C (pc2 := 4) (o := 0) (o2 := 1) hX.1 rfl (dkAt dkX7_run 1 (q := (1, .getfield 10, 3)) rfl) rfl ?_
  refine k_aload_n C (pc2 := 5) (dkAt dkX7_run 2 (q := (4, .aload_n 0, 1)) rfl) rfl rfl 0 rfl ?_
  refine kf_X7_10 C (pc2 := 8) (o := 0) (o2 := 1) hX.1 rfl (dkAt dkX7_run 3 (q := (5, .getfield 10, 3)) rfl) rfl ?_
  refine kf_X7_160 C (pc2 := 11) (o := 1) (o2 := 0) hX.2.1.1 (dkAt dkX7_run 4 (q := (8, .getfield 160, 3)) rfl) rfl ?_
  obtain ⟨q1, e2, h⟩ := ob_inv h
  refine kc_V C (As := [.int (M.1 1 3)]) (st2 := [.int q1]) (ct_X1_daysWithAtLeast l G sh xs 1 hX.2.1 (M.1 1 3) M q1 e2) (cl_X7_291 (hts_of C) ⟨Nat.le_of_ble_eq_true rfl, Nat.le_of_ble_eq_true rfl⟩ rfl rfl) hX.2.1.1 rfl rfl rfl rfl rfl (Nat.le_of_ble_eq_true rfl) (dkAt dkX7_run 5 (q := (11, .invokevirtual 291, 3)) rfl) ⟨Nat.zero_le _, Nat.zero_le _⟩ (pc2 := 14) rfl rfl ?_
  refine k_istore_n C (pc2 := 15) (dkAt dkX7_run 6 (q := (14, .istore_n 1, 1)) rfl) rfl rfl (by decide) (lv2 := [(1, .int q1), (0, rA G 0)]) rfl ?_
  refine k_iconst C (pc2 := 16) (dkAt dkX7_run 7 (q := (15, .iconst 0, 1)) rfl) rfl (v := 0) rfl ?_
  refine k_istore_n C (pc2 := 17) (dkAt dkX7_run 8 (q := (16, .istore_n 2, 1)) rfl) rfl rfl (by decide) (lv2 := [(2, .int 0), (1, .int q1), (0, rA G 0)]) rfl ?_
  refine k_iconst C (pc2 := 18) (dkAt dkX7_run 9 (q := (17, .iconst 0, 1)) rfl) rfl (v := 0) rfl ?_
  refine k_istore_n C (pc2 := 19) (dkAt dkX7_run 10 (q := (18, .istore_n 3, 1)) rfl) rfl rfl (by decide) (lv2 := [(3, .int 0), (2, .int 0), (1, .int q1), (0, rA G 0)]) rfl ?_
  refine k_iconst C (pc2 := 20) (dkAt dkX7_run 11 (q := (19, .iconst 0, 1)) rfl) rfl (v := 0) rfl ?_
  refine k_istore C (pc2 := 22) (dkAt dkX7_run 12 (q := (20, .istore 4, 2)) rfl) rfl (by decide) (lv2 := [(4, .int 0), (3, .int 0), (2, .int 0), (1, .int q1), (0, rA G 0)]) rfl ?_
  refine k_lv [4, 3, 2, 1, 0] (lv2 := [(0, rA G 0), (1, .int q1), (2, .int 0), (3, .int 0), (4, .int 0)]) rfl ?_
  obtain ⟨v12, e11, h⟩ := ob_inv h
  refine kl_X7_run_L22 C hX q1 M v12 ?_ 1000 0 0 0 e11
  refine k_iload_n C (pc2 := 64) (dkAt dkX7_run 34 (q := (63, .iload_n 3, 1)) rfl) rfl rfl 0 rfl ?_
  exact k_iret C (dkAt dkX7_run 35 (q := (64, .ireturn, 1)) rfl) (Option.some.inj h) rfl rfl rfl
set_option maxRecDepth 100000 in
set_option maxHeartbeats 4000000 in
theorem ct_X7_weeks (l : Launch) (G : GG) (sh : Sh) (xs : List va_E) (hX : isX sh) (x1 : Int32) (M : Mm) (r : Mm × Int32) (h : f_X7_weeks x1 M = some r) : Ct l yX7_weeks cX7_weeks 2 (some .int) rm_X7_weeks G [rA G 0, .int x1] sh M xs (some (.int r.2)) sh r.1 xs 0 0 := by
  refine ct_of (by decide) (Nat.le_of_ble_eq_true rfl) ?_
  intro p e s m args below meth c hnm C
  refine k_lv [0, 1] (lv2 := [(0, rA G 0), (1, .int x1)]) rfl ?_
  unfold f_X7_weeks at h
  refine k_iload_n C (pc2 := 1) (dkAt dkX7_weeks 0 (q := (0, .iload_n 1, 1)) rfl) rfl rfl 1 rfl ?_
  refine k_iconst C (pc2 := 2) (dkAt dkX7_weeks 1 (q := (1, .iconst 0, 1)) rfl) rfl (v := 0) rfl ?_
  refine k_bipush C (pc2 := 4) (dkAt dkX7_weeks 2 (q := (2, .bipush 6, 2)) rfl) rfl (v := 6) rfl ?_
  obtain ⟨q1, e2, h⟩ := ob_inv h
  refine kc_S C (As := [.int x1, .int 0, .int 6]) (st2 := [.int q1]) (ct_X7_within l G sh xs x1 0 6 M q1 e2) (cl_X7_58 (hts_of C) ⟨Nat.le_of_ble_eq_true rfl, Nat.le_of_ble_eq_true rfl⟩ rfl rfl) rfl rfl (Nat.le_of_ble_eq_true rfl) (dkAt dkX7_weeks 3 (q := (4, .invokestatic 58, 3)) rfl) ⟨Nat.zero_le _, Nat.zero_le _⟩ (pc2 := 7) rfl rfl ?_
  refine k_if_eq C (tgt := 21) (pc2 := 10) (dkAt dkX7_weeks 4 (q := (7, .ifCond .eq 14, 3)) rfl) (by decide) rfl h (fun h => ?_) (fun h => ?_)
  · refine k_aload_n C (pc2 := 22) (dkAt dkX7_weeks 10 (q := (21, .aload_n 0, 1)) rfl) rfl rfl 0 rfl ?_
    refine k_bipush C (pc2 := 24) (dkAt dkX7_weeks 11 (q := (22, .bipush (-2), 2)) rfl) rfl (v := (-2)) rfl ?_
    obtain ⟨q3, e4, h⟩ := ob_inv h
    refine kc_V C (As := [.int (-2)]) (st2 := [.int q3.2]) (ct_X7_refuse l G sh xs hX (-2) M q3 e4) (cl_X7_62 (hts_of C) ⟨Nat.le_of_ble_eq_true rfl, Nat.le_of_ble_eq_true rfl⟩ rfl rfl) hX.1 rfl rfl rfl rfl rfl (Nat.le_of_ble_eq_true rfl) (dkAt dkX7_weeks 12 (q := (24, .invokevirtual 62, 3)) rfl) ⟨Nat.zero_le _, Nat.zero_le _⟩ (pc2 := 27) rfl rfl ?_
    exact k_iret C (dkAt dkX7_weeks 13 (q := (27, .ireturn, 1)) rfl) (pe2 (Option.some.inj h)) rfl (pe1 (Option.some.inj h)) rfl
  · refine k_aload_n C (pc2 := 11) (dkAt dkX7_weeks 5 (q := (10, .aload_n 0, 1)) rfl) rfl rfl 0 rfl ?_
    refine kf_X7_10 C (pc2 := 14) (o := 0) (o2 := 1) hX.1 rfl (dkAt dkX7_weeks 6 (q := (11, .getfield 10, 3)) rfl) rfl ?_
    refine k_iload_n C (pc2 := 15) (dkAt dkX7_weeks 7 (q := (14, .iload_n 1, 1)) rfl) rfl rfl 1 rfl ?_
    obtain ⟨q5, e6, h⟩ := ob_inv h
    refine kc_V C (As := [.int x1]) (st2 := [.int q5]) (ct_X1_totalOnWeekday l G sh xs 1 hX.2.1 x1 M q5 e6) (cl_X7_266 (hts_of C) ⟨Nat.le_of_ble_eq_true rfl, Nat.le_of_ble_eq_true rfl⟩ rfl rfl) hX.2.1.1 rfl rfl rfl rfl rfl (Nat.le_of_ble_eq_true rfl) (dkAt dkX7_weeks 8 (q := (15, .invokevirtual 266, 3)) rfl) ⟨Nat.zero_le _, Nat.zero_le _⟩ (pc2 := 18) rfl rfl ?_
    refine k_goto C (tgt := 27) (dkAt dkX7_weeks 9 (q := (18, .goto 9, 3)) rfl) (by decide) ?_
    exact k_iret C (dkAt dkX7_weeks 13 (q := (27, .ireturn, 1)) rfl) (pe2 (Option.some.inj h)) rfl (pe1 (Option.some.inj h)) rfl
set_option maxRecDepth 100000 in
set_option maxHeartbeats 4000000 in
theorem kl_X7_spread_L19 {p : Program} {l : Launch} {e : Env} {s : State} {m : MethodId} {args : Array Value} {below : List Frame} {meth : Method} {c : Code} {G : GG} {sh : Sh} {xs : List va_E} {Q : State → Prop} (C : Cx p s m c args meth G RX7 cX7_spread 4 (some .int)) (hX : isX sh) (M : Mm) (y1 : Int32) (y2 : Int32) (hcont : KW p l e rm_X7_spread s m args below meth c G 4 Q sh xs 0 0 M 70 [(1, .int y1), (2, .int y2)] []) : ∀ (n : Nat) (x1 : Int32) (x2 : Int32) (x3 : Int32), f_X7_spread_L19 M n x1 x2 x3 = some (y1, y2) → KW p l e rm_X7_spread s m args below meth c G 4 Q sh xs 0 0 M 19 [(0, rA G 0), (1, .int x1), (2, .int x2), (3, .int x3)] [] := by
  intro n
  induction n with
  | zero =>
    intro x1 x2 x3 h
    cases h
  | succ n ih =>
    intro x1 x2 x3 h
    unfold f_X7_spread_L19 at h
    refine k_iload_n C (pc2 := 20) (dkAt dkX7_spread 12 (q := (19, .iload_n 3, 1)) rfl) rfl rfl 3 rfl ?_
    refine k_aload_n C (pc2 := 21) (dkAt dkX7_spread 13 (q := (20, .aload_n 0, 1)) rfl) rfl rfl 0 rfl ?_
    refine kf_X7_10 C (pc2 := 24) (o := 0) (o2 := 1) hX.1 rfl (dkAt dkX7_spread 14 (q := (21, .getfield 10, 3)) rfl) rfl ?_
    refine kf_X7_216 C (pc2 := 27) (o := 1) (o2 := 0) hX.2.1.1 (dkAt dkX7_spread 15 (q := (24, .getfield 216, 3)) rfl) rfl ?_
    refine k_icmp_ge C (tgt := 70) (pc2 := 30) (dkAt dkX7_spread 16 (q := (27, .if_icmp .ge 43, 3)) rfl) (by decide) rfl h (fun h => ?_) (fun h => ?_)
    · refine k_lv [1, 2] (lv2 := [(1, .int x1), (2, .int x2)]) rfl ?_
      cases h
      exact hcont
    · refine k_iload_n C (pc2 := 31) (dkAt dkX7_spread 17 (q := (30, .iload_n 1, 1)) rfl) rfl rfl 1 rfl ?_
      refine k_aload_n C (pc2 := 32) (dkAt dkX7_spread 18 (q := (31, .aload_n 0, 1)) rfl) rfl rfl 0 rfl ?_
      refine kf_X7_10 C (pc2 := 35) (o := 0) (o2 := 1) hX.1 rfl (dkAt dkX7_spread 19 (q := (32, .getfield 10, 3)) rfl) rfl ?_
      refine kf_X7_122 C (pc2 := 38) (o := 1) (o2 := 2) hX.2.1.1 rfl (dkAt dkX7_spread 20 (q := (35, .getfield 122, 3)) rfl) rfl ?_
      refine k_iload_n C (pc2 := 39) (dkAt dkX7_spread 21 (q := (38, .iload_n 3, 1)) rfl) rfl rfl 3 rfl ?_
      refine k_aa11 C (pc2 := 40) (o := 2) (o2 := 3 + x3.toNatClampNeg) (nA := 8) hX.2.1.2.1 rfl (dkAt dkX7_spread 22 (q := (39, .aaload, 1)) rfl) rfl h (fun h hl1 => ?_)
      refine kf_X7_166 C (pc2 := 43) (o := 3 + x3.toNatClampNeg) (o2 := 0) (hX.2.1.2.2 _ hl1) (dkAt dkX7_spread 23 (q := (40, .getfield 166, 3)) rfl) rfl ?_
      refine k_mmin C tM_X7_303 (Nat.le_of_ble_eq_true rfl) (Nat.le_of_ble_eq_true rfl) (Nat.zero_le _) (Nat.zero_le _) (dkAt dkX7_spread 24 (q := (43, .invokestatic 303, 3)) rfl) (pc2 := 46) rfl ?_
      refine kb_istore_n C (pc2 := 47) (dkAt dkX7_spread 25 (q := (46, .istore_n 1, 1)) rfl) rfl rfl (by decide) (lv2 := fun v2 => [(1, .int v2), (0, rA G 0), (2, .int x2), (3, .int x3)]) (fun _ => rfl) h (fun v2 h => ?_)
      refine k_iload_n C (pc2 := 48) (dkAt dkX7_spread 26 (q := (47, .iload_n 2, 1)) rfl) rfl rfl 2 rfl ?_
      refine k_aload_n C (pc2 := 49) (dkAt dkX7_spread 27 (q := (48, .aload_n 0, 1)) rfl) rfl rfl 1 rfl ?_
      refine kf_X7_10 C (pc2 := 52) (o := 0) (o2 := 1) hX.1 rfl (dkAt dkX7_spread 28 (q := (49, .getfield 10, 3)) rfl) rfl ?_
      refine kf_X7_122 C (pc2 := 55) (o := 1) (o2 := 2) hX.2.1.1 rfl (dkAt dkX7_spread 29 (q := (52, .getfield 122, 3)) rfl) rfl ?_
      refine k_iload_n C (pc2 := 56) (dkAt dkX7_spread 30 (q := (55, .iload_n 3, 1)) rfl) rfl rfl 3 rfl ?_
      refine k_aa11 C (pc2 := 57) (o := 2) (o2 := 3 + x3.toNatClampNeg) (nA := 8) hX.2.1.2.1 rfl (dkAt dkX7_spread 31 (q := (56, .aaload, 1)) rfl) rfl h (fun h hl3 => ?_)
      refine kf_X7_166 C (pc2 := 60) (o := 3 + x3.toNatClampNeg) (o2 := 0) (hX.2.1.2.2 _ hl3) (dkAt dkX7_spread 32 (q := (57, .getfield 166, 3)) rfl) rfl ?_
      refine k_mmax C tM_X7_298 (Nat.le_of_ble_eq_true rfl) (Nat.le_of_ble_eq_true rfl) (Nat.zero_le _) (Nat.zero_le _) (dkAt dkX7_spread 33 (q := (60, .invokestatic 298, 3)) rfl) (pc2 := 63) rfl ?_
      refine kb_istore_n C (pc2 := 64) (dkAt dkX7_spread 34 (q := (63, .istore_n 2, 1)) rfl) rfl rfl (by decide) (lv2 := fun v4 => [(2, .int v4), (1, .int v2), (0, rA G 0), (3, .int x3)]) (fun _ => rfl) h (fun v4 h => ?_)
      refine kb_iinc C (pc2 := 67) (dkAt dkX7_spread 35 (q := (64, .iinc 3 1, 3)) rfl) rfl (j := 3) rfl (v := x3 + 1) rfl (by decide) (lv2 := fun v5 => [(3, .int v5), (2, .int v4), (1, .int v2), (0, rA G 0)]) (fun _ => rfl) h (fun v5 h => ?_)
      refine k_goto C (tgt := 19) (dkAt dkX7_spread 36 (q := (67, .goto (-48), 3)) rfl) (by decide) ?_
      refine k_lv [3, 2, 1, 0] (lv2 := [(0, rA G 0), (1, .int v2), (2, .int v4), (3, .int v5)]) rfl ?_
      exact ih v2 v4 v5 h
set_option maxRecDepth 100000 in
set_option maxHeartbeats 4000000 in
theorem ct_X7_spread (l : Launch) (G : GG) (sh : Sh) (xs : List va_E) (hX : isX sh) (M : Mm) (r : Int32) (h : f_X7_spread M = some r) : Ct l yX7_spread cX7_spread 4 (some .int) rm_X7_spread G [rA G 0] sh M xs (some (.int r)) sh M xs 0 0 := by
  refine ct_of (by decide) (Nat.le_of_ble_eq_true rfl) ?_
  intro p e s m args below meth c hnm C
  refine k_lv [0] (lv2 := [(0, rA G 0)]) rfl ?_
  unfold f_X7_spread at h
  refine k_aload_n C (pc2 := 1) (dkAt dkX7_spread 0 (q := (0, .aload_n 0, 1)) rfl) rfl rfl 0 rfl ?_
  refine kf_X7_10 C (pc2 := 4) (o := 0) (o2 := 1) hX.1 rfl (dkAt dkX7_spread 1 (q := (1, .getfield 10, 3)) rfl) rfl ?_
  refine kf_X7_216 C (pc2 := 7) (o := 1) (o2 := 0) hX.2.1.1 (dkAt dkX7_spread 2 (q := (4, .getfield 216, 3)) rfl) rfl ?_
  refine k_if_ne C (tgt := 12) (pc2 := 10) (dkAt dkX7_spread 3 (q := (7, .ifCond .ne 5, 3)) rfl) (by decide) rfl h (fun h => ?_) (fun h => ?_)
  · refine k_bipush C (pc2 := 14) (dkAt dkX7_spread 6 (q := (12, .bipush 99, 2)) rfl) rfl (v := 99) rfl ?_
    refine k_istore_n C (pc2 := 15) (dkAt dkX7_spread 7 (q := (14, .istore_n 1, 1)) rfl) rfl rfl (by decide) (lv2 := [(1, .int 99), (0, rA G 0)]) rfl ?_
    refine k_iconst C (pc2 := 16) (dkAt dkX7_spread 8 (q := (15, .iconst 0, 1)) rfl) rfl (v := 0) rfl ?_
    refine k_istore_n C (pc2 := 17) (dkAt dkX7_spread 9 (q := (16, .istore_n 2, 1)) rfl) rfl rfl (by decide) (lv2 := [(2, .int 0), (1, .int 99), (0, rA G 0)]) rfl ?_
    refine k_iconst C (pc2 := 18) (dkAt dkX7_spread 10 (q := (17, .iconst 0, 1)) rfl) rfl (v := 0) rfl ?_
    refine k_istore_n C (pc2 := 19) (dkAt dkX7_spread 11 (q := (18, .istore_n 3, 1)) rfl) rfl rfl (by decide) (lv2 := [(3, .int 0), (2, .int 0), (1, .int 99), (0, rA G 0)]) rfl ?_
    refine k_lv [3, 2, 1, 0] (lv2 := [(0, rA G 0), (1, .int 99), (2, .int 0), (3, .int 0)]) rfl ?_
    obtain ⟨v8, v9, e7, h⟩ := ob2_inv h
    refine kl_X7_spread_L19 C hX M v8 v9 ?_ 1000 99 0 0 e7
    refine k_iload_n C (pc2 := 71) (dkAt dkX7_spread 37 (q := (70, .iload_n 2, 1)) rfl) rfl rfl 1 rfl ?_
    refine k_iload_n C (pc2 := 72) (dkAt dkX7_spread 38 (q := (71, .iload_n 1, 1)) rfl) rfl rfl 0 rfl ?_
    refine k_isub C (pc2 := 73) (dkAt dkX7_spread 39 (q := (72, .isub, 1)) rfl) rfl ?_
    exact k_iret C (dkAt dkX7_spread 40 (q := (73, .ireturn, 1)) rfl) (Option.some.inj h) rfl rfl rfl
  · refine k_iconst C (pc2 := 11) (dkAt dkX7_spread 4 (q := (10, .iconst 0, 1)) rfl) rfl (v := 0) rfl ?_
    exact k_iret C (dkAt dkX7_spread 5 (q := (11, .ireturn, 1)) rfl) (Option.some.inj h) rfl rfl rfl
set_option maxRecDepth 100000 in
set_option maxHeartbeats 4000000 in
theorem kl_X7_mean_L17 {p : Program} {l : Launch} {e : Env} {s : State} {m : MethodId} {args : Array Value} {below : List Frame} {meth : Method} {c : Code} {G : GG} {sh : Sh} {xs : List va_E} {Q : State → Prop} (C : Cx p s m c args meth G RX7 cX7_mean 3 (some .int)) (hX : isX sh) (M : Mm) (y1 : Int32) (hcont : KW p l e rm_X7_mean s m args below meth c G 3 Q sh xs 0 0 M 52 [(0, rA G 0), (1, .int y1)] []) : ∀ (n : Nat) (x1 : Int32) (x2 : Int32), f_X7_mean_L17 M n x1 x2 = some y1 → KW p l e rm_X7_mean s m args below meth c G 3 Q sh xs 0 0 M 17 [(0, rA G 0), (1, .int x1), (2, .int x2)] [] := by
  intro n
  induction n with
  | zero =>
    intro x1 x2 h
    cases h
  | succ n ih =>
    intro x1 x2 h
    unfold f_X7_mean_L17 at h
    refine k_iload_n C (pc2 := 18) (dkAt dkX7_mean 11 (q := (17, .iload_n 2, 1)) rfl) rfl rfl 2 rfl ?_
    refine k_aload_n C (pc2 := 19) (dkAt dkX7_mean 12 (q := (18, .aload_n 0, 1)) rfl) rfl rfl 0 rfl ?_
    refine kf_X7_10 C (pc2 := 22) (o := 0) (o2 := 1) hX.1 rfl (dkAt dkX7_mean 13 (q := (19, .getfield 10, 3)) rfl) rfl ?_
    refine kf_X7_216 C (pc2 := 25) (o := 1) (o2 := 0) hX.2.1.1 (dkAt dkX7_mean 14 (q := (22, .getfield 216, 3)) rfl) rfl ?_
    refine k_icmp_ge C (tgt := 52) (pc2 := 28) (dkAt dkX7_mean 15 (q := (25, .if_icmp .ge 27, 3)) rfl) (by decide) rfl h (fun h => ?_) (fun h => ?_)
    · refine k_lv [0, 1] (lv2 := [(0, rA G 0), (1, .int x1)]) rfl ?_
      cases h
      exact hcont
    · refine k_iload_n C (pc2 := 29) (dkAt dkX7_mean 16 (q := (28, .iload_n 1, 1)) rfl) rfl rfl 1 rfl ?_
      refine k_aload_n C (pc2 := 30) (dkAt dkX7_mean 17 (q := (29, .aload_n 0, 1)) rfl) rfl rfl 0 rfl ?_
      refine kf_X7_10 C (pc2 := 33) (o := 0) (o2 := 1) hX.1 rfl (dkAt dkX7_mean 18 (q := (30, .getfield 10, 3)) rfl) rfl ?_
      refine kf_X7_122 C (pc2 := 36) (o := 1) (o2 := 2) hX.2.1.1 rfl (dkAt dkX7_mean 19 (q := (33, .getfield 122, 3)) rfl) rfl ?_
      refine k_iload_n C (pc2 := 37) (dkAt dkX7_mean 20 (q := (36, .iload_n 2, 1)) rfl) rfl rfl 2 rfl ?_
      refine k_aa11 C (pc2 := 38) (o := 2) (o2 := 3 + x2.toNatClampNeg) (nA := 8) hX.2.1.2.1 rfl (dkAt dkX7_mean 21 (q := (37, .aaload, 1)) rfl) rfl h (fun h hl1 => ?_)
      refine kf_X7_203 C (pc2 := 41) (o := 3 + x2.toNatClampNeg) (o2 := 0) (hX.2.1.2.2 _ hl1) (dkAt dkX7_mean 22 (q := (38, .getfield 203, 3)) rfl) rfl ?_
      obtain ⟨q2, e3, h⟩ := ob_inv h
      refine kc_S C (As := [.int (M.1 (3 + x2.toNatClampNeg) 3)]) (st2 := [.int q2, .int x1]) (ct_J6_bitCount_0f7a4 l G sh xs (M.1 (3 + x2.toNatClampNeg) 3) M q2 e3) (cl_X7_232 (hts_of C) ⟨Nat.le_of_ble_eq_true rfl, Nat.le_of_ble_eq_true rfl⟩ rfl rfl) rfl rfl (Nat.le_of_ble_eq_true rfl) (dkAt dkX7_mean 23 (q := (41, .invokestatic 232, 3)) rfl) ⟨Nat.zero_le _, Nat.zero_le _⟩ (pc2 := 44) rfl rfl ?_
      refine k_iadd C (pc2 := 45) (dkAt dkX7_mean 24 (q := (44, .iadd, 1)) rfl) rfl ?_
      refine kb_istore_n C (pc2 := 46) (dkAt dkX7_mean 25 (q := (45, .istore_n 1, 1)) rfl) rfl rfl (by decide) (lv2 := fun v4 => [(1, .int v4), (0, rA G 0), (2, .int x2)]) (fun _ => rfl) h (fun v4 h => ?_)
      refine kb_iinc C (pc2 := 49) (dkAt dkX7_mean 26 (q := (46, .iinc 2 1, 3)) rfl) rfl (j := 2) rfl (v := x2 + 1) rfl (by decide) (lv2 := fun v5 => [(2, .int v5), (1, .int v4), (0, rA G 0)]) (fun _ => rfl) h (fun v5 h => ?_)
      refine k_goto C (tgt := 17) (dkAt dkX7_mean 27 (q := (49, .goto (-32), 3)) rfl) (by decide) ?_
      refine k_lv [2, 1, 0] (lv2 := [(0, rA G 0), (1, .int v4), (2, .int v5)]) rfl ?_
      exact ih v4 v5 h
set_option maxRecDepth 100000 in
set_option maxHeartbeats 4000000 in
theorem ct_X7_mean (l : Launch) (G : GG) (sh : Sh) (xs : List va_E) (hX : isX sh) (M : Mm) (r : Int32) (h : f_X7_mean M = some r) : Ct l yX7_mean cX7_mean 3 (some .int) rm_X7_mean G [rA G 0] sh M xs (some (.int r)) sh M xs 0 0 := by
  refine ct_of (by decide) (Nat.le_of_ble_eq_true rfl) ?_
  intro p e s m args below meth c hnm C
  refine k_lv [0] (lv2 := [(0, rA G 0)]) rfl ?_
  unfold f_X7_mean at h
  refine k_aload_n C (pc2 := 1) (dkAt dkX7_mean 0 (q := (0, .aload_n 0, 1)) rfl) rfl rfl 0 rfl ?_
  refine kf_X7_10 C (pc2 := 4) (o := 0) (o2 := 1) hX.1 rfl (dkAt dkX7_mean 1 (q := (1, .getfield 10, 3)) rfl) rfl ?_
  refine kf_X7_134 C (pc2 := 7) (o := 1) (o2 := 0) hX.2.1.1 (dkAt dkX7_mean 2 (q := (4, .getfield 134, 3)) rfl) rfl ?_
  refine k_iconst C (pc2 := 8) (dkAt dkX7_mean 3 (q := (7, .iconst 1, 1)) rfl) rfl (v := 1) rfl ?_
  refine k_icmp_ge C (tgt := 13) (pc2 := 11) (dkAt dkX7_mean 4 (q := (8, .if_icmp .ge 5, 3)) rfl) (by decide) rfl h (fun h => ?_) (fun h => ?_)
  · refine k_iconst C (pc2 := 14) (dkAt dkX7_mean 7 (q := (13, .iconst 0, 1)) rfl) rfl (v := 0) rfl ?_
    refine k_istore_n C (pc2 := 15) (dkAt dkX7_mean 8 (q := (14, .istore_n 1, 1)) rfl) rfl rfl (by decide) (lv2 := [(1, .int 0), (0, rA G 0)]) rfl ?_
    refine k_iconst C (pc2 := 16) (dkAt dkX7_mean 9 (q := (15, .iconst 0, 1)) rfl) rfl (v := 0) rfl ?_
    refine k_istore_n C (pc2 := 17) (dkAt dkX7_mean 10 (q := (16, .istore_n 2, 1)) rfl) rfl rfl (by decide) (lv2 := [(2, .int 0), (1, .int 0), (0, rA G 0)]) rfl ?_
    refine k_lv [2, 1, 0] (lv2 := [(0, rA G 0), (1, .int 0), (2, .int 0)]) rfl ?_
    obtain ⟨v8, e7, h⟩ := ob_inv h
    refine kl_X7_mean_L17 C hX M v8 ?_ 1000 0 0 e7
    refine k_sipush C (pc2 := 55) (dkAt dkX7_mean 28 (q := (52, .sipush 1000, 3)) rfl) rfl (v := 1000) rfl ?_
    refine k_iload_n C (pc2 := 56) (dkAt dkX7_mean 29 (q := (55, .iload_n 1, 1)) rfl) rfl rfl 1 rfl ?_
    refine k_imul C (pc2 := 57) (dkAt dkX7_mean 30 (q := (56, .imul, 1)) rfl) rfl ?_
    refine k_aload_n C (pc2 := 58) (dkAt dkX7_mean 31 (q := (57, .aload_n 0, 1)) rfl) rfl rfl 0 rfl ?_
    refine kf_X7_10 C (pc2 := 61) (o := 0) (o2 := 1) hX.1 rfl (dkAt dkX7_mean 32 (q := (58, .getfield 10, 3)) rfl) rfl ?_
    refine kf_X7_134 C (pc2 := 64) (o := 1) (o2 := 0) hX.2.1.1 (dkAt dkX7_mean 33 (q := (61, .getfield 134, 3)) rfl) rfl ?_
    obtain ⟨hz, h⟩ := chz_inv h
    refine k_idivc C (pc2 := 65) (dkAt dkX7_mean 34 (q := (64, .idiv, 1)) rfl) rfl hz ?_
    exact k_iret C (dkAt dkX7_mean 35 (q := (65, .ireturn, 1)) rfl) (Option.some.inj h) rfl rfl rfl
  · refine k_iconst C (pc2 := 12) (dkAt dkX7_mean 5 (q := (11, .iconst 0, 1)) rfl) rfl (v := 0) rfl ?_
    exact k_iret C (dkAt dkX7_mean 6 (q := (12, .ireturn, 1)) rfl) (Option.some.inj h) rfl rfl rfl
set_option maxRecDepth 100000 in
set_option maxHeartbeats 4000000 in
theorem kl_X7_firstBit_L2 {p : Program} {l : Launch} {e : Env} {s : State} {m : MethodId} {args : Array Value} {below : List Frame} {meth : Method} {c : Code} {G : GG} {sh : Sh} {xs : List va_E} (C : Cx p s m c args meth G RX7 cX7_firstBit 3 (some .int)) (x0 : Int32) (M : Mm) (r : Int32) (t : (Unit) ⊕ (Int32)) (hcont : t = Sum.inl () → KW p l e rm_X7_firstBit s m args below meth c G 3 (MQ below (QO G (some (.int r)) sh M xs) args s 0 0 (gA G)) sh xs 0 0 M 24 [] []) (hres : ∀ z, t = Sum.inr z → z = r) : ∀ (n : Nat) (x2 : Int32), f_X7_firstBit_L2 x0 n x2 = some t → KW p l e rm_X7_firstBit s m args below meth c G 3 (MQ below (QO G (some (.int r)) sh M xs) args s 0 0 (gA G)) sh xs 0 0 M 2 [(0, .int x0), (2, .int x2)] [] := by
  intro n
  induction n with
  | zero =>
    intro x2 h
    cases h
  | succ n ih =>
    intro x2 h
    unfold f_X7_firstBit_L2 at h
    refine k_iload_n C (pc2 := 3) (dkAt dkX7_firstBit 2 (q := (2, .iload_n 2, 1)) rfl) rfl rfl 1 rfl ?_
    refine k_bipush C (pc2 := 5) (dkAt dkX7_firstBit 3 (q := (3, .bipush 14, 2)) rfl) rfl (v := 14) rfl ?_
    refine k_icmp_ge C (tgt := 24) (pc2 := 8) (dkAt dkX7_firstBit 4 (q := (5, .if_icmp .ge 19, 3)) rfl) (by decide) rfl h (fun h => ?_) (fun h => ?_)
    · refine k_lv [] (lv2 := []) rfl ?_
      exact hcont (Option.some.inj h).symm
    · refine k_iload_n C (pc2 := 9) (dkAt dkX7_firstBit 5 (q := (8, .iload_n 0, 1)) rfl) rfl rfl 0 rfl ?_
      refine k_iload_n C (pc2 := 10) (dkAt dkX7_firstBit 6 (q := (9, .iload_n 2, 1)) rfl) rfl rfl 1 rfl ?_
      obtain ⟨q1, e2, h⟩ := ob_inv h
      refine kc_S C (As := [.int x0, .int x2]) (st2 := [.int q1]) (ct_X7_hasBit l G sh xs x0 x2 M q1 e2) (cl_X7_294 (hts_of C) ⟨Nat.le_of_ble_eq_true rfl, Nat.le_of_ble_eq_true rfl⟩ rfl rfl) rfl rfl (Nat.le_of_ble_eq_true rfl) (dkAt dkX7_firstBit 7 (q := (10, .invokestatic 294, 3)) rfl) ⟨Nat.zero_le _, Nat.zero_le _⟩ (pc2 := 13) rfl rfl ?_
      refine k_if_eq C (tgt := 18) (pc2 := 16) (dkAt dkX7_firstBit 8 (q := (13, .ifCond .eq 5, 3)) rfl) (by decide) rfl h (fun h => ?_) (fun h => ?_)
      · refine kb_iinc C (pc2 := 21) (dkAt dkX7_firstBit 11 (q := (18, .iinc 2 1, 3)) rfl) rfl (j := 1) rfl (v := x2 + 1) rfl (by decide) (lv2 := fun v3 => [(2, .int v3), (0, .int x0)]) (fun _ => rfl) h (fun v3 h => ?_)
        refine k_goto C (tgt := 2) (dkAt dkX7_firstBit 12 (q := (21, .goto (-19), 3)) rfl) (by decide) ?_
        refine k_lv [1, 0] (lv2 := [(0, .int x0), (2, .int v3)]) rfl ?_
        exact ih v3 h
      · refine k_iload_n C (pc2 := 17) (dkAt dkX7_firstBit 9 (q := (16, .iload_n 2, 1)) rfl) rfl rfl 1 rfl ?_
        exact k_iret C (dkAt dkX7_firstBit 10 (q := (17, .ireturn, 1)) rfl) (hres _ (Option.some.inj h).symm) rfl rfl rfl
set_option maxRecDepth 100000 in
set_option maxHeartbeats 4000000 in
theorem ct_X7_firstBit (l : Launch) (G : GG) (sh : Sh) (xs : List va_E) (x0 : Int32) (x1 : Int32) (M : Mm) (r : Int32) (h : f_X7_firstBit x0 x1 = some r) : Ct l yX7_firstBit cX7_firstBit 3 (some .int) rm_X7_firstBit G [.int x0, .int x1] sh M xs (some (.int r)) sh M xs 0 0 := by
  refine ct_of (by decide) (Nat.le_of_ble_eq_true rfl) ?_
  intro p e s m args below meth c hnm C
  refine k_lv [0, 1] (lv2 := [(0, .int x0), (1, .int x1)]) rfl ?_
  unfold f_X7_firstBit at h
  refine k_iload_n C (pc2 := 1) (dkAt dkX7_firstBit 0 (q := (0, .iload_n 1, 1)) rfl) rfl rfl 1 rfl ?_
  refine k_istore_n C (pc2 := 2) (dkAt dkX7_firstBit 1 (q := (1, .istore_n 2, 1)) rfl) rfl rfl (by decide) (lv2 := [(2, .int x1), (0, .int x0), (1, .int x1)]) rfl ?_
  refine k_lv [1, 0] (lv2 := [(0, .int x0), (2, .int x1)]) rfl ?_
  obtain ⟨t4, e5, hA, hB⟩ := obS_inv h
  refine kl_X7_firstBit_L2 C x0 M r t4 ?_ ?_ 1000 x1 e5
  · intro et
    have h := hA _ et
    refine k_iconst C (pc2 := 25) (dkAt dkX7_firstBit 13 (q := (24, .iconst (-1), 1)) rfl) rfl (v := (-1)) rfl ?_
    exact k_iret C (dkAt dkX7_firstBit 14 (q := (25, .ireturn, 1)) rfl) (Option.some.inj h) rfl rfl rfl
  · intro z et
    have h := hB _ et
    exact Option.some.inj h
set_option maxRecDepth 100000 in
set_option maxHeartbeats 4000000 in
theorem ct_X7_withHost (l : Launch) (G : GG) (sh : Sh) (xs : List va_E) (hX : isX sh) (x1 : Int32) (M : Mm) (r : Mm × Int32) (h : f_X7_withHost x1 M = some r) : Ct l yX7_withHost cX7_withHost 2 (some .int) rm_X7_withHost G [rA G 0, .int x1] sh M xs (some (.int r.2)) sh r.1 xs 0 0 := by
  refine ct_of (by decide) (Nat.le_of_ble_eq_true rfl) ?_
  intro p e s m args below meth c hnm C
  refine k_lv [0, 1] (lv2 := [(0, rA G 0), (1, .int x1)]) rfl ?_
  unfold f_X7_withHost at h
  refine k_aload_n C (pc2 := 1) (dkAt dkX7_withHost 0 (q := (0, .aload_n 0, 1)) rfl) rfl rfl 0 rfl ?_
  refine kf_X7_10 C (pc2 := 4) (o := 0) (o2 := 1) hX.1 rfl (dkAt dkX7_withHost 1 (q := (1, .getfield 10, 3)) rfl) rfl ?_
  refine k_iload_n C (pc2 := 5) (dkAt dkX7_withHost 2 (q := (4, .iload_n 1, 1)) rfl) rfl rfl 1 rfl ?_
  obtain ⟨q1, e2, h⟩ := ob_inv h
  refine kc_V C (As := [.int x1]) (st2 := [.int q1]) (ct_X1_hasPerson l G sh xs 1 hX.2.1 x1 M q1 e2) (cl_X7_105 (hts_of C) ⟨Nat.le_of_ble_eq_true rfl, Nat.le_of_ble_eq_true rfl⟩ rfl rfl) hX.2.1.1 rfl rfl rfl rfl rfl (Nat.le_of_ble_eq_true rfl) (dkAt dkX7_withHost 3 (q := (5, .invokevirtual 105, 3)) rfl) ⟨Nat.zero_le _, Nat.zero_le _⟩ (pc2 := 8) rfl rfl ?_
  refine k_if_eq C (tgt := 28) (pc2 := 11) (dkAt dkX7_withHost 4 (q := (8, .ifCond .eq 20, 3)) rfl) (by decide) rfl h (fun h => ?_) (fun h => ?_)
  · refine k_aload_n C (pc2 := 29) (dkAt dkX7_withHost 12 (q := (28, .aload_n 0, 1)) rfl) rfl rfl 0 rfl ?_
    refine k_bipush C (pc2 := 31) (dkAt dkX7_withHost 13 (q := (29, .bipush (-2), 2)) rfl) rfl (v := (-2)) rfl ?_
    obtain ⟨q3, e4, h⟩ := ob_inv h
    refine kc_V C (As := [.int (-2)]) (st2 := [.int q3.2]) (ct_X7_refuse l G sh xs hX (-2) M q3 e4) (cl_X7_62 (hts_of C) ⟨Nat.le_of_ble_eq_true rfl, Nat.le_of_ble_eq_true rfl⟩ rfl rfl) hX.1 rfl rfl rfl rfl rfl (Nat.le_of_ble_eq_true rfl) (dkAt dkX7_withHost 14 (q := (31, .invokevirtual 62, 3)) rfl) ⟨Nat.zero_le _, Nat.zero_le _⟩ (pc2 := 34) rfl rfl ?_
    exact k_iret C (dkAt dkX7_withHost 15 (q := (34, .ireturn, 1)) rfl) (pe2 (Option.some.inj h)) rfl (pe1 (Option.some.inj h)) rfl
  · refine k_aload_n C (pc2 := 12) (dkAt dkX7_withHost 5 (q := (11, .aload_n 0, 1)) rfl) rfl rfl 0 rfl ?_
    refine kf_X7_10 C (pc2 := 15) (o := 0) (o2 := 1) hX.1 rfl (dkAt dkX7_withHost 6 (q := (12, .getfield 10, 3)) rfl) rfl ?_
    refine k_aload_n C (pc2 := 16) (dkAt dkX7_withHost 7 (q := (15, .aload_n 0, 1)) rfl) rfl rfl 0 rfl ?_
    refine kf_X7_10 C (pc2 := 19) (o := 0) (o2 := 1) hX.1 rfl (dkAt dkX7_withHost 8 (q := (16, .getfield 10, 3)) rfl) rfl ?_
    refine kf_X7_157 C (pc2 := 22) (o := 1) (o2 := 0) hX.2.1.1 (dkAt dkX7_withHost 9 (q := (19, .getfield 157, 3)) rfl) rfl ?_
    obtain ⟨q5, e6, h⟩ := ob_inv h
    refine kc_V C (As := [.int (M.1 1 2)]) (st2 := [.int q5]) (ct_X1_hasPerson l G sh xs 1 hX.2.1 (M.1 1 2) M q5 e6) (cl_X7_105 (hts_of C) ⟨Nat.le_of_ble_eq_true rfl, Nat.le_of_ble_eq_true rfl⟩ rfl rfl) hX.2.1.1 rfl rfl rfl rfl rfl (Nat.le_of_ble_eq_true rfl) (dkAt dkX7_withHost 10 (q := (22, .invokevirtual 105, 3)) rfl) ⟨Nat.zero_le _, Nat.zero_le _⟩ (pc2 := 25) rfl rfl ?_
    refine k_if_ne C (tgt := 35) (pc2 := 28) (dkAt dkX7_withHost 11 (q := (25, .ifCond .ne 10, 3)) rfl) (by decide) rfl h (fun h => ?_) (fun h => ?_)
    · refine k_aload_n C (pc2 := 36) (dkAt dkX7_withHost 16 (q := (35, .aload_n 0, 1)) rfl) rfl rfl 0 rfl ?_
      refine kf_X7_10 C (pc2 := 39) (o := 0) (o2 := 1) hX.1 rfl (dkAt dkX7_withHost 17 (q := (36, .getfield 10, 3)) rfl) rfl ?_
      refine kf_X7_122 C (pc2 := 42) (o := 1) (o2 := 2) hX.2.1.1 rfl (dkAt dkX7_withHost 18 (q := (39, .getfield 122, 3)) rfl) rfl ?_
      refine k_iload_n C (pc2 := 43) (dkAt dkX7_withHost 19 (q := (42, .iload_n 1, 1)) rfl) rfl rfl 1 rfl ?_
      refine k_aa11 C (pc2 := 44) (o := 2) (o2 := 3 + x1.toNatClampNeg) (nA := 8) hX.2.1.2.1 rfl (dkAt dkX7_withHost 20 (q := (43, .aaload, 1)) rfl) rfl h (fun h hl7 => ?_)
      refine kf_X7_203 C (pc2 := 47) (o := 3 + x1.toNatClampNeg) (o2 := 0) (hX.2.1.2.2 _ hl7) (dkAt dkX7_withHost 21 (q := (44, .getfield 203, 3)) rfl) rfl ?_
      refine k_aload_n C (pc2 := 48) (dkAt dkX7_withHost 22 (q := (47, .aload_n 0, 1)) rfl) rfl rfl 0 rfl ?_
      refine kf_X7_10 C (pc2 := 51) (o := 0) (o2 := 1) hX.1 rfl (dkAt dkX7_withHost 23 (q := (48, .getfield 10, 3)) rfl) rfl ?_
      refine kf_X7_122 C (pc2 := 54) (o := 1) (o2 := 2) hX.2.1.1 rfl (dkAt dkX7_withHost 24 (q := (51, .getfield 122, 3)) rfl) rfl ?_
      refine k_aload_n C (pc2 := 55) (dkAt dkX7_withHost 25 (q := (54, .aload_n 0, 1)) rfl) rfl rfl 0 rfl ?_
      refine kf_X7_10 C (pc2 := 58) (o := 0) (o2 := 1) hX.1 rfl (dkAt dkX7_withHost 26 (q := (55, .getfield 10, 3)) rfl) rfl ?_
      refine kf_X7_157 C (pc2 := 61) (o := 1) (o2 := 0) hX.2.1.1 (dkAt dkX7_withHost 27 (q := (58, .getfield 157, 3)) rfl) rfl ?_
      refine k_aa11 C (pc2 := 62) (o := 2) (o2 := 3 + (M.1 1 2).toNatClampNeg) (nA := 8) hX.2.1.2.1 rfl (dkAt dkX7_withHost 28 (q := (61, .aaload, 1)) rfl) rfl h (fun h hl8 => ?_)
      refine kf_X7_203 C (pc2 := 65) (o := 3 + (M.1 1 2).toNatClampNeg) (o2 := 0) (hX.2.1.2.2 _ hl8) (dkAt dkX7_withHost 29 (q := (62, .getfield 203, 3)) rfl) rfl ?_
      refine k_iand C (pc2 := 66) (dkAt dkX7_withHost 30 (q := (65, .iand, 1)) rfl) rfl ?_
      refine k_iconst C (pc2 := 67) (dkAt dkX7_withHost 31 (q := (66, .iconst 0, 1)) rfl) rfl (v := 0) rfl ?_
      obtain ⟨q9, e10, h⟩ := ob_inv h
      refine kc_S C (As := [.int ((M.1 (3 + x1.toNatClampNeg) 3) &&& (M.1 (3 + (M.1 1 2).toNatClampNeg) 3)), .int 0]) (st2 := [.int q9]) (ct_X7_firstBit l G sh xs ((M.1 (3 + x1.toNatClampNeg) 3) &&& (M.1 (3 + (M.1 1 2).toNatClampNeg) 3)) 0 M q9 e10) (cl_X7_306 (hts_of C) ⟨Nat.le_of_ble_eq_true rfl, Nat.le_of_ble_eq_true rfl⟩ rfl rfl) rfl rfl (Nat.le_of_ble_eq_true rfl) (dkAt dkX7_withHost 32 (q := (67, .invokestatic 306, 3)) rfl) ⟨Nat.zero_le _, Nat.zero_le _⟩ (pc2 := 70) rfl rfl ?_
      exact k_iret C (dkAt dkX7_withHost 33 (q := (70, .ireturn, 1)) rfl) (pe2 (Option.some.inj h)) rfl (pe1 (Option.some.inj h)) rfl
    · refine k_aload_n C (pc2 := 29) (dkAt dkX7_withHost 12 (q := (28, .aload_n 0, 1)) rfl) rfl rfl 0 rfl ?_
      refine k_bipush C (pc2 := 31) (dkAt dkX7_withHost 13 (q := (29, .bipush (-2), 2)) rfl) rfl (v := (-2)) rfl ?_
      obtain ⟨q11, e12, h⟩ := ob_inv h
      refine kc_V C (As := [.int (-2)]) (st2 := [.int q11.2]) (ct_X7_refuse l G sh xs hX (-2) M q11 e12) (cl_X7_62 (hts_of C) ⟨Nat.le_of_ble_eq_true rfl, Nat.le_of_ble_eq_true rfl⟩ rfl rfl) hX.1 rfl rfl rfl rfl rfl (Nat.le_of_ble_eq_true rfl) (dkAt dkX7_withHost 14 (q := (31, .invokevirtual 62, 3)) rfl) ⟨Nat.zero_le _, Nat.zero_le _⟩ (pc2 := 34) rfl rfl ?_
      exact k_iret C (dkAt dkX7_withHost 15 (q := (34, .ireturn, 1)) rfl) (pe2 (Option.some.inj h)) rfl (pe1 (Option.some.inj h)) rfl
set_option maxRecDepth 100000 in
set_option maxHeartbeats 4000000 in
theorem kl_X7_addToCrowd_L3 {p : Program} {l : Launch} {e : Env} {s : State} {m : MethodId} {args : Array Value} {below : List Frame} {meth : Method} {c : Code} {G : GG} {sh : Sh} {xs : List va_E} {Q : State → Prop} (C : Cx p s m c args meth G RX7 cX7_addToCrowd 3 none) (hX : isX sh) (x1 : Int32) (M2 : Mm) (hcont : KW p l e rm_X7_addToCrowd s m args below meth c G 3 Q sh xs 0 0 M2 45 [(0, rA G 0), (1, .int x1)] []) : ∀ (n : Nat) (x2 : Int32) (M : Mm), f_X7_addToCrowd_L3 x1 n x2 M = some M2 → KW p l e rm_X7_addToCrowd s m args below meth c G 3 Q sh xs 0 0 M 3 [(0, rA G 0), (1, .int x1), (2, .int x2)] [] := by
  intro n
  induction n with
  | zero =>
    intro x2 M h
    cases h
  | succ n ih =>
    intro x2 M h
    unfold f_X7_addToCrowd_L3 at h
    refine k_iload_n C (pc2 := 4) (dkAt dkX7_addToCrowd 2 (q := (3, .iload_n 2, 1)) rfl) rfl rfl 2 rfl ?_
    refine k_if_le C (tgt := 45) (pc2 := 7) (dkAt dkX7_addToCrowd 3 (q := (4, .ifCond .le 41, 3)) rfl) (by decide) rfl h (fun h => ?_) (fun h => ?_)
    · refine k_lv [0, 1] (lv2 := [(0, rA G 0), (1, .int x1)]) rfl ?_
      cases h
      exact hcont
    · refine k_aload_n C (pc2 := 8) (dkAt dkX7_addToCrowd 4 (q := (7, .aload_n 0, 1)) rfl) rfl rfl 0 rfl ?_
      refine kf_X7_46 C (pc2 := 11) (o := 0) (o2 := 51) hX.1 rfl (dkAt dkX7_addToCrowd 5 (q := (8, .getfield 46, 3)) rfl) rfl ?_
      refine k_iload_n C (pc2 := 12) (dkAt dkX7_addToCrowd 6 (q := (11, .iload_n 2, 1)) rfl) rfl rfl 2 rfl ?_
      refine k_aload_n C (pc2 := 13) (dkAt dkX7_addToCrowd 7 (q := (12, .aload_n 0, 1)) rfl) rfl rfl 0 rfl ?_
      refine kf_X7_46 C (pc2 := 16) (o := 0) (o2 := 51) hX.1 rfl (dkAt dkX7_addToCrowd 8 (q := (13, .getfield 46, 3)) rfl) rfl ?_
      refine k_iload_n C (pc2 := 17) (dkAt dkX7_addToCrowd 9 (q := (16, .iload_n 2, 1)) rfl) rfl rfl 2 rfl ?_
      refine k_iald C (pc2 := 18) (o := 51) (nA := 21) hX.2.2.2.2.2.2.2.1 (dkAt dkX7_addToCrowd 10 (q := (17, .iaload, 1)) rfl) rfl h (fun h => ?_)
      refine k_bipush C (pc2 := 20) (dkAt dkX7_addToCrowd 11 (q := (18, .bipush 12, 2)) rfl) rfl (v := 12) rfl ?_
      refine k_iload_n C (pc2 := 21) (dkAt dkX7_addToCrowd 12 (q := (20, .iload_n 1, 1)) rfl) rfl rfl 1 rfl ?_
      refine k_isub C (pc2 := 22) (dkAt dkX7_addToCrowd 13 (q := (21, .isub, 1)) rfl) rfl ?_
      obtain ⟨q1, e2, h⟩ := ob_inv h
      refine kc_S C (As := [.int (M.1 51 x2.toNatClampNeg), .int (12 - x1)]) (st2 := [.int q1, .int x2, rA G 51]) (ct_X7_twelfths l G sh xs (M.1 51 x2.toNatClampNeg) (12 - x1) M q1 e2) (cl_X7_248 (hts_of C) ⟨Nat.le_of_ble_eq_true rfl, Nat.le_of_ble_eq_true rfl⟩ rfl rfl) rfl rfl (Nat.le_of_ble_eq_true rfl) (dkAt dkX7_addToCrowd 14 (q := (22, .invokestatic 248, 3)) rfl) ⟨Nat.zero_le _, Nat.zero_le _⟩ (pc2 := 25) rfl rfl ?_
      refine k_aload_n C (pc2 := 26) (dkAt dkX7_addToCrowd 15 (q := (25, .aload_n 0, 1)) rfl) rfl rfl 0 rfl ?_
      refine kf_X7_46 C (pc2 := 29) (o := 0) (o2 := 51) hX.1 rfl (dkAt dkX7_addToCrowd 16 (q := (26, .getfield 46, 3)) rfl) rfl ?_
      refine k_iload_n C (pc2 := 30) (dkAt dkX7_addToCrowd 17 (q := (29, .iload_n 2, 1)) rfl) rfl rfl 2 rfl ?_
      refine k_iconst C (pc2 := 31) (dkAt dkX7_addToCrowd 18 (q := (30, .iconst 1, 1)) rfl) rfl (v := 1) rfl ?_
      refine k_isub C (pc2 := 32) (dkAt dkX7_addToCrowd 19 (q := (31, .isub, 1)) rfl) rfl ?_
      refine k_iald C (pc2 := 33) (o := 51) (nA := 21) hX.2.2.2.2.2.2.2.1 (dkAt dkX7_addToCrowd 20 (q := (32, .iaload, 1)) rfl) rfl h (fun h => ?_)
      refine k_iload_n C (pc2 := 34) (dkAt dkX7_addToCrowd 21 (q := (33, .iload_n 1, 1)) rfl) rfl rfl 1 rfl ?_
      obtain ⟨q3, e4, h⟩ := ob_inv h
      refine kc_S C (As := [.int (M.1 51 (x2 - 1).toNatClampNeg), .int x1]) (st2 := [.int q3, .int q1, .int x2, rA G 51]) (ct_X7_twelfths l G sh xs (M.1 51 (x2 - 1).toNatClampNeg) x1 M q3 e4) (cl_X7_248 (hts_of C) ⟨Nat.le_of_ble_eq_true rfl, Nat.le_of_ble_eq_true rfl⟩ rfl rfl) rfl rfl (Nat.le_of_ble_eq_true rfl) (dkAt dkX7_addToCrowd 22 (q := (34, .invokestatic 248, 3)) rfl) ⟨Nat.zero_le _, Nat.zero_le _⟩ (pc2 := 37) rfl rfl ?_
      refine k_iadd C (pc2 := 38) (dkAt dkX7_addToCrowd 23 (q := (37, .iadd, 1)) rfl) rfl ?_
      refine k_iast C (pc2 := 39) (o := 51) (nA := 21) hX.2.2.2.2.2.2.2.1 (dkAt dkX7_addToCrowd 24 (q := (38, .iastore, 1)) rfl) rfl h (fun M5 h => ?_)
      refine kb_iinc C (pc2 := 42) (dkAt dkX7_addToCrowd 25 (q := (39, .iinc 2 (-1), 3)) rfl) rfl (j := 2) rfl (v := x2 + (-1)) rfl (by decide) (lv2 := fun v6 => [(2, .int v6), (0, rA G 0), (1, .int x1)]) (fun _ => rfl) h (fun v6 h => ?_)
      refine k_goto C (tgt := 3) (dkAt dkX7_addToCrowd 26 (q := (42, .goto (-39), 3)) rfl) (by decide) ?_
      refine k_lv [1, 2, 0] (lv2 := [(0, rA G 0), (1, .int x1), (2, .int v6)]) rfl ?_
      exact ih v6 M5 h
set_option maxRecDepth 100000 in
set_option maxHeartbeats 4000000 in
theorem ct_X7_addToCrowd (l : Launch) (G : GG) (sh : Sh) (xs : List va_E) (hX : isX sh) (x1 : Int32) (M : Mm) (r : Mm) (h : f_X7_addToCrowd x1 M = some r) : Ct l yX7_addToCrowd cX7_addToCrowd 3 none rm_X7_addToCrowd G [rA G 0, .int x1] sh M xs none sh r xs 0 0 := by
  refine ct_of (by decide) (Nat.le_of_ble_eq_true rfl) ?_
  intro p e s m args below meth c hnm C
  refine k_lv [0, 1] (lv2 := [(0, rA G 0), (1, .int x1)]) rfl ?_
  unfold f_X7_addToCrowd at h
  refine k_bipush C (pc2 := 2) (dkAt dkX7_addToCrowd 0 (q := (0, .bipush 20, 2)) rfl) rfl (v := 20) rfl ?_
  refine k_istore_n C (pc2 := 3) (dkAt dkX7_addToCrowd 1 (q := (2, .istore_n 2, 1)) rfl) rfl rfl (by decide) (lv2 := [(2, .int 20), (0, rA G 0), (1, .int x1)]) rfl ?_
  refine k_lv [1, 2, 0] (lv2 := [(0, rA G 0), (1, .int x1), (2, .int 20)]) rfl ?_
  obtain ⟨M9, e8, h⟩ := ob_inv h
  refine kl_X7_addToCrowd_L3 C hX x1 M9 ?_ 1000 20 M e8
  refine k_aload_n C (pc2 := 46) (dkAt dkX7_addToCrowd 27 (q := (45, .aload_n 0, 1)) rfl) rfl rfl 0 rfl ?_
  refine kf_X7_46 C (pc2 := 49) (o := 0) (o2 := 51) hX.1 rfl (dkAt dkX7_addToCrowd 28 (q := (46, .getfield 46, 3)) rfl) rfl ?_
  refine k_iconst C (pc2 := 50) (dkAt dkX7_addToCrowd 29 (q := (49, .iconst 0, 1)) rfl) rfl (v := 0) rfl ?_
  refine k_aload_n C (pc2 := 51) (dkAt dkX7_addToCrowd 30 (q := (50, .aload_n 0, 1)) rfl) rfl rfl 0 rfl ?_
  refine kf_X7_46 C (pc2 := 54) (o := 0) (o2 := 51) hX.1 rfl (dkAt dkX7_addToCrowd 31 (q := (51, .getfield 46, 3)) rfl) rfl ?_
  refine k_iconst C (pc2 := 55) (dkAt dkX7_addToCrowd 32 (q := (54, .iconst 0, 1)) rfl) rfl (v := 0) rfl ?_
  refine k_ialdc C (pc2 := 56) (o := 51) (nA := 21) (j := 0) hX.2.2.2.2.2.2.2.1 (dkAt dkX7_addToCrowd 33 (q := (55, .iaload, 1)) rfl) rfl (by unfold vp_in; decide) (by decide) ?_
  refine k_bipush C (pc2 := 58) (dkAt dkX7_addToCrowd 34 (q := (56, .bipush 12, 2)) rfl) rfl (v := 12) rfl ?_
  refine k_iload_n C (pc2 := 59) (dkAt dkX7_addToCrowd 35 (q := (58, .iload_n 1, 1)) rfl) rfl rfl 1 rfl ?_
  refine k_isub C (pc2 := 60) (dkAt dkX7_addToCrowd 36 (q := (59, .isub, 1)) rfl) rfl ?_
  obtain ⟨q10, e11, h⟩ := ob_inv h
  refine kc_S C (As := [.int (M9.1 51 0), .int (12 - x1)]) (st2 := [.int q10, .int 0, rA G 51]) (ct_X7_twelfths l G sh xs (M9.1 51 0) (12 - x1) M9 q10 e11) (cl_X7_248 (hts_of C) ⟨Nat.le_of_ble_eq_true rfl, Nat.le_of_ble_eq_true rfl⟩ rfl rfl) rfl rfl (Nat.le_of_ble_eq_true rfl) (dkAt dkX7_addToCrowd 37 (q := (60, .invokestatic 248, 3)) rfl) ⟨Nat.zero_le _, Nat.zero_le _⟩ (pc2 := 63) rfl rfl ?_
  refine k_iastc C (pc2 := 64) (o := 51) (nA := 21) (j := 0) hX.2.2.2.2.2.2.2.1 (dkAt dkX7_addToCrowd 38 (q := (63, .iastore, 1)) rfl) rfl (by unfold vp_in; decide) (by decide) h (fun M12 h => ?_)
  exact k_vret C (dkAt dkX7_addToCrowd 39 (q := (64, .return_, 1)) rfl) rfl (Option.some.inj h) rfl
set_option maxRecDepth 100000 in
set_option maxHeartbeats 4000000 in
theorem kl_X7_most_L56 {p : Program} {l : Launch} {e : Env} {s : State} {m : MethodId} {args : Array Value} {below : List Frame} {meth : Method} {c : Code} {G : GG} {sh : Sh} {xs : List va_E} {Q : State → Prop} (C : Cx p s m c args meth G RX7 cX7_most 6 (some .int)) (hX : isX sh) (x1 : Int32) (x2 : Int32) (x3 : Int32) (M2 : Mm) (hcont : KW p l e rm_X7_most s m args below meth c G 6 Q sh xs 0 0 M2 73 [(0, rA G 0), (3, .int x3)] []) : ∀ (n : Nat) (x4 : Int32) (M : Mm), f_X7_most_L56 x1 x2 x3 n x4 M = some M2 → KW p l e rm_X7_most s m args below meth c G 6 Q sh xs 0 0 M 56 [(0, rA G 0), (1, .int x1), (2, .int x2), (3, .int x3), (4, .int x4)] [] := by
  intro n
  induction n with
  | zero =>
    intro x4 M h
    cases h
  | succ n ih =>
    intro x4 M h
    unfold f_X7_most_L56 at h
    refine k_iload C (pc2 := 58) (dkAt dkX7_most 30 (q := (56, .iload 4, 2)) rfl) rfl 4 rfl ?_
    refine k_iload_n C (pc2 := 59) (dkAt dkX7_most 31 (q := (58, .iload_n 1, 1)) rfl) rfl rfl 1 rfl ?_
    refine k_icmp_ge C (tgt := 73) (pc2 := 62) (dkAt dkX7_most 32 (q := (59, .if_icmp .ge 14, 3)) rfl) (by decide) rfl h (fun h => ?_) (fun h => ?_)
    · refine k_lv [0, 3] (lv2 := [(0, rA G 0), (3, .int x3)]) rfl ?_
      cases h
      exact hcont
    · refine k_aload_n C (pc2 := 63) (dkAt dkX7_most 33 (q := (62, .aload_n 0, 1)) rfl) rfl rfl 0 rfl ?_
      refine k_iload_n C (pc2 := 64) (dkAt dkX7_most 34 (q := (63, .iload_n 2, 1)) rfl) rfl rfl 2 rfl ?_
      obtain ⟨q14, e15, h⟩ := ob_inv h
      refine kc_V C (As := [.int x2]) (st2 := []) (ct_X7_addToCrowd l G sh xs hX x2 M q14 e15) (cl_X7_315 (hts_of C) ⟨Nat.le_of_ble_eq_true rfl, Nat.le_of_ble_eq_true rfl⟩ rfl rfl) hX.1 rfl rfl rfl rfl rfl (Nat.le_of_ble_eq_true rfl) (dkAt dkX7_most 35 (q := (64, .invokevirtual 315, 3)) rfl) ⟨Nat.zero_le _, Nat.zero_le _⟩ (pc2 := 67) rfl rfl ?_
      refine kb_iinc C (pc2 := 70) (dkAt dkX7_most 36 (q := (67, .iinc 4 1, 3)) rfl) rfl (j := 4) rfl (v := x4 + 1) rfl (by decide) (lv2 := fun v16 => [(4, .int v16), (0, rA G 0), (1, .int x1), (2, .int x2), (3, .int x3)]) (fun _ => rfl) h (fun v16 h => ?_)
      refine k_goto C (tgt := 56) (dkAt dkX7_most 37 (q := (70, .goto (-14), 3)) rfl) (by decide) ?_
      refine k_lv [1, 2, 3, 4, 0] (lv2 := [(0, rA G 0), (1, .int x1), (2, .int x2), (3, .int x3), (4, .int v16)]) rfl ?_
      exact ih v16 q14 h
set_option maxRecDepth 100000 in
set_option maxHeartbeats 4000000 in
theorem kl_X7_most_L79 {p : Program} {l : Launch} {e : Env} {s : State} {m : MethodId} {args : Array Value} {below : List Frame} {meth : Method} {c : Code} {G : GG} {sh : Sh} {xs : List va_E} {Q : State → Prop} (C : Cx p s m c args meth G RX7 cX7_most 6 (some .int)) (hX : isX sh) (M : Mm) (y4 : Int32) (hcont : KW p l e rm_X7_most s m args below meth c G 6 Q sh xs 0 0 M 104 [(4, .int y4)] []) : ∀ (n : Nat) (x4 : Int32) (x5 : Int32), f_X7_most_L79 M n x4 x5 = some y4 → KW p l e rm_X7_most s m args below meth c G 6 Q sh xs 0 0 M 79 [(0, rA G 0), (4, .int x4), (5, .int x5)] [] := by
  intro n
  induction n with
  | zero =>
    intro x4 x5 h
    cases h
  | succ n ih =>
    intro x4 x5 h
    unfold f_X7_most_L79 at h
    refine k_iload C (pc2 := 81) (dkAt dkX7_most 42 (q := (79, .iload 5, 2)) rfl) rfl 2 rfl ?_
    refine k_bipush C (pc2 := 83) (dkAt dkX7_most 43 (q := (81, .bipush 20, 2)) rfl) rfl (v := 20) rfl ?_
    refine k_icmp_gt C (tgt := 104) (pc2 := 86) (dkAt dkX7_most 44 (q := (83, .if_icmp .gt 21, 3)) rfl) (by decide) rfl h (fun h => ?_) (fun h => ?_)
    · refine k_lv [1] (lv2 := [(4, .int x4)]) rfl ?_
      cases h
      exact hcont
    · refine k_iload C (pc2 := 88) (dkAt dkX7_most 45 (q := (86, .iload 4, 2)) rfl) rfl 1 rfl ?_
      refine k_aload_n C (pc2 := 89) (dkAt dkX7_most 46 (q := (88, .aload_n 0, 1)) rfl) rfl rfl 0 rfl ?_
      refine kf_X7_46 C (pc2 := 92) (o := 0) (o2 := 51) hX.1 rfl (dkAt dkX7_most 47 (q := (89, .getfield 46, 3)) rfl) rfl ?_
      refine k_iload C (pc2 := 94) (dkAt dkX7_most 48 (q := (92, .iload 5, 2)) rfl) rfl 2 rfl ?_
      refine k_iald C (pc2 := 95) (o := 51) (nA := 21) hX.2.2.2.2.2.2.2.1 (dkAt dkX7_most 49 (q := (94, .iaload, 1)) rfl) rfl h (fun h => ?_)
      refine k_iadd C (pc2 := 96) (dkAt dkX7_most 50 (q := (95, .iadd, 1)) rfl) rfl ?_
      refine kb_istore C (pc2 := 98) (dkAt dkX7_most 51 (q := (96, .istore 4, 2)) rfl) rfl (by decide) (lv2 := fun v20 => [(4, .int v20), (0, rA G 0), (5, .int x5)]) (fun _ => rfl) h (fun v20 h => ?_)
      refine kb_iinc C (pc2 := 101) (dkAt dkX7_most 52 (q := (98, .iinc 5 1, 3)) rfl) rfl (j := 2) rfl (v := x5 + 1) rfl (by decide) (lv2 := fun v21 => [(5, .int v21), (4, .int v20), (0, rA G 0)]) (fun _ => rfl) h (fun v21 h => ?_)
      refine k_goto C (tgt := 79) (dkAt dkX7_most 53 (q := (101, .goto (-22), 3)) rfl) (by decide) ?_
      refine k_lv [2, 1, 0] (lv2 := [(0, rA G 0), (4, .int v20), (5, .int v21)]) rfl ?_
      exact ih v20 v21 h
set_option maxRecDepth 100000 in
set_option maxHeartbeats 4000000 in
theorem ct_X7_most (l : Launch) (G : GG) (sh : Sh) (xs : List va_E) (hX : isX sh) (x1 : Int32) (x2 : Int32) (x3 : Int32) (M : Mm) (r : Mm × Int32) (h : f_X7_most x1 x2 x3 M = some r) : Ct l yX7_most cX7_most 6 (some .int) rm_X7_most G [rA G 0, .int x1, .int x2, .int x3] sh M xs (some (.int r.2)) sh r.1 xs 0 0 := by
  refine ct_of (by decide) (Nat.le_of_ble_eq_true rfl) ?_
  intro p e s m args below meth c hnm C
  refine k_lv [0, 1, 2, 3] (lv2 := [(0, rA G 0), (1, .int x1), (2, .int x2), (3, .int x3)]) rfl ?_
  unfold f_X7_most at h
  refine k_iload_n C (pc2 := 1) (dkAt dkX7_most 0 (q := (0, .iload_n 1, 1)) rfl) rfl rfl 1 rfl ?_
  refine k_iconst C (pc2 := 2) (dkAt dkX7_most 1 (q := (1, .iconst 0, 1)) rfl) rfl (v := 0) rfl ?_
  refine k_bipush C (pc2 := 4) (dkAt dkX7_most 2 (q := (2, .bipush 20, 2)) rfl) rfl (v := 20) rfl ?_
  obtain ⟨q1, e2, h⟩ := ob_inv h
  refine kc_S C (As := [.int x1, .int 0, .int 20]) (st2 := [.int q1]) (ct_X7_within l G sh xs x1 0 20 M q1 e2) (cl_X7_58 (hts_of C) ⟨Nat.le_of_ble_eq_true rfl, Nat.le_of_ble_eq_true rfl⟩ rfl rfl) rfl rfl (Nat.le_of_ble_eq_true rfl) (dkAt dkX7_most 3 (q := (4, .invokestatic 58, 3)) rfl) ⟨Nat.zero_le _, Nat.zero_le _⟩ (pc2 := 7) rfl rfl ?_
  refine k_if_eq C (tgt := 30) (pc2 := 10) (dkAt dkX7_most 4 (q := (7, .ifCond .eq 23, 3)) rfl) (by decide) rfl h (fun h => ?_) (fun h => ?_)
  · refine k_aload_n C (pc2 := 31) (dkAt dkX7_most 15 (q := (30, .aload_n 0, 1)) rfl) rfl rfl 0 rfl ?_
    refine k_bipush C (pc2 := 33) (dkAt dkX7_most 16 (q := (31, .bipush (-2), 2)) rfl) rfl (v := (-2)) rfl ?_
    obtain ⟨q3, e4, h⟩ := ob_inv h
    refine kc_V C (As := [.int (-2)]) (st2 := [.int q3.2]) (ct_X7_refuse l G sh xs hX (-2) M q3 e4) (cl_X7_62 (hts_of C) ⟨Nat.le_of_ble_eq_true rfl, Nat.le_of_ble_eq_true rfl⟩ rfl rfl) hX.1 rfl rfl rfl rfl rfl (Nat.le_of_ble_eq_true rfl) (dkAt dkX7_most 17 (q := (33, .invokevirtual 62, 3)) rfl) ⟨Nat.zero_le _, Nat.zero_le _⟩ (pc2 := 36) rfl rfl ?_
    exact k_iret C (dkAt dkX7_most 18 (q := (36, .ireturn, 1)) rfl) (pe2 (Option.some.inj h)) rfl (pe1 (Option.some.inj h)) rfl
  · refine k_iload_n C (pc2 := 11) (dkAt dkX7_most 5 (q := (10, .iload_n 2, 1)) rfl) rfl rfl 2 rfl ?_
    refine k_iconst C (pc2 := 12) (dkAt dkX7_most 6 (q := (11, .iconst 0, 1)) rfl) rfl (v := 0) rfl ?_
    refine k_bipush C (pc2 := 14) (dkAt dkX7_most 7 (q := (12, .bipush 12, 2)) rfl) rfl (v := 12) rfl ?_
    obtain ⟨q5, e6, h⟩ := ob_inv h
    refine kc_S C (As := [.int x2, .int 0, .int 12]) (st2 := [.int q5]) (ct_X7_within l G sh xs x2 0 12 M q5 e6) (cl_X7_58 (hts_of C) ⟨Nat.le_of_ble_eq_true rfl, Nat.le_of_ble_eq_true rfl⟩ rfl rfl) rfl rfl (Nat.le_of_ble_eq_true rfl) (dkAt dkX7_most 8 (q := (14, .invokestatic 58, 3)) rfl) ⟨Nat.zero_le _, Nat.zero_le _⟩ (pc2 := 17) rfl rfl ?_
    refine k_if_eq C (tgt := 30) (pc2 := 20) (dkAt dkX7_most 9 (q := (17, .ifCond .eq 13, 3)) rfl) (by decide) rfl h (fun h => ?_) (fun h => ?_)
    · refine k_aload_n C (pc2 := 31) (dkAt dkX7_most 15 (q := (30, .aload_n 0, 1)) rfl) rfl rfl 0 rfl ?_
      refine k_bipush C (pc2 := 33) (dkAt dkX7_most 16 (q := (31, .bipush (-2), 2)) rfl) rfl (v := (-2)) rfl ?_
      obtain ⟨q7, e8, h⟩ := ob_inv h
      refine kc_V C (As := [.int (-2)]) (st2 := [.int q7.2]) (ct_X7_refuse l G sh xs hX (-2) M q7 e8) (cl_X7_62 (hts_of C) ⟨Nat.le_of_ble_eq_true rfl, Nat.le_of_ble_eq_true rfl⟩ rfl rfl) hX.1 rfl rfl rfl rfl rfl (Nat.le_of_ble_eq_true rfl) (dkAt dkX7_most 17 (q := (33, .invokevirtual 62, 3)) rfl) ⟨Nat.zero_le _, Nat.zero_le _⟩ (pc2 := 36) rfl rfl ?_
      exact k_iret C (dkAt dkX7_most 18 (q := (36, .ireturn, 1)) rfl) (pe2 (Option.some.inj h)) rfl (pe1 (Option.some.inj h)) rfl
    · refine k_iload_n C (pc2 := 21) (dkAt dkX7_most 10 (q := (20, .iload_n 3, 1)) rfl) rfl rfl 3 rfl ?_
      refine k_iconst C (pc2 := 22) (dkAt dkX7_most 11 (q := (21, .iconst 0, 1)) rfl) rfl (v := 0) rfl ?_
      refine k_bipush C (pc2 := 24) (dkAt dkX7_most 12 (q := (22, .bipush 20, 2)) rfl) rfl (v := 20) rfl ?_
      obtain ⟨q9, e10, h⟩ := ob_inv h
      refine kc_S C (As := [.int x3, .int 0, .int 20]) (st2 := [.int q9]) (ct_X7_within l G sh xs x3 0 20 M q9 e10) (cl_X7_58 (hts_of C) ⟨Nat.le_of_ble_eq_true rfl, Nat.le_of_ble_eq_true rfl⟩ rfl rfl) rfl rfl (Nat.le_of_ble_eq_true rfl) (dkAt dkX7_most 13 (q := (24, .invokestatic 58, 3)) rfl) ⟨Nat.zero_le _, Nat.zero_le _⟩ (pc2 := 27) rfl rfl ?_
      refine k_if_ne C (tgt := 37) (pc2 := 30) (dkAt dkX7_most 14 (q := (27, .ifCond .ne 10, 3)) rfl) (by decide) rfl h (fun h => ?_) (fun h => ?_)
      · refine k_aload_n C (pc2 := 38) (dkAt dkX7_most 19 (q := (37, .aload_n 0, 1)) rfl) rfl rfl 0 rfl ?_
        refine kf_X7_46 C (pc2 := 41) (o := 0) (o2 := 51) hX.1 rfl (dkAt dkX7_most 20 (q := (38, .getfield 46, 3)) rfl) rfl ?_
        refine k_iconst C (pc2 := 42) (dkAt dkX7_most 21 (q := (41, .iconst 0, 1)) rfl) rfl (v := 0) rfl ?_
        obtain ⟨q11, e12, h⟩ := ob_inv h
        refine kc_S C (As := [rA G 51, .int 0]) (st2 := []) (ct_J7_fill_53178 l G sh xs 21 51 hX.2.2.2.2.2.2.2.1 0 M q11 e12) (cl_X7_309 (hts_of C) ⟨Nat.le_of_ble_eq_true rfl, Nat.le_of_ble_eq_true rfl⟩ rfl rfl) rfl rfl (Nat.le_of_ble_eq_true rfl) (dkAt dkX7_most 22 (q := (42, .invokestatic 309, 3)) rfl) ⟨Nat.zero_le _, Nat.zero_le _⟩ (pc2 := 45) rfl rfl ?_
        refine k_aload_n C (pc2 := 46) (dkAt dkX7_most 23 (q := (45, .aload_n 0, 1)) rfl) rfl rfl 0 rfl ?_
        refine kf_X7_46 C (pc2 := 49) (o := 0) (o2 := 51) hX.1 rfl (dkAt dkX7_most 24 (q := (46, .getfield 46, 3)) rfl) rfl ?_
        refine k_iconst C (pc2 := 50) (dkAt dkX7_most 25 (q := (49, .iconst 0, 1)) rfl) rfl (v := 0) rfl ?_
        refine k_ldc C (pc2 := 52) (dkAt dkX7_most 26 (q := (50, .ldc 244, 2)) rfl) rfl (v := 1000000) tK_X7_244 ?_
        refine k_iastc C (pc2 := 53) (o := 51) (nA := 21) (j := 0) hX.2.2.2.2.2.2.2.1 (dkAt dkX7_most 27 (q := (52, .iastore, 1)) rfl) rfl (by unfold vp_in; decide) (by decide) h (fun M13 h => ?_)
        refine k_iconst C (pc2 := 54) (dkAt dkX7_most 28 (q := (53, .iconst 0, 1)) rfl) rfl (v := 0) rfl ?_
        refine k_istore C (pc2 := 56) (dkAt dkX7_most 29 (q := (54, .istore 4, 2)) rfl) rfl (by decide) (lv2 := [(4, .int 0), (0, rA G 0), (1, .int x1), (2, .int x2), (3, .int x3)]) rfl ?_
        refine k_lv [1, 2, 3, 4, 0] (lv2 := [(0, rA G 0), (1, .int x1), (2, .int x2), (3, .int x3), (4, .int 0)]) rfl ?_
        obtain ⟨M19, e18, h⟩ := ob_inv h
        refine kl_X7_most_L56 C hX x1 x2 x3 M19 ?_ 1000 0 M13 e18
        refine k_iconst C (pc2 := 74) (dkAt dkX7_most 38 (q := (73, .iconst 0, 1)) rfl) rfl (v := 0) rfl ?_
        refine k_istore C (pc2 := 76) (dkAt dkX7_most 39 (q := (74, .istore 4, 2)) rfl) rfl (by decide) (lv2 := [(4, .int 0), (0, rA G 0), (3, .int x3)]) rfl ?_
        refine k_iload_n C (pc2 := 77) (dkAt dkX7_most 40 (q := (76, .iload_n 3, 1)) rfl) rfl rfl 2 rfl ?_
        refine k_istore C (pc2 := 79) (dkAt dkX7_most 41 (q := (77, .istore 5, 2)) rfl) rfl (by decide) (lv2 := [(5, .int x3), (4, .int 0), (0, rA G 0), (3, .int x3)]) rfl ?_
        refine k_lv [2, 1, 0] (lv2 := [(0, rA G 0), (4, .int 0), (5, .int x3)]) rfl ?_
        obtain ⟨v24, e23, h⟩ := ob_inv h
        refine kl_X7_most_L79 C hX M19 v24 ?_ 1000 0 x3 e23
        refine k_iload C (pc2 := 106) (dkAt dkX7_most 54 (q := (104, .iload 4, 2)) rfl) rfl 0 rfl ?_
        exact k_iret C (dkAt dkX7_most 55 (q := (106, .ireturn, 1)) rfl) (pe2 (Option.some.inj h)) rfl (pe1 (Option.some.inj h)) rfl
      · refine k_aload_n C (pc2 := 31) (dkAt dkX7_most 15 (q := (30, .aload_n 0, 1)) rfl) rfl rfl 0 rfl ?_
        refine k_bipush C (pc2 := 33) (dkAt dkX7_most 16 (q := (31, .bipush (-2), 2)) rfl) rfl (v := (-2)) rfl ?_
        obtain ⟨q25, e26, h⟩ := ob_inv h
        refine kc_V C (As := [.int (-2)]) (st2 := [.int q25.2]) (ct_X7_refuse l G sh xs hX (-2) M q25 e26) (cl_X7_62 (hts_of C) ⟨Nat.le_of_ble_eq_true rfl, Nat.le_of_ble_eq_true rfl⟩ rfl rfl) hX.1 rfl rfl rfl rfl rfl (Nat.le_of_ble_eq_true rfl) (dkAt dkX7_most 17 (q := (33, .invokevirtual 62, 3)) rfl) ⟨Nat.zero_le _, Nat.zero_le _⟩ (pc2 := 36) rfl rfl ?_
        exact k_iret C (dkAt dkX7_most 18 (q := (36, .ireturn, 1)) rfl) (pe2 (Option.some.inj h)) rfl (pe1 (Option.some.inj h)) rfl
set_option maxRecDepth 100000 in
set_option maxHeartbeats 4000000 in
theorem ct_X7_later (l : Launch) (G : GG) (sh : Sh) (xs : List va_E) (hX : isX sh) (x1 : Int32) (M : Mm) (r : Mm × Int32) (h : f_X7_later x1 M = some r) : Ct l yX7_later cX7_later 2 (some .int) rm_X7_later G [rA G 0, .int x1] sh M xs (some (.int r.2)) sh r.1 xs 0 0 := by
  refine ct_of (by decide) (Nat.le_of_ble_eq_true rfl) ?_
  intro p e s m args below meth c hnm C
  refine k_lv [0, 1] (lv2 := [(0, rA G 0), (1, .int x1)]) rfl ?_
  unfold f_X7_later at h
  refine k_aload_n C (pc2 := 1) (dkAt dkX7_later 0 (q := (0, .aload_n 0, 1)) rfl) rfl rfl 0 rfl ?_
  refine kf_X7_10 C (pc2 := 4) (o := 0) (o2 := 1) hX.1 rfl (dkAt dkX7_later 1 (q := (1, .getfield 10, 3)) rfl) rfl ?_
  refine k_iload_n C (pc2 := 5) (dkAt dkX7_later 2 (q := (4, .iload_n 1, 1)) rfl) rfl rfl 1 rfl ?_
  obtain ⟨q1, e2, h⟩ := ob_inv h
  refine kc_V C (As := [.int x1]) (st2 := [.int q1]) (ct_X1_hasDay l G sh xs 1 hX.2.1 x1 M q1 e2) (cl_X7_147 (hts_of C) ⟨Nat.le_of_ble_eq_true rfl, Nat.le_of_ble_eq_true rfl⟩ rfl rfl) hX.2.1.1 rfl rfl rfl rfl rfl (Nat.le_of_ble_eq_true rfl) (dkAt dkX7_later 3 (q := (5, .invokevirtual 147, 3)) rfl) ⟨Nat.zero_le _, Nat.zero_le _⟩ (pc2 := 8) rfl rfl ?_
  refine k_if_eq C (tgt := 32) (pc2 := 11) (dkAt dkX7_later 4 (q := (8, .ifCond .eq 24, 3)) rfl) (by decide) rfl h (fun h => ?_) (fun h => ?_)
  · refine k_aload_n C (pc2 := 33) (dkAt dkX7_later 14 (q := (32, .aload_n 0, 1)) rfl) rfl rfl 0 rfl ?_
    refine k_bipush C (pc2 := 35) (dkAt dkX7_later 15 (q := (33, .bipush (-2), 2)) rfl) rfl (v := (-2)) rfl ?_
    obtain ⟨q3, e4, h⟩ := ob_inv h
    refine kc_V C (As := [.int (-2)]) (st2 := [.int q3.2]) (ct_X7_refuse l G sh xs hX (-2) M q3 e4) (cl_X7_62 (hts_of C) ⟨Nat.le_of_ble_eq_true rfl, Nat.le_of_ble_eq_true rfl⟩ rfl rfl) hX.1 rfl rfl rfl rfl rfl (Nat.le_of_ble_eq_true rfl) (dkAt dkX7_later 16 (q := (35, .invokevirtual 62, 3)) rfl) ⟨Nat.zero_le _, Nat.zero_le _⟩ (pc2 := 38) rfl rfl ?_
    exact k_iret C (dkAt dkX7_later 17 (q := (38, .ireturn, 1)) rfl) (pe2 (Option.some.inj h)) rfl (pe1 (Option.some.inj h)) rfl
  · refine k_aload_n C (pc2 := 12) (dkAt dkX7_later 5 (q := (11, .aload_n 0, 1)) rfl) rfl rfl 0 rfl ?_
    refine kf_X7_10 C (pc2 := 15) (o := 0) (o2 := 1) hX.1 rfl (dkAt dkX7_later 6 (q := (12, .getfield 10, 3)) rfl) rfl ?_
    refine k_aload_n C (pc2 := 16) (dkAt dkX7_later 7 (q := (15, .aload_n 0, 1)) rfl) rfl rfl 0 rfl ?_
    refine kf_X7_10 C (pc2 := 19) (o := 0) (o2 := 1) hX.1 rfl (dkAt dkX7_later 8 (q := (16, .getfield 10, 3)) rfl) rfl ?_
    refine kf_X7_160 C (pc2 := 22) (o := 1) (o2 := 0) hX.2.1.1 (dkAt dkX7_later 9 (q := (19, .getfield 160, 3)) rfl) rfl ?_
    obtain ⟨q5, e6, h⟩ := ob_inv h
    refine kc_V C (As := [.int (M.1 1 3)]) (st2 := [.int q5]) (ct_X1_daysWithAtLeast l G sh xs 1 hX.2.1 (M.1 1 3) M q5 e6) (cl_X7_291 (hts_of C) ⟨Nat.le_of_ble_eq_true rfl, Nat.le_of_ble_eq_true rfl⟩ rfl rfl) hX.2.1.1 rfl rfl rfl rfl rfl (Nat.le_of_ble_eq_true rfl) (dkAt dkX7_later 10 (q := (22, .invokevirtual 291, 3)) rfl) ⟨Nat.zero_le _, Nat.zero_le _⟩ (pc2 := 25) rfl rfl ?_
    refine k_iload_n C (pc2 := 26) (dkAt dkX7_later 11 (q := (25, .iload_n 1, 1)) rfl) rfl rfl 1 rfl ?_
    obtain ⟨q7, e8, h⟩ := ob_inv h
    refine kc_S C (As := [.int q5, .int x1]) (st2 := [.int q7]) (ct_X7_firstBit l G sh xs q5 x1 M q7 e8) (cl_X7_306 (hts_of C) ⟨Nat.le_of_ble_eq_true rfl, Nat.le_of_ble_eq_true rfl⟩ rfl rfl) rfl rfl (Nat.le_of_ble_eq_true rfl) (dkAt dkX7_later 12 (q := (26, .invokestatic 306, 3)) rfl) ⟨Nat.zero_le _, Nat.zero_le _⟩ (pc2 := 29) rfl rfl ?_
    refine k_goto C (tgt := 38) (dkAt dkX7_later 13 (q := (29, .goto 9, 3)) rfl) (by decide) ?_
    exact k_iret C (dkAt dkX7_later 17 (q := (38, .ireturn, 1)) rfl) (pe2 (Option.some.inj h)) rfl (pe1 (Option.some.inj h)) rfl
