set_option maxRecDepth 100000 in
set_option maxHeartbeats 4000000 in
theorem kl_X8_noTicks_L62 {p : Program} {l : Launch} {e : Env} {s : State} {m : MethodId} {args : Array Value} {below : List Frame} {meth : Method} {c : Code} {G : GG} {sh : Sh} {xs : List va_E} (C : Cx p s m c args meth G RX8 cX8_noTicks 5 (some .int)) (o0 : Nat) (h0 : isM sh o0) (x1 : Int32) (M : Mm) (r : Mm × Int32) (t : (Unit) ⊕ (Mm × Int32)) (hcont : t = Sum.inl () → KW p l e rm_X8_noTicks s m args below meth c G 5 (MQ below (QO G (some (.int r.2)) sh r.1 xs) args s 0 0 (gA G)) sh xs 0 0 M 103 [] []) (hres : ∀ z, t = Sum.inr z → z = r) : ∀ (n : Nat) (x4 : Int32), f_X8_noTicks_L62 o0 x1 M n x4 = some t → KW p l e rm_X8_noTicks s m args below meth c G 5 (MQ below (QO G (some (.int r.2)) sh r.1 xs) args s 0 0 (gA G)) sh xs 0 0 M 62 [(0, rA G o0), (1, .int x1), (4, .int x4)] [] := by
  intro n
  induction n with
  | zero =>
    intro x4 h
    cases h
  | succ n ih =>
    intro x4 h
    unfold f_X8_noTicks_L62 at h
    refine k_iload C (pc2 := 64) (dkAt dkX8_noTicks 35 (q := (62, .iload 4, 2)) rfl) rfl 2 rfl ?_
    refine k_aload_n C (pc2 := 65) (dkAt dkX8_noTicks 36 (q := (64, .aload_n 0, 1)) rfl) rfl rfl 0 rfl ?_
    refine kf_X8_37 C (pc2 := 68) (o := o0) (o2 := 0) h0.1 (dkAt dkX8_noTicks 37 (q := (65, .getfield 37, 3)) rfl) rfl ?_
    refine k_icmp_ge C (tgt := 103) (pc2 := 71) (dkAt dkX8_noTicks 38 (q := (68, .if_icmp .ge 35, 3)) rfl) (by decide) rfl h (fun h => ?_) (fun h => ?_)
    · refine k_lv [] (lv2 := []) rfl ?_
      exact hcont (Option.some.inj h).symm
    · refine k_aload_n C (pc2 := 72) (dkAt dkX8_noTicks 39 (q := (71, .aload_n 0, 1)) rfl) rfl rfl 0 rfl ?_
      refine kf_X8_21 C (pc2 := 75) (o := o0) (o2 := o0 + 4) h0.1 rfl (dkAt dkX8_noTicks 40 (q := (72, .getfield 21, 3)) rfl) rfl ?_
      refine k_iload_n C (pc2 := 76) (dkAt dkX8_noTicks 41 (q := (75, .iload_n 1, 1)) rfl) rfl rfl 1 rfl ?_
      refine k_aa14 C (pc2 := 77) (o := o0 + 4) (o2 := o0 + 5 + x1.toNatClampNeg) (nA := 8) (isM_rows h0) rfl (dkAt dkX8_noTicks 42 (q := (76, .aaload, 1)) rfl) rfl h (fun h hl10 => ?_)
      refine k_iload C (pc2 := 79) (dkAt dkX8_noTicks 43 (q := (77, .iload 4, 2)) rfl) rfl 2 rfl ?_
      refine k_lald C (pc2 := 80) (o := o0 + 5 + x1.toNatClampNeg) (nA := 40) (isM_rowsI h0 _ hl10) (dkAt dkX8_noTicks 44 (q := (79, .laload, 1)) rfl) rfl h (fun h => ?_)
      refine k_lconst C (pc2 := 81) (dkAt dkX8_noTicks 45 (q := (80, .lconst 0, 1)) rfl) rfl (v := 0) rfl ?_
      refine k_ldc2 C (pc2 := 84) (dkAt dkX8_noTicks 46 (q := (81, .ldc2_w 272, 3)) rfl) rfl (v := 2) tL_X8_272 ?_
      obtain ⟨q11, e12, h⟩ := ob_inv h
      refine kc_S C (As := [.long (M.2.1 (o0 + 5 + x1.toNatClampNeg) x4.toNatClampNeg), .long 0, .long 2]) (st2 := [.int q11]) (ct_X8_in l G sh xs (M.2.1 (o0 + 5 + x1.toNatClampNeg) x4.toNatClampNeg) 0 2 M q11 e12) (cl_X8_85 (hts_of C) ⟨Nat.le_of_ble_eq_true rfl, Nat.le_of_ble_eq_true rfl⟩ rfl rfl) rfl rfl (Nat.le_of_ble_eq_true rfl) (dkAt dkX8_noTicks 47 (q := (84, .invokestatic 85, 3)) rfl) ⟨Nat.zero_le _, Nat.zero_le _⟩ (pc2 := 87) rfl rfl ?_
      refine k_if_ne C (tgt := 97) (pc2 := 90) (dkAt dkX8_noTicks 48 (q := (87, .ifCond .ne 10, 3)) rfl) (by decide) rfl h (fun h => ?_) (fun h => ?_)
      · refine kb_iinc C (pc2 := 100) (dkAt dkX8_noTicks 53 (q := (97, .iinc 4 1, 3)) rfl) rfl (j := 2) rfl (v := x4 + 1) rfl (by decide) (lv2 := fun v13 => [(4, .int v13), (0, rA G o0), (1, .int x1)]) (fun _ => rfl) h (fun v13 h => ?_)
        refine k_goto C (tgt := 62) (dkAt dkX8_noTicks 54 (q := (100, .goto (-38), 3)) rfl) (by decide) ?_
        refine k_lv [1, 2, 0] (lv2 := [(0, rA G o0), (1, .int x1), (4, .int v13)]) rfl ?_
        exact ih v13 h
      · refine k_aload_n C (pc2 := 91) (dkAt dkX8_noTicks 49 (q := (90, .aload_n 0, 1)) rfl) rfl rfl 0 rfl ?_
        refine k_bipush C (pc2 := 93) (dkAt dkX8_noTicks 50 (q := (91, .bipush (-5), 2)) rfl) rfl (v := (-5)) rfl ?_
        obtain ⟨q14, e15, h⟩ := ob_inv h
        refine kc_V C (As := [.int (-5)]) (st2 := [.int q14.2]) (ct_X8_refuse l G sh xs o0 h0 (-5) M q14 e15) (cl_X8_97 (hts_of C) ⟨Nat.le_of_ble_eq_true rfl, Nat.le_of_ble_eq_true rfl⟩ rfl rfl) h0.1 rfl rfl rfl rfl rfl (Nat.le_of_ble_eq_true rfl) (dkAt dkX8_noTicks 51 (q := (93, .invokevirtual 97, 3)) rfl) ⟨Nat.zero_le _, Nat.zero_le _⟩ (pc2 := 96) rfl rfl ?_
        exact k_iret C (dkAt dkX8_noTicks 52 (q := (96, .ireturn, 1)) rfl) (pe2 (hres _ (Option.some.inj h).symm)) rfl (pe1 (hres _ (Option.some.inj h).symm)) rfl
set_option maxRecDepth 100000 in
set_option maxHeartbeats 4000000 in
theorem ct_X8_noTicks (l : Launch) (G : GG) (sh : Sh) (xs : List va_E) (o0 : Nat) (h0 : isM sh o0) (x1 : Int32) (x2 : Int32) (M : Mm) (r : Mm × Int32) (h : f_X8_noTicks o0 x1 x2 M = some r) : Ct l yX8_noTicks cX8_noTicks 5 (some .int) rm_X8_noTicks G [rA G o0, .int x1, .int x2] sh M xs (some (.int r.2)) sh r.1 xs 0 0 := by
  refine ct_of (by decide) (Nat.le_of_ble_eq_true rfl) ?_
  intro p e s m args below meth c hnm C
  refine k_lv [0, 1, 2] (lv2 := [(0, rA G o0), (1, .int x1), (2, .int x2)]) rfl ?_
  unfold f_X8_noTicks at h
  refine k_iload_n C (pc2 := 1) (dkAt dkX8_noTicks 0 (q := (0, .iload_n 1, 1)) rfl) rfl rfl 1 rfl ?_
  refine k_i2l C (pc2 := 2) (dkAt dkX8_noTicks 1 (q := (1, .i2l, 1)) rfl) rfl ?_
  refine k_lconst C (pc2 := 3) (dkAt dkX8_noTicks 2 (q := (2, .lconst 0, 1)) rfl) rfl (v := 0) rfl ?_
  refine k_ldc2 C (pc2 := 6) (dkAt dkX8_noTicks 3 (q := (3, .ldc2_w 91, 3)) rfl) rfl (v := 7) tL_X8_91 ?_
  obtain ⟨q1, e2, h⟩ := ob_inv h
  refine kc_S C (As := [.long x1.toInt64, .long 0, .long 7]) (st2 := [.int q1]) (ct_X8_in l G sh xs x1.toInt64 0 7 M q1 e2) (cl_X8_85 (hts_of C) ⟨Nat.le_of_ble_eq_true rfl, Nat.le_of_ble_eq_true rfl⟩ rfl rfl) rfl rfl (Nat.le_of_ble_eq_true rfl) (dkAt dkX8_noTicks 4 (q := (6, .invokestatic 85, 3)) rfl) ⟨Nat.zero_le _, Nat.zero_le _⟩ (pc2 := 9) rfl rfl ?_
  refine k_if_eq C (tgt := 20) (pc2 := 12) (dkAt dkX8_noTicks 5 (q := (9, .ifCond .eq 11, 3)) rfl) (by decide) rfl h (fun h => ?_) (fun h => ?_)
  · refine k_aload_n C (pc2 := 21) (dkAt dkX8_noTicks 10 (q := (20, .aload_n 0, 1)) rfl) rfl rfl 0 rfl ?_
    refine k_bipush C (pc2 := 23) (dkAt dkX8_noTicks 11 (q := (21, .bipush (-2), 2)) rfl) rfl (v := (-2)) rfl ?_
    obtain ⟨q3, e4, h⟩ := ob_inv h
    refine kc_V C (As := [.int (-2)]) (st2 := [.int q3.2]) (ct_X8_refuse l G sh xs o0 h0 (-2) M q3 e4) (cl_X8_97 (hts_of C) ⟨Nat.le_of_ble_eq_true rfl, Nat.le_of_ble_eq_true rfl⟩ rfl rfl) h0.1 rfl rfl rfl rfl rfl (Nat.le_of_ble_eq_true rfl) (dkAt dkX8_noTicks 12 (q := (23, .invokevirtual 97, 3)) rfl) ⟨Nat.zero_le _, Nat.zero_le _⟩ (pc2 := 26) rfl rfl ?_
    exact k_iret C (dkAt dkX8_noTicks 13 (q := (26, .ireturn, 1)) rfl) (pe2 (Option.some.inj h)) rfl (pe1 (Option.some.inj h)) rfl
  · refine k_aload_n C (pc2 := 13) (dkAt dkX8_noTicks 6 (q := (12, .aload_n 0, 1)) rfl) rfl rfl 0 rfl ?_
    refine k_iload_n C (pc2 := 14) (dkAt dkX8_noTicks 7 (q := (13, .iload_n 2, 1)) rfl) rfl rfl 2 rfl ?_
    obtain ⟨q5, e6, h⟩ := ob_inv h
    refine kc_V C (As := [.int x2]) (st2 := [.int q5]) (ct_X8_isOne l G sh xs o0 h0 x2 M q5 e6) (cl_X8_108 (hts_of C) ⟨Nat.le_of_ble_eq_true rfl, Nat.le_of_ble_eq_true rfl⟩ rfl rfl) h0.1 rfl rfl rfl rfl rfl (Nat.le_of_ble_eq_true rfl) (dkAt dkX8_noTicks 8 (q := (14, .invokevirtual 108, 3)) rfl) ⟨Nat.zero_le _, Nat.zero_le _⟩ (pc2 := 17) rfl rfl ?_
    refine k_if_ne C (tgt := 27) (pc2 := 20) (dkAt dkX8_noTicks 9 (q := (17, .ifCond .ne 10, 3)) rfl) (by decide) rfl h (fun h => ?_) (fun h => ?_)
    · refine k_aload_n C (pc2 := 28) (dkAt dkX8_noTicks 14 (q := (27, .aload_n 0, 1)) rfl) rfl rfl 0 rfl ?_
      refine k_iload_n C (pc2 := 29) (dkAt dkX8_noTicks 15 (q := (28, .iload_n 1, 1)) rfl) rfl rfl 1 rfl ?_
      obtain ⟨q7, e8, h⟩ := ob_inv h
      refine kc_V C (As := [.int x1]) (st2 := [.int q7.2]) (ct_X8_noRow l G sh xs o0 h0 x1 M q7 e8) (cl_X8_101 (hts_of C) ⟨Nat.le_of_ble_eq_true rfl, Nat.le_of_ble_eq_true rfl⟩ rfl rfl) h0.1 rfl rfl rfl rfl rfl (Nat.le_of_ble_eq_true rfl) (dkAt dkX8_noTicks 16 (q := (29, .invokevirtual 101, 3)) rfl) ⟨Nat.zero_le _, Nat.zero_le _⟩ (pc2 := 32) rfl rfl ?_
      refine kb_istore_n C (pc2 := 33) (dkAt dkX8_noTicks 17 (q := (32, .istore_n 3, 1)) rfl) rfl rfl (by decide) (lv2 := fun v9 => [(3, .int v9), (0, rA G o0), (1, .int x1), (2, .int x2)]) (fun _ => rfl) h (fun v9 h => ?_)
      refine k_iload_n C (pc2 := 34) (dkAt dkX8_noTicks 18 (q := (33, .iload_n 3, 1)) rfl) rfl rfl 0 rfl ?_
      refine k_if_eq C (tgt := 39) (pc2 := 37) (dkAt dkX8_noTicks 19 (q := (34, .ifCond .eq 5, 3)) rfl) (by decide) rfl h (fun h => ?_) (fun h => ?_)
      · refine k_aload_n C (pc2 := 40) (dkAt dkX8_noTicks 22 (q := (39, .aload_n 0, 1)) rfl) rfl rfl 1 rfl ?_
        refine kf_X8_16 C (pc2 := 43) (o := o0) (o2 := o0 + 3) h0.1 rfl (dkAt dkX8_noTicks 23 (q := (40, .getfield 16, 3)) rfl) rfl ?_
        refine k_iload_n C (pc2 := 44) (dkAt dkX8_noTicks 24 (q := (43, .iload_n 1, 1)) rfl) rfl rfl 2 rfl ?_
        refine k_iald C (pc2 := 45) (o := o0 + 3) (nA := 8) (isM_rowSize h0) (dkAt dkX8_noTicks 25 (q := (44, .iaload, 1)) rfl) rfl h (fun h => ?_)
        refine k_aload_n C (pc2 := 46) (dkAt dkX8_noTicks 26 (q := (45, .aload_n 0, 1)) rfl) rfl rfl 1 rfl ?_
        refine kf_X8_37 C (pc2 := 49) (o := o0) (o2 := 0) h0.1 (dkAt dkX8_noTicks 27 (q := (46, .getfield 37, 3)) rfl) rfl ?_
        refine k_icmp_ge C (tgt := 59) (pc2 := 52) (dkAt dkX8_noTicks 28 (q := (49, .if_icmp .ge 10, 3)) rfl) (by decide) rfl h (fun h => ?_) (fun h => ?_)
        · refine k_iconst C (pc2 := 60) (dkAt dkX8_noTicks 33 (q := (59, .iconst 0, 1)) rfl) rfl (v := 0) rfl ?_
          refine k_istore C (pc2 := 62) (dkAt dkX8_noTicks 34 (q := (60, .istore 4, 2)) rfl) rfl (by decide) (lv2 := [(4, .int 0), (3, .int v9), (0, rA G o0), (1, .int x1), (2, .int x2)]) rfl ?_
          refine k_lv [2, 3, 0] (lv2 := [(0, rA G o0), (1, .int x1), (4, .int 0)]) rfl ?_
          obtain ⟨t16, e17, hA, hB⟩ := obS_inv h
          refine kl_X8_noTicks_L62 C o0 h0 x1 q7.1 r t16 ?_ ?_ 1000 0 e17
          · intro et
            have h := hA _ et
            refine k_iconst C (pc2 := 104) (dkAt dkX8_noTicks 55 (q := (103, .iconst 0, 1)) rfl) rfl (v := 0) rfl ?_
            exact k_iret C (dkAt dkX8_noTicks 56 (q := (104, .ireturn, 1)) rfl) (pe2 (Option.some.inj h)) rfl (pe1 (Option.some.inj h)) rfl
          · intro z et
            have h := hB _ et
            exact Option.some.inj h
        · refine k_aload_n C (pc2 := 53) (dkAt dkX8_noTicks 29 (q := (52, .aload_n 0, 1)) rfl) rfl rfl 1 rfl ?_
          refine k_bipush C (pc2 := 55) (dkAt dkX8_noTicks 30 (q := (53, .bipush (-2), 2)) rfl) rfl (v := (-2)) rfl ?_
          obtain ⟨q18, e19, h⟩ := ob_inv h
          refine kc_V C (As := [.int (-2)]) (st2 := [.int q18.2]) (ct_X8_refuse l G sh xs o0 h0 (-2) q7.1 q18 e19) (cl_X8_97 (hts_of C) ⟨Nat.le_of_ble_eq_true rfl, Nat.le_of_ble_eq_true rfl⟩ rfl rfl) h0.1 rfl rfl rfl rfl rfl (Nat.le_of_ble_eq_true rfl) (dkAt dkX8_noTicks 31 (q := (55, .invokevirtual 97, 3)) rfl) ⟨Nat.zero_le _, Nat.zero_le _⟩ (pc2 := 58) rfl rfl ?_
          exact k_iret C (dkAt dkX8_noTicks 32 (q := (58, .ireturn, 1)) rfl) (pe2 (Option.some.inj h)) rfl (pe1 (Option.some.inj h)) rfl
      · refine k_iload_n C (pc2 := 38) (dkAt dkX8_noTicks 20 (q := (37, .iload_n 3, 1)) rfl) rfl rfl 0 rfl ?_
        exact k_iret C (dkAt dkX8_noTicks 21 (q := (38, .ireturn, 1)) rfl) (pe2 (Option.some.inj h)) rfl (pe1 (Option.some.inj h)) rfl
    · refine k_aload_n C (pc2 := 21) (dkAt dkX8_noTicks 10 (q := (20, .aload_n 0, 1)) rfl) rfl rfl 0 rfl ?_
      refine k_bipush C (pc2 := 23) (dkAt dkX8_noTicks 11 (q := (21, .bipush (-2), 2)) rfl) rfl (v := (-2)) rfl ?_
      obtain ⟨q20, e21, h⟩ := ob_inv h
      refine kc_V C (As := [.int (-2)]) (st2 := [.int q20.2]) (ct_X8_refuse l G sh xs o0 h0 (-2) M q20 e21) (cl_X8_97 (hts_of C) ⟨Nat.le_of_ble_eq_true rfl, Nat.le_of_ble_eq_true rfl⟩ rfl rfl) h0.1 rfl rfl rfl rfl rfl (Nat.le_of_ble_eq_true rfl) (dkAt dkX8_noTicks 12 (q := (23, .invokevirtual 97, 3)) rfl) ⟨Nat.zero_le _, Nat.zero_le _⟩ (pc2 := 26) rfl rfl ?_
      exact k_iret C (dkAt dkX8_noTicks 13 (q := (26, .ireturn, 1)) rfl) (pe2 (Option.some.inj h)) rfl (pe1 (Option.some.inj h)) rfl
set_option maxRecDepth 100000 in
set_option maxHeartbeats 4000000 in
theorem kl_X8_wouldTick_L3 {p : Program} {l : Launch} {e : Env} {s : State} {m : MethodId} {args : Array Value} {below : List Frame} {meth : Method} {c : Code} {G : GG} {sh : Sh} {xs : List va_E} (C : Cx p s m c args meth G RX8 cX8_wouldTick 5 (some .boolean)) (o0 : Nat) (h0 : isM sh o0) (o1 : Nat) (h1 : sh[o1]? = some (10, 40)) (x2 : Int32) (x3 : Int32) (M : Mm) (r : Int32) (t : (Unit) ⊕ (Int32)) (hcont : t = Sum.inl () → KW p l e rm_X8_wouldTick s m args below meth c G 5 (MQ below (QO G (some (.int r)) sh M xs) args s 0 0 (gA G)) sh xs 0 0 M 37 [] []) (hres : ∀ z, t = Sum.inr z → z = r) : ∀ (n : Nat) (x4 : Int32), f_X8_wouldTick_L3 o0 o1 x2 x3 M n x4 = some t → KW p l e rm_X8_wouldTick s m args below meth c G 5 (MQ below (QO G (some (.int r)) sh M xs) args s 0 0 (gA G)) sh xs 0 0 M 3 [(0, rA G o0), (1, rA G o1), (2, .int x2), (3, .int x3), (4, .int x4)] [] := by
  intro n
  induction n with
  | zero =>
    intro x4 h
    cases h
  | succ n ih =>
    intro x4 h
    unfold f_X8_wouldTick_L3 at h
    refine k_iload C (pc2 := 5) (dkAt dkX8_wouldTick 2 (q := (3, .iload 4, 2)) rfl) rfl 4 rfl ?_
    refine k_aload_n C (pc2 := 6) (dkAt dkX8_wouldTick 3 (q := (5, .aload_n 0, 1)) rfl) rfl rfl 0 rfl ?_
    refine kf_X8_37 C (pc2 := 9) (o := o0) (o2 := 0) h0.1 (dkAt dkX8_wouldTick 4 (q := (6, .getfield 37, 3)) rfl) rfl ?_
    refine k_icmp_ge C (tgt := 37) (pc2 := 12) (dkAt dkX8_wouldTick 5 (q := (9, .if_icmp .ge 28, 3)) rfl) (by decide) rfl h (fun h => ?_) (fun h => ?_)
    · refine k_lv [] (lv2 := []) rfl ?_
      exact hcont (Option.some.inj h).symm
    · refine k_aload_n C (pc2 := 13) (dkAt dkX8_wouldTick 6 (q := (12, .aload_n 0, 1)) rfl) rfl rfl 0 rfl ?_
      refine k_iload_n C (pc2 := 14) (dkAt dkX8_wouldTick 7 (q := (13, .iload_n 2, 1)) rfl) rfl rfl 2 rfl ?_
      refine k_iload_n C (pc2 := 15) (dkAt dkX8_wouldTick 8 (q := (14, .iload_n 3, 1)) rfl) rfl rfl 3 rfl ?_
      refine k_iload C (pc2 := 17) (dkAt dkX8_wouldTick 9 (q := (15, .iload 4, 2)) rfl) rfl 4 rfl ?_
      obtain ⟨q1, e2, h⟩ := ob_inv h
      refine kc_V C (As := [.int x2, .int x3, .int x4]) (st2 := [.int q1]) (ct_X8_tickBy l G sh xs o0 h0 x2 x3 x4 M q1 e2) (cl_X8_249 (hts_of C) ⟨Nat.le_of_ble_eq_true rfl, Nat.le_of_ble_eq_true rfl⟩ rfl rfl) h0.1 rfl rfl rfl rfl rfl (Nat.le_of_ble_eq_true rfl) (dkAt dkX8_wouldTick 10 (q := (17, .invokevirtual 249, 3)) rfl) ⟨Nat.zero_le _, Nat.zero_le _⟩ (pc2 := 20) rfl rfl ?_
      refine k_i2l C (pc2 := 21) (dkAt dkX8_wouldTick 11 (q := (20, .i2l, 1)) rfl) rfl ?_
      refine k_aload_n C (pc2 := 22) (dkAt dkX8_wouldTick 12 (q := (21, .aload_n 1, 1)) rfl) rfl rfl 1 rfl ?_
      refine k_iload C (pc2 := 24) (dkAt dkX8_wouldTick 13 (q := (22, .iload 4, 2)) rfl) rfl 4 rfl ?_
      refine k_lald C (pc2 := 25) (o := o1) (nA := 40) h1 (dkAt dkX8_wouldTick 14 (q := (24, .laload, 1)) rfl) rfl h (fun h => ?_)
      refine k_lcmp C (pc2 := 26) (dkAt dkX8_wouldTick 15 (q := (25, .lcmp, 1)) rfl) rfl ?_
      refine k_if_eq C (tgt := 31) (pc2 := 29) (dkAt dkX8_wouldTick 16 (q := (26, .ifCond .eq 5, 3)) rfl) (by decide) rfl h (fun h => ?_) (fun h => ?_)
      · refine kb_iinc C (pc2 := 34) (dkAt dkX8_wouldTick 19 (q := (31, .iinc 4 1, 3)) rfl) rfl (j := 4) rfl (v := x4 + 1) rfl (by decide) (lv2 := fun v3 => [(4, .int v3), (0, rA G o0), (1, rA G o1), (2, .int x2), (3, .int x3)]) (fun _ => rfl) h (fun v3 h => ?_)
        refine k_goto C (tgt := 3) (dkAt dkX8_wouldTick 20 (q := (34, .goto (-31), 3)) rfl) (by decide) ?_
        refine k_lv [1, 2, 3, 4, 0] (lv2 := [(0, rA G o0), (1, rA G o1), (2, .int x2), (3, .int x3), (4, .int v3)]) rfl ?_
        exact ih v3 h
      · refine k_iconst C (pc2 := 30) (dkAt dkX8_wouldTick 17 (q := (29, .iconst 0, 1)) rfl) rfl (v := 0) rfl ?_
        exact k_zret C (dkAt dkX8_wouldTick 18 (q := (30, .ireturn, 1)) rfl) rfl (hres _ (Option.some.inj h).symm) rfl rfl rfl
set_option maxRecDepth 100000 in
set_option maxHeartbeats 4000000 in
theorem ct_X8_wouldTick (l : Launch) (G : GG) (sh : Sh) (xs : List va_E) (o0 : Nat) (h0 : isM sh o0) (o1 : Nat) (h1 : sh[o1]? = some (10, 40)) (x2 : Int32) (x3 : Int32) (M : Mm) (r : Int32) (h : f_X8_wouldTick o0 o1 x2 x3 M = some r) : Ct l yX8_wouldTick cX8_wouldTick 5 (some .boolean) rm_X8_wouldTick G [rA G o0, rA G o1, .int x2, .int x3] sh M xs (some (.int r)) sh M xs 0 0 := by
  refine ct_of (by decide) (Nat.le_of_ble_eq_true rfl) ?_
  intro p e s m args below meth c hnm C
  refine k_lv [0, 1, 2, 3] (lv2 := [(0, rA G o0), (1, rA G o1), (2, .int x2), (3, .int x3)]) rfl ?_
  unfold f_X8_wouldTick at h
  refine k_iconst C (pc2 := 1) (dkAt dkX8_wouldTick 0 (q := (0, .iconst 0, 1)) rfl) rfl (v := 0) rfl ?_
  refine k_istore C (pc2 := 3) (dkAt dkX8_wouldTick 1 (q := (1, .istore 4, 2)) rfl) rfl (by decide) (lv2 := [(4, .int 0), (0, rA G o0), (1, rA G o1), (2, .int x2), (3, .int x3)]) rfl ?_
  refine k_lv [1, 2, 3, 4, 0] (lv2 := [(0, rA G o0), (1, rA G o1), (2, .int x2), (3, .int x3), (4, .int 0)]) rfl ?_
  obtain ⟨t4, e5, hA, hB⟩ := obS_inv h
  refine kl_X8_wouldTick_L3 C o0 h0 o1 h1 x2 x3 M r t4 ?_ ?_ 1000 0 e5
  · intro et
    have h := hA _ et
    refine k_iconst C (pc2 := 38) (dkAt dkX8_wouldTick 21 (q := (37, .iconst 1, 1)) rfl) rfl (v := 1) rfl ?_
    exact k_zret C (dkAt dkX8_wouldTick 22 (q := (38, .ireturn, 1)) rfl) rfl (Option.some.inj h) rfl rfl rfl
  · intro z et
    have h := hB _ et
    exact Option.some.inj h
set_option maxRecDepth 100000 in
set_option maxHeartbeats 4000000 in
theorem kl_X8_meant_L24 {p : Program} {l : Launch} {e : Env} {s : State} {m : MethodId} {args : Array Value} {below : List Frame} {meth : Method} {c : Code} {G : GG} {sh : Sh} {xs : List va_E} {Q : State → Prop} (C : Cx p s m c args meth G RX8 cX8_meant 6 (some .int)) (o0 : Nat) (h0 : isM sh o0) (x1 : Int32) (x2 : Int32) (M : Mm) (y4 : Int32) (hcont : KW p l e rm_X8_meant s m args below meth c G 6 Q sh xs 0 0 M 65 [(4, .int y4)] []) : ∀ (n : Nat) (x4 : Int32) (x5 : Int32), f_X8_meant_L24 o0 x1 x2 M n x4 x5 = some y4 → KW p l e rm_X8_meant s m args below meth c G 6 Q sh xs 0 0 M 24 [(0, rA G o0), (1, .int x1), (2, .int x2), (4, .int x4), (5, .int x5)] [] := by
  intro n
  induction n with
  | zero =>
    intro x4 x5 h
    cases h
  | succ n ih =>
    intro x4 x5 h
    unfold f_X8_meant_L24 at h
    refine k_iload C (pc2 := 26) (dkAt dkX8_meant 16 (q := (24, .iload 5, 2)) rfl) rfl 4 rfl ?_
    refine k_iconst C (pc2 := 27) (dkAt dkX8_meant 17 (q := (26, .iconst 5, 1)) rfl) rfl (v := 5) rfl ?_
    refine k_icmp_gt C (tgt := 65) (pc2 := 30) (dkAt dkX8_meant 18 (q := (27, .if_icmp .gt 38, 3)) rfl) (by decide) rfl h (fun h => ?_) (fun h => ?_)
    · refine k_lv [3] (lv2 := [(4, .int x4)]) rfl ?_
      cases h
      exact hcont
    · refine k_iload C (pc2 := 32) (dkAt dkX8_meant 19 (q := (30, .iload 4, 2)) rfl) rfl 3 rfl ?_
      refine k_aload_n C (pc2 := 33) (dkAt dkX8_meant 20 (q := (32, .aload_n 0, 1)) rfl) rfl rfl 0 rfl ?_
      refine k_aload_n C (pc2 := 34) (dkAt dkX8_meant 21 (q := (33, .aload_n 0, 1)) rfl) rfl rfl 0 rfl ?_
      refine kf_X8_21 C (pc2 := 37) (o := o0) (o2 := o0 + 4) h0.1 rfl (dkAt dkX8_meant 22 (q := (34, .getfield 21, 3)) rfl) rfl ?_
      refine k_iload_n C (pc2 := 38) (dkAt dkX8_meant 23 (q := (37, .iload_n 1, 1)) rfl) rfl rfl 1 rfl ?_
      refine k_aa14 C (pc2 := 39) (o := o0 + 4) (o2 := o0 + 5 + x1.toNatClampNeg) (nA := 8) (isM_rows h0) rfl (dkAt dkX8_meant 24 (q := (38, .aaload, 1)) rfl) rfl h (fun h hl6 => ?_)
      refine k_iload_n C (pc2 := 40) (dkAt dkX8_meant 25 (q := (39, .iload_n 2, 1)) rfl) rfl rfl 2 rfl ?_
      refine k_iload C (pc2 := 42) (dkAt dkX8_meant 26 (q := (40, .iload 5, 2)) rfl) rfl 4 rfl ?_
      obtain ⟨q7, e8, h⟩ := ob_inv h
      refine kc_V C (As := [rA G (o0 + 5 + x1.toNatClampNeg), .int x2, .int x5]) (st2 := [.int q7, .int x4]) (ct_X8_wouldTick l G sh xs o0 h0 (o0 + 5 + x1.toNatClampNeg) (isM_rowsI h0 _ hl6) x2 x5 M q7 e8) (cl_X8_340 (hts_of C) ⟨Nat.le_of_ble_eq_true rfl, Nat.le_of_ble_eq_true rfl⟩ rfl rfl) h0.1 rfl rfl rfl rfl rfl (Nat.le_of_ble_eq_true rfl) (dkAt dkX8_meant 27 (q := (42, .invokevirtual 340, 3)) rfl) ⟨Nat.zero_le _, Nat.zero_le _⟩ (pc2 := 45) rfl rfl ?_
      refine k_if_eq C (tgt := 55) (pc2 := 48) (dkAt dkX8_meant 28 (q := (45, .ifCond .eq 10, 3)) rfl) (by decide) rfl h (fun h => ?_) (fun h => ?_)
      · refine k_iconst C (pc2 := 56) (dkAt dkX8_meant 33 (q := (55, .iconst 0, 1)) rfl) rfl (v := 0) rfl ?_
        refine k_ior C (pc2 := 57) (dkAt dkX8_meant 34 (q := (56, .ior, 1)) rfl) rfl ?_
        refine kb_istore C (pc2 := 59) (dkAt dkX8_meant 35 (q := (57, .istore 4, 2)) rfl) rfl (by decide) (lv2 := fun v9 => [(4, .int v9), (0, rA G o0), (1, .int x1), (2, .int x2), (5, .int x5)]) (fun _ => rfl) h (fun v9 h => ?_)
        refine kb_iinc C (pc2 := 62) (dkAt dkX8_meant 36 (q := (59, .iinc 5 1, 3)) rfl) rfl (j := 4) rfl (v := x5 + 1) rfl (by decide) (lv2 := fun v10 => [(5, .int v10), (4, .int v9), (0, rA G o0), (1, .int x1), (2, .int x2)]) (fun _ => rfl) h (fun v10 h => ?_)
        refine k_goto C (tgt := 24) (dkAt dkX8_meant 37 (q := (62, .goto (-38), 3)) rfl) (by decide) ?_
        refine k_lv [2, 3, 4, 1, 0] (lv2 := [(0, rA G o0), (1, .int x1), (2, .int x2), (4, .int v9), (5, .int v10)]) rfl ?_
        exact ih v9 v10 h
      · refine k_iconst C (pc2 := 49) (dkAt dkX8_meant 29 (q := (48, .iconst 1, 1)) rfl) rfl (v := 1) rfl ?_
        refine k_iload C (pc2 := 51) (dkAt dkX8_meant 30 (q := (49, .iload 5, 2)) rfl) rfl 4 rfl ?_
        refine k_ishl C (pc2 := 52) (dkAt dkX8_meant 31 (q := (51, .ishl, 1)) rfl) rfl ?_
        refine k_goto C (tgt := 56) (dkAt dkX8_meant 32 (q := (52, .goto 4, 3)) rfl) (by decide) ?_
        refine k_ior C (pc2 := 57) (dkAt dkX8_meant 34 (q := (56, .ior, 1)) rfl) rfl ?_
        refine kb_istore C (pc2 := 59) (dkAt dkX8_meant 35 (q := (57, .istore 4, 2)) rfl) rfl (by decide) (lv2 := fun v11 => [(4, .int v11), (0, rA G o0), (1, .int x1), (2, .int x2), (5, .int x5)]) (fun _ => rfl) h (fun v11 h => ?_)
        refine kb_iinc C (pc2 := 62) (dkAt dkX8_meant 36 (q := (59, .iinc 5 1, 3)) rfl) rfl (j := 4) rfl (v := x5 + 1) rfl (by decide) (lv2 := fun v12 => [(5, .int v12), (4, .int v11), (0, rA G o0), (1, .int x1), (2, .int x2)]) (fun _ => rfl) h (fun v12 h => ?_)
        refine k_goto C (tgt := 24) (dkAt dkX8_meant 37 (q := (62, .goto (-38), 3)) rfl) (by decide) ?_
        refine k_lv [2, 3, 4, 1, 0] (lv2 := [(0, rA G o0), (1, .int x1), (2, .int x2), (4, .int v11), (5, .int v12)]) rfl ?_
        exact ih v11 v12 h
set_option maxRecDepth 100000 in
set_option maxHeartbeats 4000000 in
theorem ct_X8_meant (l : Launch) (G : GG) (sh : Sh) (xs : List va_E) (o0 : Nat) (h0 : isM sh o0) (x1 : Int32) (x2 : Int32) (M : Mm) (r : Mm × Int32) (h : f_X8_meant o0 x1 x2 M = some r) : Ct l yX8_meant cX8_meant 6 (some .int) rm_X8_meant G [rA G o0, .int x1, .int x2] sh M xs (some (.int r.2)) sh r.1 xs 0 0 := by
  refine ct_of (by decide) (Nat.le_of_ble_eq_true rfl) ?_
  intro p e s m args below meth c hnm C
  refine k_lv [0, 1, 2] (lv2 := [(0, rA G o0), (1, .int x1), (2, .int x2)]) rfl ?_
  unfold f_X8_meant at h
  refine k_aload_n C (pc2 := 1) (dkAt dkX8_meant 0 (q := (0, .aload_n 0, 1)) rfl) rfl rfl 0 rfl ?_
  refine k_iload_n C (pc2 := 2) (dkAt dkX8_meant 1 (q := (1, .iload_n 1, 1)) rfl) rfl rfl 1 rfl ?_
  refine k_iload_n C (pc2 := 3) (dkAt dkX8_meant 2 (q := (2, .iload_n 2, 1)) rfl) rfl rfl 2 rfl ?_
  obtain ⟨q1, e2, h⟩ := ob_inv h
  refine kc_V C (As := [.int x1, .int x2]) (st2 := [.int q1.2]) (ct_X8_noTicks l G sh xs o0 h0 x1 x2 M q1 e2) (cl_X8_337 (hts_of C) ⟨Nat.le_of_ble_eq_true rfl, Nat.le_of_ble_eq_true rfl⟩ rfl rfl) h0.1 rfl rfl rfl rfl rfl (Nat.le_of_ble_eq_true rfl) (dkAt dkX8_meant 3 (q := (3, .invokevirtual 337, 3)) rfl) ⟨Nat.zero_le _, Nat.zero_le _⟩ (pc2 := 6) rfl rfl ?_
  refine kb_istore_n C (pc2 := 7) (dkAt dkX8_meant 4 (q := (6, .istore_n 3, 1)) rfl) rfl rfl (by decide) (lv2 := fun v3 => [(3, .int v3), (0, rA G o0), (1, .int x1), (2, .int x2)]) (fun _ => rfl) h (fun v3 h => ?_)
  refine k_iload_n C (pc2 := 8) (dkAt dkX8_meant 5 (q := (7, .iload_n 3, 1)) rfl) rfl rfl 0 rfl ?_
  refine k_if_eq C (tgt := 13) (pc2 := 11) (dkAt dkX8_meant 6 (q := (8, .ifCond .eq 5, 3)) rfl) (by decide) rfl h (fun h => ?_) (fun h => ?_)
  · refine k_aload_n C (pc2 := 14) (dkAt dkX8_meant 9 (q := (13, .aload_n 0, 1)) rfl) rfl rfl 1 rfl ?_
    refine k_iload_n C (pc2 := 15) (dkAt dkX8_meant 10 (q := (14, .iload_n 2, 1)) rfl) rfl rfl 3 rfl ?_
    obtain ⟨q4, e5, h⟩ := ob_inv h
    refine kc_V C (As := [.int x2]) (st2 := []) (ct_X8_findTicks l G sh xs o0 h0 x2 q1.1 q4 e5) (cl_X8_253 (hts_of C) ⟨Nat.le_of_ble_eq_true rfl, Nat.le_of_ble_eq_true rfl⟩ rfl rfl) h0.1 rfl rfl rfl rfl rfl (Nat.le_of_ble_eq_true rfl) (dkAt dkX8_meant 11 (q := (15, .invokevirtual 253, 3)) rfl) ⟨Nat.zero_le _, Nat.zero_le _⟩ (pc2 := 18) rfl rfl ?_
    refine k_iconst C (pc2 := 19) (dkAt dkX8_meant 12 (q := (18, .iconst 0, 1)) rfl) rfl (v := 0) rfl ?_
    refine k_istore C (pc2 := 21) (dkAt dkX8_meant 13 (q := (19, .istore 4, 2)) rfl) rfl (by decide) (lv2 := [(4, .int 0), (3, .int v3), (0, rA G o0), (1, .int x1), (2, .int x2)]) rfl ?_
    refine k_iconst C (pc2 := 22) (dkAt dkX8_meant 14 (q := (21, .iconst 0, 1)) rfl) rfl (v := 0) rfl ?_
    refine k_istore C (pc2 := 24) (dkAt dkX8_meant 15 (q := (22, .istore 5, 2)) rfl) rfl (by decide) (lv2 := [(5, .int 0), (4, .int 0), (3, .int v3), (0, rA G o0), (1, .int x1), (2, .int x2)]) rfl ?_
    refine k_lv [3, 4, 5, 1, 0] (lv2 := [(0, rA G o0), (1, .int x1), (2, .int x2), (4, .int 0), (5, .int 0)]) rfl ?_
    obtain ⟨v15, e14, h⟩ := ob_inv h
    refine kl_X8_meant_L24 C o0 h0 x1 x2 q4 v15 ?_ 1000 0 0 e14
    refine k_iload C (pc2 := 67) (dkAt dkX8_meant 38 (q := (65, .iload 4, 2)) rfl) rfl 0 rfl ?_
    exact k_iret C (dkAt dkX8_meant 39 (q := (67, .ireturn, 1)) rfl) (pe2 (Option.some.inj h)) rfl (pe1 (Option.some.inj h)) rfl
  · refine k_iload_n C (pc2 := 12) (dkAt dkX8_meant 7 (q := (11, .iload_n 3, 1)) rfl) rfl rfl 0 rfl ?_
    exact k_iret C (dkAt dkX8_meant 8 (q := (12, .ireturn, 1)) rfl) (pe2 (Option.some.inj h)) rfl (pe1 (Option.some.inj h)) rfl
set_option maxRecDepth 100000 in
set_option maxHeartbeats 4000000 in
theorem kl_X8_freed_L19 {p : Program} {l : Launch} {e : Env} {s : State} {m : MethodId} {args : Array Value} {below : List Frame} {meth : Method} {c : Code} {G : GG} {sh : Sh} {xs : List va_E} {Q : State → Prop} (C : Cx p s m c args meth G RX8 cX8_freed 7 (some .int)) (o0 : Nat) (h0 : isM sh o0) (x1 : Int32) (x2 : Int32) (M : Mm) (y4 : Int32) (hcont : KW p l e rm_X8_freed s m args below meth c G 7 Q sh xs 0 0 M 109 [(4, .int y4)] []) : ∀ (n : Nat) (x4 : Int32) (x5 : Int32), f_X8_freed_L19 o0 x1 x2 M n x4 x5 = some y4 → KW p l e rm_X8_freed s m args below meth c G 7 Q sh xs 0 0 M 19 [(0, rA G o0), (1, .int x1), (2, .int x2), (4, .int x4), (5, .int x5)] [] := by
  intro n
  induction n with
  | zero =>
    intro x4 x5 h
    cases h
  | succ n ih =>
    intro x4 x5 h
    unfold f_X8_freed_L19 at h
    refine k_iload C (pc2 := 21) (dkAt dkX8_freed 13 (q := (19, .iload 5, 2)) rfl) rfl 4 rfl ?_
    refine k_aload_n C (pc2 := 22) (dkAt dkX8_freed 14 (q := (21, .aload_n 0, 1)) rfl) rfl rfl 0 rfl ?_
    refine kf_X8_37 C (pc2 := 25) (o := o0) (o2 := 0) h0.1 (dkAt dkX8_freed 15 (q := (22, .getfield 37, 3)) rfl) rfl ?_
    refine k_icmp_ge C (tgt := 109) (pc2 := 28) (dkAt dkX8_freed 16 (q := (25, .if_icmp .ge 84, 3)) rfl) (by decide) rfl h (fun h => ?_) (fun h => ?_)
    · refine k_lv [3] (lv2 := [(4, .int x4)]) rfl ?_
      cases h
      exact hcont
    · refine k_aload_n C (pc2 := 29) (dkAt dkX8_freed 17 (q := (28, .aload_n 0, 1)) rfl) rfl rfl 0 rfl ?_
      refine kf_X8_41 C (pc2 := 32) (o := o0) (o2 := o0 + 17) h0.1 rfl (dkAt dkX8_freed 18 (q := (29, .getfield 41, 3)) rfl) rfl ?_
      refine k_iload_n C (pc2 := 33) (dkAt dkX8_freed 19 (q := (32, .iload_n 2, 1)) rfl) rfl rfl 2 rfl ?_
      refine k_iald C (pc2 := 34) (o := o0 + 17) (nA := 8) (isM_kind h0) (dkAt dkX8_freed 20 (q := (33, .iaload, 1)) rfl) rfl h (fun h => ?_)
      refine k_iconst C (pc2 := 35) (dkAt dkX8_freed 21 (q := (34, .iconst 1, 1)) rfl) rfl (v := 1) rfl ?_
      refine k_icmp_eq C (tgt := 109) (pc2 := 38) (dkAt dkX8_freed 22 (q := (35, .if_icmp .eq 74, 3)) rfl) (by decide) rfl h (fun h => ?_) (fun h => ?_)
      · refine k_lv [3] (lv2 := [(4, .int x4)]) rfl ?_
        cases h
        exact hcont
      · refine k_aload_n C (pc2 := 39) (dkAt dkX8_freed 23 (q := (38, .aload_n 0, 1)) rfl) rfl rfl 0 rfl ?_
        refine kf_X8_21 C (pc2 := 42) (o := o0) (o2 := o0 + 4) h0.1 rfl (dkAt dkX8_freed 24 (q := (39, .getfield 21, 3)) rfl) rfl ?_
        refine k_iload_n C (pc2 := 43) (dkAt dkX8_freed 25 (q := (42, .iload_n 1, 1)) rfl) rfl rfl 1 rfl ?_
        refine k_aa14 C (pc2 := 44) (o := o0 + 4) (o2 := o0 + 5 + x1.toNatClampNeg) (nA := 8) (isM_rows h0) rfl (dkAt dkX8_freed 26 (q := (43, .aaload, 1)) rfl) rfl h (fun h hl4 => ?_)
        refine k_iload C (pc2 := 46) (dkAt dkX8_freed 27 (q := (44, .iload 5, 2)) rfl) rfl 4 rfl ?_
        refine k_lald C (pc2 := 47) (o := o0 + 5 + x1.toNatClampNeg) (nA := 40) (isM_rowsI h0 _ hl4) (dkAt dkX8_freed 28 (q := (46, .laload, 1)) rfl) rfl h (fun h => ?_)
        refine k_ldc2 C (pc2 := 50) (dkAt dkX8_freed 29 (q := (47, .ldc2_w 272, 3)) rfl) rfl (v := 2) tL_X8_272 ?_
        refine k_lcmp C (pc2 := 51) (dkAt dkX8_freed 30 (q := (50, .lcmp, 1)) rfl) rfl ?_
        refine k_if_eq C (tgt := 78) (pc2 := 54) (dkAt dkX8_freed 31 (q := (51, .ifCond .eq 27, 3)) rfl) (by decide) rfl h (fun h => ?_) (fun h => ?_)
        · refine k_iconst C (pc2 := 79) (dkAt dkX8_freed 47 (q := (78, .iconst 1, 1)) rfl) rfl (v := 1) rfl ?_
          refine k_goto C (tgt := 83) (dkAt dkX8_freed 48 (q := (79, .goto 4, 3)) rfl) (by decide) ?_
          refine k_istore C (pc2 := 85) (dkAt dkX8_freed 50 (q := (83, .istore 6, 2)) rfl) rfl (by decide) (lv2 := [(6, .int 1), (0, rA G o0), (1, .int x1), (2, .int x2), (4, .int x4), (5, .int x5)]) rfl ?_
          refine k_iload C (pc2 := 87) (dkAt dkX8_freed 51 (q := (85, .iload 4, 2)) rfl) rfl 4 rfl ?_
          refine k_iload C (pc2 := 89) (dkAt dkX8_freed 52 (q := (87, .iload 6, 2)) rfl) rfl 0 rfl ?_
          refine k_if_eq C (tgt := 99) (pc2 := 92) (dkAt dkX8_freed 53 (q := (89, .ifCond .eq 10, 3)) rfl) (by decide) rfl h (fun h => ?_) (fun h => ?_)
          · refine k_iconst C (pc2 := 100) (dkAt dkX8_freed 58 (q := (99, .iconst 0, 1)) rfl) rfl (v := 0) rfl ?_
            refine k_ior C (pc2 := 101) (dkAt dkX8_freed 59 (q := (100, .ior, 1)) rfl) rfl ?_
            refine kb_istore C (pc2 := 103) (dkAt dkX8_freed 60 (q := (101, .istore 4, 2)) rfl) rfl (by decide) (lv2 := fun v5 => [(4, .int v5), (6, .int 1), (0, rA G o0), (1, .int x1), (2, .int x2), (5, .int x5)]) (fun _ => rfl) h (fun v5 h => ?_)
            refine kb_iinc C (pc2 := 106) (dkAt dkX8_freed 61 (q := (103, .iinc 5 1, 3)) rfl) rfl (j := 5) rfl (v := x5 + 1) rfl (by decide) (lv2 := fun v6 => [(5, .int v6), (4, .int v5), (6, .int 1), (0, rA G o0), (1, .int x1), (2, .int x2)]) (fun _ => rfl) h (fun v6 h => ?_)
            refine k_goto C (tgt := 19) (dkAt dkX8_freed 62 (q := (106, .goto (-87), 3)) rfl) (by decide) ?_
            refine k_lv [3, 4, 5, 1, 0] (lv2 := [(0, rA G o0), (1, .int x1), (2, .int x2), (4, .int v5), (5, .int v6)]) rfl ?_
            exact ih v5 v6 h
          · refine k_iconst C (pc2 := 93) (dkAt dkX8_freed 54 (q := (92, .iconst 1, 1)) rfl) rfl (v := 1) rfl ?_
            refine k_iload C (pc2 := 95) (dkAt dkX8_freed 55 (q := (93, .iload 5, 2)) rfl) rfl 5 rfl ?_
            refine k_ishl C (pc2 := 96) (dkAt dkX8_freed 56 (q := (95, .ishl, 1)) rfl) rfl ?_
            refine k_goto C (tgt := 100) (dkAt dkX8_freed 57 (q := (96, .goto 4, 3)) rfl) (by decide) ?_
            refine k_ior C (pc2 := 101) (dkAt dkX8_freed 59 (q := (100, .ior, 1)) rfl) rfl ?_
            refine kb_istore C (pc2 := 103) (dkAt dkX8_freed 60 (q := (101, .istore 4, 2)) rfl) rfl (by decide) (lv2 := fun v7 => [(4, .int v7), (6, .int 1), (0, rA G o0), (1, .int x1), (2, .int x2), (5, .int x5)]) (fun _ => rfl) h (fun v7 h => ?_)
            refine kb_iinc C (pc2 := 106) (dkAt dkX8_freed 61 (q := (103, .iinc 5 1, 3)) rfl) rfl (j := 5) rfl (v := x5 + 1) rfl (by decide) (lv2 := fun v8 => [(5, .int v8), (4, .int v7), (6, .int 1), (0, rA G o0), (1, .int x1), (2, .int x2)]) (fun _ => rfl) h (fun v8 h => ?_)
            refine k_goto C (tgt := 19) (dkAt dkX8_freed 62 (q := (106, .goto (-87), 3)) rfl) (by decide) ?_
            refine k_lv [3, 4, 5, 1, 0] (lv2 := [(0, rA G o0), (1, .int x1), (2, .int x2), (4, .int v7), (5, .int v8)]) rfl ?_
            exact ih v7 v8 h
        · refine k_aload_n C (pc2 := 55) (dkAt dkX8_freed 32 (q := (54, .aload_n 0, 1)) rfl) rfl rfl 0 rfl ?_
          refine kf_X8_41 C (pc2 := 58) (o := o0) (o2 := o0 + 17) h0.1 rfl (dkAt dkX8_freed 33 (q := (55, .getfield 41, 3)) rfl) rfl ?_
          refine k_iload_n C (pc2 := 59) (dkAt dkX8_freed 34 (q := (58, .iload_n 2, 1)) rfl) rfl rfl 2 rfl ?_
          refine k_iald C (pc2 := 60) (o := o0 + 17) (nA := 8) (isM_kind h0) (dkAt dkX8_freed 35 (q := (59, .iaload, 1)) rfl) rfl h (fun h => ?_)
          refine k_iconst C (pc2 := 61) (dkAt dkX8_freed 36 (q := (60, .iconst 2, 1)) rfl) rfl (v := 2) rfl ?_
          refine k_icmp_ne C (tgt := 82) (pc2 := 64) (dkAt dkX8_freed 37 (q := (61, .if_icmp .ne 21, 3)) rfl) (by decide) rfl h (fun h => ?_) (fun h => ?_)
          · refine k_iconst C (pc2 := 83) (dkAt dkX8_freed 49 (q := (82, .iconst 0, 1)) rfl) rfl (v := 0) rfl ?_
            refine k_istore C (pc2 := 85) (dkAt dkX8_freed 50 (q := (83, .istore 6, 2)) rfl) rfl (by decide) (lv2 := [(6, .int 0), (0, rA G o0), (1, .int x1), (2, .int x2), (4, .int x4), (5, .int x5)]) rfl ?_
            refine k_iload C (pc2 := 87) (dkAt dkX8_freed 51 (q := (85, .iload 4, 2)) rfl) rfl 4 rfl ?_
            refine k_iload C (pc2 := 89) (dkAt dkX8_freed 52 (q := (87, .iload 6, 2)) rfl) rfl 0 rfl ?_
            refine k_if_eq C (tgt := 99) (pc2 := 92) (dkAt dkX8_freed 53 (q := (89, .ifCond .eq 10, 3)) rfl) (by decide) rfl h (fun h => ?_) (fun h => ?_)
            · refine k_iconst C (pc2 := 100) (dkAt dkX8_freed 58 (q := (99, .iconst 0, 1)) rfl) rfl (v := 0) rfl ?_
              refine k_ior C (pc2 := 101) (dkAt dkX8_freed 59 (q := (100, .ior, 1)) rfl) rfl ?_
              refine kb_istore C (pc2 := 103) (dkAt dkX8_freed 60 (q := (101, .istore 4, 2)) rfl) rfl (by decide) (lv2 := fun v9 => [(4, .int v9), (6, .int 0), (0, rA G o0), (1, .int x1), (2, .int x2), (5, .int x5)]) (fun _ => rfl) h (fun v9 h => ?_)
              refine kb_iinc C (pc2 := 106) (dkAt dkX8_freed 61 (q := (103, .iinc 5 1, 3)) rfl) rfl (j := 5) rfl (v := x5 + 1) rfl (by decide) (lv2 := fun v10 => [(5, .int v10), (4, .int v9), (6, .int 0), (0, rA G o0), (1, .int x1), (2, .int x2)]) (fun _ => rfl) h (fun v10 h => ?_)
              refine k_goto C (tgt := 19) (dkAt dkX8_freed 62 (q := (106, .goto (-87), 3)) rfl) (by decide) ?_
              refine k_lv [3, 4, 5, 1, 0] (lv2 := [(0, rA G o0), (1, .int x1), (2, .int x2), (4, .int v9), (5, .int v10)]) rfl ?_
              exact ih v9 v10 h
            · refine k_iconst C (pc2 := 93) (dkAt dkX8_freed 54 (q := (92, .iconst 1, 1)) rfl) rfl (v := 1) rfl ?_
              refine k_iload C (pc2 := 95) (dkAt dkX8_freed 55 (q := (93, .iload 5, 2)) rfl) rfl 5 rfl ?_
              refine k_ishl C (pc2 := 96) (dkAt dkX8_freed 56 (q := (95, .ishl, 1)) rfl) rfl ?_
              refine k_goto C (tgt := 100) (dkAt dkX8_freed 57 (q := (96, .goto 4, 3)) rfl) (by decide) ?_
              refine k_ior C (pc2 := 101) (dkAt dkX8_freed 59 (q := (100, .ior, 1)) rfl) rfl ?_
              refine kb_istore C (pc2 := 103) (dkAt dkX8_freed 60 (q := (101, .istore 4, 2)) rfl) rfl (by decide) (lv2 := fun v11 => [(4, .int v11), (6, .int 0), (0, rA G o0), (1, .int x1), (2, .int x2), (5, .int x5)]) (fun _ => rfl) h (fun v11 h => ?_)
              refine kb_iinc C (pc2 := 106) (dkAt dkX8_freed 61 (q := (103, .iinc 5 1, 3)) rfl) rfl (j := 5) rfl (v := x5 + 1) rfl (by decide) (lv2 := fun v12 => [(5, .int v12), (4, .int v11), (6, .int 0), (0, rA G o0), (1, .int x1), (2, .int x2)]) (fun _ => rfl) h (fun v12 h => ?_)
              refine k_goto C (tgt := 19) (dkAt dkX8_freed 62 (q := (106, .goto (-87), 3)) rfl) (by decide) ?_
              refine k_lv [3, 4, 5, 1, 0] (lv2 := [(0, rA G o0), (1, .int x1), (2, .int x2), (4, .int v11), (5, .int v12)]) rfl ?_
              exact ih v11 v12 h
          · refine k_aload_n C (pc2 := 65) (dkAt dkX8_freed 38 (q := (64, .aload_n 0, 1)) rfl) rfl rfl 0 rfl ?_
            refine kf_X8_21 C (pc2 := 68) (o := o0) (o2 := o0 + 4) h0.1 rfl (dkAt dkX8_freed 39 (q := (65, .getfield 21, 3)) rfl) rfl ?_
            refine k_iload_n C (pc2 := 69) (dkAt dkX8_freed 40 (q := (68, .iload_n 1, 1)) rfl) rfl rfl 1 rfl ?_
            refine k_aa14 C (pc2 := 70) (o := o0 + 4) (o2 := o0 + 5 + x1.toNatClampNeg) (nA := 8) (isM_rows h0) rfl (dkAt dkX8_freed 41 (q := (69, .aaload, 1)) rfl) rfl h (fun h hl13 => ?_)
            refine k_iload C (pc2 := 72) (dkAt dkX8_freed 42 (q := (70, .iload 5, 2)) rfl) rfl 4 rfl ?_
            refine k_lald C (pc2 := 73) (o := o0 + 5 + x1.toNatClampNeg) (nA := 40) (isM_rowsI h0 _ hl13) (dkAt dkX8_freed 43 (q := (72, .laload, 1)) rfl) rfl h (fun h => ?_)
            refine k_lconst C (pc2 := 74) (dkAt dkX8_freed 44 (q := (73, .lconst 1, 1)) rfl) rfl (v := 1) rfl ?_
            refine k_lcmp C (pc2 := 75) (dkAt dkX8_freed 45 (q := (74, .lcmp, 1)) rfl) rfl ?_
            refine k_if_ne C (tgt := 82) (pc2 := 78) (dkAt dkX8_freed 46 (q := (75, .ifCond .ne 7, 3)) rfl) (by decide) rfl h (fun h => ?_) (fun h => ?_)
            · refine k_iconst C (pc2 := 83) (dkAt dkX8_freed 49 (q := (82, .iconst 0, 1)) rfl) rfl (v := 0) rfl ?_
              refine k_istore C (pc2 := 85) (dkAt dkX8_freed 50 (q := (83, .istore 6, 2)) rfl) rfl (by decide) (lv2 := [(6, .int 0), (0, rA G o0), (1, .int x1), (2, .int x2), (4, .int x4), (5, .int x5)]) rfl ?_
              refine k_iload C (pc2 := 87) (dkAt dkX8_freed 51 (q := (85, .iload 4, 2)) rfl) rfl 4 rfl ?_
              refine k_iload C (pc2 := 89) (dkAt dkX8_freed 52 (q := (87, .iload 6, 2)) rfl) rfl 0 rfl ?_
              refine k_if_eq C (tgt := 99) (pc2 := 92) (dkAt dkX8_freed 53 (q := (89, .ifCond .eq 10, 3)) rfl) (by decide) rfl h (fun h => ?_) (fun h => ?_)
              · refine k_iconst C (pc2 := 100) (dkAt dkX8_freed 58 (q := (99, .iconst 0, 1)) rfl) rfl (v := 0) rfl ?_
                refine k_ior C (pc2 := 101) (dkAt dkX8_freed 59 (q := (100, .ior, 1)) rfl) rfl ?_
                refine kb_istore C (pc2 := 103) (dkAt dkX8_freed 60 (q := (101, .istore 4, 2)) rfl) rfl (by decide) (lv2 := fun v14 => [(4, .int v14), (6, .int 0), (0, rA G o0), (1, .int x1), (2, .int x2), (5, .int x5)]) (fun _ => rfl) h (fun v14 h => ?_)
                refine kb_iinc C (pc2 := 106) (dkAt dkX8_freed 61 (q := (103, .iinc 5 1, 3)) rfl) rfl (j := 5) rfl (v := x5 + 1) rfl (by decide) (lv2 := fun v15 => [(5, .int v15), (4, .int v14), (6, .int 0), (0, rA G o0), (1, .int x1), (2, .int x2)]) (fun _ => rfl) h (fun v15 h => ?_)
                refine k_goto C (tgt := 19) (dkAt dkX8_freed 62 (q := (106, .goto (-87), 3)) rfl) (by decide) ?_
                refine k_lv [3, 4, 5, 1, 0] (lv2 := [(0, rA G o0), (1, .int x1), (2, .int x2), (4, .int v14), (5, .int v15)]) rfl ?_
                exact ih v14 v15 h
              · refine k_iconst C (pc2 := 93) (dkAt dkX8_freed 54 (q := (92, .iconst 1, 1)) rfl) rfl (v := 1) rfl ?_
                refine k_iload C (pc2 := 95) (dkAt dkX8_freed 55 (q := (93, .iload 5, 2)) rfl) rfl 5 rfl ?_
                refine k_ishl C (pc2 := 96) (dkAt dkX8_freed 56 (q := (95, .ishl, 1)) rfl) rfl ?_
                refine k_goto C (tgt := 100) (dkAt dkX8_freed 57 (q := (96, .goto 4, 3)) rfl) (by decide) ?_
                refine k_ior C (pc2 := 101) (dkAt dkX8_freed 59 (q := (100, .ior, 1)) rfl) rfl ?_
                refine kb_istore C (pc2 := 103) (dkAt dkX8_freed 60 (q := (101, .istore 4, 2)) rfl) rfl (by decide) (lv2 := fun v16 => [(4, .int v16), (6, .int 0), (0, rA G o0), (1, .int x1), (2, .int x2), (5, .int x5)]) (fun _ => rfl) h (fun v16 h => ?_)
                refine kb_iinc C (pc2 := 106) (dkAt dkX8_freed 61 (q := (103, .iinc 5 1, 3)) rfl) rfl (j := 5) rfl (v := x5 + 1) rfl (by decide) (lv2 := fun v17 => [(5, .int v17), (4, .int v16), (6, .int 0), (0, rA G o0), (1, .int x1), (2, .int x2)]) (fun _ => rfl) h (fun v17 h => ?_)
                refine k_goto C (tgt := 19) (dkAt dkX8_freed 62 (q := (106, .goto (-87), 3)) rfl) (by decide) ?_
                refine k_lv [3, 4, 5, 1, 0] (lv2 := [(0, rA G o0), (1, .int x1), (2, .int x2), (4, .int v16), (5, .int v17)]) rfl ?_
                exact ih v16 v17 h
            · refine k_iconst C (pc2 := 79) (dkAt dkX8_freed 47 (q := (78, .iconst 1, 1)) rfl) rfl (v := 1) rfl ?_
              refine k_goto C (tgt := 83) (dkAt dkX8_freed 48 (q := (79, .goto 4, 3)) rfl) (by decide) ?_
              refine k_istore C (pc2 := 85) (dkAt dkX8_freed 50 (q := (83, .istore 6, 2)) rfl) rfl (by decide) (lv2 := [(6, .int 1), (0, rA G o0), (1, .int x1), (2, .int x2), (4, .int x4), (5, .int x5)]) rfl ?_
              refine k_iload C (pc2 := 87) (dkAt dkX8_freed 51 (q := (85, .iload 4, 2)) rfl) rfl 4 rfl ?_
              refine k_iload C (pc2 := 89) (dkAt dkX8_freed 52 (q := (87, .iload 6, 2)) rfl) rfl 0 rfl ?_
              refine k_if_eq C (tgt := 99) (pc2 := 92) (dkAt dkX8_freed 53 (q := (89, .ifCond .eq 10, 3)) rfl) (by decide) rfl h (fun h => ?_) (fun h => ?_)
              · refine k_iconst C (pc2 := 100) (dkAt dkX8_freed 58 (q := (99, .iconst 0, 1)) rfl) rfl (v := 0) rfl ?_
                refine k_ior C (pc2 := 101) (dkAt dkX8_freed 59 (q := (100, .ior, 1)) rfl) rfl ?_
                refine kb_istore C (pc2 := 103) (dkAt dkX8_freed 60 (q := (101, .istore 4, 2)) rfl) rfl (by decide) (lv2 := fun v18 => [(4, .int v18), (6, .int 1), (0, rA G o0), (1, .int x1), (2, .int x2), (5, .int x5)]) (fun _ => rfl) h (fun v18 h => ?_)
                refine kb_iinc C (pc2 := 106) (dkAt dkX8_freed 61 (q := (103, .iinc 5 1, 3)) rfl) rfl (j := 5) rfl (v := x5 + 1) rfl (by decide) (lv2 := fun v19 => [(5, .int v19), (4, .int v18), (6, .int 1), (0, rA G o0), (1, .int x1), (2, .int x2)]) (fun _ => rfl) h (fun v19 h => ?_)
                refine k_goto C (tgt := 19) (dkAt dkX8_freed 62 (q := (106, .goto (-87), 3)) rfl) (by decide) ?_
                refine k_lv [3, 4, 5, 1, 0] (lv2 := [(0, rA G o0), (1, .int x1), (2, .int x2), (4, .int v18), (5, .int v19)]) rfl ?_
                exact ih v18 v19 h
              · refine k_iconst C (pc2 := 93) (dkAt dkX8_freed 54 (q := (92, .iconst 1, 1)) rfl) rfl (v := 1) rfl ?_
                refine k_iload C (pc2 := 95) (dkAt dkX8_freed 55 (q := (93, .iload 5, 2)) rfl) rfl 5 rfl ?_
                refine k_ishl C (pc2 := 96) (dkAt dkX8_freed 56 (q := (95, .ishl, 1)) rfl) rfl ?_
                refine k_goto C (tgt := 100) (dkAt dkX8_freed 57 (q := (96, .goto 4, 3)) rfl) (by decide) ?_
                refine k_ior C (pc2 := 101) (dkAt dkX8_freed 59 (q := (100, .ior, 1)) rfl) rfl ?_
                refine kb_istore C (pc2 := 103) (dkAt dkX8_freed 60 (q := (101, .istore 4, 2)) rfl) rfl (by decide) (lv2 := fun v20 => [(4, .int v20), (6, .int 1), (0, rA G o0), (1, .int x1), (2, .int x2), (5, .int x5)]) (fun _ => rfl) h (fun v20 h => ?_)
                refine kb_iinc C (pc2 := 106) (dkAt dkX8_freed 61 (q := (103, .iinc 5 1, 3)) rfl) rfl (j := 5) rfl (v := x5 + 1) rfl (by decide) (lv2 := fun v21 => [(5, .int v21), (4, .int v20), (6, .int 1), (0, rA G o0), (1, .int x1), (2, .int x2)]) (fun _ => rfl) h (fun v21 h => ?_)
                refine k_goto C (tgt := 19) (dkAt dkX8_freed 62 (q := (106, .goto (-87), 3)) rfl) (by decide) ?_
                refine k_lv [3, 4, 5, 1, 0] (lv2 := [(0, rA G o0), (1, .int x1), (2, .int x2), (4, .int v20), (5, .int v21)]) rfl ?_
                exact ih v20 v21 h
set_option maxRecDepth 100000 in
set_option maxHeartbeats 4000000 in
theorem ct_X8_freed (l : Launch) (G : GG) (sh : Sh) (xs : List va_E) (o0 : Nat) (h0 : isM sh o0) (x1 : Int32) (x2 : Int32) (M : Mm) (r : Mm × Int32) (h : f_X8_freed o0 x1 x2 M = some r) : Ct l yX8_freed cX8_freed 7 (some .int) rm_X8_freed G [rA G o0, .int x1, .int x2] sh M xs (some (.int r.2)) sh r.1 xs 0 0 := by
  refine ct_of (by decide) (Nat.le_of_ble_eq_true rfl) ?_
  intro p e s m args below meth c hnm C
  refine k_lv [0, 1, 2] (lv2 := [(0, rA G o0), (1, .int x1), (2, .int x2)]) rfl ?_
  unfold f_X8_freed at h
  refine k_aload_n C (pc2 := 1) (dkAt dkX8_freed 0 (q := (0, .aload_n 0, 1)) rfl) rfl rfl 0 rfl ?_
  refine k_iload_n C (pc2 := 2) (dkAt dkX8_freed 1 (q := (1, .iload_n 1, 1)) rfl) rfl rfl 1 rfl ?_
  refine k_iload_n C (pc2 := 3) (dkAt dkX8_freed 2 (q := (2, .iload_n 2, 1)) rfl) rfl rfl 2 rfl ?_
  obtain ⟨q1, e2, h⟩ := ob_inv h
  refine kc_V C (As := [.int x1, .int x2]) (st2 := [.int q1.2]) (ct_X8_noTicks l G sh xs o0 h0 x1 x2 M q1 e2) (cl_X8_337 (hts_of C) ⟨Nat.le_of_ble_eq_true rfl, Nat.le_of_ble_eq_true rfl⟩ rfl rfl) h0.1 rfl rfl rfl rfl rfl (Nat.le_of_ble_eq_true rfl) (dkAt dkX8_freed 3 (q := (3, .invokevirtual 337, 3)) rfl) ⟨Nat.zero_le _, Nat.zero_le _⟩ (pc2 := 6) rfl rfl ?_
  refine kb_istore_n C (pc2 := 7) (dkAt dkX8_freed 4 (q := (6, .istore_n 3, 1)) rfl) rfl rfl (by decide) (lv2 := fun v3 => [(3, .int v3), (0, rA G o0), (1, .int x1), (2, .int x2)]) (fun _ => rfl) h (fun v3 h => ?_)
  refine k_iload_n C (pc2 := 8) (dkAt dkX8_freed 5 (q := (7, .iload_n 3, 1)) rfl) rfl rfl 0 rfl ?_
  refine k_if_eq C (tgt := 13) (pc2 := 11) (dkAt dkX8_freed 6 (q := (8, .ifCond .eq 5, 3)) rfl) (by decide) rfl h (fun h => ?_) (fun h => ?_)
  · refine k_iconst C (pc2 := 14) (dkAt dkX8_freed 9 (q := (13, .iconst 0, 1)) rfl) rfl (v := 0) rfl ?_
    refine k_istore C (pc2 := 16) (dkAt dkX8_freed 10 (q := (14, .istore 4, 2)) rfl) rfl (by decide) (lv2 := [(4, .int 0), (3, .int v3), (0, rA G o0), (1, .int x1), (2, .int x2)]) rfl ?_
    refine k_iconst C (pc2 := 17) (dkAt dkX8_freed 11 (q := (16, .iconst 0, 1)) rfl) rfl (v := 0) rfl ?_
    refine k_istore C (pc2 := 19) (dkAt dkX8_freed 12 (q := (17, .istore 5, 2)) rfl) rfl (by decide) (lv2 := [(5, .int 0), (4, .int 0), (3, .int v3), (0, rA G o0), (1, .int x1), (2, .int x2)]) rfl ?_
    refine k_lv [3, 4, 5, 1, 0] (lv2 := [(0, rA G o0), (1, .int x1), (2, .int x2), (4, .int 0), (5, .int 0)]) rfl ?_
    obtain ⟨v24, e23, h⟩ := ob_inv h
    refine kl_X8_freed_L19 C o0 h0 x1 x2 q1.1 v24 ?_ 1000 0 0 e23
    refine k_iload C (pc2 := 111) (dkAt dkX8_freed 63 (q := (109, .iload 4, 2)) rfl) rfl 0 rfl ?_
    exact k_iret C (dkAt dkX8_freed 64 (q := (111, .ireturn, 1)) rfl) (pe2 (Option.some.inj h)) rfl (pe1 (Option.some.inj h)) rfl
  · refine k_iload_n C (pc2 := 12) (dkAt dkX8_freed 7 (q := (11, .iload_n 3, 1)) rfl) rfl rfl 0 rfl ?_
    exact k_iret C (dkAt dkX8_freed 8 (q := (12, .ireturn, 1)) rfl) (pe2 (Option.some.inj h)) rfl (pe1 (Option.some.inj h)) rfl
set_option maxRecDepth 100000 in
set_option maxHeartbeats 4000000 in
theorem ct_X8_noPlan (l : Launch) (G : GG) (sh : Sh) (xs : List va_E) (o0 : Nat) (h0 : isM sh o0) (x1 : Int32) (x2 : Int32) (M : Mm) (r : Mm × Int32) (h : f_X8_noPlan o0 x1 x2 M = some r) : Ct l yX8_noPlan cX8_noPlan 4 (some .int) rm_X8_noPlan G [rA G o0, .int x1, .int x2] sh M xs (some (.int r.2)) sh r.1 xs 0 0 := by
  refine ct_of (by decide) (Nat.le_of_ble_eq_true rfl) ?_
  intro p e s m args below meth c hnm C
  refine k_lv [0, 1, 2] (lv2 := [(0, rA G o0), (1, .int x1), (2, .int x2)]) rfl ?_
  unfold f_X8_noPlan at h
  refine k_iload_n C (pc2 := 1) (dkAt dkX8_noPlan 0 (q := (0, .iload_n 1, 1)) rfl) rfl rfl 1 rfl ?_
  refine k_i2l C (pc2 := 2) (dkAt dkX8_noPlan 1 (q := (1, .i2l, 1)) rfl) rfl ?_
  refine k_lconst C (pc2 := 3) (dkAt dkX8_noPlan 2 (q := (2, .lconst 0, 1)) rfl) rfl (v := 0) rfl ?_
  refine k_ldc2 C (pc2 := 6) (dkAt dkX8_noPlan 3 (q := (3, .ldc2_w 91, 3)) rfl) rfl (v := 7) tL_X8_91 ?_
  obtain ⟨q1, e2, h⟩ := ob_inv h
  refine kc_S C (As := [.long x1.toInt64, .long 0, .long 7]) (st2 := [.int q1]) (ct_X8_in l G sh xs x1.toInt64 0 7 M q1 e2) (cl_X8_85 (hts_of C) ⟨Nat.le_of_ble_eq_true rfl, Nat.le_of_ble_eq_true rfl⟩ rfl rfl) rfl rfl (Nat.le_of_ble_eq_true rfl) (dkAt dkX8_noPlan 4 (q := (6, .invokestatic 85, 3)) rfl) ⟨Nat.zero_le _, Nat.zero_le _⟩ (pc2 := 9) rfl rfl ?_
  refine k_if_eq C (tgt := 24) (pc2 := 12) (dkAt dkX8_noPlan 5 (q := (9, .ifCond .eq 15, 3)) rfl) (by decide) rfl h (fun h => ?_) (fun h => ?_)
  · refine k_aload_n C (pc2 := 25) (dkAt dkX8_noPlan 12 (q := (24, .aload_n 0, 1)) rfl) rfl rfl 0 rfl ?_
    refine k_bipush C (pc2 := 27) (dkAt dkX8_noPlan 13 (q := (25, .bipush (-2), 2)) rfl) rfl (v := (-2)) rfl ?_
    obtain ⟨q3, e4, h⟩ := ob_inv h
    refine kc_V C (As := [.int (-2)]) (st2 := [.int q3.2]) (ct_X8_refuse l G sh xs o0 h0 (-2) M q3 e4) (cl_X8_97 (hts_of C) ⟨Nat.le_of_ble_eq_true rfl, Nat.le_of_ble_eq_true rfl⟩ rfl rfl) h0.1 rfl rfl rfl rfl rfl (Nat.le_of_ble_eq_true rfl) (dkAt dkX8_noPlan 14 (q := (27, .invokevirtual 97, 3)) rfl) ⟨Nat.zero_le _, Nat.zero_le _⟩ (pc2 := 30) rfl rfl ?_
    exact k_iret C (dkAt dkX8_noPlan 15 (q := (30, .ireturn, 1)) rfl) (pe2 (Option.some.inj h)) rfl (pe1 (Option.some.inj h)) rfl
  · refine k_iload_n C (pc2 := 13) (dkAt dkX8_noPlan 6 (q := (12, .iload_n 2, 1)) rfl) rfl rfl 2 rfl ?_
    refine k_i2l C (pc2 := 14) (dkAt dkX8_noPlan 7 (q := (13, .i2l, 1)) rfl) rfl ?_
    refine k_lconst C (pc2 := 15) (dkAt dkX8_noPlan 8 (q := (14, .lconst 0, 1)) rfl) rfl (v := 0) rfl ?_
    refine k_ldc2 C (pc2 := 18) (dkAt dkX8_noPlan 9 (q := (15, .ldc2_w 95, 3)) rfl) rfl (v := 40) tL_X8_95 ?_
    obtain ⟨q5, e6, h⟩ := ob_inv h
    refine kc_S C (As := [.long x2.toInt64, .long 0, .long 40]) (st2 := [.int q5]) (ct_X8_in l G sh xs x2.toInt64 0 40 M q5 e6) (cl_X8_85 (hts_of C) ⟨Nat.le_of_ble_eq_true rfl, Nat.le_of_ble_eq_true rfl⟩ rfl rfl) rfl rfl (Nat.le_of_ble_eq_true rfl) (dkAt dkX8_noPlan 10 (q := (18, .invokestatic 85, 3)) rfl) ⟨Nat.zero_le _, Nat.zero_le _⟩ (pc2 := 21) rfl rfl ?_
    refine k_if_ne C (tgt := 31) (pc2 := 24) (dkAt dkX8_noPlan 11 (q := (21, .ifCond .ne 10, 3)) rfl) (by decide) rfl h (fun h => ?_) (fun h => ?_)
    · refine k_aload_n C (pc2 := 32) (dkAt dkX8_noPlan 16 (q := (31, .aload_n 0, 1)) rfl) rfl rfl 0 rfl ?_
      refine k_iload_n C (pc2 := 33) (dkAt dkX8_noPlan 17 (q := (32, .iload_n 1, 1)) rfl) rfl rfl 1 rfl ?_
      obtain ⟨q7, e8, h⟩ := ob_inv h
      refine kc_V C (As := [.int x1]) (st2 := [.int q7.2]) (ct_X8_noRow l G sh xs o0 h0 x1 M q7 e8) (cl_X8_101 (hts_of C) ⟨Nat.le_of_ble_eq_true rfl, Nat.le_of_ble_eq_true rfl⟩ rfl rfl) h0.1 rfl rfl rfl rfl rfl (Nat.le_of_ble_eq_true rfl) (dkAt dkX8_noPlan 18 (q := (33, .invokevirtual 101, 3)) rfl) ⟨Nat.zero_le _, Nat.zero_le _⟩ (pc2 := 36) rfl rfl ?_
      refine kb_istore_n C (pc2 := 37) (dkAt dkX8_noPlan 19 (q := (36, .istore_n 3, 1)) rfl) rfl rfl (by decide) (lv2 := fun v9 => [(3, .int v9), (0, rA G o0), (1, .int x1), (2, .int x2)]) (fun _ => rfl) h (fun v9 h => ?_)
      refine k_iload_n C (pc2 := 38) (dkAt dkX8_noPlan 20 (q := (37, .iload_n 3, 1)) rfl) rfl rfl 0 rfl ?_
      refine k_if_eq C (tgt := 43) (pc2 := 41) (dkAt dkX8_noPlan 21 (q := (38, .ifCond .eq 5, 3)) rfl) (by decide) rfl h (fun h => ?_) (fun h => ?_)
      · refine k_aload_n C (pc2 := 44) (dkAt dkX8_noPlan 24 (q := (43, .aload_n 0, 1)) rfl) rfl rfl 1 rfl ?_
        refine kf_X8_16 C (pc2 := 47) (o := o0) (o2 := o0 + 3) h0.1 rfl (dkAt dkX8_noPlan 25 (q := (44, .getfield 16, 3)) rfl) rfl ?_
        refine k_iload_n C (pc2 := 48) (dkAt dkX8_noPlan 26 (q := (47, .iload_n 1, 1)) rfl) rfl rfl 2 rfl ?_
        refine k_iald C (pc2 := 49) (o := o0 + 3) (nA := 8) (isM_rowSize h0) (dkAt dkX8_noPlan 27 (q := (48, .iaload, 1)) rfl) rfl h (fun h => ?_)
        refine k_iload_n C (pc2 := 50) (dkAt dkX8_noPlan 28 (q := (49, .iload_n 2, 1)) rfl) rfl rfl 3 rfl ?_
        refine k_icmp_ge C (tgt := 62) (pc2 := 53) (dkAt dkX8_noPlan 29 (q := (50, .if_icmp .ge 12, 3)) rfl) (by decide) rfl h (fun h => ?_) (fun h => ?_)
        · refine k_iconst C (pc2 := 63) (dkAt dkX8_noPlan 34 (q := (62, .iconst 0, 1)) rfl) rfl (v := 0) rfl ?_
          exact k_iret C (dkAt dkX8_noPlan 35 (q := (63, .ireturn, 1)) rfl) (pe2 (Option.some.inj h)) rfl (pe1 (Option.some.inj h)) rfl
        · refine k_aload_n C (pc2 := 54) (dkAt dkX8_noPlan 30 (q := (53, .aload_n 0, 1)) rfl) rfl rfl 1 rfl ?_
          refine k_bipush C (pc2 := 56) (dkAt dkX8_noPlan 31 (q := (54, .bipush (-2), 2)) rfl) rfl (v := (-2)) rfl ?_
          obtain ⟨q10, e11, h⟩ := ob_inv h
          refine kc_V C (As := [.int (-2)]) (st2 := [.int q10.2]) (ct_X8_refuse l G sh xs o0 h0 (-2) q7.1 q10 e11) (cl_X8_97 (hts_of C) ⟨Nat.le_of_ble_eq_true rfl, Nat.le_of_ble_eq_true rfl⟩ rfl rfl) h0.1 rfl rfl rfl rfl rfl (Nat.le_of_ble_eq_true rfl) (dkAt dkX8_noPlan 32 (q := (56, .invokevirtual 97, 3)) rfl) ⟨Nat.zero_le _, Nat.zero_le _⟩ (pc2 := 59) rfl rfl ?_
          refine k_goto C (tgt := 63) (dkAt dkX8_noPlan 33 (q := (59, .goto 4, 3)) rfl) (by decide) ?_
          exact k_iret C (dkAt dkX8_noPlan 35 (q := (63, .ireturn, 1)) rfl) (pe2 (Option.some.inj h)) rfl (pe1 (Option.some.inj h)) rfl
      · refine k_iload_n C (pc2 := 42) (dkAt dkX8_noPlan 22 (q := (41, .iload_n 3, 1)) rfl) rfl rfl 0 rfl ?_
        exact k_iret C (dkAt dkX8_noPlan 23 (q := (42, .ireturn, 1)) rfl) (pe2 (Option.some.inj h)) rfl (pe1 (Option.some.inj h)) rfl
    · refine k_aload_n C (pc2 := 25) (dkAt dkX8_noPlan 12 (q := (24, .aload_n 0, 1)) rfl) rfl rfl 0 rfl ?_
      refine k_bipush C (pc2 := 27) (dkAt dkX8_noPlan 13 (q := (25, .bipush (-2), 2)) rfl) rfl (v := (-2)) rfl ?_
      obtain ⟨q12, e13, h⟩ := ob_inv h
      refine kc_V C (As := [.int (-2)]) (st2 := [.int q12.2]) (ct_X8_refuse l G sh xs o0 h0 (-2) M q12 e13) (cl_X8_97 (hts_of C) ⟨Nat.le_of_ble_eq_true rfl, Nat.le_of_ble_eq_true rfl⟩ rfl rfl) h0.1 rfl rfl rfl rfl rfl (Nat.le_of_ble_eq_true rfl) (dkAt dkX8_noPlan 14 (q := (27, .invokevirtual 97, 3)) rfl) ⟨Nat.zero_le _, Nat.zero_le _⟩ (pc2 := 30) rfl rfl ?_
      exact k_iret C (dkAt dkX8_noPlan 15 (q := (30, .ireturn, 1)) rfl) (pe2 (Option.some.inj h)) rfl (pe1 (Option.some.inj h)) rfl
set_option maxRecDepth 100000 in
set_option maxHeartbeats 4000000 in
theorem kl_X8_wrongIn_L2 {p : Program} {l : Launch} {e : Env} {s : State} {m : MethodId} {args : Array Value} {below : List Frame} {meth : Method} {c : Code} {G : GG} {sh : Sh} {xs : List va_E} (C : Cx p s m c args meth G RX8 cX8_wrongIn 5 (some .int)) (o0 : Nat) (h0 : isM sh o0) (o1 : Nat) (h1 : sh[o1]? = some (10, 40)) (x2 : Int32) (M : Mm) (r : Int32) (t : (Unit) ⊕ (Int32)) (hcont : t = Sum.inl () → KW p l e rm_X8_wrongIn s m args below meth c G 5 (MQ below (QO G (some (.int r)) sh M xs) args s 0 0 (gA G)) sh xs 0 0 M 64 [] []) (hres : ∀ z, t = Sum.inr z → z = r) : ∀ (n : Nat) (x3 : Int32), f_X8_wrongIn_L2 o0 o1 x2 M n x3 = some t → KW p l e rm_X8_wrongIn s m args below meth c G 5 (MQ below (QO G (some (.int r)) sh M xs) args s 0 0 (gA G)) sh xs 0 0 M 2 [(0, rA G o0), (1, rA G o1), (2, .int x2), (3, .int x3)] [] := by
  intro n
  induction n with
  | zero =>
    intro x3 h
    cases h
  | succ n ih =>
    intro x3 h
    unfold f_X8_wrongIn_L2 at h
    refine k_iload_n C (pc2 := 3) (dkAt dkX8_wrongIn 2 (q := (2, .iload_n 3, 1)) rfl) rfl rfl 3 rfl ?_
    refine k_iload_n C (pc2 := 4) (dkAt dkX8_wrongIn 3 (q := (3, .iload_n 2, 1)) rfl) rfl rfl 2 rfl ?_
    refine k_icmp_ge C (tgt := 64) (pc2 := 7) (dkAt dkX8_wrongIn 4 (q := (4, .if_icmp .ge 60, 3)) rfl) (by decide) rfl h (fun h => ?_) (fun h => ?_)
    · refine k_lv [] (lv2 := []) rfl ?_
      exact hcont (Option.some.inj h).symm
    · refine k_iload_n C (pc2 := 8) (dkAt dkX8_wrongIn 5 (q := (7, .iload_n 3, 1)) rfl) rfl rfl 3 rfl ?_
      refine k_if_eq C (tgt := 23) (pc2 := 11) (dkAt dkX8_wrongIn 6 (q := (8, .ifCond .eq 15, 3)) rfl) (by decide) rfl h (fun h => ?_) (fun h => ?_)
      · refine k_iconst C (pc2 := 24) (dkAt dkX8_wrongIn 17 (q := (23, .iconst 1, 1)) rfl) rfl (v := 1) rfl ?_
        refine k_goto C (tgt := 28) (dkAt dkX8_wrongIn 18 (q := (24, .goto 4, 3)) rfl) (by decide) ?_
        refine k_istore C (pc2 := 30) (dkAt dkX8_wrongIn 20 (q := (28, .istore 4, 2)) rfl) rfl (by decide) (lv2 := [(4, .int 1), (0, rA G o0), (1, rA G o1), (2, .int x2), (3, .int x3)]) rfl ?_
        refine k_aload_n C (pc2 := 31) (dkAt dkX8_wrongIn 21 (q := (30, .aload_n 0, 1)) rfl) rfl rfl 1 rfl ?_
        refine k_aload_n C (pc2 := 32) (dkAt dkX8_wrongIn 22 (q := (31, .aload_n 1, 1)) rfl) rfl rfl 2 rfl ?_
        refine k_iload_n C (pc2 := 33) (dkAt dkX8_wrongIn 23 (q := (32, .iload_n 3, 1)) rfl) rfl rfl 4 rfl ?_
        refine k_lald C (pc2 := 34) (o := o1) (nA := 40) h1 (dkAt dkX8_wrongIn 24 (q := (33, .laload, 1)) rfl) rfl h (fun h => ?_)
        obtain ⟨q1, e2, h⟩ := ob_inv h
        refine kc_V C (As := [.long (M.2.1 o1 x3.toNatClampNeg)]) (st2 := [.int q1]) (ct_X8_isDay l G sh xs o0 h0 (M.2.1 o1 x3.toNatClampNeg) M q1 e2) (cl_X8_135 (hts_of C) ⟨Nat.le_of_ble_eq_true rfl, Nat.le_of_ble_eq_true rfl⟩ rfl rfl) h0.1 rfl rfl rfl rfl rfl (Nat.le_of_ble_eq_true rfl) (dkAt dkX8_wrongIn 25 (q := (34, .invokevirtual 135, 3)) rfl) ⟨Nat.zero_le _, Nat.zero_le _⟩ (pc2 := 37) rfl rfl ?_
        refine k_if_eq C (tgt := 56) (pc2 := 40) (dkAt dkX8_wrongIn 26 (q := (37, .ifCond .eq 19, 3)) rfl) (by decide) rfl h (fun h => ?_) (fun h => ?_)
        · refine k_iload_n C (pc2 := 57) (dkAt dkX8_wrongIn 36 (q := (56, .iload_n 3, 1)) rfl) rfl rfl 4 rfl ?_
          exact k_iret C (dkAt dkX8_wrongIn 37 (q := (57, .ireturn, 1)) rfl) (hres _ (Option.some.inj h).symm) rfl rfl rfl
        · refine k_iload C (pc2 := 42) (dkAt dkX8_wrongIn 27 (q := (40, .iload 4, 2)) rfl) rfl 0 rfl ?_
          refine k_if_eq C (tgt := 56) (pc2 := 45) (dkAt dkX8_wrongIn 28 (q := (42, .ifCond .eq 14, 3)) rfl) (by decide) rfl h (fun h => ?_) (fun h => ?_)
          · refine k_iload_n C (pc2 := 57) (dkAt dkX8_wrongIn 36 (q := (56, .iload_n 3, 1)) rfl) rfl rfl 4 rfl ?_
            exact k_iret C (dkAt dkX8_wrongIn 37 (q := (57, .ireturn, 1)) rfl) (hres _ (Option.some.inj h).symm) rfl rfl rfl
          · refine k_aload_n C (pc2 := 46) (dkAt dkX8_wrongIn 29 (q := (45, .aload_n 0, 1)) rfl) rfl rfl 1 rfl ?_
            refine k_aload_n C (pc2 := 47) (dkAt dkX8_wrongIn 30 (q := (46, .aload_n 1, 1)) rfl) rfl rfl 2 rfl ?_
            refine k_iload_n C (pc2 := 48) (dkAt dkX8_wrongIn 31 (q := (47, .iload_n 3, 1)) rfl) rfl rfl 4 rfl ?_
            refine k_lald C (pc2 := 49) (o := o1) (nA := 40) h1 (dkAt dkX8_wrongIn 32 (q := (48, .laload, 1)) rfl) rfl h (fun h => ?_)
            refine k_l2i C (pc2 := 50) (dkAt dkX8_wrongIn 33 (q := (49, .l2i, 1)) rfl) rfl ?_
            obtain ⟨q3, e4, h⟩ := ob_inv h
            refine kc_V C (As := [.int ((M.2.1 o1 x3.toNatClampNeg).toInt32)]) (st2 := [.int q3]) (ct_X8_mayDine l G sh xs o0 h0 ((M.2.1 o1 x3.toNatClampNeg).toInt32) M q3 e4) (cl_X8_280 (hts_of C) ⟨Nat.le_of_ble_eq_true rfl, Nat.le_of_ble_eq_true rfl⟩ rfl rfl) h0.1 rfl rfl rfl rfl rfl (Nat.le_of_ble_eq_true rfl) (dkAt dkX8_wrongIn 34 (q := (50, .invokevirtual 280, 3)) rfl) ⟨Nat.zero_le _, Nat.zero_le _⟩ (pc2 := 53) rfl rfl ?_
            refine k_if_ne C (tgt := 58) (pc2 := 56) (dkAt dkX8_wrongIn 35 (q := (53, .ifCond .ne 5, 3)) rfl) (by decide) rfl h (fun h => ?_) (fun h => ?_)
            · refine kb_iinc C (pc2 := 61) (dkAt dkX8_wrongIn 38 (q := (58, .iinc 3 1, 3)) rfl) rfl (j := 4) rfl (v := x3 + 1) rfl (by decide) (lv2 := fun v5 => [(3, .int v5), (4, .int 1), (0, rA G o0), (1, rA G o1), (2, .int x2)]) (fun _ => rfl) h (fun v5 h => ?_)
              refine k_goto C (tgt := 2) (dkAt dkX8_wrongIn 39 (q := (61, .goto (-59), 3)) rfl) (by decide) ?_
              refine k_lv [2, 3, 4, 0] (lv2 := [(0, rA G o0), (1, rA G o1), (2, .int x2), (3, .int v5)]) rfl ?_
              exact ih v5 h
            · refine k_iload_n C (pc2 := 57) (dkAt dkX8_wrongIn 36 (q := (56, .iload_n 3, 1)) rfl) rfl rfl 4 rfl ?_
              exact k_iret C (dkAt dkX8_wrongIn 37 (q := (57, .ireturn, 1)) rfl) (hres _ (Option.some.inj h).symm) rfl rfl rfl
      · refine k_aload_n C (pc2 := 12) (dkAt dkX8_wrongIn 7 (q := (11, .aload_n 1, 1)) rfl) rfl rfl 1 rfl ?_
        refine k_iload_n C (pc2 := 13) (dkAt dkX8_wrongIn 8 (q := (12, .iload_n 3, 1)) rfl) rfl rfl 3 rfl ?_
        refine k_lald C (pc2 := 14) (o := o1) (nA := 40) h1 (dkAt dkX8_wrongIn 9 (q := (13, .laload, 1)) rfl) rfl h (fun h => ?_)
        refine k_aload_n C (pc2 := 15) (dkAt dkX8_wrongIn 10 (q := (14, .aload_n 1, 1)) rfl) rfl rfl 1 rfl ?_
        refine k_iload_n C (pc2 := 16) (dkAt dkX8_wrongIn 11 (q := (15, .iload_n 3, 1)) rfl) rfl rfl 3 rfl ?_
        refine k_iconst C (pc2 := 17) (dkAt dkX8_wrongIn 12 (q := (16, .iconst 1, 1)) rfl) rfl (v := 1) rfl ?_
        refine k_isub C (pc2 := 18) (dkAt dkX8_wrongIn 13 (q := (17, .isub, 1)) rfl) rfl ?_
        refine k_lald C (pc2 := 19) (o := o1) (nA := 40) h1 (dkAt dkX8_wrongIn 14 (q := (18, .laload, 1)) rfl) rfl h (fun h => ?_)
        refine k_lcmp C (pc2 := 20) (dkAt dkX8_wrongIn 15 (q := (19, .lcmp, 1)) rfl) rfl ?_
        refine k_if_le C (tgt := 27) (pc2 := 23) (dkAt dkX8_wrongIn 16 (q := (20, .ifCond .le 7, 3)) rfl) (by decide) rfl h (fun h => ?_) (fun h => ?_)
        · refine k_iconst C (pc2 := 28) (dkAt dkX8_wrongIn 19 (q := (27, .iconst 0, 1)) rfl) rfl (v := 0) rfl ?_
          refine k_istore C (pc2 := 30) (dkAt dkX8_wrongIn 20 (q := (28, .istore 4, 2)) rfl) rfl (by decide) (lv2 := [(4, .int 0), (0, rA G o0), (1, rA G o1), (2, .int x2), (3, .int x3)]) rfl ?_
          refine k_aload_n C (pc2 := 31) (dkAt dkX8_wrongIn 21 (q := (30, .aload_n 0, 1)) rfl) rfl rfl 1 rfl ?_
          refine k_aload_n C (pc2 := 32) (dkAt dkX8_wrongIn 22 (q := (31, .aload_n 1, 1)) rfl) rfl rfl 2 rfl ?_
          refine k_iload_n C (pc2 := 33) (dkAt dkX8_wrongIn 23 (q := (32, .iload_n 3, 1)) rfl) rfl rfl 4 rfl ?_
          refine k_lald C (pc2 := 34) (o := o1) (nA := 40) h1 (dkAt dkX8_wrongIn 24 (q := (33, .laload, 1)) rfl) rfl h (fun h => ?_)
          obtain ⟨q6, e7, h⟩ := ob_inv h
          refine kc_V C (As := [.long (M.2.1 o1 x3.toNatClampNeg)]) (st2 := [.int q6]) (ct_X8_isDay l G sh xs o0 h0 (M.2.1 o1 x3.toNatClampNeg) M q6 e7) (cl_X8_135 (hts_of C) ⟨Nat.le_of_ble_eq_true rfl, Nat.le_of_ble_eq_true rfl⟩ rfl rfl) h0.1 rfl rfl rfl rfl rfl (Nat.le_of_ble_eq_true rfl) (dkAt dkX8_wrongIn 25 (q := (34, .invokevirtual 135, 3)) rfl) ⟨Nat.zero_le _, Nat.zero_le _⟩ (pc2 := 37) rfl rfl ?_
          refine k_if_eq C (tgt := 56) (pc2 := 40) (dkAt dkX8_wrongIn 26 (q := (37, .ifCond .eq 19, 3)) rfl) (by decide) rfl h (fun h => ?_) (fun h => ?_)
          · refine k_iload_n C (pc2 := 57) (dkAt dkX8_wrongIn 36 (q := (56, .iload_n 3, 1)) rfl) rfl rfl 4 rfl ?_
            exact k_iret C (dkAt dkX8_wrongIn 37 (q := (57, .ireturn, 1)) rfl) (hres _ (Option.some.inj h).symm) rfl rfl rfl
          · refine k_iload C (pc2 := 42) (dkAt dkX8_wrongIn 27 (q := (40, .iload 4, 2)) rfl) rfl 0 rfl ?_
            refine k_if_eq C (tgt := 56) (pc2 := 45) (dkAt dkX8_wrongIn 28 (q := (42, .ifCond .eq 14, 3)) rfl) (by decide) rfl h (fun h => ?_) (fun h => ?_)
            · refine k_iload_n C (pc2 := 57) (dkAt dkX8_wrongIn 36 (q := (56, .iload_n 3, 1)) rfl) rfl rfl 4 rfl ?_
              exact k_iret C (dkAt dkX8_wrongIn 37 (q := (57, .ireturn, 1)) rfl) (hres _ (Option.some.inj h).symm) rfl rfl rfl
            · refine k_aload_n C (pc2 := 46) (dkAt dkX8_wrongIn 29 (q := (45, .aload_n 0, 1)) rfl) rfl rfl 1 rfl ?_
              refine k_aload_n C (pc2 := 47) (dkAt dkX8_wrongIn 30 (q := (46, .aload_n 1, 1)) rfl) rfl rfl 2 rfl ?_
              refine k_iload_n C (pc2 := 48) (dkAt dkX8_wrongIn 31 (q := (47, .iload_n 3, 1)) rfl) rfl rfl 4 rfl ?_
              refine k_lald C (pc2 := 49) (o := o1) (nA := 40) h1 (dkAt dkX8_wrongIn 32 (q := (48, .laload, 1)) rfl) rfl h (fun h => ?_)
              refine k_l2i C (pc2 := 50) (dkAt dkX8_wrongIn 33 (q := (49, .l2i, 1)) rfl) rfl ?_
              obtain ⟨q8, e9, h⟩ := ob_inv h
              refine kc_V C (As := [.int ((M.2.1 o1 x3.toNatClampNeg).toInt32)]) (st2 := [.int q8]) (ct_X8_mayDine l G sh xs o0 h0 ((M.2.1 o1 x3.toNatClampNeg).toInt32) M q8 e9) (cl_X8_280 (hts_of C) ⟨Nat.le_of_ble_eq_true rfl, Nat.le_of_ble_eq_true rfl⟩ rfl rfl) h0.1 rfl rfl rfl rfl rfl (Nat.le_of_ble_eq_true rfl) (dkAt dkX8_wrongIn 34 (q := (50, .invokevirtual 280, 3)) rfl) ⟨Nat.zero_le _, Nat.zero_le _⟩ (pc2 := 53) rfl rfl ?_
              refine k_if_ne C (tgt := 58) (pc2 := 56) (dkAt dkX8_wrongIn 35 (q := (53, .ifCond .ne 5, 3)) rfl) (by decide) rfl h (fun h => ?_) (fun h => ?_)
              · refine kb_iinc C (pc2 := 61) (dkAt dkX8_wrongIn 38 (q := (58, .iinc 3 1, 3)) rfl) rfl (j := 4) rfl (v := x3 + 1) rfl (by decide) (lv2 := fun v10 => [(3, .int v10), (4, .int 0), (0, rA G o0), (1, rA G o1), (2, .int x2)]) (fun _ => rfl) h (fun v10 h => ?_)
                refine k_goto C (tgt := 2) (dkAt dkX8_wrongIn 39 (q := (61, .goto (-59), 3)) rfl) (by decide) ?_
                refine k_lv [2, 3, 4, 0] (lv2 := [(0, rA G o0), (1, rA G o1), (2, .int x2), (3, .int v10)]) rfl ?_
                exact ih v10 h
              · refine k_iload_n C (pc2 := 57) (dkAt dkX8_wrongIn 36 (q := (56, .iload_n 3, 1)) rfl) rfl rfl 4 rfl ?_
                exact k_iret C (dkAt dkX8_wrongIn 37 (q := (57, .ireturn, 1)) rfl) (hres _ (Option.some.inj h).symm) rfl rfl rfl
        · refine k_iconst C (pc2 := 24) (dkAt dkX8_wrongIn 17 (q := (23, .iconst 1, 1)) rfl) rfl (v := 1) rfl ?_
          refine k_goto C (tgt := 28) (dkAt dkX8_wrongIn 18 (q := (24, .goto 4, 3)) rfl) (by decide) ?_
          refine k_istore C (pc2 := 30) (dkAt dkX8_wrongIn 20 (q := (28, .istore 4, 2)) rfl) rfl (by decide) (lv2 := [(4, .int 1), (0, rA G o0), (1, rA G o1), (2, .int x2), (3, .int x3)]) rfl ?_
          refine k_aload_n C (pc2 := 31) (dkAt dkX8_wrongIn 21 (q := (30, .aload_n 0, 1)) rfl) rfl rfl 1 rfl ?_
          refine k_aload_n C (pc2 := 32) (dkAt dkX8_wrongIn 22 (q := (31, .aload_n 1, 1)) rfl) rfl rfl 2 rfl ?_
          refine k_iload_n C (pc2 := 33) (dkAt dkX8_wrongIn 23 (q := (32, .iload_n 3, 1)) rfl) rfl rfl 4 rfl ?_
          refine k_lald C (pc2 := 34) (o := o1) (nA := 40) h1 (dkAt dkX8_wrongIn 24 (q := (33, .laload, 1)) rfl) rfl h (fun h => ?_)
          obtain ⟨q11, e12, h⟩ := ob_inv h
          refine kc_V C (As := [.long (M.2.1 o1 x3.toNatClampNeg)]) (st2 := [.int q11]) (ct_X8_isDay l G sh xs o0 h0 (M.2.1 o1 x3.toNatClampNeg) M q11 e12) (cl_X8_135 (hts_of C) ⟨Nat.le_of_ble_eq_true rfl, Nat.le_of_ble_eq_true rfl⟩ rfl rfl) h0.1 rfl rfl rfl rfl rfl (Nat.le_of_ble_eq_true rfl) (dkAt dkX8_wrongIn 25 (q := (34, .invokevirtual 135, 3)) rfl) ⟨Nat.zero_le _, Nat.zero_le _⟩ (pc2 := 37) rfl rfl ?_
          refine k_if_eq C (tgt := 56) (pc2 := 40) (dkAt dkX8_wrongIn 26 (q := (37, .ifCond .eq 19, 3)) rfl) (by decide) rfl h (fun h => ?_) (fun h => ?_)
          · refine k_iload_n C (pc2 := 57) (dkAt dkX8_wrongIn 36 (q := (56, .iload_n 3, 1)) rfl) rfl rfl 4 rfl ?_
            exact k_iret C (dkAt dkX8_wrongIn 37 (q := (57, .ireturn, 1)) rfl) (hres _ (Option.some.inj h).symm) rfl rfl rfl
          · refine k_iload C (pc2 := 42) (dkAt dkX8_wrongIn 27 (q := (40, .iload 4, 2)) rfl) rfl 0 rfl ?_
            refine k_if_eq C (tgt := 56) (pc2 := 45) (dkAt dkX8_wrongIn 28 (q := (42, .ifCond .eq 14, 3)) rfl) (by decide) rfl h (fun h => ?_) (fun h => ?_)
            · refine k_iload_n C (pc2 := 57) (dkAt dkX8_wrongIn 36 (q := (56, .iload_n 3, 1)) rfl) rfl rfl 4 rfl ?_
              exact k_iret C (dkAt dkX8_wrongIn 37 (q := (57, .ireturn, 1)) rfl) (hres _ (Option.some.inj h).symm) rfl rfl rfl
            · refine k_aload_n C (pc2 := 46) (dkAt dkX8_wrongIn 29 (q := (45, .aload_n 0, 1)) rfl) rfl rfl 1 rfl ?_
              refine k_aload_n C (pc2 := 47) (dkAt dkX8_wrongIn 30 (q := (46, .aload_n 1, 1)) rfl) rfl rfl 2 rfl ?_
              refine k_iload_n C (pc2 := 48) (dkAt dkX8_wrongIn 31 (q := (47, .iload_n 3, 1)) rfl) rfl rfl 4 rfl ?_
              refine k_lald C (pc2 := 49) (o := o1) (nA := 40) h1 (dkAt dkX8_wrongIn 32 (q := (48, .laload, 1)) rfl) rfl h (fun h => ?_)
              refine k_l2i C (pc2 := 50) (dkAt dkX8_wrongIn 33 (q := (49, .l2i, 1)) rfl) rfl ?_
              obtain ⟨q13, e14, h⟩ := ob_inv h
              refine kc_V C (As := [.int ((M.2.1 o1 x3.toNatClampNeg).toInt32)]) (st2 := [.int q13]) (ct_X8_mayDine l G sh xs o0 h0 ((M.2.1 o1 x3.toNatClampNeg).toInt32) M q13 e14) (cl_X8_280 (hts_of C) ⟨Nat.le_of_ble_eq_true rfl, Nat.le_of_ble_eq_true rfl⟩ rfl rfl) h0.1 rfl rfl rfl rfl rfl (Nat.le_of_ble_eq_true rfl) (dkAt dkX8_wrongIn 34 (q := (50, .invokevirtual 280, 3)) rfl) ⟨Nat.zero_le _, Nat.zero_le _⟩ (pc2 := 53) rfl rfl ?_
              refine k_if_ne C (tgt := 58) (pc2 := 56) (dkAt dkX8_wrongIn 35 (q := (53, .ifCond .ne 5, 3)) rfl) (by decide) rfl h (fun h => ?_) (fun h => ?_)
              · refine kb_iinc C (pc2 := 61) (dkAt dkX8_wrongIn 38 (q := (58, .iinc 3 1, 3)) rfl) rfl (j := 4) rfl (v := x3 + 1) rfl (by decide) (lv2 := fun v15 => [(3, .int v15), (4, .int 1), (0, rA G o0), (1, rA G o1), (2, .int x2)]) (fun _ => rfl) h (fun v15 h => ?_)
                refine k_goto C (tgt := 2) (dkAt dkX8_wrongIn 39 (q := (61, .goto (-59), 3)) rfl) (by decide) ?_
                refine k_lv [2, 3, 4, 0] (lv2 := [(0, rA G o0), (1, rA G o1), (2, .int x2), (3, .int v15)]) rfl ?_
                exact ih v15 h
              · refine k_iload_n C (pc2 := 57) (dkAt dkX8_wrongIn 36 (q := (56, .iload_n 3, 1)) rfl) rfl rfl 4 rfl ?_
                exact k_iret C (dkAt dkX8_wrongIn 37 (q := (57, .ireturn, 1)) rfl) (hres _ (Option.some.inj h).symm) rfl rfl rfl
set_option maxRecDepth 100000 in
set_option maxHeartbeats 4000000 in
theorem ct_X8_wrongIn (l : Launch) (G : GG) (sh : Sh) (xs : List va_E) (o0 : Nat) (h0 : isM sh o0) (o1 : Nat) (h1 : sh[o1]? = some (10, 40)) (x2 : Int32) (M : Mm) (r : Int32) (h : f_X8_wrongIn o0 o1 x2 M = some r) : Ct l yX8_wrongIn cX8_wrongIn 5 (some .int) rm_X8_wrongIn G [rA G o0, rA G o1, .int x2] sh M xs (some (.int r)) sh M xs 0 0 := by
  refine ct_of (by decide) (Nat.le_of_ble_eq_true rfl) ?_
  intro p e s m args below meth c hnm C
  refine k_lv [0, 1, 2] (lv2 := [(0, rA G o0), (1, rA G o1), (2, .int x2)]) rfl ?_
  unfold f_X8_wrongIn at h
  refine k_iconst C (pc2 := 1) (dkAt dkX8_wrongIn 0 (q := (0, .iconst 0, 1)) rfl) rfl (v := 0) rfl ?_
  refine k_istore_n C (pc2 := 2) (dkAt dkX8_wrongIn 1 (q := (1, .istore_n 3, 1)) rfl) rfl rfl (by decide) (lv2 := [(3, .int 0), (0, rA G o0), (1, rA G o1), (2, .int x2)]) rfl ?_
  refine k_lv [1, 2, 3, 0] (lv2 := [(0, rA G o0), (1, rA G o1), (2, .int x2), (3, .int 0)]) rfl ?_
  obtain ⟨t16, e17, hA, hB⟩ := obS_inv h
  refine kl_X8_wrongIn_L2 C o0 h0 o1 h1 x2 M r t16 ?_ ?_ 1000 0 e17
  · intro et
    have h := hA _ et
    refine k_iconst C (pc2 := 65) (dkAt dkX8_wrongIn 40 (q := (64, .iconst (-1), 1)) rfl) rfl (v := (-1)) rfl ?_
    exact k_iret C (dkAt dkX8_wrongIn 41 (q := (65, .ireturn, 1)) rfl) (Option.some.inj h) rfl rfl rfl
  · intro z et
    have h := hB _ et
    exact Option.some.inj h
set_option maxRecDepth 100000 in
set_option maxHeartbeats 4000000 in
theorem ct_X8_judge (l : Launch) (G : GG) (sh : Sh) (xs : List va_E) (o0 : Nat) (h0 : isM sh o0) (x1 : Int32) (x2 : Int32) (M : Mm) (r : Mm × Int32) (h : f_X8_judge o0 x1 x2 M = some r) : Ct l yX8_judge cX8_judge 4 (some .int) rm_X8_judge G [rA G o0, .int x1, .int x2] sh M xs (some (.int r.2)) sh r.1 xs 0 0 := by
  refine ct_of (by decide) (Nat.le_of_ble_eq_true rfl) ?_
  intro p e s m args below meth c hnm C
  refine k_lv [0, 1, 2] (lv2 := [(0, rA G o0), (1, .int x1), (2, .int x2)]) rfl ?_
  unfold f_X8_judge at h
  refine k_aload_n C (pc2 := 1) (dkAt dkX8_judge 0 (q := (0, .aload_n 0, 1)) rfl) rfl rfl 0 rfl ?_
  refine k_iload_n C (pc2 := 2) (dkAt dkX8_judge 1 (q := (1, .iload_n 1, 1)) rfl) rfl rfl 1 rfl ?_
  refine k_iload_n C (pc2 := 3) (dkAt dkX8_judge 2 (q := (2, .iload_n 2, 1)) rfl) rfl rfl 2 rfl ?_
  obtain ⟨q1, e2, h⟩ := ob_inv h
  refine kc_V C (As := [.int x1, .int x2]) (st2 := [.int q1.2]) (ct_X8_noPlan l G sh xs o0 h0 x1 x2 M q1 e2) (cl_X8_344 (hts_of C) ⟨Nat.le_of_ble_eq_true rfl, Nat.le_of_ble_eq_true rfl⟩ rfl rfl) h0.1 rfl rfl rfl rfl rfl (Nat.le_of_ble_eq_true rfl) (dkAt dkX8_judge 3 (q := (3, .invokevirtual 344, 3)) rfl) ⟨Nat.zero_le _, Nat.zero_le _⟩ (pc2 := 6) rfl rfl ?_
  refine kb_istore_n C (pc2 := 7) (dkAt dkX8_judge 4 (q := (6, .istore_n 3, 1)) rfl) rfl rfl (by decide) (lv2 := fun v3 => [(3, .int v3), (0, rA G o0), (1, .int x1), (2, .int x2)]) (fun _ => rfl) h (fun v3 h => ?_)
  refine k_iload_n C (pc2 := 8) (dkAt dkX8_judge 5 (q := (7, .iload_n 3, 1)) rfl) rfl rfl 0 rfl ?_
  refine k_if_eq C (tgt := 15) (pc2 := 11) (dkAt dkX8_judge 6 (q := (8, .ifCond .eq 7, 3)) rfl) (by decide) rfl h (fun h => ?_) (fun h => ?_)
  · refine k_aload_n C (pc2 := 16) (dkAt dkX8_judge 9 (q := (15, .aload_n 0, 1)) rfl) rfl rfl 1 rfl ?_
    refine k_aload_n C (pc2 := 17) (dkAt dkX8_judge 10 (q := (16, .aload_n 0, 1)) rfl) rfl rfl 1 rfl ?_
    refine kf_X8_21 C (pc2 := 20) (o := o0) (o2 := o0 + 4) h0.1 rfl (dkAt dkX8_judge 11 (q := (17, .getfield 21, 3)) rfl) rfl ?_
    refine k_iload_n C (pc2 := 21) (dkAt dkX8_judge 12 (q := (20, .iload_n 1, 1)) rfl) rfl rfl 2 rfl ?_
    refine k_aa14 C (pc2 := 22) (o := o0 + 4) (o2 := o0 + 5 + x1.toNatClampNeg) (nA := 8) (isM_rows h0) rfl (dkAt dkX8_judge 13 (q := (21, .aaload, 1)) rfl) rfl h (fun h hl4 => ?_)
    refine k_iload_n C (pc2 := 23) (dkAt dkX8_judge 14 (q := (22, .iload_n 2, 1)) rfl) rfl rfl 3 rfl ?_
    obtain ⟨q5, e6, h⟩ := ob_inv h
    refine kc_V C (As := [rA G (o0 + 5 + x1.toNatClampNeg), .int x2]) (st2 := [.int q5]) (ct_X8_wrongIn l G sh xs o0 h0 (o0 + 5 + x1.toNatClampNeg) (isM_rowsI h0 _ hl4) x2 q1.1 q5 e6) (cl_X8_347 (hts_of C) ⟨Nat.le_of_ble_eq_true rfl, Nat.le_of_ble_eq_true rfl⟩ rfl rfl) h0.1 rfl rfl rfl rfl rfl (Nat.le_of_ble_eq_true rfl) (dkAt dkX8_judge 15 (q := (23, .invokevirtual 347, 3)) rfl) ⟨Nat.zero_le _, Nat.zero_le _⟩ (pc2 := 26) rfl rfl ?_
    exact k_iret C (dkAt dkX8_judge 16 (q := (26, .ireturn, 1)) rfl) (pe2 (Option.some.inj h)) rfl (pe1 (Option.some.inj h)) rfl
  · refine k_iload_n C (pc2 := 12) (dkAt dkX8_judge 7 (q := (11, .iload_n 3, 1)) rfl) rfl rfl 0 rfl ?_
    refine k_goto C (tgt := 26) (dkAt dkX8_judge 8 (q := (12, .goto 14, 3)) rfl) (by decide) ?_
    exact k_iret C (dkAt dkX8_judge 16 (q := (26, .ireturn, 1)) rfl) (pe2 (Option.some.inj h)) rfl (pe1 (Option.some.inj h)) rfl
set_option maxRecDepth 100000 in
set_option maxHeartbeats 4000000 in
theorem kl_X8_leftOut_L103 {p : Program} {l : Launch} {e : Env} {s : State} {m : MethodId} {args : Array Value} {below : List Frame} {meth : Method} {c : Code} {G : GG} {sh : Sh} {xs : List va_E} {Q : State → Prop} (C : Cx p s m c args meth G RX8 cX8_leftOut 10 (some .int)) (o0 : Nat) (h0 : isM sh o0) (x1 : Int32) (x2 : Int32) (x3 : Int32) (x5 : Int32) (x6 : Int32) (x7 : Int32) (M : Mm) (y8 : Int32) (hcont : KW p l e rm_X8_leftOut s m args below meth c G 10 Q sh xs 0 0 M 144 [(0, rA G o0), (1, .int x1), (2, .int x2), (3, .int x3), (5, .int x5), (6, .int x6), (7, .int x7), (8, .int y8)] []) : ∀ (n : Nat) (x8 : Int32) (x9 : Int32), f_X8_leftOut_L103 o0 x1 x2 x3 x5 x6 x7 M n x8 x9 = some y8 → KW p l e rm_X8_leftOut s m args below meth c G 10 Q sh xs 0 0 M 103 [(0, rA G o0), (1, .int x1), (2, .int x2), (3, .int x3), (5, .int x5), (6, .int x6), (7, .int x7), (8, .int x8), (9, .int x9)] [] := by
  intro n
  induction n with
  | zero =>
    intro x8 x9 h
    cases h
  | succ n ih =>
    intro x8 x9 h
    unfold f_X8_leftOut_L103 at h
    refine k_iload C (pc2 := 105) (dkAt dkX8_leftOut 58 (q := (103, .iload 9, 2)) rfl) rfl 8 rfl ?_
    refine k_iload_n C (pc2 := 106) (dkAt dkX8_leftOut 59 (q := (105, .iload_n 2, 1)) rfl) rfl rfl 2 rfl ?_
    refine k_icmp_ge C (tgt := 144) (pc2 := 109) (dkAt dkX8_leftOut 60 (q := (106, .if_icmp .ge 38, 3)) rfl) (by decide) rfl h (fun h => ?_) (fun h => ?_)
    · refine k_lv [0, 1, 2, 3, 4, 5, 6, 7] (lv2 := [(0, rA G o0), (1, .int x1), (2, .int x2), (3, .int x3), (5, .int x5), (6, .int x6), (7, .int x7), (8, .int x8)]) rfl ?_
      cases h
      exact hcont
    · refine k_iload C (pc2 := 111) (dkAt dkX8_leftOut 61 (q := (109, .iload 8, 2)) rfl) rfl 7 rfl ?_
      refine k_aload_n C (pc2 := 112) (dkAt dkX8_leftOut 62 (q := (111, .aload_n 0, 1)) rfl) rfl rfl 0 rfl ?_
      refine k_iload C (pc2 := 114) (dkAt dkX8_leftOut 63 (q := (112, .iload 7, 2)) rfl) rfl 6 rfl ?_
      refine k_aload_n C (pc2 := 115) (dkAt dkX8_leftOut 64 (q := (114, .aload_n 0, 1)) rfl) rfl rfl 0 rfl ?_
      refine kf_X8_21 C (pc2 := 118) (o := o0) (o2 := o0 + 4) h0.1 rfl (dkAt dkX8_leftOut 65 (q := (115, .getfield 21, 3)) rfl) rfl ?_
      refine k_iload_n C (pc2 := 119) (dkAt dkX8_leftOut 66 (q := (118, .iload_n 1, 1)) rfl) rfl rfl 1 rfl ?_
      refine k_aa14 C (pc2 := 120) (o := o0 + 4) (o2 := o0 + 5 + x1.toNatClampNeg) (nA := 8) (isM_rows h0) rfl (dkAt dkX8_leftOut 67 (q := (119, .aaload, 1)) rfl) rfl h (fun h hl17 => ?_)
      refine k_iload C (pc2 := 122) (dkAt dkX8_leftOut 68 (q := (120, .iload 9, 2)) rfl) rfl 8 rfl ?_
      refine k_lald C (pc2 := 123) (o := o0 + 5 + x1.toNatClampNeg) (nA := 40) (isM_rowsI h0 _ hl17) (dkAt dkX8_leftOut 69 (q := (122, .laload, 1)) rfl) rfl h (fun h => ?_)
      refine k_l2i C (pc2 := 124) (dkAt dkX8_leftOut 70 (q := (123, .l2i, 1)) rfl) rfl ?_
      obtain ⟨q18, e19, h⟩ := ob_inv h
      refine kc_V C (As := [.int x7, .int ((M.2.1 (o0 + 5 + x1.toNatClampNeg) x9.toNatClampNeg).toInt32)]) (st2 := [.int q18, .int x8]) (ct_X8_isFree l G sh xs o0 h0 x7 ((M.2.1 (o0 + 5 + x1.toNatClampNeg) x9.toNatClampNeg).toInt32) M q18 e19) (cl_X8_139 (hts_of C) ⟨Nat.le_of_ble_eq_true rfl, Nat.le_of_ble_eq_true rfl⟩ rfl rfl) h0.1 rfl rfl rfl rfl rfl (Nat.le_of_ble_eq_true rfl) (dkAt dkX8_leftOut 71 (q := (124, .invokevirtual 139, 3)) rfl) ⟨Nat.zero_le _, Nat.zero_le _⟩ (pc2 := 127) rfl rfl ?_
      refine k_if_eq C (tgt := 134) (pc2 := 130) (dkAt dkX8_leftOut 72 (q := (127, .ifCond .eq 7, 3)) rfl) (by decide) rfl h (fun h => ?_) (fun h => ?_)
      · refine k_iconst C (pc2 := 135) (dkAt dkX8_leftOut 75 (q := (134, .iconst 1, 1)) rfl) rfl (v := 1) rfl ?_
        refine k_iadd C (pc2 := 136) (dkAt dkX8_leftOut 76 (q := (135, .iadd, 1)) rfl) rfl ?_
        refine kb_istore C (pc2 := 138) (dkAt dkX8_leftOut 77 (q := (136, .istore 8, 2)) rfl) rfl (by decide) (lv2 := fun v20 => [(8, .int v20), (0, rA G o0), (1, .int x1), (2, .int x2), (3, .int x3), (5, .int x5), (6, .int x6), (7, .int x7), (9, .int x9)]) (fun _ => rfl) h (fun v20 h => ?_)
        refine kb_iinc C (pc2 := 141) (dkAt dkX8_leftOut 78 (q := (138, .iinc 9 1, 3)) rfl) rfl (j := 8) rfl (v := x9 + 1) rfl (by decide) (lv2 := fun v21 => [(9, .int v21), (8, .int v20), (0, rA G o0), (1, .int x1), (2, .int x2), (3, .int x3), (5, .int x5), (6, .int x6), (7, .int x7)]) (fun _ => rfl) h (fun v21 h => ?_)
        refine k_goto C (tgt := 103) (dkAt dkX8_leftOut 79 (q := (141, .goto (-38), 3)) rfl) (by decide) ?_
        refine k_lv [2, 3, 4, 5, 6, 7, 8, 1, 0] (lv2 := [(0, rA G o0), (1, .int x1), (2, .int x2), (3, .int x3), (5, .int x5), (6, .int x6), (7, .int x7), (8, .int v20), (9, .int v21)]) rfl ?_
        exact ih v20 v21 h
      · refine k_iconst C (pc2 := 131) (dkAt dkX8_leftOut 73 (q := (130, .iconst 0, 1)) rfl) rfl (v := 0) rfl ?_
        refine k_goto C (tgt := 135) (dkAt dkX8_leftOut 74 (q := (131, .goto 4, 3)) rfl) (by decide) ?_
        refine k_iadd C (pc2 := 136) (dkAt dkX8_leftOut 76 (q := (135, .iadd, 1)) rfl) rfl ?_
        refine kb_istore C (pc2 := 138) (dkAt dkX8_leftOut 77 (q := (136, .istore 8, 2)) rfl) rfl (by decide) (lv2 := fun v22 => [(8, .int v22), (0, rA G o0), (1, .int x1), (2, .int x2), (3, .int x3), (5, .int x5), (6, .int x6), (7, .int x7), (9, .int x9)]) (fun _ => rfl) h (fun v22 h => ?_)
        refine kb_iinc C (pc2 := 141) (dkAt dkX8_leftOut 78 (q := (138, .iinc 9 1, 3)) rfl) rfl (j := 8) rfl (v := x9 + 1) rfl (by decide) (lv2 := fun v23 => [(9, .int v23), (8, .int v22), (0, rA G o0), (1, .int x1), (2, .int x2), (3, .int x3), (5, .int x5), (6, .int x6), (7, .int x7)]) (fun _ => rfl) h (fun v23 h => ?_)
        refine k_goto C (tgt := 103) (dkAt dkX8_leftOut 79 (q := (141, .goto (-38), 3)) rfl) (by decide) ?_
        refine k_lv [2, 3, 4, 5, 6, 7, 8, 1, 0] (lv2 := [(0, rA G o0), (1, .int x1), (2, .int x2), (3, .int x3), (5, .int x5), (6, .int x6), (7, .int x7), (8, .int v22), (9, .int v23)]) rfl ?_
        exact ih v22 v23 h
set_option maxRecDepth 100000 in
set_option maxHeartbeats 4000000 in
theorem kl_X8_leftOut_L88 {p : Program} {l : Launch} {e : Env} {s : State} {m : MethodId} {args : Array Value} {below : List Frame} {meth : Method} {c : Code} {G : GG} {sh : Sh} {xs : List va_E} {Q : State → Prop} (C : Cx p s m c args meth G RX8 cX8_leftOut 10 (some .int)) (o0 : Nat) (h0 : isM sh o0) (x1 : Int32) (x2 : Int32) (x3 : Int32) (M : Mm) (y5 : Int32) (y6 : Int32) (hcont : KW p l e rm_X8_leftOut s m args below meth c G 10 Q sh xs 0 0 M 205 [(3, .int x3), (5, .int y5), (6, .int y6)] []) : ∀ (n : Nat) (x5 : Int32) (x6 : Int32) (x7 : Int32), f_X8_leftOut_L88 o0 x1 x2 x3 M n x5 x6 x7 = some (y5, y6) → KW p l e rm_X8_leftOut s m args below meth c G 10 Q sh xs 0 0 M 88 [(0, rA G o0), (1, .int x1), (2, .int x2), (3, .int x3), (5, .int x5), (6, .int x6), (7, .int x7)] [] := by
  intro n
  induction n with
  | zero =>
    intro x5 x6 x7 h
    cases h
  | succ n ih =>
    intro x5 x6 x7 h
    unfold f_X8_leftOut_L88 at h
    refine k_iload C (pc2 := 90) (dkAt dkX8_leftOut 50 (q := (88, .iload 7, 2)) rfl) rfl 6 rfl ?_
    refine k_aload_n C (pc2 := 91) (dkAt dkX8_leftOut 51 (q := (90, .aload_n 0, 1)) rfl) rfl rfl 0 rfl ?_
    refine kf_X8_82 C (pc2 := 94) (o := o0) (o2 := 0) h0.1 (dkAt dkX8_leftOut 52 (q := (91, .getfield 82, 3)) rfl) rfl ?_
    refine k_icmp_ge C (tgt := 205) (pc2 := 97) (dkAt dkX8_leftOut 53 (q := (94, .if_icmp .ge 111, 3)) rfl) (by decide) rfl h (fun h => ?_) (fun h => ?_)
    · refine k_lv [3, 4, 5] (lv2 := [(3, .int x3), (5, .int x5), (6, .int x6)]) rfl ?_
      cases h
      exact hcont
    · refine k_iconst C (pc2 := 98) (dkAt dkX8_leftOut 54 (q := (97, .iconst 0, 1)) rfl) rfl (v := 0) rfl ?_
      refine k_istore C (pc2 := 100) (dkAt dkX8_leftOut 55 (q := (98, .istore 8, 2)) rfl) rfl (by decide) (lv2 := [(8, .int 0), (0, rA G o0), (1, .int x1), (2, .int x2), (3, .int x3), (5, .int x5), (6, .int x6), (7, .int x7)]) rfl ?_
      refine k_iconst C (pc2 := 101) (dkAt dkX8_leftOut 56 (q := (100, .iconst 0, 1)) rfl) rfl (v := 0) rfl ?_
      refine k_istore C (pc2 := 103) (dkAt dkX8_leftOut 57 (q := (101, .istore 9, 2)) rfl) rfl (by decide) (lv2 := [(9, .int 0), (8, .int 0), (0, rA G o0), (1, .int x1), (2, .int x2), (3, .int x3), (5, .int x5), (6, .int x6), (7, .int x7)]) rfl ?_
      refine k_lv [2, 3, 4, 5, 6, 7, 8, 1, 0] (lv2 := [(0, rA G o0), (1, .int x1), (2, .int x2), (3, .int x3), (5, .int x5), (6, .int x6), (7, .int x7), (8, .int 0), (9, .int 0)]) rfl ?_
      obtain ⟨v26, e25, h⟩ := ob_inv h
      refine kl_X8_leftOut_L103 C o0 h0 x1 x2 x3 x5 x6 x7 M v26 ?_ 1000 0 0 e25
      refine k_iload C (pc2 := 146) (dkAt dkX8_leftOut 80 (q := (144, .iload 5, 2)) rfl) rfl 4 rfl ?_
      refine k_iload C (pc2 := 148) (dkAt dkX8_leftOut 81 (q := (146, .iload 8, 2)) rfl) rfl 7 rfl ?_
      refine k_iadd C (pc2 := 149) (dkAt dkX8_leftOut 82 (q := (148, .iadd, 1)) rfl) rfl ?_
      refine kb_istore C (pc2 := 151) (dkAt dkX8_leftOut 83 (q := (149, .istore 5, 2)) rfl) rfl (by decide) (lv2 := fun v27 => [(5, .int v27), (0, rA G o0), (1, .int x1), (2, .int x2), (3, .int x3), (6, .int x6), (7, .int x7), (8, .int v26)]) (fun _ => rfl) h (fun v27 h => ?_)
      refine k_aload_n C (pc2 := 152) (dkAt dkX8_leftOut 84 (q := (151, .aload_n 0, 1)) rfl) rfl rfl 1 rfl ?_
      refine kf_X8_53 C (pc2 := 155) (o := o0) (o2 := o0 + 21) h0.1 rfl (dkAt dkX8_leftOut 85 (q := (152, .getfield 53, 3)) rfl) rfl ?_
      refine k_iload C (pc2 := 157) (dkAt dkX8_leftOut 86 (q := (155, .iload 7, 2)) rfl) rfl 6 rfl ?_
      refine k_iald C (pc2 := 158) (o := o0 + 21) (nA := 8) (isM_left h0) (dkAt dkX8_leftOut 87 (q := (157, .iaload, 1)) rfl) rfl h (fun h => ?_)
      refine k_iload C (pc2 := 160) (dkAt dkX8_leftOut 88 (q := (158, .iload 8, 2)) rfl) rfl 7 rfl ?_
      refine k_iadd C (pc2 := 161) (dkAt dkX8_leftOut 89 (q := (160, .iadd, 1)) rfl) rfl ?_
      refine k_bipush C (pc2 := 163) (dkAt dkX8_leftOut 90 (q := (161, .bipush 99, 2)) rfl) rfl (v := 99) rfl ?_
      refine k_icmp_ge C (tgt := 179) (pc2 := 166) (dkAt dkX8_leftOut 91 (q := (163, .if_icmp .ge 16, 3)) rfl) (by decide) rfl h (fun h => ?_) (fun h => ?_)
      · refine k_bipush C (pc2 := 181) (dkAt dkX8_leftOut 99 (q := (179, .bipush 99, 2)) rfl) rfl (v := 99) rfl ?_
        refine k_istore C (pc2 := 183) (dkAt dkX8_leftOut 100 (q := (181, .istore 9, 2)) rfl) rfl (by decide) (lv2 := [(9, .int 99), (5, .int v27), (0, rA G o0), (1, .int x1), (2, .int x2), (3, .int x3), (6, .int x6), (7, .int x7), (8, .int v26)]) rfl ?_
        refine k_iload C (pc2 := 185) (dkAt dkX8_leftOut 101 (q := (183, .iload 9, 2)) rfl) rfl 0 rfl ?_
        refine k_iload C (pc2 := 187) (dkAt dkX8_leftOut 102 (q := (185, .iload 6, 2)) rfl) rfl 6 rfl ?_
        refine k_icmp_le C (tgt := 195) (pc2 := 190) (dkAt dkX8_leftOut 103 (q := (187, .if_icmp .le 8, 3)) rfl) (by decide) rfl h (fun h => ?_) (fun h => ?_)
        · refine k_iload C (pc2 := 197) (dkAt dkX8_leftOut 106 (q := (195, .iload 6, 2)) rfl) rfl 6 rfl ?_
          refine k_istore C (pc2 := 199) (dkAt dkX8_leftOut 107 (q := (197, .istore 6, 2)) rfl) rfl (by decide) (lv2 := [(6, .int x6), (9, .int 99), (5, .int v27), (0, rA G o0), (1, .int x1), (2, .int x2), (3, .int x3), (7, .int x7), (8, .int v26)]) rfl ?_
          refine kb_iinc C (pc2 := 202) (dkAt dkX8_leftOut 108 (q := (199, .iinc 7 1, 3)) rfl) rfl (j := 7) rfl (v := x7 + 1) rfl (by decide) (lv2 := fun v28 => [(7, .int v28), (6, .int x6), (9, .int 99), (5, .int v27), (0, rA G o0), (1, .int x1), (2, .int x2), (3, .int x3), (8, .int v26)]) (fun _ => rfl) h (fun v28 h => ?_)
          refine k_goto C (tgt := 88) (dkAt dkX8_leftOut 109 (q := (202, .goto (-114), 3)) rfl) (by decide) ?_
          refine k_lv [4, 5, 6, 7, 3, 1, 0] (lv2 := [(0, rA G o0), (1, .int x1), (2, .int x2), (3, .int x3), (5, .int v27), (6, .int x6), (7, .int v28)]) rfl ?_
          exact ih v27 x6 v28 h
        · refine k_iload C (pc2 := 192) (dkAt dkX8_leftOut 104 (q := (190, .iload 9, 2)) rfl) rfl 0 rfl ?_
          refine k_goto C (tgt := 197) (dkAt dkX8_leftOut 105 (q := (192, .goto 5, 3)) rfl) (by decide) ?_
          refine k_istore C (pc2 := 199) (dkAt dkX8_leftOut 107 (q := (197, .istore 6, 2)) rfl) rfl (by decide) (lv2 := [(6, .int 99), (9, .int 99), (5, .int v27), (0, rA G o0), (1, .int x1), (2, .int x2), (3, .int x3), (7, .int x7), (8, .int v26)]) rfl ?_
          refine kb_iinc C (pc2 := 202) (dkAt dkX8_leftOut 108 (q := (199, .iinc 7 1, 3)) rfl) rfl (j := 7) rfl (v := x7 + 1) rfl (by decide) (lv2 := fun v29 => [(7, .int v29), (6, .int 99), (9, .int 99), (5, .int v27), (0, rA G o0), (1, .int x1), (2, .int x2), (3, .int x3), (8, .int v26)]) (fun _ => rfl) h (fun v29 h => ?_)
          refine k_goto C (tgt := 88) (dkAt dkX8_leftOut 109 (q := (202, .goto (-114), 3)) rfl) (by decide) ?_
          refine k_lv [4, 5, 6, 7, 3, 1, 0] (lv2 := [(0, rA G o0), (1, .int x1), (2, .int x2), (3, .int x3), (5, .int v27), (6, .int 99), (7, .int v29)]) rfl ?_
          exact ih v27 99 v29 h
      · refine k_aload_n C (pc2 := 167) (dkAt dkX8_leftOut 92 (q := (166, .aload_n 0, 1)) rfl) rfl rfl 1 rfl ?_
        refine kf_X8_53 C (pc2 := 170) (o := o0) (o2 := o0 + 21) h0.1 rfl (dkAt dkX8_leftOut 93 (q := (167, .getfield 53, 3)) rfl) rfl ?_
        refine k_iload C (pc2 := 172) (dkAt dkX8_leftOut 94 (q := (170, .iload 7, 2)) rfl) rfl 6 rfl ?_
        refine k_iald C (pc2 := 173) (o := o0 + 21) (nA := 8) (isM_left h0) (dkAt dkX8_leftOut 95 (q := (172, .iaload, 1)) rfl) rfl h (fun h => ?_)
        refine k_iload C (pc2 := 175) (dkAt dkX8_leftOut 96 (q := (173, .iload 8, 2)) rfl) rfl 7 rfl ?_
        refine k_iadd C (pc2 := 176) (dkAt dkX8_leftOut 97 (q := (175, .iadd, 1)) rfl) rfl ?_
        refine k_goto C (tgt := 181) (dkAt dkX8_leftOut 98 (q := (176, .goto 5, 3)) rfl) (by decide) ?_
        refine kb_istore C (pc2 := 183) (dkAt dkX8_leftOut 100 (q := (181, .istore 9, 2)) rfl) rfl (by decide) (lv2 := fun v30 => [(9, .int v30), (5, .int v27), (0, rA G o0), (1, .int x1), (2, .int x2), (3, .int x3), (6, .int x6), (7, .int x7), (8, .int v26)]) (fun _ => rfl) h (fun v30 h => ?_)
        refine k_iload C (pc2 := 185) (dkAt dkX8_leftOut 101 (q := (183, .iload 9, 2)) rfl) rfl 0 rfl ?_
        refine k_iload C (pc2 := 187) (dkAt dkX8_leftOut 102 (q := (185, .iload 6, 2)) rfl) rfl 6 rfl ?_
        refine k_icmp_le C (tgt := 195) (pc2 := 190) (dkAt dkX8_leftOut 103 (q := (187, .if_icmp .le 8, 3)) rfl) (by decide) rfl h (fun h => ?_) (fun h => ?_)
        · refine k_iload C (pc2 := 197) (dkAt dkX8_leftOut 106 (q := (195, .iload 6, 2)) rfl) rfl 6 rfl ?_
          refine k_istore C (pc2 := 199) (dkAt dkX8_leftOut 107 (q := (197, .istore 6, 2)) rfl) rfl (by decide) (lv2 := [(6, .int x6), (9, .int v30), (5, .int v27), (0, rA G o0), (1, .int x1), (2, .int x2), (3, .int x3), (7, .int x7), (8, .int v26)]) rfl ?_
          refine kb_iinc C (pc2 := 202) (dkAt dkX8_leftOut 108 (q := (199, .iinc 7 1, 3)) rfl) rfl (j := 7) rfl (v := x7 + 1) rfl (by decide) (lv2 := fun v31 => [(7, .int v31), (6, .int x6), (9, .int v30), (5, .int v27), (0, rA G o0), (1, .int x1), (2, .int x2), (3, .int x3), (8, .int v26)]) (fun _ => rfl) h (fun v31 h => ?_)
          refine k_goto C (tgt := 88) (dkAt dkX8_leftOut 109 (q := (202, .goto (-114), 3)) rfl) (by decide) ?_
          refine k_lv [4, 5, 6, 7, 3, 1, 0] (lv2 := [(0, rA G o0), (1, .int x1), (2, .int x2), (3, .int x3), (5, .int v27), (6, .int x6), (7, .int v31)]) rfl ?_
          exact ih v27 x6 v31 h
        · refine k_iload C (pc2 := 192) (dkAt dkX8_leftOut 104 (q := (190, .iload 9, 2)) rfl) rfl 0 rfl ?_
          refine k_goto C (tgt := 197) (dkAt dkX8_leftOut 105 (q := (192, .goto 5, 3)) rfl) (by decide) ?_
          refine k_istore C (pc2 := 199) (dkAt dkX8_leftOut 107 (q := (197, .istore 6, 2)) rfl) rfl (by decide) (lv2 := [(6, .int v30), (9, .int v30), (5, .int v27), (0, rA G o0), (1, .int x1), (2, .int x2), (3, .int x3), (7, .int x7), (8, .int v26)]) rfl ?_
          refine kb_iinc C (pc2 := 202) (dkAt dkX8_leftOut 108 (q := (199, .iinc 7 1, 3)) rfl) rfl (j := 7) rfl (v := x7 + 1) rfl (by decide) (lv2 := fun v32 => [(7, .int v32), (6, .int v30), (9, .int v30), (5, .int v27), (0, rA G o0), (1, .int x1), (2, .int x2), (3, .int x3), (8, .int v26)]) (fun _ => rfl) h (fun v32 h => ?_)
          refine k_goto C (tgt := 88) (dkAt dkX8_leftOut 109 (q := (202, .goto (-114), 3)) rfl) (by decide) ?_
          refine k_lv [4, 5, 6, 7, 3, 1, 0] (lv2 := [(0, rA G o0), (1, .int x1), (2, .int x2), (3, .int x3), (5, .int v27), (6, .int v30), (7, .int v32)]) rfl ?_
          exact ih v27 v30 v32 h
set_option maxRecDepth 100000 in
set_option maxHeartbeats 4000000 in
theorem ct_X8_leftOut (l : Launch) (G : GG) (sh : Sh) (xs : List va_E) (o0 : Nat) (h0 : isM sh o0) (x1 : Int32) (x2 : Int32) (x3 : Int32) (M : Mm) (r : Mm × Int32) (h : f_X8_leftOut o0 x1 x2 x3 M = some r) : Ct l yX8_leftOut cX8_leftOut 10 (some .int) rm_X8_leftOut G [rA G o0, .int x1, .int x2, .int x3] sh M xs (some (.int r.2)) sh r.1 xs 0 0 := by
  refine ct_of (by decide) (Nat.le_of_ble_eq_true rfl) ?_
  intro p e s m args below meth c hnm C
  refine k_lv [0, 1, 2, 3] (lv2 := [(0, rA G o0), (1, .int x1), (2, .int x2), (3, .int x3)]) rfl ?_
  unfold f_X8_leftOut at h
  refine k_iload_n C (pc2 := 1) (dkAt dkX8_leftOut 0 (q := (0, .iload_n 1, 1)) rfl) rfl rfl 1 rfl ?_
  refine k_i2l C (pc2 := 2) (dkAt dkX8_leftOut 1 (q := (1, .i2l, 1)) rfl) rfl ?_
  refine k_lconst C (pc2 := 3) (dkAt dkX8_leftOut 2 (q := (2, .lconst 0, 1)) rfl) rfl (v := 0) rfl ?_
  refine k_ldc2 C (pc2 := 6) (dkAt dkX8_leftOut 3 (q := (3, .ldc2_w 91, 3)) rfl) rfl (v := 7) tL_X8_91 ?_
  obtain ⟨q1, e2, h⟩ := ob_inv h
  refine kc_S C (As := [.long x1.toInt64, .long 0, .long 7]) (st2 := [.int q1]) (ct_X8_in l G sh xs x1.toInt64 0 7 M q1 e2) (cl_X8_85 (hts_of C) ⟨Nat.le_of_ble_eq_true rfl, Nat.le_of_ble_eq_true rfl⟩ rfl rfl) rfl rfl (Nat.le_of_ble_eq_true rfl) (dkAt dkX8_leftOut 4 (q := (6, .invokestatic 85, 3)) rfl) ⟨Nat.zero_le _, Nat.zero_le _⟩ (pc2 := 9) rfl rfl ?_
  refine k_if_eq C (tgt := 34) (pc2 := 12) (dkAt dkX8_leftOut 5 (q := (9, .ifCond .eq 25, 3)) rfl) (by decide) rfl h (fun h => ?_) (fun h => ?_)
  · refine k_aload_n C (pc2 := 35) (dkAt dkX8_leftOut 18 (q := (34, .aload_n 0, 1)) rfl) rfl rfl 0 rfl ?_
    refine k_bipush C (pc2 := 37) (dkAt dkX8_leftOut 19 (q := (35, .bipush (-2), 2)) rfl) rfl (v := (-2)) rfl ?_
    obtain ⟨q3, e4, h⟩ := ob_inv h
    refine kc_V C (As := [.int (-2)]) (st2 := [.int q3.2]) (ct_X8_refuse l G sh xs o0 h0 (-2) M q3 e4) (cl_X8_97 (hts_of C) ⟨Nat.le_of_ble_eq_true rfl, Nat.le_of_ble_eq_true rfl⟩ rfl rfl) h0.1 rfl rfl rfl rfl rfl (Nat.le_of_ble_eq_true rfl) (dkAt dkX8_leftOut 20 (q := (37, .invokevirtual 97, 3)) rfl) ⟨Nat.zero_le _, Nat.zero_le _⟩ (pc2 := 40) rfl rfl ?_
    exact k_iret C (dkAt dkX8_leftOut 21 (q := (40, .ireturn, 1)) rfl) (pe2 (Option.some.inj h)) rfl (pe1 (Option.some.inj h)) rfl
  · refine k_iload_n C (pc2 := 13) (dkAt dkX8_leftOut 6 (q := (12, .iload_n 2, 1)) rfl) rfl rfl 2 rfl ?_
    refine k_i2l C (pc2 := 14) (dkAt dkX8_leftOut 7 (q := (13, .i2l, 1)) rfl) rfl ?_
    refine k_lconst C (pc2 := 15) (dkAt dkX8_leftOut 8 (q := (14, .lconst 0, 1)) rfl) rfl (v := 0) rfl ?_
    refine k_ldc2 C (pc2 := 18) (dkAt dkX8_leftOut 9 (q := (15, .ldc2_w 95, 3)) rfl) rfl (v := 40) tL_X8_95 ?_
    obtain ⟨q5, e6, h⟩ := ob_inv h
    refine kc_S C (As := [.long x2.toInt64, .long 0, .long 40]) (st2 := [.int q5]) (ct_X8_in l G sh xs x2.toInt64 0 40 M q5 e6) (cl_X8_85 (hts_of C) ⟨Nat.le_of_ble_eq_true rfl, Nat.le_of_ble_eq_true rfl⟩ rfl rfl) rfl rfl (Nat.le_of_ble_eq_true rfl) (dkAt dkX8_leftOut 10 (q := (18, .invokestatic 85, 3)) rfl) ⟨Nat.zero_le _, Nat.zero_le _⟩ (pc2 := 21) rfl rfl ?_
    refine k_if_eq C (tgt := 34) (pc2 := 24) (dkAt dkX8_leftOut 11 (q := (21, .ifCond .eq 13, 3)) rfl) (by decide) rfl h (fun h => ?_) (fun h => ?_)
    · refine k_aload_n C (pc2 := 35) (dkAt dkX8_leftOut 18 (q := (34, .aload_n 0, 1)) rfl) rfl rfl 0 rfl ?_
      refine k_bipush C (pc2 := 37) (dkAt dkX8_leftOut 19 (q := (35, .bipush (-2), 2)) rfl) rfl (v := (-2)) rfl ?_
      obtain ⟨q7, e8, h⟩ := ob_inv h
      refine kc_V C (As := [.int (-2)]) (st2 := [.int q7.2]) (ct_X8_refuse l G sh xs o0 h0 (-2) M q7 e8) (cl_X8_97 (hts_of C) ⟨Nat.le_of_ble_eq_true rfl, Nat.le_of_ble_eq_true rfl⟩ rfl rfl) h0.1 rfl rfl rfl rfl rfl (Nat.le_of_ble_eq_true rfl) (dkAt dkX8_leftOut 20 (q := (37, .invokevirtual 97, 3)) rfl) ⟨Nat.zero_le _, Nat.zero_le _⟩ (pc2 := 40) rfl rfl ?_
      exact k_iret C (dkAt dkX8_leftOut 21 (q := (40, .ireturn, 1)) rfl) (pe2 (Option.some.inj h)) rfl (pe1 (Option.some.inj h)) rfl
    · refine k_iload_n C (pc2 := 25) (dkAt dkX8_leftOut 12 (q := (24, .iload_n 3, 1)) rfl) rfl rfl 3 rfl ?_
      refine k_i2l C (pc2 := 26) (dkAt dkX8_leftOut 13 (q := (25, .i2l, 1)) rfl) rfl ?_
      refine k_lconst C (pc2 := 27) (dkAt dkX8_leftOut 14 (q := (26, .lconst 0, 1)) rfl) rfl (v := 0) rfl ?_
      refine k_lconst C (pc2 := 28) (dkAt dkX8_leftOut 15 (q := (27, .lconst 1, 1)) rfl) rfl (v := 1) rfl ?_
      obtain ⟨q9, e10, h⟩ := ob_inv h
      refine kc_S C (As := [.long x3.toInt64, .long 0, .long 1]) (st2 := [.int q9]) (ct_X8_in l G sh xs x3.toInt64 0 1 M q9 e10) (cl_X8_85 (hts_of C) ⟨Nat.le_of_ble_eq_true rfl, Nat.le_of_ble_eq_true rfl⟩ rfl rfl) rfl rfl (Nat.le_of_ble_eq_true rfl) (dkAt dkX8_leftOut 16 (q := (28, .invokestatic 85, 3)) rfl) ⟨Nat.zero_le _, Nat.zero_le _⟩ (pc2 := 31) rfl rfl ?_
      refine k_if_ne C (tgt := 41) (pc2 := 34) (dkAt dkX8_leftOut 17 (q := (31, .ifCond .ne 10, 3)) rfl) (by decide) rfl h (fun h => ?_) (fun h => ?_)
      · refine k_aload_n C (pc2 := 42) (dkAt dkX8_leftOut 22 (q := (41, .aload_n 0, 1)) rfl) rfl rfl 0 rfl ?_
        refine k_iload_n C (pc2 := 43) (dkAt dkX8_leftOut 23 (q := (42, .iload_n 1, 1)) rfl) rfl rfl 1 rfl ?_
        refine k_iload_n C (pc2 := 44) (dkAt dkX8_leftOut 24 (q := (43, .iload_n 2, 1)) rfl) rfl rfl 2 rfl ?_
        obtain ⟨q11, e12, h⟩ := ob_inv h
        refine kc_V C (As := [.int x1, .int x2]) (st2 := [.int q11.2]) (ct_X8_noPlan l G sh xs o0 h0 x1 x2 M q11 e12) (cl_X8_344 (hts_of C) ⟨Nat.le_of_ble_eq_true rfl, Nat.le_of_ble_eq_true rfl⟩ rfl rfl) h0.1 rfl rfl rfl rfl rfl (Nat.le_of_ble_eq_true rfl) (dkAt dkX8_leftOut 25 (q := (44, .invokevirtual 344, 3)) rfl) ⟨Nat.zero_le _, Nat.zero_le _⟩ (pc2 := 47) rfl rfl ?_
        refine kb_istore C (pc2 := 49) (dkAt dkX8_leftOut 26 (q := (47, .istore 4, 2)) rfl) rfl (by decide) (lv2 := fun v13 => [(4, .int v13), (0, rA G o0), (1, .int x1), (2, .int x2), (3, .int x3)]) (fun _ => rfl) h (fun v13 h => ?_)
        refine k_iload C (pc2 := 51) (dkAt dkX8_leftOut 27 (q := (49, .iload 4, 2)) rfl) rfl 0 rfl ?_
        refine k_if_eq C (tgt := 57) (pc2 := 54) (dkAt dkX8_leftOut 28 (q := (51, .ifCond .eq 6, 3)) rfl) (by decide) rfl h (fun h => ?_) (fun h => ?_)
        · refine k_aload_n C (pc2 := 58) (dkAt dkX8_leftOut 31 (q := (57, .aload_n 0, 1)) rfl) rfl rfl 1 rfl ?_
          refine k_aload_n C (pc2 := 59) (dkAt dkX8_leftOut 32 (q := (58, .aload_n 0, 1)) rfl) rfl rfl 1 rfl ?_
          refine kf_X8_21 C (pc2 := 62) (o := o0) (o2 := o0 + 4) h0.1 rfl (dkAt dkX8_leftOut 33 (q := (59, .getfield 21, 3)) rfl) rfl ?_
          refine k_iload_n C (pc2 := 63) (dkAt dkX8_leftOut 34 (q := (62, .iload_n 1, 1)) rfl) rfl rfl 2 rfl ?_
          refine k_aa14 C (pc2 := 64) (o := o0 + 4) (o2 := o0 + 5 + x1.toNatClampNeg) (nA := 8) (isM_rows h0) rfl (dkAt dkX8_leftOut 35 (q := (63, .aaload, 1)) rfl) rfl h (fun h hl14 => ?_)
          refine k_iload_n C (pc2 := 65) (dkAt dkX8_leftOut 36 (q := (64, .iload_n 2, 1)) rfl) rfl rfl 3 rfl ?_
          obtain ⟨q15, e16, h⟩ := ob_inv h
          refine kc_V C (As := [rA G (o0 + 5 + x1.toNatClampNeg), .int x2]) (st2 := [.int q15]) (ct_X8_wrongIn l G sh xs o0 h0 (o0 + 5 + x1.toNatClampNeg) (isM_rowsI h0 _ hl14) x2 q11.1 q15 e16) (cl_X8_347 (hts_of C) ⟨Nat.le_of_ble_eq_true rfl, Nat.le_of_ble_eq_true rfl⟩ rfl rfl) h0.1 rfl rfl rfl rfl rfl (Nat.le_of_ble_eq_true rfl) (dkAt dkX8_leftOut 37 (q := (65, .invokevirtual 347, 3)) rfl) ⟨Nat.zero_le _, Nat.zero_le _⟩ (pc2 := 68) rfl rfl ?_
          refine k_iconst C (pc2 := 69) (dkAt dkX8_leftOut 38 (q := (68, .iconst (-1), 1)) rfl) rfl (v := (-1)) rfl ?_
          refine k_icmp_eq C (tgt := 79) (pc2 := 72) (dkAt dkX8_leftOut 39 (q := (69, .if_icmp .eq 10, 3)) rfl) (by decide) rfl h (fun h => ?_) (fun h => ?_)
          · refine k_iconst C (pc2 := 80) (dkAt dkX8_leftOut 44 (q := (79, .iconst 0, 1)) rfl) rfl (v := 0) rfl ?_
            refine k_istore C (pc2 := 82) (dkAt dkX8_leftOut 45 (q := (80, .istore 5, 2)) rfl) rfl (by decide) (lv2 := [(5, .int 0), (4, .int v13), (0, rA G o0), (1, .int x1), (2, .int x2), (3, .int x3)]) rfl ?_
            refine k_iconst C (pc2 := 83) (dkAt dkX8_leftOut 46 (q := (82, .iconst 0, 1)) rfl) rfl (v := 0) rfl ?_
            refine k_istore C (pc2 := 85) (dkAt dkX8_leftOut 47 (q := (83, .istore 6, 2)) rfl) rfl (by decide) (lv2 := [(6, .int 0), (5, .int 0), (4, .int v13), (0, rA G o0), (1, .int x1), (2, .int x2), (3, .int x3)]) rfl ?_
            refine k_iconst C (pc2 := 86) (dkAt dkX8_leftOut 48 (q := (85, .iconst 0, 1)) rfl) rfl (v := 0) rfl ?_
            refine k_istore C (pc2 := 88) (dkAt dkX8_leftOut 49 (q := (86, .istore 7, 2)) rfl) rfl (by decide) (lv2 := [(7, .int 0), (6, .int 0), (5, .int 0), (4, .int v13), (0, rA G o0), (1, .int x1), (2, .int x2), (3, .int x3)]) rfl ?_
            refine k_lv [4, 5, 6, 7, 2, 1, 0] (lv2 := [(0, rA G o0), (1, .int x1), (2, .int x2), (3, .int x3), (5, .int 0), (6, .int 0), (7, .int 0)]) rfl ?_
            obtain ⟨v35, v36, e34, h⟩ := ob2_inv h
            refine kl_X8_leftOut_L88 C o0 h0 x1 x2 x3 q11.1 v35 v36 ?_ 1000 0 0 0 e34
            refine k_iload_n C (pc2 := 206) (dkAt dkX8_leftOut 110 (q := (205, .iload_n 3, 1)) rfl) rfl rfl 0 rfl ?_
            refine k_if_ne C (tgt := 214) (pc2 := 209) (dkAt dkX8_leftOut 111 (q := (206, .ifCond .ne 8, 3)) rfl) (by decide) rfl h (fun h => ?_) (fun h => ?_)
            · refine k_iload C (pc2 := 216) (dkAt dkX8_leftOut 114 (q := (214, .iload 6, 2)) rfl) rfl 2 rfl ?_
              exact k_iret C (dkAt dkX8_leftOut 115 (q := (216, .ireturn, 1)) rfl) (pe2 (Option.some.inj h)) rfl (pe1 (Option.some.inj h)) rfl
            · refine k_iload C (pc2 := 211) (dkAt dkX8_leftOut 112 (q := (209, .iload 5, 2)) rfl) rfl 1 rfl ?_
              refine k_goto C (tgt := 216) (dkAt dkX8_leftOut 113 (q := (211, .goto 5, 3)) rfl) (by decide) ?_
              exact k_iret C (dkAt dkX8_leftOut 115 (q := (216, .ireturn, 1)) rfl) (pe2 (Option.some.inj h)) rfl (pe1 (Option.some.inj h)) rfl
          · refine k_aload_n C (pc2 := 73) (dkAt dkX8_leftOut 40 (q := (72, .aload_n 0, 1)) rfl) rfl rfl 1 rfl ?_
            refine k_bipush C (pc2 := 75) (dkAt dkX8_leftOut 41 (q := (73, .bipush (-5), 2)) rfl) rfl (v := (-5)) rfl ?_
            obtain ⟨q37, e38, h⟩ := ob_inv h
            refine kc_V C (As := [.int (-5)]) (st2 := [.int q37.2]) (ct_X8_refuse l G sh xs o0 h0 (-5) q11.1 q37 e38) (cl_X8_97 (hts_of C) ⟨Nat.le_of_ble_eq_true rfl, Nat.le_of_ble_eq_true rfl⟩ rfl rfl) h0.1 rfl rfl rfl rfl rfl (Nat.le_of_ble_eq_true rfl) (dkAt dkX8_leftOut 42 (q := (75, .invokevirtual 97, 3)) rfl) ⟨Nat.zero_le _, Nat.zero_le _⟩ (pc2 := 78) rfl rfl ?_
            exact k_iret C (dkAt dkX8_leftOut 43 (q := (78, .ireturn, 1)) rfl) (pe2 (Option.some.inj h)) rfl (pe1 (Option.some.inj h)) rfl
        · refine k_iload C (pc2 := 56) (dkAt dkX8_leftOut 29 (q := (54, .iload 4, 2)) rfl) rfl 0 rfl ?_
          exact k_iret C (dkAt dkX8_leftOut 30 (q := (56, .ireturn, 1)) rfl) (pe2 (Option.some.inj h)) rfl (pe1 (Option.some.inj h)) rfl
      · refine k_aload_n C (pc2 := 35) (dkAt dkX8_leftOut 18 (q := (34, .aload_n 0, 1)) rfl) rfl rfl 0 rfl ?_
        refine k_bipush C (pc2 := 37) (dkAt dkX8_leftOut 19 (q := (35, .bipush (-2), 2)) rfl) rfl (v := (-2)) rfl ?_
        obtain ⟨q39, e40, h⟩ := ob_inv h
        refine kc_V C (As := [.int (-2)]) (st2 := [.int q39.2]) (ct_X8_refuse l G sh xs o0 h0 (-2) M q39 e40) (cl_X8_97 (hts_of C) ⟨Nat.le_of_ble_eq_true rfl, Nat.le_of_ble_eq_true rfl⟩ rfl rfl) h0.1 rfl rfl rfl rfl rfl (Nat.le_of_ble_eq_true rfl) (dkAt dkX8_leftOut 20 (q := (37, .invokevirtual 97, 3)) rfl) ⟨Nat.zero_le _, Nat.zero_le _⟩ (pc2 := 40) rfl rfl ?_
        exact k_iret C (dkAt dkX8_leftOut 21 (q := (40, .ireturn, 1)) rfl) (pe2 (Option.some.inj h)) rfl (pe1 (Option.some.inj h)) rfl
set_option maxRecDepth 100000 in
set_option maxHeartbeats 4000000 in
theorem kl_X8_dines_L2 {p : Program} {l : Launch} {e : Env} {s : State} {m : MethodId} {args : Array Value} {below : List Frame} {meth : Method} {c : Code} {G : GG} {sh : Sh} {xs : List va_E} {Q : State → Prop} (C : Cx p s m c args meth G RX8 cX8_dines 3 none) (o0 : Nat) (h0 : isM sh o0) (x1 : Int32) (M2 : Mm) (hcont : KW p l e rm_X8_dines s m args below meth c G 3 Q sh xs 0 0 M2 50 [(0, rA G o0)] []) : ∀ (n : Nat) (x2 : Int32) (M : Mm), f_X8_dines_L2 o0 x1 n x2 M = some M2 → KW p l e rm_X8_dines s m args below meth c G 3 Q sh xs 0 0 M 2 [(0, rA G o0), (1, .int x1), (2, .int x2)] [] := by
  intro n
  induction n with
  | zero =>
    intro x2 M h
    cases h
  | succ n ih =>
    intro x2 M h
    unfold f_X8_dines_L2 at h
    refine k_iload_n C (pc2 := 3) (dkAt dkX8_dines 2 (q := (2, .iload_n 2, 1)) rfl) rfl rfl 2 rfl ?_
    refine k_aload_n C (pc2 := 4) (dkAt dkX8_dines 3 (q := (3, .aload_n 0, 1)) rfl) rfl rfl 0 rfl ?_
    refine kf_X8_82 C (pc2 := 7) (o := o0) (o2 := 0) h0.1 (dkAt dkX8_dines 4 (q := (4, .getfield 82, 3)) rfl) rfl ?_
    refine k_icmp_ge C (tgt := 50) (pc2 := 10) (dkAt dkX8_dines 5 (q := (7, .if_icmp .ge 43, 3)) rfl) (by decide) rfl h (fun h => ?_) (fun h => ?_)
    · refine k_lv [0] (lv2 := [(0, rA G o0)]) rfl ?_
      cases h
      exact hcont
    · refine k_aload_n C (pc2 := 11) (dkAt dkX8_dines 6 (q := (10, .aload_n 0, 1)) rfl) rfl rfl 0 rfl ?_
      refine kf_X8_53 C (pc2 := 14) (o := o0) (o2 := o0 + 21) h0.1 rfl (dkAt dkX8_dines 7 (q := (11, .getfield 53, 3)) rfl) rfl ?_
      refine k_iload_n C (pc2 := 15) (dkAt dkX8_dines 8 (q := (14, .iload_n 2, 1)) rfl) rfl rfl 2 rfl ?_
      refine k_dup2 C (pc2 := 16) (dkAt dkX8_dines 9 (q := (15, .dup2, 1)) rfl) rfl rfl rfl ?_
      refine k_iald C (pc2 := 17) (o := o0 + 21) (nA := 8) (isM_left h0) (dkAt dkX8_dines 10 (q := (16, .iaload, 1)) rfl) rfl h (fun h => ?_)
      refine k_aload_n C (pc2 := 18) (dkAt dkX8_dines 11 (q := (17, .aload_n 0, 1)) rfl) rfl rfl 0 rfl ?_
      refine k_iload_n C (pc2 := 19) (dkAt dkX8_dines 12 (q := (18, .iload_n 2, 1)) rfl) rfl rfl 2 rfl ?_
      refine k_iload_n C (pc2 := 20) (dkAt dkX8_dines 13 (q := (19, .iload_n 1, 1)) rfl) rfl rfl 1 rfl ?_
      obtain ⟨q1, e2, h⟩ := ob_inv h
      refine kc_V C (As := [.int x2, .int x1]) (st2 := [.int q1, .int (M.1 (o0 + 21) x2.toNatClampNeg), .int x2, rA G (o0 + 21)]) (ct_X8_isFree l G sh xs o0 h0 x2 x1 M q1 e2) (cl_X8_139 (hts_of C) ⟨Nat.le_of_ble_eq_true rfl, Nat.le_of_ble_eq_true rfl⟩ rfl rfl) h0.1 rfl rfl rfl rfl rfl (Nat.le_of_ble_eq_true rfl) (dkAt dkX8_dines 14 (q := (20, .invokevirtual 139, 3)) rfl) ⟨Nat.zero_le _, Nat.zero_le _⟩ (pc2 := 23) rfl rfl ?_
      refine k_if_ne C (tgt := 37) (pc2 := 26) (dkAt dkX8_dines 15 (q := (23, .ifCond .ne 14, 3)) rfl) (by decide) rfl h (fun h => ?_) (fun h => ?_)
      · refine k_iconst C (pc2 := 38) (dkAt dkX8_dines 22 (q := (37, .iconst 0, 1)) rfl) rfl (v := 0) rfl ?_
        refine k_goto C (tgt := 42) (dkAt dkX8_dines 23 (q := (38, .goto 4, 3)) rfl) (by decide) ?_
        refine k_iadd C (pc2 := 43) (dkAt dkX8_dines 25 (q := (42, .iadd, 1)) rfl) rfl ?_
        refine k_iast C (pc2 := 44) (o := o0 + 21) (nA := 8) (isM_left h0) (dkAt dkX8_dines 26 (q := (43, .iastore, 1)) rfl) rfl h (fun M3 h => ?_)
        refine kb_iinc C (pc2 := 47) (dkAt dkX8_dines 27 (q := (44, .iinc 2 1, 3)) rfl) rfl (j := 2) rfl (v := x2 + 1) rfl (by decide) (lv2 := fun v4 => [(2, .int v4), (0, rA G o0), (1, .int x1)]) (fun _ => rfl) h (fun v4 h => ?_)
        refine k_goto C (tgt := 2) (dkAt dkX8_dines 28 (q := (47, .goto (-45), 3)) rfl) (by decide) ?_
        refine k_lv [1, 2, 0] (lv2 := [(0, rA G o0), (1, .int x1), (2, .int v4)]) rfl ?_
        exact ih v4 M3 h
      · refine k_aload_n C (pc2 := 27) (dkAt dkX8_dines 16 (q := (26, .aload_n 0, 1)) rfl) rfl rfl 0 rfl ?_
        refine kf_X8_53 C (pc2 := 30) (o := o0) (o2 := o0 + 21) h0.1 rfl (dkAt dkX8_dines 17 (q := (27, .getfield 53, 3)) rfl) rfl ?_
        refine k_iload_n C (pc2 := 31) (dkAt dkX8_dines 18 (q := (30, .iload_n 2, 1)) rfl) rfl rfl 2 rfl ?_
        refine k_iald C (pc2 := 32) (o := o0 + 21) (nA := 8) (isM_left h0) (dkAt dkX8_dines 19 (q := (31, .iaload, 1)) rfl) rfl h (fun h => ?_)
        refine k_bipush C (pc2 := 34) (dkAt dkX8_dines 20 (q := (32, .bipush 99, 2)) rfl) rfl (v := 99) rfl ?_
        refine k_icmp_ne C (tgt := 41) (pc2 := 37) (dkAt dkX8_dines 21 (q := (34, .if_icmp .ne 7, 3)) rfl) (by decide) rfl h (fun h => ?_) (fun h => ?_)
        · refine k_iconst C (pc2 := 42) (dkAt dkX8_dines 24 (q := (41, .iconst 1, 1)) rfl) rfl (v := 1) rfl ?_
          refine k_iadd C (pc2 := 43) (dkAt dkX8_dines 25 (q := (42, .iadd, 1)) rfl) rfl ?_
          refine k_iast C (pc2 := 44) (o := o0 + 21) (nA := 8) (isM_left h0) (dkAt dkX8_dines 26 (q := (43, .iastore, 1)) rfl) rfl h (fun M5 h => ?_)
          refine kb_iinc C (pc2 := 47) (dkAt dkX8_dines 27 (q := (44, .iinc 2 1, 3)) rfl) rfl (j := 2) rfl (v := x2 + 1) rfl (by decide) (lv2 := fun v6 => [(2, .int v6), (0, rA G o0), (1, .int x1)]) (fun _ => rfl) h (fun v6 h => ?_)
          refine k_goto C (tgt := 2) (dkAt dkX8_dines 28 (q := (47, .goto (-45), 3)) rfl) (by decide) ?_
          refine k_lv [1, 2, 0] (lv2 := [(0, rA G o0), (1, .int x1), (2, .int v6)]) rfl ?_
          exact ih v6 M5 h
        · refine k_iconst C (pc2 := 38) (dkAt dkX8_dines 22 (q := (37, .iconst 0, 1)) rfl) rfl (v := 0) rfl ?_
          refine k_goto C (tgt := 42) (dkAt dkX8_dines 23 (q := (38, .goto 4, 3)) rfl) (by decide) ?_
          refine k_iadd C (pc2 := 43) (dkAt dkX8_dines 25 (q := (42, .iadd, 1)) rfl) rfl ?_
          refine k_iast C (pc2 := 44) (o := o0 + 21) (nA := 8) (isM_left h0) (dkAt dkX8_dines 26 (q := (43, .iastore, 1)) rfl) rfl h (fun M7 h => ?_)
          refine kb_iinc C (pc2 := 47) (dkAt dkX8_dines 27 (q := (44, .iinc 2 1, 3)) rfl) rfl (j := 2) rfl (v := x2 + 1) rfl (by decide) (lv2 := fun v8 => [(2, .int v8), (0, rA G o0), (1, .int x1)]) (fun _ => rfl) h (fun v8 h => ?_)
          refine k_goto C (tgt := 2) (dkAt dkX8_dines 28 (q := (47, .goto (-45), 3)) rfl) (by decide) ?_
          refine k_lv [1, 2, 0] (lv2 := [(0, rA G o0), (1, .int x1), (2, .int v8)]) rfl ?_
          exact ih v8 M7 h
set_option maxRecDepth 100000 in
set_option maxHeartbeats 4000000 in
theorem ct_X8_dines (l : Launch) (G : GG) (sh : Sh) (xs : List va_E) (o0 : Nat) (h0 : isM sh o0) (x1 : Int32) (M : Mm) (r : Mm) (h : f_X8_dines o0 x1 M = some r) : Ct l yX8_dines cX8_dines 3 none rm_X8_dines G [rA G o0, .int x1] sh M xs none sh r xs 0 0 := by
  refine ct_of (by decide) (Nat.le_of_ble_eq_true rfl) ?_
  intro p e s m args below meth c hnm C
  refine k_lv [0, 1] (lv2 := [(0, rA G o0), (1, .int x1)]) rfl ?_
  unfold f_X8_dines at h
  refine k_iconst C (pc2 := 1) (dkAt dkX8_dines 0 (q := (0, .iconst 0, 1)) rfl) rfl (v := 0) rfl ?_
  refine k_istore_n C (pc2 := 2) (dkAt dkX8_dines 1 (q := (1, .istore_n 2, 1)) rfl) rfl rfl (by decide) (lv2 := [(2, .int 0), (0, rA G o0), (1, .int x1)]) rfl ?_
  refine k_lv [1, 2, 0] (lv2 := [(0, rA G o0), (1, .int x1), (2, .int 0)]) rfl ?_
  obtain ⟨M11, e10, h⟩ := ob_inv h
  refine kl_X8_dines_L2 C o0 h0 x1 M11 ?_ 1000 0 M e10
  refine k_aload_n C (pc2 := 51) (dkAt dkX8_dines 29 (q := (50, .aload_n 0, 1)) rfl) rfl rfl 0 rfl ?_
  refine k_dup C (pc2 := 52) (dkAt dkX8_dines 30 (q := (51, .dup, 1)) rfl) rfl rfl ?_
  refine kf_X8_351 C (pc2 := 55) (o := o0) (o2 := 0) h0.1 (dkAt dkX8_dines 31 (q := (52, .getfield 351, 3)) rfl) rfl ?_
  refine k_iconst C (pc2 := 56) (dkAt dkX8_dines 32 (q := (55, .iconst 1, 1)) rfl) rfl (v := 1) rfl ?_
  refine k_iadd C (pc2 := 57) (dkAt dkX8_dines 33 (q := (56, .iadd, 1)) rfl) rfl ?_
  refine kp_X8_351 C (pc2 := 60) (o := o0) h0.1 (dkAt dkX8_dines 34 (q := (57, .putfield 351, 3)) rfl) rfl h (fun M12 h => ?_)
  exact k_vret C (dkAt dkX8_dines 35 (q := (60, .return_, 1)) rfl) rfl (Option.some.inj h) rfl
set_option maxRecDepth 100000 in
set_option maxHeartbeats 4000000 in
theorem kl_X8_done_L38 {p : Program} {l : Launch} {e : Env} {s : State} {m : MethodId} {args : Array Value} {below : List Frame} {meth : Method} {c : Code} {G : GG} {sh : Sh} {xs : List va_E} {Q : State → Prop} (C : Cx p s m c args meth G RX8 cX8_done 5 (some .int)) (o0 : Nat) (h0 : isM sh o0) (x1 : Int32) (x2 : Int32) (M2 : Mm) (hcont : KW p l e rm_X8_done s m args below meth c G 5 Q sh xs 0 0 M2 64 [(0, rA G o0)] []) : ∀ (n : Nat) (x4 : Int32) (M : Mm), f_X8_done_L38 o0 x1 x2 n x4 M = some M2 → KW p l e rm_X8_done s m args below meth c G 5 Q sh xs 0 0 M 38 [(0, rA G o0), (1, .int x1), (2, .int x2), (4, .int x4)] [] := by
  intro n
  induction n with
  | zero =>
    intro x4 M h
    cases h
  | succ n ih =>
    intro x4 M h
    unfold f_X8_done_L38 at h
    refine k_iload C (pc2 := 40) (dkAt dkX8_done 24 (q := (38, .iload 4, 2)) rfl) rfl 3 rfl ?_
    refine k_iload_n C (pc2 := 41) (dkAt dkX8_done 25 (q := (40, .iload_n 2, 1)) rfl) rfl rfl 2 rfl ?_
    refine k_icmp_ge C (tgt := 64) (pc2 := 44) (dkAt dkX8_done 26 (q := (41, .if_icmp .ge 23, 3)) rfl) (by decide) rfl h (fun h => ?_) (fun h => ?_)
    · refine k_lv [0] (lv2 := [(0, rA G o0)]) rfl ?_
      cases h
      exact hcont
    · refine k_aload_n C (pc2 := 45) (dkAt dkX8_done 27 (q := (44, .aload_n 0, 1)) rfl) rfl rfl 0 rfl ?_
      refine k_aload_n C (pc2 := 46) (dkAt dkX8_done 28 (q := (45, .aload_n 0, 1)) rfl) rfl rfl 0 rfl ?_
      refine kf_X8_21 C (pc2 := 49) (o := o0) (o2 := o0 + 4) h0.1 rfl (dkAt dkX8_done 29 (q := (46, .getfield 21, 3)) rfl) rfl ?_
      refine k_iload_n C (pc2 := 50) (dkAt dkX8_done 30 (q := (49, .iload_n 1, 1)) rfl) rfl rfl 1 rfl ?_
      refine k_aa14 C (pc2 := 51) (o := o0 + 4) (o2 := o0 + 5 + x1.toNatClampNeg) (nA := 8) (isM_rows h0) rfl (dkAt dkX8_done 31 (q := (50, .aaload, 1)) rfl) rfl h (fun h hl7 => ?_)
      refine k_iload C (pc2 := 53) (dkAt dkX8_done 32 (q := (51, .iload 4, 2)) rfl) rfl 3 rfl ?_
      refine k_lald C (pc2 := 54) (o := o0 + 5 + x1.toNatClampNeg) (nA := 40) (isM_rowsI h0 _ hl7) (dkAt dkX8_done 33 (q := (53, .laload, 1)) rfl) rfl h (fun h => ?_)
      refine k_l2i C (pc2 := 55) (dkAt dkX8_done 34 (q := (54, .l2i, 1)) rfl) rfl ?_
      obtain ⟨q8, e9, h⟩ := ob_inv h
      refine kc_V C (As := [.int ((M.2.1 (o0 + 5 + x1.toNatClampNeg) x4.toNatClampNeg).toInt32)]) (st2 := []) (ct_X8_dines l G sh xs o0 h0 ((M.2.1 (o0 + 5 + x1.toNatClampNeg) x4.toNatClampNeg).toInt32) M q8 e9) (cl_X8_354 (hts_of C) ⟨Nat.le_of_ble_eq_true rfl, Nat.le_of_ble_eq_true rfl⟩ rfl rfl) h0.1 rfl rfl rfl rfl rfl (Nat.le_of_ble_eq_true rfl) (dkAt dkX8_done 35 (q := (55, .invokevirtual 354, 3)) rfl) ⟨Nat.zero_le _, Nat.zero_le _⟩ (pc2 := 58) rfl rfl ?_
      refine kb_iinc C (pc2 := 61) (dkAt dkX8_done 36 (q := (58, .iinc 4 1, 3)) rfl) rfl (j := 3) rfl (v := x4 + 1) rfl (by decide) (lv2 := fun v10 => [(4, .int v10), (0, rA G o0), (1, .int x1), (2, .int x2)]) (fun _ => rfl) h (fun v10 h => ?_)
      refine k_goto C (tgt := 38) (dkAt dkX8_done 37 (q := (61, .goto (-23), 3)) rfl) (by decide) ?_
      refine k_lv [1, 2, 3, 0] (lv2 := [(0, rA G o0), (1, .int x1), (2, .int x2), (4, .int v10)]) rfl ?_
      exact ih v10 q8 h
set_option maxRecDepth 100000 in
set_option maxHeartbeats 4000000 in
theorem ct_X8_done (l : Launch) (G : GG) (sh : Sh) (xs : List va_E) (o0 : Nat) (h0 : isM sh o0) (x1 : Int32) (x2 : Int32) (M : Mm) (r : Mm × Int32) (h : f_X8_done o0 x1 x2 M = some r) : Ct l yX8_done cX8_done 5 (some .int) rm_X8_done G [rA G o0, .int x1, .int x2] sh M xs (some (.int r.2)) sh r.1 xs 0 0 := by
  refine ct_of (by decide) (Nat.le_of_ble_eq_true rfl) ?_
  intro p e s m args below meth c hnm C
  refine k_lv [0, 1, 2] (lv2 := [(0, rA G o0), (1, .int x1), (2, .int x2)]) rfl ?_
  unfold f_X8_done at h
  refine k_aload_n C (pc2 := 1) (dkAt dkX8_done 0 (q := (0, .aload_n 0, 1)) rfl) rfl rfl 0 rfl ?_
  refine k_iload_n C (pc2 := 2) (dkAt dkX8_done 1 (q := (1, .iload_n 1, 1)) rfl) rfl rfl 1 rfl ?_
  refine k_iload_n C (pc2 := 3) (dkAt dkX8_done 2 (q := (2, .iload_n 2, 1)) rfl) rfl rfl 2 rfl ?_
  obtain ⟨q1, e2, h⟩ := ob_inv h
  refine kc_V C (As := [.int x1, .int x2]) (st2 := [.int q1.2]) (ct_X8_noPlan l G sh xs o0 h0 x1 x2 M q1 e2) (cl_X8_344 (hts_of C) ⟨Nat.le_of_ble_eq_true rfl, Nat.le_of_ble_eq_true rfl⟩ rfl rfl) h0.1 rfl rfl rfl rfl rfl (Nat.le_of_ble_eq_true rfl) (dkAt dkX8_done 3 (q := (3, .invokevirtual 344, 3)) rfl) ⟨Nat.zero_le _, Nat.zero_le _⟩ (pc2 := 6) rfl rfl ?_
  refine kb_istore_n C (pc2 := 7) (dkAt dkX8_done 4 (q := (6, .istore_n 3, 1)) rfl) rfl rfl (by decide) (lv2 := fun v3 => [(3, .int v3), (0, rA G o0), (1, .int x1), (2, .int x2)]) (fun _ => rfl) h (fun v3 h => ?_)
  refine k_iload_n C (pc2 := 8) (dkAt dkX8_done 5 (q := (7, .iload_n 3, 1)) rfl) rfl rfl 0 rfl ?_
  refine k_if_eq C (tgt := 13) (pc2 := 11) (dkAt dkX8_done 6 (q := (8, .ifCond .eq 5, 3)) rfl) (by decide) rfl h (fun h => ?_) (fun h => ?_)
  · refine k_aload_n C (pc2 := 14) (dkAt dkX8_done 9 (q := (13, .aload_n 0, 1)) rfl) rfl rfl 1 rfl ?_
    refine k_aload_n C (pc2 := 15) (dkAt dkX8_done 10 (q := (14, .aload_n 0, 1)) rfl) rfl rfl 1 rfl ?_
    refine kf_X8_21 C (pc2 := 18) (o := o0) (o2 := o0 + 4) h0.1 rfl (dkAt dkX8_done 11 (q := (15, .getfield 21, 3)) rfl) rfl ?_
    refine k_iload_n C (pc2 := 19) (dkAt dkX8_done 12 (q := (18, .iload_n 1, 1)) rfl) rfl rfl 2 rfl ?_
    refine k_aa14 C (pc2 := 20) (o := o0 + 4) (o2 := o0 + 5 + x1.toNatClampNeg) (nA := 8) (isM_rows h0) rfl (dkAt dkX8_done 13 (q := (19, .aaload, 1)) rfl) rfl h (fun h hl4 => ?_)
    refine k_iload_n C (pc2 := 21) (dkAt dkX8_done 14 (q := (20, .iload_n 2, 1)) rfl) rfl rfl 3 rfl ?_
    obtain ⟨q5, e6, h⟩ := ob_inv h
    refine kc_V C (As := [rA G (o0 + 5 + x1.toNatClampNeg), .int x2]) (st2 := [.int q5]) (ct_X8_wrongIn l G sh xs o0 h0 (o0 + 5 + x1.toNatClampNeg) (isM_rowsI h0 _ hl4) x2 q1.1 q5 e6) (cl_X8_347 (hts_of C) ⟨Nat.le_of_ble_eq_true rfl, Nat.le_of_ble_eq_true rfl⟩ rfl rfl) h0.1 rfl rfl rfl rfl rfl (Nat.le_of_ble_eq_true rfl) (dkAt dkX8_done 15 (q := (21, .invokevirtual 347, 3)) rfl) ⟨Nat.zero_le _, Nat.zero_le _⟩ (pc2 := 24) rfl rfl ?_
    refine k_iconst C (pc2 := 25) (dkAt dkX8_done 16 (q := (24, .iconst (-1), 1)) rfl) rfl (v := (-1)) rfl ?_
    refine k_icmp_eq C (tgt := 35) (pc2 := 28) (dkAt dkX8_done 17 (q := (25, .if_icmp .eq 10, 3)) rfl) (by decide) rfl h (fun h => ?_) (fun h => ?_)
    · refine k_iconst C (pc2 := 36) (dkAt dkX8_done 22 (q := (35, .iconst 0, 1)) rfl) rfl (v := 0) rfl ?_
      refine k_istore C (pc2 := 38) (dkAt dkX8_done 23 (q := (36, .istore 4, 2)) rfl) rfl (by decide) (lv2 := [(4, .int 0), (3, .int v3), (0, rA G o0), (1, .int x1), (2, .int x2)]) rfl ?_
      refine k_lv [2, 3, 4, 0] (lv2 := [(0, rA G o0), (1, .int x1), (2, .int x2), (4, .int 0)]) rfl ?_
      obtain ⟨M13, e12, h⟩ := ob_inv h
      refine kl_X8_done_L38 C o0 h0 x1 x2 M13 ?_ 1000 0 q1.1 e12
      refine k_aload_n C (pc2 := 65) (dkAt dkX8_done 38 (q := (64, .aload_n 0, 1)) rfl) rfl rfl 0 rfl ?_
      refine kf_X8_351 C (pc2 := 68) (o := o0) (o2 := 0) h0.1 (dkAt dkX8_done 39 (q := (65, .getfield 351, 3)) rfl) rfl ?_
      exact k_iret C (dkAt dkX8_done 40 (q := (68, .ireturn, 1)) rfl) (pe2 (Option.some.inj h)) rfl (pe1 (Option.some.inj h)) rfl
    · refine k_aload_n C (pc2 := 29) (dkAt dkX8_done 18 (q := (28, .aload_n 0, 1)) rfl) rfl rfl 1 rfl ?_
      refine k_bipush C (pc2 := 31) (dkAt dkX8_done 19 (q := (29, .bipush (-5), 2)) rfl) rfl (v := (-5)) rfl ?_
      obtain ⟨q14, e15, h⟩ := ob_inv h
      refine kc_V C (As := [.int (-5)]) (st2 := [.int q14.2]) (ct_X8_refuse l G sh xs o0 h0 (-5) q1.1 q14 e15) (cl_X8_97 (hts_of C) ⟨Nat.le_of_ble_eq_true rfl, Nat.le_of_ble_eq_true rfl⟩ rfl rfl) h0.1 rfl rfl rfl rfl rfl (Nat.le_of_ble_eq_true rfl) (dkAt dkX8_done 20 (q := (31, .invokevirtual 97, 3)) rfl) ⟨Nat.zero_le _, Nat.zero_le _⟩ (pc2 := 34) rfl rfl ?_
      exact k_iret C (dkAt dkX8_done 21 (q := (34, .ireturn, 1)) rfl) (pe2 (Option.some.inj h)) rfl (pe1 (Option.some.inj h)) rfl
  · refine k_iload_n C (pc2 := 12) (dkAt dkX8_done 7 (q := (11, .iload_n 3, 1)) rfl) rfl rfl 0 rfl ?_
    exact k_iret C (dkAt dkX8_done 8 (q := (12, .ireturn, 1)) rfl) (pe2 (Option.some.inj h)) rfl (pe1 (Option.some.inj h)) rfl
set_option maxRecDepth 100000 in
set_option maxHeartbeats 4000000 in
theorem ct_X8_below (l : Launch) (G : GG) (sh : Sh) (xs : List va_E) (o0 : Nat) (h0 : isM sh o0) (x1 : Int32) (M : Mm) (r : Mm × Int32) (h : f_X8_below o0 x1 M = some r) : Ct l yX8_below cX8_below 2 (some .int) rm_X8_below G [rA G o0, .int x1] sh M xs (some (.int r.2)) sh r.1 xs 0 0 := by
  refine ct_of (by decide) (Nat.le_of_ble_eq_true rfl) ?_
  intro p e s m args below meth c hnm C
  refine k_lv [0, 1] (lv2 := [(0, rA G o0), (1, .int x1)]) rfl ?_
  unfold f_X8_below at h
  refine k_aload_n C (pc2 := 1) (dkAt dkX8_below 0 (q := (0, .aload_n 0, 1)) rfl) rfl rfl 0 rfl ?_
  refine k_aload_n C (pc2 := 2) (dkAt dkX8_below 1 (q := (1, .aload_n 0, 1)) rfl) rfl rfl 0 rfl ?_
  refine kf_X8_59 C (pc2 := 5) (o := o0) (o2 := 0) h0.1 (dkAt dkX8_below 2 (q := (2, .getfield 59, 3)) rfl) rfl ?_
  refine k_ldcw C (pc2 := 8) (dkAt dkX8_below 3 (q := (5, .ldc_w 357, 3)) rfl) rfl (v := 1103515245) tK_X8_357 ?_
  refine k_imul C (pc2 := 9) (dkAt dkX8_below 4 (q := (8, .imul, 1)) rfl) rfl ?_
  refine k_sipush C (pc2 := 12) (dkAt dkX8_below 5 (q := (9, .sipush 12345, 3)) rfl) rfl (v := 12345) rfl ?_
  refine k_iadd C (pc2 := 13) (dkAt dkX8_below 6 (q := (12, .iadd, 1)) rfl) rfl ?_
  refine kp_X8_59 C (pc2 := 16) (o := o0) h0.1 (dkAt dkX8_below 7 (q := (13, .putfield 59, 3)) rfl) rfl h (fun M1 h => ?_)
  refine k_aload_n C (pc2 := 17) (dkAt dkX8_below 8 (q := (16, .aload_n 0, 1)) rfl) rfl rfl 0 rfl ?_
  refine kf_X8_59 C (pc2 := 20) (o := o0) (o2 := 0) h0.1 (dkAt dkX8_below 9 (q := (17, .getfield 59, 3)) rfl) rfl ?_
  refine k_bipush C (pc2 := 22) (dkAt dkX8_below 10 (q := (20, .bipush 16, 2)) rfl) rfl (v := 16) rfl ?_
  refine k_iushr C (pc2 := 23) (dkAt dkX8_below 11 (q := (22, .iushr, 1)) rfl) rfl ?_
  refine k_iload_n C (pc2 := 24) (dkAt dkX8_below 12 (q := (23, .iload_n 1, 1)) rfl) rfl rfl 1 rfl ?_
  obtain ⟨hz, h⟩ := chz_inv h
  refine k_iremc C (pc2 := 25) (dkAt dkX8_below 13 (q := (24, .irem, 1)) rfl) rfl hz ?_
  exact k_iret C (dkAt dkX8_below 14 (q := (25, .ireturn, 1)) rfl) (pe2 (Option.some.inj h)) rfl (pe1 (Option.some.inj h)) rfl
set_option maxRecDepth 100000 in
set_option maxHeartbeats 4000000 in
theorem ct_X8_dine (l : Launch) (G : GG) (sh : Sh) (xs : List va_E) (o0 : Nat) (h0 : isM sh o0) (x1 : Int32) (M : Mm) (r : Mm × Int32) (h : f_X8_dine o0 x1 M = some r) : Ct l yX8_dine cX8_dine 2 (some .int) rm_X8_dine G [rA G o0, .int x1] sh M xs (some (.int r.2)) sh r.1 xs 0 0 := by
  refine ct_of (by decide) (Nat.le_of_ble_eq_true rfl) ?_
  intro p e s m args below meth c hnm C
  refine k_lv [0, 1] (lv2 := [(0, rA G o0), (1, .int x1)]) rfl ?_
  unfold f_X8_dine at h
  refine k_aload_n C (pc2 := 1) (dkAt dkX8_dine 0 (q := (0, .aload_n 0, 1)) rfl) rfl rfl 0 rfl ?_
  refine k_iload_n C (pc2 := 2) (dkAt dkX8_dine 1 (q := (1, .iload_n 1, 1)) rfl) rfl rfl 1 rfl ?_
  refine k_i2l C (pc2 := 3) (dkAt dkX8_dine 2 (q := (2, .i2l, 1)) rfl) rfl ?_
  obtain ⟨q1, e2, h⟩ := ob_inv h
  refine kc_V C (As := [.long x1.toInt64]) (st2 := [.int q1]) (ct_X8_isDay l G sh xs o0 h0 x1.toInt64 M q1 e2) (cl_X8_135 (hts_of C) ⟨Nat.le_of_ble_eq_true rfl, Nat.le_of_ble_eq_true rfl⟩ rfl rfl) h0.1 rfl rfl rfl rfl rfl (Nat.le_of_ble_eq_true rfl) (dkAt dkX8_dine 3 (q := (3, .invokevirtual 135, 3)) rfl) ⟨Nat.zero_le _, Nat.zero_le _⟩ (pc2 := 6) rfl rfl ?_
  refine k_if_ne C (tgt := 16) (pc2 := 9) (dkAt dkX8_dine 4 (q := (6, .ifCond .ne 10, 3)) rfl) (by decide) rfl h (fun h => ?_) (fun h => ?_)
  · refine k_aload_n C (pc2 := 17) (dkAt dkX8_dine 9 (q := (16, .aload_n 0, 1)) rfl) rfl rfl 0 rfl ?_
    refine k_iload_n C (pc2 := 18) (dkAt dkX8_dine 10 (q := (17, .iload_n 1, 1)) rfl) rfl rfl 1 rfl ?_
    obtain ⟨q3, e4, h⟩ := ob_inv h
    refine kc_V C (As := [.int x1]) (st2 := [.int q3]) (ct_X8_mayDine l G sh xs o0 h0 x1 M q3 e4) (cl_X8_280 (hts_of C) ⟨Nat.le_of_ble_eq_true rfl, Nat.le_of_ble_eq_true rfl⟩ rfl rfl) h0.1 rfl rfl rfl rfl rfl (Nat.le_of_ble_eq_true rfl) (dkAt dkX8_dine 11 (q := (18, .invokevirtual 280, 3)) rfl) ⟨Nat.zero_le _, Nat.zero_le _⟩ (pc2 := 21) rfl rfl ?_
    refine k_if_ne C (tgt := 31) (pc2 := 24) (dkAt dkX8_dine 12 (q := (21, .ifCond .ne 10, 3)) rfl) (by decide) rfl h (fun h => ?_) (fun h => ?_)
    · refine k_aload_n C (pc2 := 32) (dkAt dkX8_dine 17 (q := (31, .aload_n 0, 1)) rfl) rfl rfl 0 rfl ?_
      refine k_iload_n C (pc2 := 33) (dkAt dkX8_dine 18 (q := (32, .iload_n 1, 1)) rfl) rfl rfl 1 rfl ?_
      obtain ⟨q5, e6, h⟩ := ob_inv h
      refine kc_V C (As := [.int x1]) (st2 := []) (ct_X8_dines l G sh xs o0 h0 x1 M q5 e6) (cl_X8_354 (hts_of C) ⟨Nat.le_of_ble_eq_true rfl, Nat.le_of_ble_eq_true rfl⟩ rfl rfl) h0.1 rfl rfl rfl rfl rfl (Nat.le_of_ble_eq_true rfl) (dkAt dkX8_dine 19 (q := (33, .invokevirtual 354, 3)) rfl) ⟨Nat.zero_le _, Nat.zero_le _⟩ (pc2 := 36) rfl rfl ?_
      refine k_aload_n C (pc2 := 37) (dkAt dkX8_dine 20 (q := (36, .aload_n 0, 1)) rfl) rfl rfl 0 rfl ?_
      refine k_iload_n C (pc2 := 38) (dkAt dkX8_dine 21 (q := (37, .iload_n 1, 1)) rfl) rfl rfl 1 rfl ?_
      obtain ⟨q7, e8, h⟩ := ob_inv h
      refine kc_V C (As := [.int x1]) (st2 := [.int q7]) (ct_X8_thereOn l G sh xs o0 h0 x1 q5 q7 e8) (cl_X8_263 (hts_of C) ⟨Nat.le_of_ble_eq_true rfl, Nat.le_of_ble_eq_true rfl⟩ rfl rfl) h0.1 rfl rfl rfl rfl rfl (Nat.le_of_ble_eq_true rfl) (dkAt dkX8_dine 22 (q := (38, .invokevirtual 263, 3)) rfl) ⟨Nat.zero_le _, Nat.zero_le _⟩ (pc2 := 41) rfl rfl ?_
      obtain ⟨q9, e10, h⟩ := ob_inv h
      refine kc_S C (As := [.int q7]) (st2 := [.int q9]) (ct_X8_bits l G sh xs q7 q5 q9 e10) (cl_X8_118 (hts_of C) ⟨Nat.le_of_ble_eq_true rfl, Nat.le_of_ble_eq_true rfl⟩ rfl rfl) rfl rfl (Nat.le_of_ble_eq_true rfl) (dkAt dkX8_dine 23 (q := (41, .invokestatic 118, 3)) rfl) ⟨Nat.zero_le _, Nat.zero_le _⟩ (pc2 := 44) rfl rfl ?_
      exact k_iret C (dkAt dkX8_dine 24 (q := (44, .ireturn, 1)) rfl) (pe2 (Option.some.inj h)) rfl (pe1 (Option.some.inj h)) rfl
    · refine k_aload_n C (pc2 := 25) (dkAt dkX8_dine 13 (q := (24, .aload_n 0, 1)) rfl) rfl rfl 0 rfl ?_
      refine k_bipush C (pc2 := 27) (dkAt dkX8_dine 14 (q := (25, .bipush (-5), 2)) rfl) rfl (v := (-5)) rfl ?_
      obtain ⟨q11, e12, h⟩ := ob_inv h
      refine kc_V C (As := [.int (-5)]) (st2 := [.int q11.2]) (ct_X8_refuse l G sh xs o0 h0 (-5) M q11 e12) (cl_X8_97 (hts_of C) ⟨Nat.le_of_ble_eq_true rfl, Nat.le_of_ble_eq_true rfl⟩ rfl rfl) h0.1 rfl rfl rfl rfl rfl (Nat.le_of_ble_eq_true rfl) (dkAt dkX8_dine 15 (q := (27, .invokevirtual 97, 3)) rfl) ⟨Nat.zero_le _, Nat.zero_le _⟩ (pc2 := 30) rfl rfl ?_
      exact k_iret C (dkAt dkX8_dine 16 (q := (30, .ireturn, 1)) rfl) (pe2 (Option.some.inj h)) rfl (pe1 (Option.some.inj h)) rfl
  · refine k_aload_n C (pc2 := 10) (dkAt dkX8_dine 5 (q := (9, .aload_n 0, 1)) rfl) rfl rfl 0 rfl ?_
    refine k_bipush C (pc2 := 12) (dkAt dkX8_dine 6 (q := (10, .bipush (-2), 2)) rfl) rfl (v := (-2)) rfl ?_
    obtain ⟨q13, e14, h⟩ := ob_inv h
    refine kc_V C (As := [.int (-2)]) (st2 := [.int q13.2]) (ct_X8_refuse l G sh xs o0 h0 (-2) M q13 e14) (cl_X8_97 (hts_of C) ⟨Nat.le_of_ble_eq_true rfl, Nat.le_of_ble_eq_true rfl⟩ rfl rfl) h0.1 rfl rfl rfl rfl rfl (Nat.le_of_ble_eq_true rfl) (dkAt dkX8_dine 7 (q := (12, .invokevirtual 97, 3)) rfl) ⟨Nat.zero_le _, Nat.zero_le _⟩ (pc2 := 15) rfl rfl ?_
    exact k_iret C (dkAt dkX8_dine 8 (q := (15, .ireturn, 1)) rfl) (pe2 (Option.some.inj h)) rfl (pe1 (Option.some.inj h)) rfl
set_option maxRecDepth 100000 in
set_option maxHeartbeats 4000000 in
theorem kl_X8_pass_L41 {p : Program} {l : Launch} {e : Env} {s : State} {m : MethodId} {args : Array Value} {below : List Frame} {meth : Method} {c : Code} {G : GG} {sh : Sh} {xs : List va_E} {Q : State → Prop} (C : Cx p s m c args meth G RX8 cX8_pass 6 (some .int)) (o0 : Nat) (h0 : isM sh o0) (x1 : Int32) (x2 : Int32) (x3 : Int32) (x4 : Int32) (M2 : Mm) (hcont : KW p l e rm_X8_pass s m args below meth c G 6 Q sh xs 0 0 M2 91 [(0, rA G o0), (1, .int x1), (2, .int x2), (3, .int x3), (4, .int x4)] []) : ∀ (n : Nat) (x5 : Int32) (M : Mm), f_X8_pass_L41 o0 x1 x2 x3 x4 n x5 M = some M2 → KW p l e rm_X8_pass s m args below meth c G 6 Q sh xs 0 0 M 41 [(0, rA G o0), (1, .int x1), (2, .int x2), (3, .int x3), (4, .int x4), (5, .int x5)] [] := by
  intro n
  induction n with
  | zero =>
    intro x5 M h
    cases h
  | succ n ih =>
    intro x5 M h
    unfold f_X8_pass_L41 at h
    refine k_iload C (pc2 := 43) (dkAt dkX8_pass 23 (q := (41, .iload 5, 2)) rfl) rfl 5 rfl ?_
    refine k_aload_n C (pc2 := 44) (dkAt dkX8_pass 24 (q := (43, .aload_n 0, 1)) rfl) rfl rfl 0 rfl ?_
    refine kf_X8_37 C (pc2 := 47) (o := o0) (o2 := 0) h0.1 (dkAt dkX8_pass 25 (q := (44, .getfield 37, 3)) rfl) rfl ?_
    refine k_icmp_ge C (tgt := 91) (pc2 := 50) (dkAt dkX8_pass 26 (q := (47, .if_icmp .ge 44, 3)) rfl) (by decide) rfl h (fun h => ?_) (fun h => ?_)
    · refine k_lv [0, 1, 2, 3, 4] (lv2 := [(0, rA G o0), (1, .int x1), (2, .int x2), (3, .int x3), (4, .int x4)]) rfl ?_
      cases h
      exact hcont
    · refine k_aload_n C (pc2 := 51) (dkAt dkX8_pass 27 (q := (50, .aload_n 0, 1)) rfl) rfl rfl 0 rfl ?_
      refine k_iload C (pc2 := 53) (dkAt dkX8_pass 28 (q := (51, .iload 4, 2)) rfl) rfl 4 rfl ?_
      refine k_iload C (pc2 := 55) (dkAt dkX8_pass 29 (q := (53, .iload 5, 2)) rfl) rfl 5 rfl ?_
      obtain ⟨q5, e6, h⟩ := ob_inv h
      refine kc_V C (As := [.int x4, .int x5]) (st2 := [.int q5]) (ct_X8_isFree l G sh xs o0 h0 x4 x5 M q5 e6) (cl_X8_139 (hts_of C) ⟨Nat.le_of_ble_eq_true rfl, Nat.le_of_ble_eq_true rfl⟩ rfl rfl) h0.1 rfl rfl rfl rfl rfl (Nat.le_of_ble_eq_true rfl) (dkAt dkX8_pass 30 (q := (55, .invokevirtual 139, 3)) rfl) ⟨Nat.zero_le _, Nat.zero_le _⟩ (pc2 := 58) rfl rfl ?_
      refine k_if_eq C (tgt := 85) (pc2 := 61) (dkAt dkX8_pass 31 (q := (58, .ifCond .eq 27, 3)) rfl) (by decide) rfl h (fun h => ?_) (fun h => ?_)
      · refine kb_iinc C (pc2 := 88) (dkAt dkX8_pass 45 (q := (85, .iinc 5 1, 3)) rfl) rfl (j := 5) rfl (v := x5 + 1) rfl (by decide) (lv2 := fun v7 => [(5, .int v7), (0, rA G o0), (1, .int x1), (2, .int x2), (3, .int x3), (4, .int x4)]) (fun _ => rfl) h (fun v7 h => ?_)
        refine k_goto C (tgt := 41) (dkAt dkX8_pass 46 (q := (88, .goto (-47), 3)) rfl) (by decide) ?_
        refine k_lv [1, 2, 3, 4, 5, 0] (lv2 := [(0, rA G o0), (1, .int x1), (2, .int x2), (3, .int x3), (4, .int x4), (5, .int v7)]) rfl ?_
        exact ih v7 M h
      · refine k_aload_n C (pc2 := 62) (dkAt dkX8_pass 32 (q := (61, .aload_n 0, 1)) rfl) rfl rfl 0 rfl ?_
        refine k_bipush C (pc2 := 64) (dkAt dkX8_pass 33 (q := (62, .bipush 12, 2)) rfl) rfl (v := 12) rfl ?_
        obtain ⟨q8, e9, h⟩ := ob_inv h
        refine kc_V C (As := [.int 12]) (st2 := [.int q8.2]) (ct_X8_below l G sh xs o0 h0 12 M q8 e9) (cl_X8_358 (hts_of C) ⟨Nat.le_of_ble_eq_true rfl, Nat.le_of_ble_eq_true rfl⟩ rfl rfl) h0.1 rfl rfl rfl rfl rfl (Nat.le_of_ble_eq_true rfl) (dkAt dkX8_pass 34 (q := (64, .invokevirtual 358, 3)) rfl) ⟨Nat.zero_le _, Nat.zero_le _⟩ (pc2 := 67) rfl rfl ?_
        refine k_aload_n C (pc2 := 68) (dkAt dkX8_pass 35 (q := (67, .aload_n 0, 1)) rfl) rfl rfl 0 rfl ?_
        refine kf_X8_56 C (pc2 := 71) (o := o0) (o2 := o0 + 22) h0.1 rfl (dkAt dkX8_pass 36 (q := (68, .getfield 56, 3)) rfl) rfl ?_
        refine k_iconst C (pc2 := 72) (dkAt dkX8_pass 37 (q := (71, .iconst 2, 1)) rfl) rfl (v := 2) rfl ?_
        refine k_ialdc C (pc2 := 73) (o := o0 + 22) (nA := 3) (j := 2) (isM_asked h0) (dkAt dkX8_pass 38 (q := (72, .iaload, 1)) rfl) rfl (by unfold vp_in; decide) (by decide) ?_
        refine k_icmp_ge C (tgt := 85) (pc2 := 76) (dkAt dkX8_pass 39 (q := (73, .if_icmp .ge 12, 3)) rfl) (by decide) rfl h (fun h => ?_) (fun h => ?_)
        · refine kb_iinc C (pc2 := 88) (dkAt dkX8_pass 45 (q := (85, .iinc 5 1, 3)) rfl) rfl (j := 5) rfl (v := x5 + 1) rfl (by decide) (lv2 := fun v10 => [(5, .int v10), (0, rA G o0), (1, .int x1), (2, .int x2), (3, .int x3), (4, .int x4)]) (fun _ => rfl) h (fun v10 h => ?_)
          refine k_goto C (tgt := 41) (dkAt dkX8_pass 46 (q := (88, .goto (-47), 3)) rfl) (by decide) ?_
          refine k_lv [1, 2, 3, 4, 5, 0] (lv2 := [(0, rA G o0), (1, .int x1), (2, .int x2), (3, .int x3), (4, .int x4), (5, .int v10)]) rfl ?_
          exact ih v10 q8.1 h
        · refine k_aload_n C (pc2 := 77) (dkAt dkX8_pass 40 (q := (76, .aload_n 0, 1)) rfl) rfl rfl 0 rfl ?_
          refine k_iload C (pc2 := 79) (dkAt dkX8_pass 41 (q := (77, .iload 4, 2)) rfl) rfl 4 rfl ?_
          refine k_iload C (pc2 := 81) (dkAt dkX8_pass 42 (q := (79, .iload 5, 2)) rfl) rfl 5 rfl ?_
          refine k_iconst C (pc2 := 82) (dkAt dkX8_pass 43 (q := (81, .iconst 0, 1)) rfl) rfl (v := 0) rfl ?_
          obtain ⟨q11, e12, h⟩ := ob_inv h
          refine kc_V C (As := [.int x4, .int x5, .int 0]) (st2 := []) (ct_X8_frees l G sh xs o0 h0 x4 x5 0 q8.1 q11 e12) (cl_X8_142 (hts_of C) ⟨Nat.le_of_ble_eq_true rfl, Nat.le_of_ble_eq_true rfl⟩ rfl rfl) h0.1 rfl rfl rfl rfl rfl (Nat.le_of_ble_eq_true rfl) (dkAt dkX8_pass 44 (q := (82, .invokevirtual 142, 3)) rfl) ⟨Nat.zero_le _, Nat.zero_le _⟩ (pc2 := 85) rfl rfl ?_
          refine kb_iinc C (pc2 := 88) (dkAt dkX8_pass 45 (q := (85, .iinc 5 1, 3)) rfl) rfl (j := 5) rfl (v := x5 + 1) rfl (by decide) (lv2 := fun v13 => [(5, .int v13), (0, rA G o0), (1, .int x1), (2, .int x2), (3, .int x3), (4, .int x4)]) (fun _ => rfl) h (fun v13 h => ?_)
          refine k_goto C (tgt := 41) (dkAt dkX8_pass 46 (q := (88, .goto (-47), 3)) rfl) (by decide) ?_
          refine k_lv [1, 2, 3, 4, 5, 0] (lv2 := [(0, rA G o0), (1, .int x1), (2, .int x2), (3, .int x3), (4, .int x4), (5, .int v13)]) rfl ?_
          exact ih v13 q11 h
set_option maxRecDepth 100000 in
set_option maxHeartbeats 4000000 in
theorem kl_X8_pass_L29 {p : Program} {l : Launch} {e : Env} {s : State} {m : MethodId} {args : Array Value} {below : List Frame} {meth : Method} {c : Code} {G : GG} {sh : Sh} {xs : List va_E} {Q : State → Prop} (C : Cx p s m c args meth G RX8 cX8_pass 6 (some .int)) (o0 : Nat) (h0 : isM sh o0) (x1 : Int32) (x2 : Int32) (x3 : Int32) (M2 : Mm) (hcont : KW p l e rm_X8_pass s m args below meth c G 6 Q sh xs 0 0 M2 97 [(0, rA G o0), (1, .int x1), (2, .int x2), (3, .int x3)] []) : ∀ (n : Nat) (x4 : Int32) (M : Mm), f_X8_pass_L29 o0 x1 x2 x3 n x4 M = some M2 → KW p l e rm_X8_pass s m args below meth c G 6 Q sh xs 0 0 M 29 [(0, rA G o0), (1, .int x1), (2, .int x2), (3, .int x3), (4, .int x4)] [] := by
  intro n
  induction n with
  | zero =>
    intro x4 M h
    cases h
  | succ n ih =>
    intro x4 M h
    unfold f_X8_pass_L29 at h
    refine k_iload C (pc2 := 31) (dkAt dkX8_pass 17 (q := (29, .iload 4, 2)) rfl) rfl 4 rfl ?_
    refine k_aload_n C (pc2 := 32) (dkAt dkX8_pass 18 (q := (31, .aload_n 0, 1)) rfl) rfl rfl 0 rfl ?_
    refine kf_X8_82 C (pc2 := 35) (o := o0) (o2 := 0) h0.1 (dkAt dkX8_pass 19 (q := (32, .getfield 82, 3)) rfl) rfl ?_
    refine k_icmp_ge C (tgt := 97) (pc2 := 38) (dkAt dkX8_pass 20 (q := (35, .if_icmp .ge 62, 3)) rfl) (by decide) rfl h (fun h => ?_) (fun h => ?_)
    · refine k_lv [0, 1, 2, 3] (lv2 := [(0, rA G o0), (1, .int x1), (2, .int x2), (3, .int x3)]) rfl ?_
      cases h
      exact hcont
    · refine k_iconst C (pc2 := 39) (dkAt dkX8_pass 21 (q := (38, .iconst 0, 1)) rfl) rfl (v := 0) rfl ?_
      refine k_istore C (pc2 := 41) (dkAt dkX8_pass 22 (q := (39, .istore 5, 2)) rfl) rfl (by decide) (lv2 := [(5, .int 0), (0, rA G o0), (1, .int x1), (2, .int x2), (3, .int x3), (4, .int x4)]) rfl ?_
      refine k_lv [1, 2, 3, 4, 5, 0] (lv2 := [(0, rA G o0), (1, .int x1), (2, .int x2), (3, .int x3), (4, .int x4), (5, .int 0)]) rfl ?_
      obtain ⟨M16, e15, h⟩ := ob_inv h
      refine kl_X8_pass_L41 C o0 h0 x1 x2 x3 x4 M16 ?_ 1000 0 M e15
      refine kb_iinc C (pc2 := 94) (dkAt dkX8_pass 47 (q := (91, .iinc 4 1, 3)) rfl) rfl (j := 4) rfl (v := x4 + 1) rfl (by decide) (lv2 := fun v17 => [(4, .int v17), (0, rA G o0), (1, .int x1), (2, .int x2), (3, .int x3)]) (fun _ => rfl) h (fun v17 h => ?_)
      refine k_goto C (tgt := 29) (dkAt dkX8_pass 48 (q := (94, .goto (-65), 3)) rfl) (by decide) ?_
      refine k_lv [1, 2, 3, 4, 0] (lv2 := [(0, rA G o0), (1, .int x1), (2, .int x2), (3, .int x3), (4, .int v17)]) rfl ?_
      exact ih v17 M16 h
set_option maxRecDepth 100000 in
set_option maxHeartbeats 4000000 in
theorem kl_X8_pass_L21 {p : Program} {l : Launch} {e : Env} {s : State} {m : MethodId} {args : Array Value} {below : List Frame} {meth : Method} {c : Code} {G : GG} {sh : Sh} {xs : List va_E} {Q : State → Prop} (C : Cx p s m c args meth G RX8 cX8_pass 6 (some .int)) (o0 : Nat) (h0 : isM sh o0) (x1 : Int32) (x2 : Int32) (M2 : Mm) (hcont : KW p l e rm_X8_pass s m args below meth c G 6 Q sh xs 0 0 M2 103 [(0, rA G o0), (2, .int x2)] []) : ∀ (n : Nat) (x3 : Int32) (M : Mm), f_X8_pass_L21 o0 x1 x2 n x3 M = some M2 → KW p l e rm_X8_pass s m args below meth c G 6 Q sh xs 0 0 M 21 [(0, rA G o0), (1, .int x1), (2, .int x2), (3, .int x3)] [] := by
  intro n
  induction n with
  | zero =>
    intro x3 M h
    cases h
  | succ n ih =>
    intro x3 M h
    unfold f_X8_pass_L21 at h
    refine k_iload_n C (pc2 := 22) (dkAt dkX8_pass 12 (q := (21, .iload_n 3, 1)) rfl) rfl rfl 3 rfl ?_
    refine k_iload_n C (pc2 := 23) (dkAt dkX8_pass 13 (q := (22, .iload_n 1, 1)) rfl) rfl rfl 1 rfl ?_
    refine k_icmp_ge C (tgt := 103) (pc2 := 26) (dkAt dkX8_pass 14 (q := (23, .if_icmp .ge 80, 3)) rfl) (by decide) rfl h (fun h => ?_) (fun h => ?_)
    · refine k_lv [0, 2] (lv2 := [(0, rA G o0), (2, .int x2)]) rfl ?_
      cases h
      exact hcont
    · refine k_iconst C (pc2 := 27) (dkAt dkX8_pass 15 (q := (26, .iconst 0, 1)) rfl) rfl (v := 0) rfl ?_
      refine k_istore C (pc2 := 29) (dkAt dkX8_pass 16 (q := (27, .istore 4, 2)) rfl) rfl (by decide) (lv2 := [(4, .int 0), (0, rA G o0), (1, .int x1), (2, .int x2), (3, .int x3)]) rfl ?_
      refine k_lv [1, 2, 3, 4, 0] (lv2 := [(0, rA G o0), (1, .int x1), (2, .int x2), (3, .int x3), (4, .int 0)]) rfl ?_
      obtain ⟨M20, e19, h⟩ := ob_inv h
      refine kl_X8_pass_L29 C o0 h0 x1 x2 x3 M20 ?_ 1000 0 M e19
      refine kb_iinc C (pc2 := 100) (dkAt dkX8_pass 49 (q := (97, .iinc 3 1, 3)) rfl) rfl (j := 3) rfl (v := x3 + 1) rfl (by decide) (lv2 := fun v21 => [(3, .int v21), (0, rA G o0), (1, .int x1), (2, .int x2)]) (fun _ => rfl) h (fun v21 h => ?_)
      refine k_goto C (tgt := 21) (dkAt dkX8_pass 50 (q := (100, .goto (-79), 3)) rfl) (by decide) ?_
      refine k_lv [1, 2, 3, 0] (lv2 := [(0, rA G o0), (1, .int x1), (2, .int x2), (3, .int v21)]) rfl ?_
      exact ih v21 M20 h
set_option maxRecDepth 100000 in
set_option maxHeartbeats 4000000 in
theorem ct_X8_pass (l : Launch) (G : GG) (sh : Sh) (xs : List va_E) (o0 : Nat) (h0 : isM sh o0) (x1 : Int32) (M : Mm) (r : Mm × Int32) (h : f_X8_pass o0 x1 M = some r) : Ct l yX8_pass cX8_pass 6 (some .int) rm_X8_pass G [rA G o0, .int x1] sh M xs (some (.int r.2)) sh r.1 xs 0 0 := by
  refine ct_of (by decide) (Nat.le_of_ble_eq_true rfl) ?_
  intro p e s m args below meth c hnm C
  refine k_lv [0, 1] (lv2 := [(0, rA G o0), (1, .int x1)]) rfl ?_
  unfold f_X8_pass at h
  refine k_iload_n C (pc2 := 1) (dkAt dkX8_pass 0 (q := (0, .iload_n 1, 1)) rfl) rfl rfl 1 rfl ?_
  obtain ⟨q1, e2, h⟩ := ob_inv h
  refine kc_S C (As := [.int x1]) (st2 := [.int q1]) (ct_X8_isHundred l G sh xs x1 M q1 e2) (cl_X8_299 (hts_of C) ⟨Nat.le_of_ble_eq_true rfl, Nat.le_of_ble_eq_true rfl⟩ rfl rfl) rfl rfl (Nat.le_of_ble_eq_true rfl) (dkAt dkX8_pass 1 (q := (1, .invokestatic 299, 3)) rfl) ⟨Nat.zero_le _, Nat.zero_le _⟩ (pc2 := 4) rfl rfl ?_
  refine k_if_ne C (tgt := 14) (pc2 := 7) (dkAt dkX8_pass 2 (q := (4, .ifCond .ne 10, 3)) rfl) (by decide) rfl h (fun h => ?_) (fun h => ?_)
  · refine k_aload_n C (pc2 := 15) (dkAt dkX8_pass 7 (q := (14, .aload_n 0, 1)) rfl) rfl rfl 0 rfl ?_
    obtain ⟨q3, e4, h⟩ := ob_inv h
    refine kc_V C (As := []) (st2 := [.int q3]) (ct_X8_freeNow l G sh xs o0 h0 M q3 e4) (cl_X8_285 (hts_of C) ⟨Nat.le_of_ble_eq_true rfl, Nat.le_of_ble_eq_true rfl⟩ rfl rfl) h0.1 rfl rfl rfl rfl rfl (Nat.le_of_ble_eq_true rfl) (dkAt dkX8_pass 8 (q := (15, .invokevirtual 285, 3)) rfl) ⟨Nat.zero_le _, Nat.zero_le _⟩ (pc2 := 18) rfl rfl ?_
    refine k_istore_n C (pc2 := 19) (dkAt dkX8_pass 9 (q := (18, .istore_n 2, 1)) rfl) rfl rfl (by decide) (lv2 := [(2, .int q3), (0, rA G o0), (1, .int x1)]) rfl ?_
    refine k_iconst C (pc2 := 20) (dkAt dkX8_pass 10 (q := (19, .iconst 0, 1)) rfl) rfl (v := 0) rfl ?_
    refine k_istore_n C (pc2 := 21) (dkAt dkX8_pass 11 (q := (20, .istore_n 3, 1)) rfl) rfl rfl (by decide) (lv2 := [(3, .int 0), (2, .int q3), (0, rA G o0), (1, .int x1)]) rfl ?_
    refine k_lv [2, 3, 1, 0] (lv2 := [(0, rA G o0), (1, .int x1), (2, .int q3), (3, .int 0)]) rfl ?_
    obtain ⟨M24, e23, h⟩ := ob_inv h
    refine kl_X8_pass_L21 C o0 h0 x1 q3 M24 ?_ 1000 0 M e23
    refine k_iload_n C (pc2 := 104) (dkAt dkX8_pass 51 (q := (103, .iload_n 2, 1)) rfl) rfl rfl 1 rfl ?_
    refine k_aload_n C (pc2 := 105) (dkAt dkX8_pass 52 (q := (104, .aload_n 0, 1)) rfl) rfl rfl 0 rfl ?_
    obtain ⟨q25, e26, h⟩ := ob_inv h
    refine kc_V C (As := []) (st2 := [.int q25, .int q3]) (ct_X8_freeNow l G sh xs o0 h0 M24 q25 e26) (cl_X8_285 (hts_of C) ⟨Nat.le_of_ble_eq_true rfl, Nat.le_of_ble_eq_true rfl⟩ rfl rfl) h0.1 rfl rfl rfl rfl rfl (Nat.le_of_ble_eq_true rfl) (dkAt dkX8_pass 53 (q := (105, .invokevirtual 285, 3)) rfl) ⟨Nat.zero_le _, Nat.zero_le _⟩ (pc2 := 108) rfl rfl ?_
    refine k_isub C (pc2 := 109) (dkAt dkX8_pass 54 (q := (108, .isub, 1)) rfl) rfl ?_
    exact k_iret C (dkAt dkX8_pass 55 (q := (109, .ireturn, 1)) rfl) (pe2 (Option.some.inj h)) rfl (pe1 (Option.some.inj h)) rfl
  · refine k_aload_n C (pc2 := 8) (dkAt dkX8_pass 3 (q := (7, .aload_n 0, 1)) rfl) rfl rfl 0 rfl ?_
    refine k_bipush C (pc2 := 10) (dkAt dkX8_pass 4 (q := (8, .bipush (-2), 2)) rfl) rfl (v := (-2)) rfl ?_
    obtain ⟨q27, e28, h⟩ := ob_inv h
    refine kc_V C (As := [.int (-2)]) (st2 := [.int q27.2]) (ct_X8_refuse l G sh xs o0 h0 (-2) M q27 e28) (cl_X8_97 (hts_of C) ⟨Nat.le_of_ble_eq_true rfl, Nat.le_of_ble_eq_true rfl⟩ rfl rfl) h0.1 rfl rfl rfl rfl rfl (Nat.le_of_ble_eq_true rfl) (dkAt dkX8_pass 5 (q := (10, .invokevirtual 97, 3)) rfl) ⟨Nat.zero_le _, Nat.zero_le _⟩ (pc2 := 13) rfl rfl ?_
    exact k_iret C (dkAt dkX8_pass 6 (q := (13, .ireturn, 1)) rfl) (pe2 (Option.some.inj h)) rfl (pe1 (Option.some.inj h)) rfl
set_option maxRecDepth 100000 in
set_option maxHeartbeats 4000000 in
theorem kl_X8_fills_L12 {p : Program} {l : Launch} {e : Env} {s : State} {m : MethodId} {args : Array Value} {below : List Frame} {meth : Method} {c : Code} {G : GG} {sh : Sh} {xs : List va_E} {Q : State → Prop} (C : Cx p s m c args meth G RX8 cX8_fills 3 none) (o0 : Nat) (h0 : isM sh o0) (x1 : Int32) (M2 : Mm) (hcont : KW p l e rm_X8_fills s m args below meth c G 3 Q sh xs 0 0 M2 52 [(0, rA G o0), (1, .int x1)] []) : ∀ (n : Nat) (x2 : Int32) (M : Mm), f_X8_fills_L12 o0 x1 n x2 M = some M2 → KW p l e rm_X8_fills s m args below meth c G 3 Q sh xs 0 0 M 12 [(0, rA G o0), (1, .int x1), (2, .int x2)] [] := by
  intro n
  induction n with
  | zero =>
    intro x2 M h
    cases h
  | succ n ih =>
    intro x2 M h
    unfold f_X8_fills_L12 at h
    refine k_iload_n C (pc2 := 13) (dkAt dkX8_fills 8 (q := (12, .iload_n 2, 1)) rfl) rfl rfl 2 rfl ?_
    refine k_aload_n C (pc2 := 14) (dkAt dkX8_fills 9 (q := (13, .aload_n 0, 1)) rfl) rfl rfl 0 rfl ?_
    refine kf_X8_37 C (pc2 := 17) (o := o0) (o2 := 0) h0.1 (dkAt dkX8_fills 10 (q := (14, .getfield 37, 3)) rfl) rfl ?_
    refine k_icmp_ge C (tgt := 52) (pc2 := 20) (dkAt dkX8_fills 11 (q := (17, .if_icmp .ge 35, 3)) rfl) (by decide) rfl h (fun h => ?_) (fun h => ?_)
    · refine k_lv [0, 1] (lv2 := [(0, rA G o0), (1, .int x1)]) rfl ?_
      cases h
      exact hcont
    · refine k_aload_n C (pc2 := 21) (dkAt dkX8_fills 12 (q := (20, .aload_n 0, 1)) rfl) rfl rfl 0 rfl ?_
      refine k_iload_n C (pc2 := 22) (dkAt dkX8_fills 13 (q := (21, .iload_n 1, 1)) rfl) rfl rfl 1 rfl ?_
      refine k_iload_n C (pc2 := 23) (dkAt dkX8_fills 14 (q := (22, .iload_n 2, 1)) rfl) rfl rfl 2 rfl ?_
      refine k_aload_n C (pc2 := 24) (dkAt dkX8_fills 15 (q := (23, .aload_n 0, 1)) rfl) rfl rfl 0 rfl ?_
      refine k_bipush C (pc2 := 26) (dkAt dkX8_fills 16 (q := (24, .bipush 12, 2)) rfl) rfl (v := 12) rfl ?_
      obtain ⟨q1, e2, h⟩ := ob_inv h
      refine kc_V C (As := [.int 12]) (st2 := [.int q1.2, .int x2, .int x1, rA G o0]) (ct_X8_below l G sh xs o0 h0 12 M q1 e2) (cl_X8_358 (hts_of C) ⟨Nat.le_of_ble_eq_true rfl, Nat.le_of_ble_eq_true rfl⟩ rfl rfl) h0.1 rfl rfl rfl rfl rfl (Nat.le_of_ble_eq_true rfl) (dkAt dkX8_fills 17 (q := (26, .invokevirtual 358, 3)) rfl) ⟨Nat.zero_le _, Nat.zero_le _⟩ (pc2 := 29) rfl rfl ?_
      refine k_aload_n C (pc2 := 30) (dkAt dkX8_fills 18 (q := (29, .aload_n 0, 1)) rfl) rfl rfl 0 rfl ?_
      refine kf_X8_47 C (pc2 := 33) (o := o0) (o2 := o0 + 19) h0.1 rfl (dkAt dkX8_fills 19 (q := (30, .getfield 47, 3)) rfl) rfl ?_
      refine k_iload_n C (pc2 := 34) (dkAt dkX8_fills 20 (q := (33, .iload_n 1, 1)) rfl) rfl rfl 1 rfl ?_
      refine k_iald C (pc2 := 35) (o := o0 + 19) (nA := 8) (isM_likely h0) (dkAt dkX8_fills 21 (q := (34, .iaload, 1)) rfl) rfl h (fun h => ?_)
      refine k_icmp_ge C (tgt := 42) (pc2 := 38) (dkAt dkX8_fills 22 (q := (35, .if_icmp .ge 7, 3)) rfl) (by decide) rfl h (fun h => ?_) (fun h => ?_)
      · refine k_iconst C (pc2 := 43) (dkAt dkX8_fills 25 (q := (42, .iconst 0, 1)) rfl) rfl (v := 0) rfl ?_
        obtain ⟨q3, e4, h⟩ := ob_inv h
        refine kc_V C (As := [.int x1, .int x2, .int 0]) (st2 := []) (ct_X8_frees l G sh xs o0 h0 x1 x2 0 q1.1 q3 e4) (cl_X8_142 (hts_of C) ⟨Nat.le_of_ble_eq_true rfl, Nat.le_of_ble_eq_true rfl⟩ rfl rfl) h0.1 rfl rfl rfl rfl rfl (Nat.le_of_ble_eq_true rfl) (dkAt dkX8_fills 26 (q := (43, .invokevirtual 142, 3)) rfl) ⟨Nat.zero_le _, Nat.zero_le _⟩ (pc2 := 46) rfl rfl ?_
        refine kb_iinc C (pc2 := 49) (dkAt dkX8_fills 27 (q := (46, .iinc 2 1, 3)) rfl) rfl (j := 2) rfl (v := x2 + 1) rfl (by decide) (lv2 := fun v5 => [(2, .int v5), (0, rA G o0), (1, .int x1)]) (fun _ => rfl) h (fun v5 h => ?_)
        refine k_goto C (tgt := 12) (dkAt dkX8_fills 28 (q := (49, .goto (-37), 3)) rfl) (by decide) ?_
        refine k_lv [1, 2, 0] (lv2 := [(0, rA G o0), (1, .int x1), (2, .int v5)]) rfl ?_
        exact ih v5 q3 h
      · refine k_iconst C (pc2 := 39) (dkAt dkX8_fills 23 (q := (38, .iconst 1, 1)) rfl) rfl (v := 1) rfl ?_
        refine k_goto C (tgt := 43) (dkAt dkX8_fills 24 (q := (39, .goto 4, 3)) rfl) (by decide) ?_
        obtain ⟨q6, e7, h⟩ := ob_inv h
        refine kc_V C (As := [.int x1, .int x2, .int 1]) (st2 := []) (ct_X8_frees l G sh xs o0 h0 x1 x2 1 q1.1 q6 e7) (cl_X8_142 (hts_of C) ⟨Nat.le_of_ble_eq_true rfl, Nat.le_of_ble_eq_true rfl⟩ rfl rfl) h0.1 rfl rfl rfl rfl rfl (Nat.le_of_ble_eq_true rfl) (dkAt dkX8_fills 26 (q := (43, .invokevirtual 142, 3)) rfl) ⟨Nat.zero_le _, Nat.zero_le _⟩ (pc2 := 46) rfl rfl ?_
        refine kb_iinc C (pc2 := 49) (dkAt dkX8_fills 27 (q := (46, .iinc 2 1, 3)) rfl) rfl (j := 2) rfl (v := x2 + 1) rfl (by decide) (lv2 := fun v8 => [(2, .int v8), (0, rA G o0), (1, .int x1)]) (fun _ => rfl) h (fun v8 h => ?_)
        refine k_goto C (tgt := 12) (dkAt dkX8_fills 28 (q := (49, .goto (-37), 3)) rfl) (by decide) ?_
        refine k_lv [1, 2, 0] (lv2 := [(0, rA G o0), (1, .int x1), (2, .int v8)]) rfl ?_
        exact ih v8 q6 h
set_option maxRecDepth 100000 in
set_option maxHeartbeats 4000000 in
theorem kl_X8_fills_L2 {p : Program} {l : Launch} {e : Env} {s : State} {m : MethodId} {args : Array Value} {below : List Frame} {meth : Method} {c : Code} {G : GG} {sh : Sh} {xs : List va_E} {Q : State → Prop} (C : Cx p s m c args meth G RX8 cX8_fills 3 none) (o0 : Nat) (h0 : isM sh o0) (M2 : Mm) (hcont : KW p l e rm_X8_fills s m args below meth c G 3 Q sh xs 0 0 M2 58 [] []) : ∀ (n : Nat) (x1 : Int32) (M : Mm), f_X8_fills_L2 o0 n x1 M = some M2 → KW p l e rm_X8_fills s m args below meth c G 3 Q sh xs 0 0 M 2 [(0, rA G o0), (1, .int x1)] [] := by
  intro n
  induction n with
  | zero =>
    intro x1 M h
    cases h
  | succ n ih =>
    intro x1 M h
    unfold f_X8_fills_L2 at h
    refine k_iload_n C (pc2 := 3) (dkAt dkX8_fills 2 (q := (2, .iload_n 1, 1)) rfl) rfl rfl 1 rfl ?_
    refine k_aload_n C (pc2 := 4) (dkAt dkX8_fills 3 (q := (3, .aload_n 0, 1)) rfl) rfl rfl 0 rfl ?_
    refine kf_X8_82 C (pc2 := 7) (o := o0) (o2 := 0) h0.1 (dkAt dkX8_fills 4 (q := (4, .getfield 82, 3)) rfl) rfl ?_
    refine k_icmp_ge C (tgt := 58) (pc2 := 10) (dkAt dkX8_fills 5 (q := (7, .if_icmp .ge 51, 3)) rfl) (by decide) rfl h (fun h => ?_) (fun h => ?_)
    · refine k_lv [] (lv2 := []) rfl ?_
      cases h
      exact hcont
    · refine k_iconst C (pc2 := 11) (dkAt dkX8_fills 6 (q := (10, .iconst 0, 1)) rfl) rfl (v := 0) rfl ?_
      refine k_istore_n C (pc2 := 12) (dkAt dkX8_fills 7 (q := (11, .istore_n 2, 1)) rfl) rfl rfl (by decide) (lv2 := [(2, .int 0), (0, rA G o0), (1, .int x1)]) rfl ?_
      refine k_lv [1, 2, 0] (lv2 := [(0, rA G o0), (1, .int x1), (2, .int 0)]) rfl ?_
      obtain ⟨M11, e10, h⟩ := ob_inv h
      refine kl_X8_fills_L12 C o0 h0 x1 M11 ?_ 1000 0 M e10
      refine kb_iinc C (pc2 := 55) (dkAt dkX8_fills 29 (q := (52, .iinc 1 1, 3)) rfl) rfl (j := 1) rfl (v := x1 + 1) rfl (by decide) (lv2 := fun v12 => [(1, .int v12), (0, rA G o0)]) (fun _ => rfl) h (fun v12 h => ?_)
      refine k_goto C (tgt := 2) (dkAt dkX8_fills 30 (q := (55, .goto (-53), 3)) rfl) (by decide) ?_
      refine k_lv [1, 0] (lv2 := [(0, rA G o0), (1, .int v12)]) rfl ?_
      exact ih v12 M11 h
set_option maxRecDepth 100000 in
set_option maxHeartbeats 4000000 in
theorem ct_X8_fills (l : Launch) (G : GG) (sh : Sh) (xs : List va_E) (o0 : Nat) (h0 : isM sh o0) (M : Mm) (r : Mm) (h : f_X8_fills o0 M = some r) : Ct l yX8_fills cX8_fills 3 none rm_X8_fills G [rA G o0] sh M xs none sh r xs 0 0 := by
  refine ct_of (by decide) (Nat.le_of_ble_eq_true rfl) ?_
  intro p e s m args below meth c hnm C
  refine k_lv [0] (lv2 := [(0, rA G o0)]) rfl ?_
  unfold f_X8_fills at h
  refine k_iconst C (pc2 := 1) (dkAt dkX8_fills 0 (q := (0, .iconst 0, 1)) rfl) rfl (v := 0) rfl ?_
  refine k_istore_n C (pc2 := 2) (dkAt dkX8_fills 1 (q := (1, .istore_n 1, 1)) rfl) rfl rfl (by decide) (lv2 := [(1, .int 0), (0, rA G o0)]) rfl ?_
  refine k_lv [1, 0] (lv2 := [(0, rA G o0), (1, .int 0)]) rfl ?_
  obtain ⟨M15, e14, h⟩ := ob_inv h
  refine kl_X8_fills_L2 C o0 h0 M15 ?_ 1000 0 M e14
  exact k_vret C (dkAt dkX8_fills 31 (q := (58, .return_, 1)) rfl) rfl (Option.some.inj h) rfl
set_option maxRecDepth 100000 in
set_option maxHeartbeats 4000000 in
theorem ct_X8_fill (l : Launch) (G : GG) (sh : Sh) (xs : List va_E) (o0 : Nat) (h0 : isM sh o0) (M : Mm) (r : Mm × Int32) (h : f_X8_fill o0 M = some r) : Ct l yX8_fill cX8_fill 1 (some .int) rm_X8_fill G [rA G o0] sh M xs (some (.int r.2)) sh r.1 xs 0 0 := by
  refine ct_of (by decide) (Nat.le_of_ble_eq_true rfl) ?_
  intro p e s m args below meth c hnm C
  refine k_lv [0] (lv2 := [(0, rA G o0)]) rfl ?_
  unfold f_X8_fill at h
  refine k_aload_n C (pc2 := 1) (dkAt dkX8_fill 0 (q := (0, .aload_n 0, 1)) rfl) rfl rfl 0 rfl ?_
  obtain ⟨q1, e2, h⟩ := ob_inv h
  refine kc_V C (As := []) (st2 := []) (ct_X8_fills l G sh xs o0 h0 M q1 e2) (cl_X8_361 (hts_of C) ⟨Nat.le_of_ble_eq_true rfl, Nat.le_of_ble_eq_true rfl⟩ rfl rfl) h0.1 rfl rfl rfl rfl rfl (Nat.le_of_ble_eq_true rfl) (dkAt dkX8_fill 1 (q := (1, .invokevirtual 361, 3)) rfl) ⟨Nat.zero_le _, Nat.zero_le _⟩ (pc2 := 4) rfl rfl ?_
  refine k_aload_n C (pc2 := 5) (dkAt dkX8_fill 2 (q := (4, .aload_n 0, 1)) rfl) rfl rfl 0 rfl ?_
  obtain ⟨q3, e4, h⟩ := ob_inv h
  refine kc_V C (As := []) (st2 := [.int q3]) (ct_X8_freeNow l G sh xs o0 h0 q1 q3 e4) (cl_X8_285 (hts_of C) ⟨Nat.le_of_ble_eq_true rfl, Nat.le_of_ble_eq_true rfl⟩ rfl rfl) h0.1 rfl rfl rfl rfl rfl (Nat.le_of_ble_eq_true rfl) (dkAt dkX8_fill 3 (q := (5, .invokevirtual 285, 3)) rfl) ⟨Nat.zero_le _, Nat.zero_le _⟩ (pc2 := 8) rfl rfl ?_
  exact k_iret C (dkAt dkX8_fill 4 (q := (8, .ireturn, 1)) rfl) (pe2 (Option.some.inj h)) rfl (pe1 (Option.some.inj h)) rfl
set_option maxRecDepth 100000 in
set_option maxHeartbeats 4000000 in
theorem kl_X8_years_L37 {p : Program} {l : Launch} {e : Env} {s : State} {m : MethodId} {args : Array Value} {below : List Frame} {meth : Method} {c : Code} {G : GG} {sh : Sh} {xs : List va_E} {Q : State → Prop} (C : Cx p s m c args meth G RX8 cX8_years 5 (some .int)) (o0 : Nat) (h0 : isM sh o0) (x1 : Int32) (y2 : Int32) (M2 : Mm) (hcont : KW p l e rm_X8_years s m args below meth c G 5 Q sh xs 0 0 M2 77 [(2, .int y2)] []) : ∀ (n : Nat) (x2 : Int32) (x3 : Int32) (M : Mm), f_X8_years_L37 o0 x1 n x2 x3 M = some (y2, M2) → KW p l e rm_X8_years s m args below meth c G 5 Q sh xs 0 0 M 37 [(0, rA G o0), (1, .int x1), (2, .int x2), (3, .int x3)] [] := by
  intro n
  induction n with
  | zero =>
    intro x2 x3 M h
    cases h
  | succ n ih =>
    intro x2 x3 M h
    unfold f_X8_years_L37 at h
    refine k_iload_n C (pc2 := 38) (dkAt dkX8_years 21 (q := (37, .iload_n 3, 1)) rfl) rfl rfl 3 rfl ?_
    refine k_iload_n C (pc2 := 39) (dkAt dkX8_years 22 (q := (38, .iload_n 1, 1)) rfl) rfl rfl 1 rfl ?_
    refine k_icmp_ge C (tgt := 77) (pc2 := 42) (dkAt dkX8_years 23 (q := (39, .if_icmp .ge 38, 3)) rfl) (by decide) rfl h (fun h => ?_) (fun h => ?_)
    · refine k_lv [2] (lv2 := [(2, .int x2)]) rfl ?_
      cases h
      exact hcont
    · refine k_aload_n C (pc2 := 43) (dkAt dkX8_years 24 (q := (42, .aload_n 0, 1)) rfl) rfl rfl 0 rfl ?_
      obtain ⟨q3, e4, h⟩ := ob_inv h
      refine kc_V C (As := []) (st2 := []) (ct_X8_fills l G sh xs o0 h0 M q3 e4) (cl_X8_361 (hts_of C) ⟨Nat.le_of_ble_eq_true rfl, Nat.le_of_ble_eq_true rfl⟩ rfl rfl) h0.1 rfl rfl rfl rfl rfl (Nat.le_of_ble_eq_true rfl) (dkAt dkX8_years 25 (q := (43, .invokevirtual 361, 3)) rfl) ⟨Nat.zero_le _, Nat.zero_le _⟩ (pc2 := 46) rfl rfl ?_
      refine k_aload_n C (pc2 := 47) (dkAt dkX8_years 26 (q := (46, .aload_n 0, 1)) rfl) rfl rfl 0 rfl ?_
      refine k_iconst C (pc2 := 48) (dkAt dkX8_years 27 (q := (47, .iconst 0, 1)) rfl) rfl (v := 0) rfl ?_
      obtain ⟨q5, e6, h⟩ := ob_inv h
      refine kc_V C (As := [.int 0]) (st2 := [.int q5.2]) (ct_X8_bestDay l G sh xs o0 h0 0 q3 q5 e6) (cl_X8_259 (hts_of C) ⟨Nat.le_of_ble_eq_true rfl, Nat.le_of_ble_eq_true rfl⟩ rfl rfl) h0.1 rfl rfl rfl rfl rfl (Nat.le_of_ble_eq_true rfl) (dkAt dkX8_years 28 (q := (48, .invokevirtual 259, 3)) rfl) ⟨Nat.zero_le _, Nat.zero_le _⟩ (pc2 := 51) rfl rfl ?_
      refine kb_istore C (pc2 := 53) (dkAt dkX8_years 29 (q := (51, .istore 4, 2)) rfl) rfl (by decide) (lv2 := fun v7 => [(4, .int v7), (0, rA G o0), (1, .int x1), (2, .int x2), (3, .int x3)]) (fun _ => rfl) h (fun v7 h => ?_)
      refine k_aload_n C (pc2 := 54) (dkAt dkX8_years 30 (q := (53, .aload_n 0, 1)) rfl) rfl rfl 1 rfl ?_
      refine k_iload C (pc2 := 56) (dkAt dkX8_years 31 (q := (54, .iload 4, 2)) rfl) rfl 0 rfl ?_
      obtain ⟨q8, e9, h⟩ := ob_inv h
      refine kc_V C (As := [.int v7]) (st2 := [.int q8]) (ct_X8_mayDine l G sh xs o0 h0 v7 q5.1 q8 e9) (cl_X8_280 (hts_of C) ⟨Nat.le_of_ble_eq_true rfl, Nat.le_of_ble_eq_true rfl⟩ rfl rfl) h0.1 rfl rfl rfl rfl rfl (Nat.le_of_ble_eq_true rfl) (dkAt dkX8_years 32 (q := (56, .invokevirtual 280, 3)) rfl) ⟨Nat.zero_le _, Nat.zero_le _⟩ (pc2 := 59) rfl rfl ?_
      refine k_if_eq C (tgt := 71) (pc2 := 62) (dkAt dkX8_years 33 (q := (59, .ifCond .eq 12, 3)) rfl) (by decide) rfl h (fun h => ?_) (fun h => ?_)
      · refine kb_iinc C (pc2 := 74) (dkAt dkX8_years 38 (q := (71, .iinc 3 1, 3)) rfl) rfl (j := 4) rfl (v := x3 + 1) rfl (by decide) (lv2 := fun v10 => [(3, .int v10), (4, .int v7), (0, rA G o0), (1, .int x1), (2, .int x2)]) (fun _ => rfl) h (fun v10 h => ?_)
        refine k_goto C (tgt := 37) (dkAt dkX8_years 39 (q := (74, .goto (-37), 3)) rfl) (by decide) ?_
        refine k_lv [2, 3, 4, 0] (lv2 := [(0, rA G o0), (1, .int x1), (2, .int x2), (3, .int v10)]) rfl ?_
        exact ih x2 v10 q5.1 h
      · refine k_aload_n C (pc2 := 63) (dkAt dkX8_years 34 (q := (62, .aload_n 0, 1)) rfl) rfl rfl 1 rfl ?_
        refine k_iload C (pc2 := 65) (dkAt dkX8_years 35 (q := (63, .iload 4, 2)) rfl) rfl 0 rfl ?_
        obtain ⟨q11, e12, h⟩ := ob_inv h
        refine kc_V C (As := [.int v7]) (st2 := []) (ct_X8_dines l G sh xs o0 h0 v7 q5.1 q11 e12) (cl_X8_354 (hts_of C) ⟨Nat.le_of_ble_eq_true rfl, Nat.le_of_ble_eq_true rfl⟩ rfl rfl) h0.1 rfl rfl rfl rfl rfl (Nat.le_of_ble_eq_true rfl) (dkAt dkX8_years 36 (q := (65, .invokevirtual 354, 3)) rfl) ⟨Nat.zero_le _, Nat.zero_le _⟩ (pc2 := 68) rfl rfl ?_
        refine kb_iinc C (pc2 := 71) (dkAt dkX8_years 37 (q := (68, .iinc 2 1, 3)) rfl) rfl (j := 3) rfl (v := x2 + 1) rfl (by decide) (lv2 := fun v13 => [(2, .int v13), (4, .int v7), (0, rA G o0), (1, .int x1), (3, .int x3)]) (fun _ => rfl) h (fun v13 h => ?_)
        refine kb_iinc C (pc2 := 74) (dkAt dkX8_years 38 (q := (71, .iinc 3 1, 3)) rfl) rfl (j := 4) rfl (v := x3 + 1) rfl (by decide) (lv2 := fun v14 => [(3, .int v14), (2, .int v13), (4, .int v7), (0, rA G o0), (1, .int x1)]) (fun _ => rfl) h (fun v14 h => ?_)
        refine k_goto C (tgt := 37) (dkAt dkX8_years 39 (q := (74, .goto (-37), 3)) rfl) (by decide) ?_
        refine k_lv [3, 4, 1, 0] (lv2 := [(0, rA G o0), (1, .int x1), (2, .int v13), (3, .int v14)]) rfl ?_
        exact ih v13 v14 q11 h
set_option maxRecDepth 100000 in
set_option maxHeartbeats 4000000 in
theorem ct_X8_years (l : Launch) (G : GG) (sh : Sh) (xs : List va_E) (o0 : Nat) (h0 : isM sh o0) (x1 : Int32) (M : Mm) (r : Mm × Int32) (h : f_X8_years o0 x1 M = some r) : Ct l yX8_years cX8_years 5 (some .int) rm_X8_years G [rA G o0, .int x1] sh M xs (some (.int r.2)) sh r.1 xs 0 0 := by
  refine ct_of (by decide) (Nat.le_of_ble_eq_true rfl) ?_
  intro p e s m args below meth c hnm C
  refine k_lv [0, 1] (lv2 := [(0, rA G o0), (1, .int x1)]) rfl ?_
  unfold f_X8_years at h
  refine k_iload_n C (pc2 := 1) (dkAt dkX8_years 0 (q := (0, .iload_n 1, 1)) rfl) rfl rfl 1 rfl ?_
  refine k_i2l C (pc2 := 2) (dkAt dkX8_years 1 (q := (1, .i2l, 1)) rfl) rfl ?_
  refine k_lconst C (pc2 := 3) (dkAt dkX8_years 2 (q := (2, .lconst 1, 1)) rfl) rfl (v := 1) rfl ?_
  refine k_ldc2 C (pc2 := 6) (dkAt dkX8_years 3 (q := (3, .ldc2_w 364, 3)) rfl) rfl (v := 50) tL_X8_364 ?_
  obtain ⟨q1, e2, h⟩ := ob_inv h
  refine kc_S C (As := [.long x1.toInt64, .long 1, .long 50]) (st2 := [.int q1]) (ct_X8_in l G sh xs x1.toInt64 1 50 M q1 e2) (cl_X8_85 (hts_of C) ⟨Nat.le_of_ble_eq_true rfl, Nat.le_of_ble_eq_true rfl⟩ rfl rfl) rfl rfl (Nat.le_of_ble_eq_true rfl) (dkAt dkX8_years 4 (q := (6, .invokestatic 85, 3)) rfl) ⟨Nat.zero_le _, Nat.zero_le _⟩ (pc2 := 9) rfl rfl ?_
  refine k_if_ne C (tgt := 19) (pc2 := 12) (dkAt dkX8_years 5 (q := (9, .ifCond .ne 10, 3)) rfl) (by decide) rfl h (fun h => ?_) (fun h => ?_)
  · refine k_aload_n C (pc2 := 20) (dkAt dkX8_years 10 (q := (19, .aload_n 0, 1)) rfl) rfl rfl 0 rfl ?_
    refine kf_X8_82 C (pc2 := 23) (o := o0) (o2 := 0) h0.1 (dkAt dkX8_years 11 (q := (20, .getfield 82, 3)) rfl) rfl ?_
    refine k_if_ne C (tgt := 33) (pc2 := 26) (dkAt dkX8_years 12 (q := (23, .ifCond .ne 10, 3)) rfl) (by decide) rfl h (fun h => ?_) (fun h => ?_)
    · refine k_iconst C (pc2 := 34) (dkAt dkX8_years 17 (q := (33, .iconst 0, 1)) rfl) rfl (v := 0) rfl ?_
      refine k_istore_n C (pc2 := 35) (dkAt dkX8_years 18 (q := (34, .istore_n 2, 1)) rfl) rfl rfl (by decide) (lv2 := [(2, .int 0), (0, rA G o0), (1, .int x1)]) rfl ?_
      refine k_iconst C (pc2 := 36) (dkAt dkX8_years 19 (q := (35, .iconst 0, 1)) rfl) rfl (v := 0) rfl ?_
      refine k_istore_n C (pc2 := 37) (dkAt dkX8_years 20 (q := (36, .istore_n 3, 1)) rfl) rfl rfl (by decide) (lv2 := [(3, .int 0), (2, .int 0), (0, rA G o0), (1, .int x1)]) rfl ?_
      refine k_lv [2, 3, 1, 0] (lv2 := [(0, rA G o0), (1, .int x1), (2, .int 0), (3, .int 0)]) rfl ?_
      obtain ⟨v17, M18, e16, h⟩ := ob2_inv h
      refine kl_X8_years_L37 C o0 h0 x1 v17 M18 ?_ 1000 0 0 M e16
      refine k_iload_n C (pc2 := 78) (dkAt dkX8_years 40 (q := (77, .iload_n 2, 1)) rfl) rfl rfl 0 rfl ?_
      exact k_iret C (dkAt dkX8_years 41 (q := (78, .ireturn, 1)) rfl) (pe2 (Option.some.inj h)) rfl (pe1 (Option.some.inj h)) rfl
    · refine k_aload_n C (pc2 := 27) (dkAt dkX8_years 13 (q := (26, .aload_n 0, 1)) rfl) rfl rfl 0 rfl ?_
      refine k_bipush C (pc2 := 29) (dkAt dkX8_years 14 (q := (27, .bipush (-5), 2)) rfl) rfl (v := (-5)) rfl ?_
      obtain ⟨q19, e20, h⟩ := ob_inv h
      refine kc_V C (As := [.int (-5)]) (st2 := [.int q19.2]) (ct_X8_refuse l G sh xs o0 h0 (-5) M q19 e20) (cl_X8_97 (hts_of C) ⟨Nat.le_of_ble_eq_true rfl, Nat.le_of_ble_eq_true rfl⟩ rfl rfl) h0.1 rfl rfl rfl rfl rfl (Nat.le_of_ble_eq_true rfl) (dkAt dkX8_years 15 (q := (29, .invokevirtual 97, 3)) rfl) ⟨Nat.zero_le _, Nat.zero_le _⟩ (pc2 := 32) rfl rfl ?_
      exact k_iret C (dkAt dkX8_years 16 (q := (32, .ireturn, 1)) rfl) (pe2 (Option.some.inj h)) rfl (pe1 (Option.some.inj h)) rfl
  · refine k_aload_n C (pc2 := 13) (dkAt dkX8_years 6 (q := (12, .aload_n 0, 1)) rfl) rfl rfl 0 rfl ?_
    refine k_bipush C (pc2 := 15) (dkAt dkX8_years 7 (q := (13, .bipush (-2), 2)) rfl) rfl (v := (-2)) rfl ?_
    obtain ⟨q21, e22, h⟩ := ob_inv h
    refine kc_V C (As := [.int (-2)]) (st2 := [.int q21.2]) (ct_X8_refuse l G sh xs o0 h0 (-2) M q21 e22) (cl_X8_97 (hts_of C) ⟨Nat.le_of_ble_eq_true rfl, Nat.le_of_ble_eq_true rfl⟩ rfl rfl) h0.1 rfl rfl rfl rfl rfl (Nat.le_of_ble_eq_true rfl) (dkAt dkX8_years 8 (q := (15, .invokevirtual 97, 3)) rfl) ⟨Nat.zero_le _, Nat.zero_le _⟩ (pc2 := 18) rfl rfl ?_
    exact k_iret C (dkAt dkX8_years 9 (q := (18, .ireturn, 1)) rfl) (pe2 (Option.some.inj h)) rfl (pe1 (Option.some.inj h)) rfl
set_option maxRecDepth 100000 in
set_option maxHeartbeats 4000000 in
theorem ct_X8_seed (l : Launch) (G : GG) (sh : Sh) (xs : List va_E) (o0 : Nat) (h0 : isM sh o0) (x1 : Int32) (M : Mm) (r : Mm × Int32) (h : f_X8_seed o0 x1 M = some r) : Ct l yX8_seed cX8_seed 3 (some .int) rm_X8_seed G [rA G o0, .int x1] sh M xs (some (.int r.2)) sh r.1 xs 0 0 := by
  refine ct_of (by decide) (Nat.le_of_ble_eq_true rfl) ?_
  intro p e s m args below meth c hnm C
  refine k_lv [0, 1] (lv2 := [(0, rA G o0), (1, .int x1)]) rfl ?_
  unfold f_X8_seed at h
  refine k_aload_n C (pc2 := 1) (dkAt dkX8_seed 0 (q := (0, .aload_n 0, 1)) rfl) rfl rfl 0 rfl ?_
  refine kf_X8_59 C (pc2 := 4) (o := o0) (o2 := 0) h0.1 (dkAt dkX8_seed 1 (q := (1, .getfield 59, 3)) rfl) rfl ?_
  refine kb_istore_n C (pc2 := 5) (dkAt dkX8_seed 2 (q := (4, .istore_n 2, 1)) rfl) rfl rfl (by decide) (lv2 := fun v1 => [(2, .int v1), (0, rA G o0), (1, .int x1)]) (fun _ => rfl) h (fun v1 h => ?_)
  refine k_aload_n C (pc2 := 6) (dkAt dkX8_seed 3 (q := (5, .aload_n 0, 1)) rfl) rfl rfl 1 rfl ?_
  refine k_iload_n C (pc2 := 7) (dkAt dkX8_seed 4 (q := (6, .iload_n 1, 1)) rfl) rfl rfl 2 rfl ?_
  refine kp_X8_59 C (pc2 := 10) (o := o0) h0.1 (dkAt dkX8_seed 5 (q := (7, .putfield 59, 3)) rfl) rfl h (fun M2 h => ?_)
  refine k_iload_n C (pc2 := 11) (dkAt dkX8_seed 6 (q := (10, .iload_n 2, 1)) rfl) rfl rfl 0 rfl ?_
  exact k_iret C (dkAt dkX8_seed 7 (q := (11, .ireturn, 1)) rfl) (pe2 (Option.some.inj h)) rfl (pe1 (Option.some.inj h)) rfl
set_option maxRecDepth 100000 in
set_option maxHeartbeats 4000000 in
theorem kl_X8_status_L82 {p : Program} {l : Launch} {e : Env} {s : State} {m : MethodId} {args : Array Value} {below : List Frame} {meth : Method} {c : Code} {G : GG} {sh : Sh} {xs : List va_E} {Q : State → Prop} (C : Cx p s m c args meth G RX8 cX8_status 4 (some .int)) (o0 : Nat) (h0 : isM sh o0) (M : Mm) (y2 : Int32) (hcont : KW p l e rm_X8_status s m args below meth c G 4 Q sh xs 0 0 M 105 [(2, .int y2)] []) : ∀ (n : Nat) (x2 : Int32) (x3 : Int32), f_X8_status_L82 o0 M n x2 x3 = some y2 → KW p l e rm_X8_status s m args below meth c G 4 Q sh xs 0 0 M 82 [(0, rA G o0), (2, .int x2), (3, .int x3)] [] := by
  intro n
  induction n with
  | zero =>
    intro x2 x3 h
    cases h
  | succ n ih =>
    intro x2 x3 h
    unfold f_X8_status_L82 at h
    refine k_iload_n C (pc2 := 83) (dkAt dkX8_status 22 (q := (82, .iload_n 3, 1)) rfl) rfl rfl 2 rfl ?_
    refine k_aload_n C (pc2 := 84) (dkAt dkX8_status 23 (q := (83, .aload_n 0, 1)) rfl) rfl rfl 0 rfl ?_
    refine kf_X8_82 C (pc2 := 87) (o := o0) (o2 := 0) h0.1 (dkAt dkX8_status 24 (q := (84, .getfield 82, 3)) rfl) rfl ?_
    refine k_icmp_ge C (tgt := 105) (pc2 := 90) (dkAt dkX8_status 25 (q := (87, .if_icmp .ge 18, 3)) rfl) (by decide) rfl h (fun h => ?_) (fun h => ?_)
    · refine k_lv [1] (lv2 := [(2, .int x2)]) rfl ?_
      cases h
      exact hcont
    · refine k_iload_n C (pc2 := 91) (dkAt dkX8_status 26 (q := (90, .iload_n 2, 1)) rfl) rfl rfl 1 rfl ?_
      refine k_aload_n C (pc2 := 92) (dkAt dkX8_status 27 (q := (91, .aload_n 0, 1)) rfl) rfl rfl 0 rfl ?_
      refine kf_X8_53 C (pc2 := 95) (o := o0) (o2 := o0 + 21) h0.1 rfl (dkAt dkX8_status 28 (q := (92, .getfield 53, 3)) rfl) rfl ?_
      refine k_iload_n C (pc2 := 96) (dkAt dkX8_status 29 (q := (95, .iload_n 3, 1)) rfl) rfl rfl 2 rfl ?_
      refine k_iald C (pc2 := 97) (o := o0 + 21) (nA := 8) (isM_left h0) (dkAt dkX8_status 30 (q := (96, .iaload, 1)) rfl) rfl h (fun h => ?_)
      refine k_iadd C (pc2 := 98) (dkAt dkX8_status 31 (q := (97, .iadd, 1)) rfl) rfl ?_
      refine kb_istore_n C (pc2 := 99) (dkAt dkX8_status 32 (q := (98, .istore_n 2, 1)) rfl) rfl rfl (by decide) (lv2 := fun v8 => [(2, .int v8), (0, rA G o0), (3, .int x3)]) (fun _ => rfl) h (fun v8 h => ?_)
      refine kb_iinc C (pc2 := 102) (dkAt dkX8_status 33 (q := (99, .iinc 3 1, 3)) rfl) rfl (j := 2) rfl (v := x3 + 1) rfl (by decide) (lv2 := fun v9 => [(3, .int v9), (2, .int v8), (0, rA G o0)]) (fun _ => rfl) h (fun v9 h => ?_)
      refine k_goto C (tgt := 82) (dkAt dkX8_status 34 (q := (102, .goto (-20), 3)) rfl) (by decide) ?_
      refine k_lv [2, 1, 0] (lv2 := [(0, rA G o0), (2, .int v8), (3, .int v9)]) rfl ?_
      exact ih v8 v9 h
set_option maxRecDepth 100000 in
set_option maxHeartbeats 4000000 in
theorem kl_X8_status_L119 {p : Program} {l : Launch} {e : Env} {s : State} {m : MethodId} {args : Array Value} {below : List Frame} {meth : Method} {c : Code} {G : GG} {sh : Sh} {xs : List va_E} {Q : State → Prop} (C : Cx p s m c args meth G RX8 cX8_status 4 (some .int)) (o0 : Nat) (h0 : isM sh o0) (M : Mm) (y2 : Int32) (hcont : KW p l e rm_X8_status s m args below meth c G 4 Q sh xs 0 0 M 148 [(2, .int y2)] []) : ∀ (n : Nat) (x2 : Int32) (x3 : Int32), f_X8_status_L119 o0 M n x2 x3 = some y2 → KW p l e rm_X8_status s m args below meth c G 4 Q sh xs 0 0 M 119 [(0, rA G o0), (2, .int x2), (3, .int x3)] [] := by
  intro n
  induction n with
  | zero =>
    intro x2 x3 h
    cases h
  | succ n ih =>
    intro x2 x3 h
    unfold f_X8_status_L119 at h
    refine k_iload_n C (pc2 := 120) (dkAt dkX8_status 45 (q := (119, .iload_n 3, 1)) rfl) rfl rfl 2 rfl ?_
    refine k_bipush C (pc2 := 122) (dkAt dkX8_status 46 (q := (120, .bipush 8, 2)) rfl) rfl (v := 8) rfl ?_
    refine k_icmp_ge C (tgt := 148) (pc2 := 125) (dkAt dkX8_status 47 (q := (122, .if_icmp .ge 26, 3)) rfl) (by decide) rfl h (fun h => ?_) (fun h => ?_)
    · refine k_lv [1] (lv2 := [(2, .int x2)]) rfl ?_
      cases h
      exact hcont
    · refine k_iload_n C (pc2 := 126) (dkAt dkX8_status 48 (q := (125, .iload_n 2, 1)) rfl) rfl rfl 1 rfl ?_
      refine k_aload_n C (pc2 := 127) (dkAt dkX8_status 49 (q := (126, .aload_n 0, 1)) rfl) rfl rfl 0 rfl ?_
      refine kf_X8_7 C (pc2 := 130) (o := o0) (o2 := o0 + 1) h0.1 rfl (dkAt dkX8_status 50 (q := (127, .getfield 7, 3)) rfl) rfl ?_
      refine k_iload_n C (pc2 := 131) (dkAt dkX8_status 51 (q := (130, .iload_n 3, 1)) rfl) rfl rfl 2 rfl ?_
      refine k_iald C (pc2 := 132) (o := o0 + 1) (nA := 8) (isM_shelf h0) (dkAt dkX8_status 52 (q := (131, .iaload, 1)) rfl) rfl h (fun h => ?_)
      refine k_if_eq C (tgt := 139) (pc2 := 135) (dkAt dkX8_status 53 (q := (132, .ifCond .eq 7, 3)) rfl) (by decide) rfl h (fun h => ?_) (fun h => ?_)
      · refine k_iconst C (pc2 := 140) (dkAt dkX8_status 56 (q := (139, .iconst 0, 1)) rfl) rfl (v := 0) rfl ?_
        refine k_iadd C (pc2 := 141) (dkAt dkX8_status 57 (q := (140, .iadd, 1)) rfl) rfl ?_
        refine kb_istore_n C (pc2 := 142) (dkAt dkX8_status 58 (q := (141, .istore_n 2, 1)) rfl) rfl rfl (by decide) (lv2 := fun v16 => [(2, .int v16), (0, rA G o0), (3, .int x3)]) (fun _ => rfl) h (fun v16 h => ?_)
        refine kb_iinc C (pc2 := 145) (dkAt dkX8_status 59 (q := (142, .iinc 3 1, 3)) rfl) rfl (j := 2) rfl (v := x3 + 1) rfl (by decide) (lv2 := fun v17 => [(3, .int v17), (2, .int v16), (0, rA G o0)]) (fun _ => rfl) h (fun v17 h => ?_)
        refine k_goto C (tgt := 119) (dkAt dkX8_status 60 (q := (145, .goto (-26), 3)) rfl) (by decide) ?_
        refine k_lv [2, 1, 0] (lv2 := [(0, rA G o0), (2, .int v16), (3, .int v17)]) rfl ?_
        exact ih v16 v17 h
      · refine k_iconst C (pc2 := 136) (dkAt dkX8_status 54 (q := (135, .iconst 1, 1)) rfl) rfl (v := 1) rfl ?_
        refine k_goto C (tgt := 140) (dkAt dkX8_status 55 (q := (136, .goto 4, 3)) rfl) (by decide) ?_
        refine k_iadd C (pc2 := 141) (dkAt dkX8_status 57 (q := (140, .iadd, 1)) rfl) rfl ?_
        refine kb_istore_n C (pc2 := 142) (dkAt dkX8_status 58 (q := (141, .istore_n 2, 1)) rfl) rfl rfl (by decide) (lv2 := fun v18 => [(2, .int v18), (0, rA G o0), (3, .int x3)]) (fun _ => rfl) h (fun v18 h => ?_)
        refine kb_iinc C (pc2 := 145) (dkAt dkX8_status 59 (q := (142, .iinc 3 1, 3)) rfl) rfl (j := 2) rfl (v := x3 + 1) rfl (by decide) (lv2 := fun v19 => [(3, .int v19), (2, .int v18), (0, rA G o0)]) (fun _ => rfl) h (fun v19 h => ?_)
        refine k_goto C (tgt := 119) (dkAt dkX8_status 60 (q := (145, .goto (-26), 3)) rfl) (by decide) ?_
        refine k_lv [2, 1, 0] (lv2 := [(0, rA G o0), (2, .int v18), (3, .int v19)]) rfl ?_
        exact ih v18 v19 h
set_option maxRecDepth 100000 in
set_option maxHeartbeats 4000000 in
theorem ct_X8_status (l : Launch) (G : GG) (sh : Sh) (xs : List va_E) (o0 : Nat) (h0 : isM sh o0) (x1 : Int32) (M : Mm) (r : Int32) (h : f_X8_status o0 x1 M = some r) : Ct l yX8_status cX8_status 4 (some .int) rm_X8_status G [rA G o0, .int x1] sh M xs (some (.int r)) sh M xs 0 0 := by
  refine ct_of (by decide) (Nat.le_of_ble_eq_true rfl) ?_
  intro p e s m args below meth c hnm C
  refine k_lv [0, 1] (lv2 := [(0, rA G o0), (1, .int x1)]) rfl ?_
  unfold f_X8_status at h
  refine k_iconst C (pc2 := 1) (dkAt dkX8_status 0 (q := (0, .iconst 0, 1)) rfl) rfl (v := 0) rfl ?_
  refine k_istore_n C (pc2 := 2) (dkAt dkX8_status 1 (q := (1, .istore_n 2, 1)) rfl) rfl rfl (by decide) (lv2 := [(2, .int 0), (0, rA G o0), (1, .int x1)]) rfl ?_
  refine k_iload_n C (pc2 := 3) (dkAt dkX8_status 2 (q := (2, .iload_n 1, 1)) rfl) rfl rfl 2 rfl ?_
  by_cases q1 : x1 = 0
  · rw [if_pos q1] at h
    refine k_swc C (tgt := 56) (off := 53) (dkAt dkX8_status 3 (q := (3, .tableswitch 147 0 9 #[53, 58, 63, 63, 63, 72, 77, 104, 109, 114], 53)) rfl) q1 (by decide) (by decide) ?_
    refine k_aload_n C (pc2 := 57) (dkAt dkX8_status 4 (q := (56, .aload_n 0, 1)) rfl) rfl rfl 1 rfl ?_
    refine kf_X8_82 C (pc2 := 60) (o := o0) (o2 := 0) h0.1 (dkAt dkX8_status 5 (q := (57, .getfield 82, 3)) rfl) rfl ?_
    exact k_iret C (dkAt dkX8_status 6 (q := (60, .ireturn, 1)) rfl) (Option.some.inj h) rfl rfl rfl
  rw [if_neg q1] at h
  by_cases q2 : x1 = 1
  · rw [if_pos q2] at h
    refine k_swc C (tgt := 61) (off := 58) (dkAt dkX8_status 3 (q := (3, .tableswitch 147 0 9 #[53, 58, 63, 63, 63, 72, 77, 104, 109, 114], 53)) rfl) q2 (by decide) (by decide) ?_
    refine k_aload_n C (pc2 := 62) (dkAt dkX8_status 7 (q := (61, .aload_n 0, 1)) rfl) rfl rfl 1 rfl ?_
    refine kf_X8_37 C (pc2 := 65) (o := o0) (o2 := 0) h0.1 (dkAt dkX8_status 8 (q := (62, .getfield 37, 3)) rfl) rfl ?_
    exact k_iret C (dkAt dkX8_status 9 (q := (65, .ireturn, 1)) rfl) (Option.some.inj h) rfl rfl rfl
  rw [if_neg q2] at h
  by_cases q3 : x1 = 2
  · rw [if_pos q3] at h
    refine k_swc C (tgt := 66) (off := 63) (dkAt dkX8_status 3 (q := (3, .tableswitch 147 0 9 #[53, 58, 63, 63, 63, 72, 77, 104, 109, 114], 53)) rfl) q3 (by decide) (by decide) ?_
    refine k_aload_n C (pc2 := 67) (dkAt dkX8_status 10 (q := (66, .aload_n 0, 1)) rfl) rfl rfl 1 rfl ?_
    refine kf_X8_56 C (pc2 := 70) (o := o0) (o2 := o0 + 22) h0.1 rfl (dkAt dkX8_status 11 (q := (67, .getfield 56, 3)) rfl) rfl ?_
    refine k_iload_n C (pc2 := 71) (dkAt dkX8_status 12 (q := (70, .iload_n 1, 1)) rfl) rfl rfl 2 rfl ?_
    refine k_iconst C (pc2 := 72) (dkAt dkX8_status 13 (q := (71, .iconst 2, 1)) rfl) rfl (v := 2) rfl ?_
    refine k_isub C (pc2 := 73) (dkAt dkX8_status 14 (q := (72, .isub, 1)) rfl) rfl ?_
    refine k_iald C (pc2 := 74) (o := o0 + 22) (nA := 3) (isM_asked h0) (dkAt dkX8_status 15 (q := (73, .iaload, 1)) rfl) rfl h (fun h => ?_)
    exact k_iret C (dkAt dkX8_status 16 (q := (74, .ireturn, 1)) rfl) (Option.some.inj h) rfl rfl rfl
  rw [if_neg q3] at h
  by_cases q4 : x1 = 3
  · rw [if_pos q4] at h
    refine k_swc C (tgt := 66) (off := 63) (dkAt dkX8_status 3 (q := (3, .tableswitch 147 0 9 #[53, 58, 63, 63, 63, 72, 77, 104, 109, 114], 53)) rfl) q4 (by decide) (by decide) ?_
    refine k_aload_n C (pc2 := 67) (dkAt dkX8_status 10 (q := (66, .aload_n 0, 1)) rfl) rfl rfl 1 rfl ?_
    refine kf_X8_56 C (pc2 := 70) (o := o0) (o2 := o0 + 22) h0.1 rfl (dkAt dkX8_status 11 (q := (67, .getfield 56, 3)) rfl) rfl ?_
    refine k_iload_n C (pc2 := 71) (dkAt dkX8_status 12 (q := (70, .iload_n 1, 1)) rfl) rfl rfl 2 rfl ?_
    refine k_iconst C (pc2 := 72) (dkAt dkX8_status 13 (q := (71, .iconst 2, 1)) rfl) rfl (v := 2) rfl ?_
    refine k_isub C (pc2 := 73) (dkAt dkX8_status 14 (q := (72, .isub, 1)) rfl) rfl ?_
    refine k_iald C (pc2 := 74) (o := o0 + 22) (nA := 3) (isM_asked h0) (dkAt dkX8_status 15 (q := (73, .iaload, 1)) rfl) rfl h (fun h => ?_)
    exact k_iret C (dkAt dkX8_status 16 (q := (74, .ireturn, 1)) rfl) (Option.some.inj h) rfl rfl rfl
  rw [if_neg q4] at h
  by_cases q5 : x1 = 4
  · rw [if_pos q5] at h
    refine k_swc C (tgt := 66) (off := 63) (dkAt dkX8_status 3 (q := (3, .tableswitch 147 0 9 #[53, 58, 63, 63, 63, 72, 77, 104, 109, 114], 53)) rfl) q5 (by decide) (by decide) ?_
    refine k_aload_n C (pc2 := 67) (dkAt dkX8_status 10 (q := (66, .aload_n 0, 1)) rfl) rfl rfl 1 rfl ?_
    refine kf_X8_56 C (pc2 := 70) (o := o0) (o2 := o0 + 22) h0.1 rfl (dkAt dkX8_status 11 (q := (67, .getfield 56, 3)) rfl) rfl ?_
    refine k_iload_n C (pc2 := 71) (dkAt dkX8_status 12 (q := (70, .iload_n 1, 1)) rfl) rfl rfl 2 rfl ?_
    refine k_iconst C (pc2 := 72) (dkAt dkX8_status 13 (q := (71, .iconst 2, 1)) rfl) rfl (v := 2) rfl ?_
    refine k_isub C (pc2 := 73) (dkAt dkX8_status 14 (q := (72, .isub, 1)) rfl) rfl ?_
    refine k_iald C (pc2 := 74) (o := o0 + 22) (nA := 3) (isM_asked h0) (dkAt dkX8_status 15 (q := (73, .iaload, 1)) rfl) rfl h (fun h => ?_)
    exact k_iret C (dkAt dkX8_status 16 (q := (74, .ireturn, 1)) rfl) (Option.some.inj h) rfl rfl rfl
  rw [if_neg q5] at h
  by_cases q6 : x1 = 5
  · rw [if_pos q6] at h
    refine k_swc C (tgt := 75) (off := 72) (dkAt dkX8_status 3 (q := (3, .tableswitch 147 0 9 #[53, 58, 63, 63, 63, 72, 77, 104, 109, 114], 53)) rfl) q6 (by decide) (by decide) ?_
    refine k_aload_n C (pc2 := 76) (dkAt dkX8_status 17 (q := (75, .aload_n 0, 1)) rfl) rfl rfl 1 rfl ?_
    refine kf_X8_351 C (pc2 := 79) (o := o0) (o2 := 0) h0.1 (dkAt dkX8_status 18 (q := (76, .getfield 351, 3)) rfl) rfl ?_
    exact k_iret C (dkAt dkX8_status 19 (q := (79, .ireturn, 1)) rfl) (Option.some.inj h) rfl rfl rfl
  rw [if_neg q6] at h
  by_cases q7 : x1 = 6
  · rw [if_pos q7] at h
    refine k_swc C (tgt := 80) (off := 77) (dkAt dkX8_status 3 (q := (3, .tableswitch 147 0 9 #[53, 58, 63, 63, 63, 72, 77, 104, 109, 114], 53)) rfl) q7 (by decide) (by decide) ?_
    refine k_iconst C (pc2 := 81) (dkAt dkX8_status 20 (q := (80, .iconst 0, 1)) rfl) rfl (v := 0) rfl ?_
    refine k_istore_n C (pc2 := 82) (dkAt dkX8_status 21 (q := (81, .istore_n 3, 1)) rfl) rfl rfl (by decide) (lv2 := [(3, .int 0), (2, .int 0), (0, rA G o0), (1, .int x1)]) rfl ?_
    refine k_lv [2, 1, 0] (lv2 := [(0, rA G o0), (2, .int 0), (3, .int 0)]) rfl ?_
    obtain ⟨v12, e11, h⟩ := ob_inv h
    refine kl_X8_status_L82 C o0 h0 M v12 ?_ 1000 0 0 e11
    refine k_iload_n C (pc2 := 106) (dkAt dkX8_status 35 (q := (105, .iload_n 2, 1)) rfl) rfl rfl 0 rfl ?_
    exact k_iret C (dkAt dkX8_status 36 (q := (106, .ireturn, 1)) rfl) (Option.some.inj h) rfl rfl rfl
  rw [if_neg q7] at h
  by_cases q13 : x1 = 7
  · rw [if_pos q13] at h
    refine k_swc C (tgt := 107) (off := 104) (dkAt dkX8_status 3 (q := (3, .tableswitch 147 0 9 #[53, 58, 63, 63, 63, 72, 77, 104, 109, 114], 53)) rfl) q13 (by decide) (by decide) ?_
    refine k_aload_n C (pc2 := 108) (dkAt dkX8_status 37 (q := (107, .aload_n 0, 1)) rfl) rfl rfl 1 rfl ?_
    refine kf_X8_150 C (pc2 := 111) (o := o0) (o2 := 0) h0.1 (dkAt dkX8_status 38 (q := (108, .getfield 150, 3)) rfl) rfl ?_
    exact k_iret C (dkAt dkX8_status 39 (q := (111, .ireturn, 1)) rfl) (Option.some.inj h) rfl rfl rfl
  rw [if_neg q13] at h
  by_cases q14 : x1 = 8
  · rw [if_pos q14] at h
    refine k_swc C (tgt := 112) (off := 109) (dkAt dkX8_status 3 (q := (3, .tableswitch 147 0 9 #[53, 58, 63, 63, 63, 72, 77, 104, 109, 114], 53)) rfl) q14 (by decide) (by decide) ?_
    refine k_aload_n C (pc2 := 113) (dkAt dkX8_status 40 (q := (112, .aload_n 0, 1)) rfl) rfl rfl 1 rfl ?_
    refine kf_X8_59 C (pc2 := 116) (o := o0) (o2 := 0) h0.1 (dkAt dkX8_status 41 (q := (113, .getfield 59, 3)) rfl) rfl ?_
    exact k_iret C (dkAt dkX8_status 42 (q := (116, .ireturn, 1)) rfl) (Option.some.inj h) rfl rfl rfl
  rw [if_neg q14] at h
  by_cases q15 : x1 = 9
  · rw [if_pos q15] at h
    refine k_swc C (tgt := 117) (off := 114) (dkAt dkX8_status 3 (q := (3, .tableswitch 147 0 9 #[53, 58, 63, 63, 63, 72, 77, 104, 109, 114], 53)) rfl) q15 (by decide) (by decide) ?_
    refine k_iconst C (pc2 := 118) (dkAt dkX8_status 43 (q := (117, .iconst 0, 1)) rfl) rfl (v := 0) rfl ?_
    refine k_istore_n C (pc2 := 119) (dkAt dkX8_status 44 (q := (118, .istore_n 3, 1)) rfl) rfl rfl (by decide) (lv2 := [(3, .int 0), (2, .int 0), (0, rA G o0), (1, .int x1)]) rfl ?_
    refine k_lv [2, 1, 0] (lv2 := [(0, rA G o0), (2, .int 0), (3, .int 0)]) rfl ?_
    obtain ⟨v22, e21, h⟩ := ob_inv h
    refine kl_X8_status_L119 C o0 h0 M v22 ?_ 1000 0 0 e21
    refine k_iload_n C (pc2 := 149) (dkAt dkX8_status 61 (q := (148, .iload_n 2, 1)) rfl) rfl rfl 0 rfl ?_
    exact k_iret C (dkAt dkX8_status 62 (q := (149, .ireturn, 1)) rfl) (Option.some.inj h) rfl rfl rfl
  rw [if_neg q15] at h
  have zq1 := ne_toInt q1
  have zq2 := ne_toInt q2
  have zq3 := ne_toInt q3
  have zq4 := ne_toInt q4
  have zq5 := ne_toInt q5
  have zq6 := ne_toInt q6
  have zq7 := ne_toInt q7
  have zq13 := ne_toInt q13
  have zq14 := ne_toInt q14
  have zq15 := ne_toInt q15
  refine k_swOut C (tgt := 150) (dkAt dkX8_status 3 (q := (3, .tableswitch 147 0 9 #[53, 58, 63, 63, 63, 72, 77, 104, 109, 114], 53)) rfl) (by have w0 : (0 : Int32).toInt = 0 := (by decide); have w1 : (1 : Int32).toInt = 1 := (by decide); have w2 : (2 : Int32).toInt = 2 := (by decide); have w3 : (3 : Int32).toInt = 3 := (by decide); have w4 : (4 : Int32).toInt = 4 := (by decide); have w5 : (5 : Int32).toInt = 5 := (by decide); have w6 : (6 : Int32).toInt = 6 := (by decide); have w7 : (7 : Int32).toInt = 7 := (by decide); have w8 : (8 : Int32).toInt = 8 := (by decide); have w9 : (9 : Int32).toInt = 9 := (by decide); rw [w0] at zq1; rw [w1] at zq2; rw [w2] at zq3; rw [w3] at zq4; rw [w4] at zq5; rw [w5] at zq6; rw [w6] at zq7; rw [w7] at zq13; rw [w8] at zq14; rw [w9] at zq15; omega) (by decide) ?_
  refine k_iload_n C (pc2 := 151) (dkAt dkX8_status 63 (q := (150, .iload_n 1, 1)) rfl) rfl rfl 2 rfl ?_
  refine k_i2l C (pc2 := 152) (dkAt dkX8_status 64 (q := (151, .i2l, 1)) rfl) rfl ?_
  refine k_ldc2 C (pc2 := 155) (dkAt dkX8_status 65 (q := (152, .ldc2_w 129, 3)) rfl) rfl (v := 12) tL_X8_129 ?_
  refine k_ldc2 C (pc2 := 158) (dkAt dkX8_status 66 (q := (155, .ldc2_w 369, 3)) rfl) rfl (v := 16) tL_X8_369 ?_
  obtain ⟨q23, e24, h⟩ := ob_inv h
  refine kc_S C (As := [.long x1.toInt64, .long 12, .long 16]) (st2 := [.int q23]) (ct_X8_in l G sh xs x1.toInt64 12 16 M q23 e24) (cl_X8_85 (hts_of C) ⟨Nat.le_of_ble_eq_true rfl, Nat.le_of_ble_eq_true rfl⟩ rfl rfl) rfl rfl (Nat.le_of_ble_eq_true rfl) (dkAt dkX8_status 67 (q := (158, .invokestatic 85, 3)) rfl) ⟨Nat.zero_le _, Nat.zero_le _⟩ (pc2 := 161) rfl rfl ?_
  refine k_if_eq C (tgt := 176) (pc2 := 164) (dkAt dkX8_status 68 (q := (161, .ifCond .eq 15, 3)) rfl) (by decide) rfl h (fun h => ?_) (fun h => ?_)
  · refine k_iconst C (pc2 := 177) (dkAt dkX8_status 76 (q := (176, .iconst (-1), 1)) rfl) rfl (v := (-1)) rfl ?_
    exact k_iret C (dkAt dkX8_status 77 (q := (177, .ireturn, 1)) rfl) (Option.some.inj h) rfl rfl rfl
  · refine k_aload_n C (pc2 := 165) (dkAt dkX8_status 69 (q := (164, .aload_n 0, 1)) rfl) rfl rfl 1 rfl ?_
    refine kf_X8_34 C (pc2 := 168) (o := o0) (o2 := o0 + 16) h0.1 rfl (dkAt dkX8_status 70 (q := (165, .getfield 34, 3)) rfl) rfl ?_
    refine k_iload_n C (pc2 := 169) (dkAt dkX8_status 71 (q := (168, .iload_n 1, 1)) rfl) rfl rfl 2 rfl ?_
    refine k_bipush C (pc2 := 171) (dkAt dkX8_status 72 (q := (169, .bipush 10, 2)) rfl) rfl (v := 10) rfl ?_
    refine k_isub C (pc2 := 172) (dkAt dkX8_status 73 (q := (171, .isub, 1)) rfl) rfl ?_
    refine k_iald C (pc2 := 173) (o := o0 + 16) (nA := 8) (isM_refused h0) (dkAt dkX8_status 74 (q := (172, .iaload, 1)) rfl) rfl h (fun h => ?_)
    refine k_goto C (tgt := 177) (dkAt dkX8_status 75 (q := (173, .goto 4, 3)) rfl) (by decide) ?_
    exact k_iret C (dkAt dkX8_status 77 (q := (177, .ireturn, 1)) rfl) (Option.some.inj h) rfl rfl rfl
