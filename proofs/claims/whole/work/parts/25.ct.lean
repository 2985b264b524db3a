set_option maxRecDepth 100000 in
set_option maxHeartbeats 4000000 in
theorem kl_X7_troubleOfTicks_L53 {p : Program} {l : Launch} {e : Env} {s : State} {m : MethodId} {args : Array Value} {below : List Frame} {meth : Method} {c : Code} {G : GG} {sh : Sh} {xs : List va_E} (C : Cx p s m c args meth G RX7 cX7_troubleOfTicks 7 (some .int)) (hX : isX sh) (x1 : Int32) (M : Mm) (r : Int32) (t : (Unit) ⊕ (Int32)) (hcont : t = Sum.inl () → KW p l e rm_X7_troubleOfTicks s m args below meth c G 7 (MQ below (QO G (some (.int r)) sh M xs) args s 0 0 (gA G)) sh xs 0 0 M 103 [] []) (hres : ∀ z, t = Sum.inr z → z = r) : ∀ (n : Nat) (x4 : Int32), f_X7_troubleOfTicks_L53 x1 M n x4 = some t → KW p l e rm_X7_troubleOfTicks s m args below meth c G 7 (MQ below (QO G (some (.int r)) sh M xs) args s 0 0 (gA G)) sh xs 0 0 M 53 [(0, rA G 0), (1, .int x1), (4, .int x4)] [] := by
  intro n
  induction n with
  | zero =>
    intro x4 h
    cases h
  | succ n ih =>
    intro x4 h
    unfold f_X7_troubleOfTicks_L53 at h
    refine k_iload C (pc2 := 55) (dkAt dkX7_troubleOfTicks 28 (q := (53, .iload 4, 2)) rfl) rfl 2 rfl ?_
    refine k_aload_n C (pc2 := 56) (dkAt dkX7_troubleOfTicks 29 (q := (55, .aload_n 0, 1)) rfl) rfl rfl 0 rfl ?_
    refine kf_X7_10 C (pc2 := 59) (o := 0) (o2 := 1) hX.1 rfl (dkAt dkX7_troubleOfTicks 30 (q := (56, .getfield 10, 3)) rfl) rfl ?_
    refine kf_X7_134 C (pc2 := 62) (o := 1) (o2 := 0) hX.2.1.1 (dkAt dkX7_troubleOfTicks 31 (q := (59, .getfield 134, 3)) rfl) rfl ?_
    refine k_icmp_ge C (tgt := 103) (pc2 := 65) (dkAt dkX7_troubleOfTicks 32 (q := (62, .if_icmp .ge 41, 3)) rfl) (by decide) rfl h (fun h => ?_) (fun h => ?_)
    · refine k_lv [] (lv2 := []) rfl ?_
      exact hcont (Option.some.inj h).symm
    · refine k_aload_n C (pc2 := 66) (dkAt dkX7_troubleOfTicks 33 (q := (65, .aload_n 0, 1)) rfl) rfl rfl 0 rfl ?_
      refine kf_X7_42 C (pc2 := 69) (o := 0) (o2 := 50) hX.1 rfl (dkAt dkX7_troubleOfTicks 34 (q := (66, .getfield 42, 3)) rfl) rfl ?_
      refine k_iload_n C (pc2 := 70) (dkAt dkX7_troubleOfTicks 35 (q := (69, .iload_n 1, 1)) rfl) rfl rfl 1 rfl ?_
      refine k_aa12 C (pc2 := 71) (o := 50) (o2 := 53 + 2 * x1.toNatClampNeg) (nA := 8) hX.2.2.2.2.2.2.1 rfl (dkAt dkX7_troubleOfTicks 36 (q := (70, .aaload, 1)) rfl) rfl h (fun h hl4 => ?_)
      refine k_iload C (pc2 := 73) (dkAt dkX7_troubleOfTicks 37 (q := (71, .iload 4, 2)) rfl) rfl 2 rfl ?_
      obtain ⟨q5, e6, h⟩ := ob_inv h
      refine kc_V C (As := [.int x4]) (st2 := [.long q5]) (ct_X4_elementAt l G sh xs (53 + 2 * x1.toNatClampNeg) (hX.2.2.2.2.2.2.2.2.2 _ hl4) x4 M q5 e6) (cl_X7_101 (hts_of C) ⟨Nat.le_of_ble_eq_true rfl, Nat.le_of_ble_eq_true rfl⟩ rfl rfl) ((hX.2.2.2.2.2.2.2.2.2 _ hl4).1) rfl rfl rfl rfl rfl (Nat.le_of_ble_eq_true rfl) (dkAt dkX7_troubleOfTicks 38 (q := (73, .invokevirtual 101, 3)) rfl) ⟨Nat.zero_le _, Nat.zero_le _⟩ (pc2 := 76) rfl rfl ?_
      refine k_lstore C (pc2 := 78) (dkAt dkX7_troubleOfTicks 39 (q := (76, .lstore 5, 2)) rfl) rfl (by decide) (lv2 := [(5, .long q5), (0, rA G 0), (1, .int x1), (4, .int x4)]) rfl ?_
      refine k_lload C (pc2 := 80) (dkAt dkX7_troubleOfTicks 40 (q := (78, .lload 5, 2)) rfl) rfl 0 rfl ?_
      refine k_lconst C (pc2 := 81) (dkAt dkX7_troubleOfTicks 41 (q := (80, .lconst 0, 1)) rfl) rfl (v := 0) rfl ?_
      refine k_lcmp C (pc2 := 82) (dkAt dkX7_troubleOfTicks 42 (q := (81, .lcmp, 1)) rfl) rfl ?_
      refine k_if_lt C (tgt := 94) (pc2 := 85) (dkAt dkX7_troubleOfTicks 43 (q := (82, .ifCond .lt 12, 3)) rfl) (by decide) rfl h (fun h => ?_) (fun h => ?_)
      · refine k_bipush C (pc2 := 96) (dkAt dkX7_troubleOfTicks 48 (q := (94, .bipush (-5), 2)) rfl) rfl (v := (-5)) rfl ?_
        exact k_iret C (dkAt dkX7_troubleOfTicks 49 (q := (96, .ireturn, 1)) rfl) (hres _ (Option.some.inj h).symm) rfl rfl rfl
      · refine k_lload C (pc2 := 87) (dkAt dkX7_troubleOfTicks 44 (q := (85, .lload 5, 2)) rfl) rfl 0 rfl ?_
        refine k_ldc2 C (pc2 := 90) (dkAt dkX7_troubleOfTicks 45 (q := (87, .ldc2_w 328, 3)) rfl) rfl (v := 2) tL_X7_328 ?_
        refine k_lcmp C (pc2 := 91) (dkAt dkX7_troubleOfTicks 46 (q := (90, .lcmp, 1)) rfl) rfl ?_
        refine k_if_le C (tgt := 97) (pc2 := 94) (dkAt dkX7_troubleOfTicks 47 (q := (91, .ifCond .le 6, 3)) rfl) (by decide) rfl h (fun h => ?_) (fun h => ?_)
        · refine kb_iinc C (pc2 := 100) (dkAt dkX7_troubleOfTicks 50 (q := (97, .iinc 4 1, 3)) rfl) rfl (j := 3) rfl (v := x4 + 1) rfl (by decide) (lv2 := fun v7 => [(4, .int v7), (5, .long q5), (0, rA G 0), (1, .int x1)]) (fun _ => rfl) h (fun v7 h => ?_)
          refine k_goto C (tgt := 53) (dkAt dkX7_troubleOfTicks 51 (q := (100, .goto (-47), 3)) rfl) (by decide) ?_
          refine k_lv [2, 3, 0] (lv2 := [(0, rA G 0), (1, .int x1), (4, .int v7)]) rfl ?_
          exact ih v7 h
        · refine k_bipush C (pc2 := 96) (dkAt dkX7_troubleOfTicks 48 (q := (94, .bipush (-5), 2)) rfl) rfl (v := (-5)) rfl ?_
          exact k_iret C (dkAt dkX7_troubleOfTicks 49 (q := (96, .ireturn, 1)) rfl) (hres _ (Option.some.inj h).symm) rfl rfl rfl
set_option maxRecDepth 100000 in
set_option maxHeartbeats 4000000 in
theorem ct_X7_troubleOfTicks (l : Launch) (G : GG) (sh : Sh) (xs : List va_E) (hX : isX sh) (x1 : Int32) (x2 : Int32) (M : Mm) (r : Int32) (h : f_X7_troubleOfTicks x1 x2 M = some r) : Ct l yX7_troubleOfTicks cX7_troubleOfTicks 7 (some .int) rm_X7_troubleOfTicks G [rA G 0, .int x1, .int x2] sh M xs (some (.int r)) sh M xs 0 0 := by
  refine ct_of (by decide) (Nat.le_of_ble_eq_true rfl) ?_
  intro p e s m args below meth c hnm C
  refine k_lv [0, 1, 2] (lv2 := [(0, rA G 0), (1, .int x1), (2, .int x2)]) rfl ?_
  unfold f_X7_troubleOfTicks at h
  refine k_aload_n C (pc2 := 1) (dkAt dkX7_troubleOfTicks 0 (q := (0, .aload_n 0, 1)) rfl) rfl rfl 0 rfl ?_
  refine kf_X7_10 C (pc2 := 4) (o := 0) (o2 := 1) hX.1 rfl (dkAt dkX7_troubleOfTicks 1 (q := (1, .getfield 10, 3)) rfl) rfl ?_
  refine k_iload_n C (pc2 := 5) (dkAt dkX7_troubleOfTicks 2 (q := (4, .iload_n 2, 1)) rfl) rfl rfl 2 rfl ?_
  obtain ⟨q1, e2, h⟩ := ob_inv h
  refine kc_V C (As := [.int x2]) (st2 := [.int q1]) (ct_X1_hasPerson l G sh xs 1 hX.2.1 x2 M q1 e2) (cl_X7_105 (hts_of C) ⟨Nat.le_of_ble_eq_true rfl, Nat.le_of_ble_eq_true rfl⟩ rfl rfl) hX.2.1.1 rfl rfl rfl rfl rfl (Nat.le_of_ble_eq_true rfl) (dkAt dkX7_troubleOfTicks 3 (q := (5, .invokevirtual 105, 3)) rfl) ⟨Nat.zero_le _, Nat.zero_le _⟩ (pc2 := 8) rfl rfl ?_
  refine k_if_eq C (tgt := 19) (pc2 := 11) (dkAt dkX7_troubleOfTicks 4 (q := (8, .ifCond .eq 11, 3)) rfl) (by decide) rfl h (fun h => ?_) (fun h => ?_)
  · refine k_bipush C (pc2 := 21) (dkAt dkX7_troubleOfTicks 9 (q := (19, .bipush (-2), 2)) rfl) rfl (v := (-2)) rfl ?_
    refine k_istore_n C (pc2 := 22) (dkAt dkX7_troubleOfTicks 10 (q := (21, .istore_n 3, 1)) rfl) rfl rfl (by decide) (lv2 := [(3, .int (-2)), (0, rA G 0), (1, .int x1), (2, .int x2)]) rfl ?_
    refine k_iload_n C (pc2 := 23) (dkAt dkX7_troubleOfTicks 11 (q := (22, .iload_n 3, 1)) rfl) rfl rfl 0 rfl ?_
    refine k_if_eq C (tgt := 28) (pc2 := 26) (dkAt dkX7_troubleOfTicks 12 (q := (23, .ifCond .eq 5, 3)) rfl) (by decide) rfl h (fun h => ?_) (fun h => ?_)
    · refine k_aload_n C (pc2 := 29) (dkAt dkX7_troubleOfTicks 15 (q := (28, .aload_n 0, 1)) rfl) rfl rfl 1 rfl ?_
      refine kf_X7_42 C (pc2 := 32) (o := 0) (o2 := 50) hX.1 rfl (dkAt dkX7_troubleOfTicks 16 (q := (29, .getfield 42, 3)) rfl) rfl ?_
      refine k_iload_n C (pc2 := 33) (dkAt dkX7_troubleOfTicks 17 (q := (32, .iload_n 1, 1)) rfl) rfl rfl 2 rfl ?_
      refine k_aa12 C (pc2 := 34) (o := 50) (o2 := 53 + 2 * x1.toNatClampNeg) (nA := 8) hX.2.2.2.2.2.2.1 rfl (dkAt dkX7_troubleOfTicks 18 (q := (33, .aaload, 1)) rfl) rfl h (fun h hl3 => ?_)
      refine kf_X7_73 C (pc2 := 37) (o := 53 + 2 * x1.toNatClampNeg) (o2 := 0) ((hX.2.2.2.2.2.2.2.2.2 _ hl3).1) (dkAt dkX7_troubleOfTicks 19 (q := (34, .getfield 73, 3)) rfl) rfl ?_
      refine k_aload_n C (pc2 := 38) (dkAt dkX7_troubleOfTicks 20 (q := (37, .aload_n 0, 1)) rfl) rfl rfl 1 rfl ?_
      refine kf_X7_10 C (pc2 := 41) (o := 0) (o2 := 1) hX.1 rfl (dkAt dkX7_troubleOfTicks 21 (q := (38, .getfield 10, 3)) rfl) rfl ?_
      refine kf_X7_134 C (pc2 := 44) (o := 1) (o2 := 0) hX.2.1.1 (dkAt dkX7_troubleOfTicks 22 (q := (41, .getfield 134, 3)) rfl) rfl ?_
      refine k_icmp_ge C (tgt := 50) (pc2 := 47) (dkAt dkX7_troubleOfTicks 23 (q := (44, .if_icmp .ge 6, 3)) rfl) (by decide) rfl h (fun h => ?_) (fun h => ?_)
      · refine k_iconst C (pc2 := 51) (dkAt dkX7_troubleOfTicks 26 (q := (50, .iconst 0, 1)) rfl) rfl (v := 0) rfl ?_
        refine k_istore C (pc2 := 53) (dkAt dkX7_troubleOfTicks 27 (q := (51, .istore 4, 2)) rfl) rfl (by decide) (lv2 := [(4, .int 0), (3, .int (-2)), (0, rA G 0), (1, .int x1), (2, .int x2)]) rfl ?_
        refine k_lv [2, 3, 0] (lv2 := [(0, rA G 0), (1, .int x1), (4, .int 0)]) rfl ?_
        obtain ⟨t8, e9, hA, hB⟩ := obS_inv h
        refine kl_X7_troubleOfTicks_L53 C hX x1 M r t8 ?_ ?_ 1000 0 e9
        · intro et
          have h := hA _ et
          refine k_iconst C (pc2 := 104) (dkAt dkX7_troubleOfTicks 52 (q := (103, .iconst 0, 1)) rfl) rfl (v := 0) rfl ?_
          exact k_iret C (dkAt dkX7_troubleOfTicks 53 (q := (104, .ireturn, 1)) rfl) (Option.some.inj h) rfl rfl rfl
        · intro z et
          have h := hB _ et
          exact Option.some.inj h
      · refine k_bipush C (pc2 := 49) (dkAt dkX7_troubleOfTicks 24 (q := (47, .bipush (-2), 2)) rfl) rfl (v := (-2)) rfl ?_
        exact k_iret C (dkAt dkX7_troubleOfTicks 25 (q := (49, .ireturn, 1)) rfl) (Option.some.inj h) rfl rfl rfl
    · refine k_iload_n C (pc2 := 27) (dkAt dkX7_troubleOfTicks 13 (q := (26, .iload_n 3, 1)) rfl) rfl rfl 0 rfl ?_
      exact k_iret C (dkAt dkX7_troubleOfTicks 14 (q := (27, .ireturn, 1)) rfl) (Option.some.inj h) rfl rfl rfl
  · refine k_aload_n C (pc2 := 12) (dkAt dkX7_troubleOfTicks 5 (q := (11, .aload_n 0, 1)) rfl) rfl rfl 0 rfl ?_
    refine k_iload_n C (pc2 := 13) (dkAt dkX7_troubleOfTicks 6 (q := (12, .iload_n 1, 1)) rfl) rfl rfl 1 rfl ?_
    obtain ⟨q10, e11, h⟩ := ob_inv h
    refine kc_V C (As := [.int x1]) (st2 := [.int q10]) (ct_X7_troubleOfRow l G sh xs hX x1 M q10 e11) (cl_X7_70 (hts_of C) ⟨Nat.le_of_ble_eq_true rfl, Nat.le_of_ble_eq_true rfl⟩ rfl rfl) hX.1 rfl rfl rfl rfl rfl (Nat.le_of_ble_eq_true rfl) (dkAt dkX7_troubleOfTicks 7 (q := (13, .invokevirtual 70, 3)) rfl) ⟨Nat.zero_le _, Nat.zero_le _⟩ (pc2 := 16) rfl rfl ?_
    refine k_goto C (tgt := 21) (dkAt dkX7_troubleOfTicks 8 (q := (16, .goto 5, 3)) rfl) (by decide) ?_
    refine k_istore_n C (pc2 := 22) (dkAt dkX7_troubleOfTicks 10 (q := (21, .istore_n 3, 1)) rfl) rfl rfl (by decide) (lv2 := [(3, .int q10), (0, rA G 0), (1, .int x1), (2, .int x2)]) rfl ?_
    refine k_iload_n C (pc2 := 23) (dkAt dkX7_troubleOfTicks 11 (q := (22, .iload_n 3, 1)) rfl) rfl rfl 0 rfl ?_
    refine k_if_eq C (tgt := 28) (pc2 := 26) (dkAt dkX7_troubleOfTicks 12 (q := (23, .ifCond .eq 5, 3)) rfl) (by decide) rfl h (fun h => ?_) (fun h => ?_)
    · refine k_aload_n C (pc2 := 29) (dkAt dkX7_troubleOfTicks 15 (q := (28, .aload_n 0, 1)) rfl) rfl rfl 1 rfl ?_
      refine kf_X7_42 C (pc2 := 32) (o := 0) (o2 := 50) hX.1 rfl (dkAt dkX7_troubleOfTicks 16 (q := (29, .getfield 42, 3)) rfl) rfl ?_
      refine k_iload_n C (pc2 := 33) (dkAt dkX7_troubleOfTicks 17 (q := (32, .iload_n 1, 1)) rfl) rfl rfl 2 rfl ?_
      refine k_aa12 C (pc2 := 34) (o := 50) (o2 := 53 + 2 * x1.toNatClampNeg) (nA := 8) hX.2.2.2.2.2.2.1 rfl (dkAt dkX7_troubleOfTicks 18 (q := (33, .aaload, 1)) rfl) rfl h (fun h hl12 => ?_)
      refine kf_X7_73 C (pc2 := 37) (o := 53 + 2 * x1.toNatClampNeg) (o2 := 0) ((hX.2.2.2.2.2.2.2.2.2 _ hl12).1) (dkAt dkX7_troubleOfTicks 19 (q := (34, .getfield 73, 3)) rfl) rfl ?_
      refine k_aload_n C (pc2 := 38) (dkAt dkX7_troubleOfTicks 20 (q := (37, .aload_n 0, 1)) rfl) rfl rfl 1 rfl ?_
      refine kf_X7_10 C (pc2 := 41) (o := 0) (o2 := 1) hX.1 rfl (dkAt dkX7_troubleOfTicks 21 (q := (38, .getfield 10, 3)) rfl) rfl ?_
      refine kf_X7_134 C (pc2 := 44) (o := 1) (o2 := 0) hX.2.1.1 (dkAt dkX7_troubleOfTicks 22 (q := (41, .getfield 134, 3)) rfl) rfl ?_
      refine k_icmp_ge C (tgt := 50) (pc2 := 47) (dkAt dkX7_troubleOfTicks 23 (q := (44, .if_icmp .ge 6, 3)) rfl) (by decide) rfl h (fun h => ?_) (fun h => ?_)
      · refine k_iconst C (pc2 := 51) (dkAt dkX7_troubleOfTicks 26 (q := (50, .iconst 0, 1)) rfl) rfl (v := 0) rfl ?_
        refine k_istore C (pc2 := 53) (dkAt dkX7_troubleOfTicks 27 (q := (51, .istore 4, 2)) rfl) rfl (by decide) (lv2 := [(4, .int 0), (3, .int q10), (0, rA G 0), (1, .int x1), (2, .int x2)]) rfl ?_
        refine k_lv [2, 3, 0] (lv2 := [(0, rA G 0), (1, .int x1), (4, .int 0)]) rfl ?_
        obtain ⟨t13, e14, hA, hB⟩ := obS_inv h
        refine kl_X7_troubleOfTicks_L53 C hX x1 M r t13 ?_ ?_ 1000 0 e14
        · intro et
          have h := hA _ et
          refine k_iconst C (pc2 := 104) (dkAt dkX7_troubleOfTicks 52 (q := (103, .iconst 0, 1)) rfl) rfl (v := 0) rfl ?_
          exact k_iret C (dkAt dkX7_troubleOfTicks 53 (q := (104, .ireturn, 1)) rfl) (Option.some.inj h) rfl rfl rfl
        · intro z et
          have h := hB _ et
          exact Option.some.inj h
      · refine k_bipush C (pc2 := 49) (dkAt dkX7_troubleOfTicks 24 (q := (47, .bipush (-2), 2)) rfl) rfl (v := (-2)) rfl ?_
        exact k_iret C (dkAt dkX7_troubleOfTicks 25 (q := (49, .ireturn, 1)) rfl) (Option.some.inj h) rfl rfl rfl
    · refine k_iload_n C (pc2 := 27) (dkAt dkX7_troubleOfTicks 13 (q := (26, .iload_n 3, 1)) rfl) rfl rfl 0 rfl ?_
      exact k_iret C (dkAt dkX7_troubleOfTicks 14 (q := (27, .ireturn, 1)) rfl) (Option.some.inj h) rfl rfl rfl
set_option maxRecDepth 100000 in
set_option maxHeartbeats 4000000 in
theorem kl_X7_meant_L35 {p : Program} {l : Launch} {e : Env} {s : State} {m : MethodId} {args : Array Value} {below : List Frame} {meth : Method} {c : Code} {G : GG} {sh : Sh} {xs : List va_E} {Q : State → Prop} (C : Cx p s m c args meth G RX7 cX7_meant 6 (some .int)) (hX : isX sh) (x1 : Int32) (x2 : Int32) (M : Mm) (y4 : Int32) (hcont : KW p l e rm_X7_meant s m args below meth c G 6 Q sh xs 0 0 M 87 [(4, .int y4)] []) : ∀ (n : Nat) (x4 : Int32) (x5 : Int32), f_X7_meant_L35 x1 x2 M n x4 x5 = some y4 → KW p l e rm_X7_meant s m args below meth c G 6 Q sh xs 0 0 M 35 [(0, rA G 0), (1, .int x1), (2, .int x2), (4, .int x4), (5, .int x5)] [] := by
  intro n
  induction n with
  | zero =>
    intro x4 x5 h
    cases h
  | succ n ih =>
    intro x4 x5 h
    unfold f_X7_meant_L35 at h
    refine k_iload C (pc2 := 37) (dkAt dkX7_meant 21 (q := (35, .iload 5, 2)) rfl) rfl 4 rfl ?_
    refine k_iconst C (pc2 := 38) (dkAt dkX7_meant 22 (q := (37, .iconst 5, 1)) rfl) rfl (v := 5) rfl ?_
    refine k_icmp_gt C (tgt := 87) (pc2 := 41) (dkAt dkX7_meant 23 (q := (38, .if_icmp .gt 49, 3)) rfl) (by decide) rfl h (fun h => ?_) (fun h => ?_)
    · refine k_lv [3] (lv2 := [(4, .int x4)]) rfl ?_
      cases h
      exact hcont
    · refine k_aload_n C (pc2 := 42) (dkAt dkX7_meant 24 (q := (41, .aload_n 0, 1)) rfl) rfl rfl 0 rfl ?_
      refine kf_X7_22 C (pc2 := 45) (o := 0) (o2 := 21) hX.1 rfl (dkAt dkX7_meant 25 (q := (42, .getfield 22, 3)) rfl) rfl ?_
      refine k_aload_n C (pc2 := 46) (dkAt dkX7_meant 26 (q := (45, .aload_n 0, 1)) rfl) rfl rfl 0 rfl ?_
      refine kf_X7_10 C (pc2 := 49) (o := 0) (o2 := 1) hX.1 rfl (dkAt dkX7_meant 27 (q := (46, .getfield 10, 3)) rfl) rfl ?_
      refine k_aload_n C (pc2 := 50) (dkAt dkX7_meant 28 (q := (49, .aload_n 0, 1)) rfl) rfl rfl 0 rfl ?_
      refine kf_X7_10 C (pc2 := 53) (o := 0) (o2 := 1) hX.1 rfl (dkAt dkX7_meant 29 (q := (50, .getfield 10, 3)) rfl) rfl ?_
      refine kf_X7_122 C (pc2 := 56) (o := 1) (o2 := 2) hX.2.1.1 rfl (dkAt dkX7_meant 30 (q := (53, .getfield 122, 3)) rfl) rfl ?_
      refine k_iload_n C (pc2 := 57) (dkAt dkX7_meant 31 (q := (56, .iload_n 2, 1)) rfl) rfl rfl 2 rfl ?_
      refine k_aa11 C (pc2 := 58) (o := 2) (o2 := 3 + x2.toNatClampNeg) (nA := 8) hX.2.1.2.1 rfl (dkAt dkX7_meant 32 (q := (57, .aaload, 1)) rfl) rfl h (fun h hl5 => ?_)
      refine k_iload C (pc2 := 60) (dkAt dkX7_meant 33 (q := (58, .iload 5, 2)) rfl) rfl 4 rfl ?_
      refine k_aload_n C (pc2 := 61) (dkAt dkX7_meant 34 (q := (60, .aload_n 0, 1)) rfl) rfl rfl 0 rfl ?_
      refine kf_X7_42 C (pc2 := 64) (o := 0) (o2 := 50) hX.1 rfl (dkAt dkX7_meant 35 (q := (61, .getfield 42, 3)) rfl) rfl ?_
      refine k_iload_n C (pc2 := 65) (dkAt dkX7_meant 36 (q := (64, .iload_n 1, 1)) rfl) rfl rfl 1 rfl ?_
      refine k_aa12 C (pc2 := 66) (o := 50) (o2 := 53 + 2 * x1.toNatClampNeg) (nA := 8) hX.2.2.2.2.2.2.1 rfl (dkAt dkX7_meant 37 (q := (65, .aaload, 1)) rfl) rfl h (fun h hl6 => ?_)
      obtain ⟨q7, e8, h⟩ := ob_inv h
      refine kc_V C (As := [rA G 1, rA G (3 + x2.toNatClampNeg), .int x5, rA G (53 + 2 * x1.toNatClampNeg)]) (st2 := [.int q7]) (ct_X6_ticksSo l G sh xs 21 hX.2.2.2.1 1 hX.2.1 (3 + x2.toNatClampNeg) (hX.2.1.2.2 _ hl5) x5 (53 + 2 * x1.toNatClampNeg) (hX.2.2.2.2.2.2.2.2.2 _ hl6) M q7 e8) (cl_X7_324 (hts_of C) ⟨Nat.le_of_ble_eq_true rfl, Nat.le_of_ble_eq_true rfl⟩ rfl rfl) hX.2.2.2.1.1 rfl rfl rfl rfl rfl (Nat.le_of_ble_eq_true rfl) (dkAt dkX7_meant 38 (q := (66, .invokevirtual 324, 3)) rfl) ⟨Nat.zero_le _, Nat.zero_le _⟩ (pc2 := 69) rfl rfl ?_
      refine k_if_eq C (tgt := 81) (pc2 := 72) (dkAt dkX7_meant 39 (q := (69, .ifCond .eq 12, 3)) rfl) (by decide) rfl h (fun h => ?_) (fun h => ?_)
      · refine kb_iinc C (pc2 := 84) (dkAt dkX7_meant 46 (q := (81, .iinc 5 1, 3)) rfl) rfl (j := 4) rfl (v := x5 + 1) rfl (by decide) (lv2 := fun v9 => [(5, .int v9), (0, rA G 0), (1, .int x1), (2, .int x2), (4, .int x4)]) (fun _ => rfl) h (fun v9 h => ?_)
        refine k_goto C (tgt := 35) (dkAt dkX7_meant 47 (q := (84, .goto (-49), 3)) rfl) (by decide) ?_
        refine k_lv [1, 2, 3, 4, 0] (lv2 := [(0, rA G 0), (1, .int x1), (2, .int x2), (4, .int x4), (5, .int v9)]) rfl ?_
        exact ih x4 v9 h
      · refine k_iload C (pc2 := 74) (dkAt dkX7_meant 40 (q := (72, .iload 4, 2)) rfl) rfl 3 rfl ?_
        refine k_iconst C (pc2 := 75) (dkAt dkX7_meant 41 (q := (74, .iconst 1, 1)) rfl) rfl (v := 1) rfl ?_
        refine k_iload C (pc2 := 77) (dkAt dkX7_meant 42 (q := (75, .iload 5, 2)) rfl) rfl 4 rfl ?_
        refine k_ishl C (pc2 := 78) (dkAt dkX7_meant 43 (q := (77, .ishl, 1)) rfl) rfl ?_
        refine k_ior C (pc2 := 79) (dkAt dkX7_meant 44 (q := (78, .ior, 1)) rfl) rfl ?_
        refine kb_istore C (pc2 := 81) (dkAt dkX7_meant 45 (q := (79, .istore 4, 2)) rfl) rfl (by decide) (lv2 := fun v10 => [(4, .int v10), (0, rA G 0), (1, .int x1), (2, .int x2), (5, .int x5)]) (fun _ => rfl) h (fun v10 h => ?_)
        refine kb_iinc C (pc2 := 84) (dkAt dkX7_meant 46 (q := (81, .iinc 5 1, 3)) rfl) rfl (j := 4) rfl (v := x5 + 1) rfl (by decide) (lv2 := fun v11 => [(5, .int v11), (4, .int v10), (0, rA G 0), (1, .int x1), (2, .int x2)]) (fun _ => rfl) h (fun v11 h => ?_)
        refine k_goto C (tgt := 35) (dkAt dkX7_meant 47 (q := (84, .goto (-49), 3)) rfl) (by decide) ?_
        refine k_lv [2, 3, 4, 1, 0] (lv2 := [(0, rA G 0), (1, .int x1), (2, .int x2), (4, .int v10), (5, .int v11)]) rfl ?_
        exact ih v10 v11 h
set_option maxRecDepth 100000 in
set_option maxHeartbeats 4000000 in
theorem ct_X7_meant (l : Launch) (G : GG) (sh : Sh) (xs : List va_E) (hX : isX sh) (x1 : Int32) (x2 : Int32) (M : Mm) (r : Mm × Int32) (h : f_X7_meant x1 x2 M = some r) : Ct l yX7_meant cX7_meant 6 (some .int) rm_X7_meant G [rA G 0, .int x1, .int x2] sh M xs (some (.int r.2)) sh r.1 xs 0 0 := by
  refine ct_of (by decide) (Nat.le_of_ble_eq_true rfl) ?_
  intro p e s m args below meth c hnm C
  refine k_lv [0, 1, 2] (lv2 := [(0, rA G 0), (1, .int x1), (2, .int x2)]) rfl ?_
  unfold f_X7_meant at h
  refine k_aload_n C (pc2 := 1) (dkAt dkX7_meant 0 (q := (0, .aload_n 0, 1)) rfl) rfl rfl 0 rfl ?_
  refine k_iload_n C (pc2 := 2) (dkAt dkX7_meant 1 (q := (1, .iload_n 1, 1)) rfl) rfl rfl 1 rfl ?_
  refine k_iload_n C (pc2 := 3) (dkAt dkX7_meant 2 (q := (2, .iload_n 2, 1)) rfl) rfl rfl 2 rfl ?_
  obtain ⟨q1, e2, h⟩ := ob_inv h
  refine kc_V C (As := [.int x1, .int x2]) (st2 := [.int q1]) (ct_X7_troubleOfTicks l G sh xs hX x1 x2 M q1 e2) (cl_X7_318 (hts_of C) ⟨Nat.le_of_ble_eq_true rfl, Nat.le_of_ble_eq_true rfl⟩ rfl rfl) hX.1 rfl rfl rfl rfl rfl (Nat.le_of_ble_eq_true rfl) (dkAt dkX7_meant 3 (q := (3, .invokevirtual 318, 3)) rfl) ⟨Nat.zero_le _, Nat.zero_le _⟩ (pc2 := 6) rfl rfl ?_
  refine k_istore_n C (pc2 := 7) (dkAt dkX7_meant 4 (q := (6, .istore_n 3, 1)) rfl) rfl rfl (by decide) (lv2 := [(3, .int q1), (0, rA G 0), (1, .int x1), (2, .int x2)]) rfl ?_
  refine k_iload_n C (pc2 := 8) (dkAt dkX7_meant 5 (q := (7, .iload_n 3, 1)) rfl) rfl rfl 0 rfl ?_
  refine k_if_eq C (tgt := 17) (pc2 := 11) (dkAt dkX7_meant 6 (q := (8, .ifCond .eq 9, 3)) rfl) (by decide) rfl h (fun h => ?_) (fun h => ?_)
  · refine k_aload_n C (pc2 := 18) (dkAt dkX7_meant 11 (q := (17, .aload_n 0, 1)) rfl) rfl rfl 1 rfl ?_
    refine kf_X7_22 C (pc2 := 21) (o := 0) (o2 := 21) hX.1 rfl (dkAt dkX7_meant 12 (q := (18, .getfield 22, 3)) rfl) rfl ?_
    refine k_aload_n C (pc2 := 22) (dkAt dkX7_meant 13 (q := (21, .aload_n 0, 1)) rfl) rfl rfl 1 rfl ?_
    refine kf_X7_10 C (pc2 := 25) (o := 0) (o2 := 1) hX.1 rfl (dkAt dkX7_meant 14 (q := (22, .getfield 10, 3)) rfl) rfl ?_
    refine k_iload_n C (pc2 := 26) (dkAt dkX7_meant 15 (q := (25, .iload_n 2, 1)) rfl) rfl rfl 3 rfl ?_
    obtain ⟨q3, e4, h⟩ := ob_inv h
    refine kc_V C (As := [rA G 1, .int x2]) (st2 := []) (ct_X6_reckonAheadOf l G sh xs 21 hX.2.2.2.1 1 hX.2.1 x2 M q3 e4) (cl_X7_321 (hts_of C) ⟨Nat.le_of_ble_eq_true rfl, Nat.le_of_ble_eq_true rfl⟩ rfl rfl) hX.2.2.2.1.1 rfl rfl rfl rfl rfl (Nat.le_of_ble_eq_true rfl) (dkAt dkX7_meant 16 (q := (26, .invokevirtual 321, 3)) rfl) ⟨Nat.zero_le _, Nat.zero_le _⟩ (pc2 := 29) rfl rfl ?_
    refine k_iconst C (pc2 := 30) (dkAt dkX7_meant 17 (q := (29, .iconst 0, 1)) rfl) rfl (v := 0) rfl ?_
    refine k_istore C (pc2 := 32) (dkAt dkX7_meant 18 (q := (30, .istore 4, 2)) rfl) rfl (by decide) (lv2 := [(4, .int 0), (3, .int q1), (0, rA G 0), (1, .int x1), (2, .int x2)]) rfl ?_
    refine k_iconst C (pc2 := 33) (dkAt dkX7_meant 19 (q := (32, .iconst 0, 1)) rfl) rfl (v := 0) rfl ?_
    refine k_istore C (pc2 := 35) (dkAt dkX7_meant 20 (q := (33, .istore 5, 2)) rfl) rfl (by decide) (lv2 := [(5, .int 0), (4, .int 0), (3, .int q1), (0, rA G 0), (1, .int x1), (2, .int x2)]) rfl ?_
    refine k_lv [3, 4, 5, 1, 0] (lv2 := [(0, rA G 0), (1, .int x1), (2, .int x2), (4, .int 0), (5, .int 0)]) rfl ?_
    obtain ⟨v14, e13, h⟩ := ob_inv h
    refine kl_X7_meant_L35 C hX x1 x2 q3 v14 ?_ 1000 0 0 e13
    refine k_iload C (pc2 := 89) (dkAt dkX7_meant 48 (q := (87, .iload 4, 2)) rfl) rfl 0 rfl ?_
    exact k_iret C (dkAt dkX7_meant 49 (q := (89, .ireturn, 1)) rfl) (pe2 (Option.some.inj h)) rfl (pe1 (Option.some.inj h)) rfl
  · refine k_aload_n C (pc2 := 12) (dkAt dkX7_meant 7 (q := (11, .aload_n 0, 1)) rfl) rfl rfl 1 rfl ?_
    refine k_iload_n C (pc2 := 13) (dkAt dkX7_meant 8 (q := (12, .iload_n 3, 1)) rfl) rfl rfl 0 rfl ?_
    obtain ⟨q15, e16, h⟩ := ob_inv h
    refine kc_V C (As := [.int q1]) (st2 := [.int q15.2]) (ct_X7_refuse l G sh xs hX q1 M q15 e16) (cl_X7_62 (hts_of C) ⟨Nat.le_of_ble_eq_true rfl, Nat.le_of_ble_eq_true rfl⟩ rfl rfl) hX.1 rfl rfl rfl rfl rfl (Nat.le_of_ble_eq_true rfl) (dkAt dkX7_meant 9 (q := (13, .invokevirtual 62, 3)) rfl) ⟨Nat.zero_le _, Nat.zero_le _⟩ (pc2 := 16) rfl rfl ?_
    exact k_iret C (dkAt dkX7_meant 10 (q := (16, .ireturn, 1)) rfl) (pe2 (Option.some.inj h)) rfl (pe1 (Option.some.inj h)) rfl
set_option maxRecDepth 100000 in
set_option maxHeartbeats 4000000 in
theorem kl_X7_freed_L37 {p : Program} {l : Launch} {e : Env} {s : State} {m : MethodId} {args : Array Value} {below : List Frame} {meth : Method} {c : Code} {G : GG} {sh : Sh} {xs : List va_E} {Q : State → Prop} (C : Cx p s m c args meth G RX7 cX7_freed 9 (some .int)) (hX : isX sh) (x1 : Int32) (x4 : Int32) (M : Mm) (y5 : Int32) (hcont : KW p l e rm_X7_freed s m args below meth c G 9 Q sh xs 0 0 M 105 [(5, .int y5)] []) : ∀ (n : Nat) (x5 : Int32) (x6 : Int32), f_X7_freed_L37 x1 x4 M n x5 x6 = some y5 → KW p l e rm_X7_freed s m args below meth c G 9 Q sh xs 0 0 M 37 [(0, rA G 0), (1, .int x1), (4, .int x4), (5, .int x5), (6, .int x6)] [] := by
  intro n
  induction n with
  | zero =>
    intro x5 x6 h
    cases h
  | succ n ih =>
    intro x5 x6 h
    unfold f_X7_freed_L37 at h
    refine k_iload C (pc2 := 39) (dkAt dkX7_freed 22 (q := (37, .iload 6, 2)) rfl) rfl 4 rfl ?_
    refine k_aload_n C (pc2 := 40) (dkAt dkX7_freed 23 (q := (39, .aload_n 0, 1)) rfl) rfl rfl 0 rfl ?_
    refine kf_X7_10 C (pc2 := 43) (o := 0) (o2 := 1) hX.1 rfl (dkAt dkX7_freed 24 (q := (40, .getfield 10, 3)) rfl) rfl ?_
    refine kf_X7_134 C (pc2 := 46) (o := 1) (o2 := 0) hX.2.1.1 (dkAt dkX7_freed 25 (q := (43, .getfield 134, 3)) rfl) rfl ?_
    refine k_icmp_ge C (tgt := 105) (pc2 := 49) (dkAt dkX7_freed 26 (q := (46, .if_icmp .ge 59, 3)) rfl) (by decide) rfl h (fun h => ?_) (fun h => ?_)
    · refine k_lv [3] (lv2 := [(5, .int x5)]) rfl ?_
      cases h
      exact hcont
    · refine k_aload_n C (pc2 := 50) (dkAt dkX7_freed 27 (q := (49, .aload_n 0, 1)) rfl) rfl rfl 0 rfl ?_
      refine kf_X7_42 C (pc2 := 53) (o := 0) (o2 := 50) hX.1 rfl (dkAt dkX7_freed 28 (q := (50, .getfield 42, 3)) rfl) rfl ?_
      refine k_iload_n C (pc2 := 54) (dkAt dkX7_freed 29 (q := (53, .iload_n 1, 1)) rfl) rfl rfl 1 rfl ?_
      refine k_aa12 C (pc2 := 55) (o := 50) (o2 := 53 + 2 * x1.toNatClampNeg) (nA := 8) hX.2.2.2.2.2.2.1 rfl (dkAt dkX7_freed 30 (q := (54, .aaload, 1)) rfl) rfl h (fun h hl5 => ?_)
      refine k_iload C (pc2 := 57) (dkAt dkX7_freed 31 (q := (55, .iload 6, 2)) rfl) rfl 4 rfl ?_
      obtain ⟨q6, e7, h⟩ := ob_inv h
      refine kc_V C (As := [.int x6]) (st2 := [.long q6]) (ct_X4_elementAt l G sh xs (53 + 2 * x1.toNatClampNeg) (hX.2.2.2.2.2.2.2.2.2 _ hl5) x6 M q6 e7) (cl_X7_101 (hts_of C) ⟨Nat.le_of_ble_eq_true rfl, Nat.le_of_ble_eq_true rfl⟩ rfl rfl) ((hX.2.2.2.2.2.2.2.2.2 _ hl5).1) rfl rfl rfl rfl rfl (Nat.le_of_ble_eq_true rfl) (dkAt dkX7_freed 32 (q := (57, .invokevirtual 101, 3)) rfl) ⟨Nat.zero_le _, Nat.zero_le _⟩ (pc2 := 60) rfl rfl ?_
      refine k_lstore C (pc2 := 62) (dkAt dkX7_freed 33 (q := (60, .lstore 7, 2)) rfl) rfl (by decide) (lv2 := [(7, .long q6), (0, rA G 0), (1, .int x1), (4, .int x4), (5, .int x5), (6, .int x6)]) rfl ?_
      refine k_lload C (pc2 := 64) (dkAt dkX7_freed 34 (q := (62, .lload 7, 2)) rfl) rfl 0 rfl ?_
      refine k_ldc2 C (pc2 := 67) (dkAt dkX7_freed 35 (q := (64, .ldc2_w 328, 3)) rfl) rfl (v := 2) tL_X7_328 ?_
      refine k_lcmp C (pc2 := 68) (dkAt dkX7_freed 36 (q := (67, .lcmp, 1)) rfl) rfl ?_
      refine k_if_ne C (tgt := 77) (pc2 := 71) (dkAt dkX7_freed 37 (q := (68, .ifCond .ne 9, 3)) rfl) (by decide) rfl h (fun h => ?_) (fun h => ?_)
      · refine k_lload C (pc2 := 79) (dkAt dkX7_freed 41 (q := (77, .lload 7, 2)) rfl) rfl 0 rfl ?_
        refine k_lconst C (pc2 := 80) (dkAt dkX7_freed 42 (q := (79, .lconst 1, 1)) rfl) rfl (v := 1) rfl ?_
        refine k_lcmp C (pc2 := 81) (dkAt dkX7_freed 43 (q := (80, .lcmp, 1)) rfl) rfl ?_
        refine k_if_ne C (tgt := 99) (pc2 := 84) (dkAt dkX7_freed 44 (q := (81, .ifCond .ne 18, 3)) rfl) (by decide) rfl h (fun h => ?_) (fun h => ?_)
        · refine kb_iinc C (pc2 := 102) (dkAt dkX7_freed 54 (q := (99, .iinc 6 1, 3)) rfl) rfl (j := 5) rfl (v := x6 + 1) rfl (by decide) (lv2 := fun v8 => [(6, .int v8), (7, .long q6), (0, rA G 0), (1, .int x1), (4, .int x4), (5, .int x5)]) (fun _ => rfl) h (fun v8 h => ?_)
          refine k_goto C (tgt := 37) (dkAt dkX7_freed 55 (q := (102, .goto (-65), 3)) rfl) (by decide) ?_
          refine k_lv [2, 3, 4, 5, 0] (lv2 := [(0, rA G 0), (1, .int x1), (4, .int x4), (5, .int x5), (6, .int v8)]) rfl ?_
          exact ih x5 v8 h
        · refine k_iload C (pc2 := 86) (dkAt dkX7_freed 45 (q := (84, .iload 4, 2)) rfl) rfl 3 rfl ?_
          refine k_iconst C (pc2 := 87) (dkAt dkX7_freed 46 (q := (86, .iconst 2, 1)) rfl) rfl (v := 2) rfl ?_
          refine k_icmp_ne C (tgt := 99) (pc2 := 90) (dkAt dkX7_freed 47 (q := (87, .if_icmp .ne 12, 3)) rfl) (by decide) rfl h (fun h => ?_) (fun h => ?_)
          · refine kb_iinc C (pc2 := 102) (dkAt dkX7_freed 54 (q := (99, .iinc 6 1, 3)) rfl) rfl (j := 5) rfl (v := x6 + 1) rfl (by decide) (lv2 := fun v9 => [(6, .int v9), (7, .long q6), (0, rA G 0), (1, .int x1), (4, .int x4), (5, .int x5)]) (fun _ => rfl) h (fun v9 h => ?_)
            refine k_goto C (tgt := 37) (dkAt dkX7_freed 55 (q := (102, .goto (-65), 3)) rfl) (by decide) ?_
            refine k_lv [2, 3, 4, 5, 0] (lv2 := [(0, rA G 0), (1, .int x1), (4, .int x4), (5, .int x5), (6, .int v9)]) rfl ?_
            exact ih x5 v9 h
          · refine k_iload C (pc2 := 92) (dkAt dkX7_freed 48 (q := (90, .iload 5, 2)) rfl) rfl 4 rfl ?_
            refine k_iconst C (pc2 := 93) (dkAt dkX7_freed 49 (q := (92, .iconst 1, 1)) rfl) rfl (v := 1) rfl ?_
            refine k_iload C (pc2 := 95) (dkAt dkX7_freed 50 (q := (93, .iload 6, 2)) rfl) rfl 5 rfl ?_
            refine k_ishl C (pc2 := 96) (dkAt dkX7_freed 51 (q := (95, .ishl, 1)) rfl) rfl ?_
            refine k_ior C (pc2 := 97) (dkAt dkX7_freed 52 (q := (96, .ior, 1)) rfl) rfl ?_
            refine kb_istore C (pc2 := 99) (dkAt dkX7_freed 53 (q := (97, .istore 5, 2)) rfl) rfl (by decide) (lv2 := fun v10 => [(5, .int v10), (7, .long q6), (0, rA G 0), (1, .int x1), (4, .int x4), (6, .int x6)]) (fun _ => rfl) h (fun v10 h => ?_)
            refine kb_iinc C (pc2 := 102) (dkAt dkX7_freed 54 (q := (99, .iinc 6 1, 3)) rfl) rfl (j := 5) rfl (v := x6 + 1) rfl (by decide) (lv2 := fun v11 => [(6, .int v11), (5, .int v10), (7, .long q6), (0, rA G 0), (1, .int x1), (4, .int x4)]) (fun _ => rfl) h (fun v11 h => ?_)
            refine k_goto C (tgt := 37) (dkAt dkX7_freed 55 (q := (102, .goto (-65), 3)) rfl) (by decide) ?_
            refine k_lv [3, 4, 5, 1, 0] (lv2 := [(0, rA G 0), (1, .int x1), (4, .int x4), (5, .int v10), (6, .int v11)]) rfl ?_
            exact ih v10 v11 h
      · refine k_iload C (pc2 := 73) (dkAt dkX7_freed 38 (q := (71, .iload 4, 2)) rfl) rfl 3 rfl ?_
        refine k_iconst C (pc2 := 74) (dkAt dkX7_freed 39 (q := (73, .iconst 1, 1)) rfl) rfl (v := 1) rfl ?_
        refine k_icmp_ne C (tgt := 90) (pc2 := 77) (dkAt dkX7_freed 40 (q := (74, .if_icmp .ne 16, 3)) rfl) (by decide) rfl h (fun h => ?_) (fun h => ?_)
        · refine k_iload C (pc2 := 92) (dkAt dkX7_freed 48 (q := (90, .iload 5, 2)) rfl) rfl 4 rfl ?_
          refine k_iconst C (pc2 := 93) (dkAt dkX7_freed 49 (q := (92, .iconst 1, 1)) rfl) rfl (v := 1) rfl ?_
          refine k_iload C (pc2 := 95) (dkAt dkX7_freed 50 (q := (93, .iload 6, 2)) rfl) rfl 5 rfl ?_
          refine k_ishl C (pc2 := 96) (dkAt dkX7_freed 51 (q := (95, .ishl, 1)) rfl) rfl ?_
          refine k_ior C (pc2 := 97) (dkAt dkX7_freed 52 (q := (96, .ior, 1)) rfl) rfl ?_
          refine kb_istore C (pc2 := 99) (dkAt dkX7_freed 53 (q := (97, .istore 5, 2)) rfl) rfl (by decide) (lv2 := fun v12 => [(5, .int v12), (7, .long q6), (0, rA G 0), (1, .int x1), (4, .int x4), (6, .int x6)]) (fun _ => rfl) h (fun v12 h => ?_)
          refine kb_iinc C (pc2 := 102) (dkAt dkX7_freed 54 (q := (99, .iinc 6 1, 3)) rfl) rfl (j := 5) rfl (v := x6 + 1) rfl (by decide) (lv2 := fun v13 => [(6, .int v13), (5, .int v12), (7, .long q6), (0, rA G 0), (1, .int x1), (4, .int x4)]) (fun _ => rfl) h (fun v13 h => ?_)
          refine k_goto C (tgt := 37) (dkAt dkX7_freed 55 (q := (102, .goto (-65), 3)) rfl) (by decide) ?_
          refine k_lv [3, 4, 5, 1, 0] (lv2 := [(0, rA G 0), (1, .int x1), (4, .int x4), (5, .int v12), (6, .int v13)]) rfl ?_
          exact ih v12 v13 h
        · refine k_lload C (pc2 := 79) (dkAt dkX7_freed 41 (q := (77, .lload 7, 2)) rfl) rfl 0 rfl ?_
          refine k_lconst C (pc2 := 80) (dkAt dkX7_freed 42 (q := (79, .lconst 1, 1)) rfl) rfl (v := 1) rfl ?_
          refine k_lcmp C (pc2 := 81) (dkAt dkX7_freed 43 (q := (80, .lcmp, 1)) rfl) rfl ?_
          refine k_if_ne C (tgt := 99) (pc2 := 84) (dkAt dkX7_freed 44 (q := (81, .ifCond .ne 18, 3)) rfl) (by decide) rfl h (fun h => ?_) (fun h => ?_)
          · refine kb_iinc C (pc2 := 102) (dkAt dkX7_freed 54 (q := (99, .iinc 6 1, 3)) rfl) rfl (j := 5) rfl (v := x6 + 1) rfl (by decide) (lv2 := fun v14 => [(6, .int v14), (7, .long q6), (0, rA G 0), (1, .int x1), (4, .int x4), (5, .int x5)]) (fun _ => rfl) h (fun v14 h => ?_)
            refine k_goto C (tgt := 37) (dkAt dkX7_freed 55 (q := (102, .goto (-65), 3)) rfl) (by decide) ?_
            refine k_lv [2, 3, 4, 5, 0] (lv2 := [(0, rA G 0), (1, .int x1), (4, .int x4), (5, .int x5), (6, .int v14)]) rfl ?_
            exact ih x5 v14 h
          · refine k_iload C (pc2 := 86) (dkAt dkX7_freed 45 (q := (84, .iload 4, 2)) rfl) rfl 3 rfl ?_
            refine k_iconst C (pc2 := 87) (dkAt dkX7_freed 46 (q := (86, .iconst 2, 1)) rfl) rfl (v := 2) rfl ?_
            refine k_icmp_ne C (tgt := 99) (pc2 := 90) (dkAt dkX7_freed 47 (q := (87, .if_icmp .ne 12, 3)) rfl) (by decide) rfl h (fun h => ?_) (fun h => ?_)
            · refine kb_iinc C (pc2 := 102) (dkAt dkX7_freed 54 (q := (99, .iinc 6 1, 3)) rfl) rfl (j := 5) rfl (v := x6 + 1) rfl (by decide) (lv2 := fun v15 => [(6, .int v15), (7, .long q6), (0, rA G 0), (1, .int x1), (4, .int x4), (5, .int x5)]) (fun _ => rfl) h (fun v15 h => ?_)
              refine k_goto C (tgt := 37) (dkAt dkX7_freed 55 (q := (102, .goto (-65), 3)) rfl) (by decide) ?_
              refine k_lv [2, 3, 4, 5, 0] (lv2 := [(0, rA G 0), (1, .int x1), (4, .int x4), (5, .int x5), (6, .int v15)]) rfl ?_
              exact ih x5 v15 h
            · refine k_iload C (pc2 := 92) (dkAt dkX7_freed 48 (q := (90, .iload 5, 2)) rfl) rfl 4 rfl ?_
              refine k_iconst C (pc2 := 93) (dkAt dkX7_freed 49 (q := (92, .iconst 1, 1)) rfl) rfl (v := 1) rfl ?_
              refine k_iload C (pc2 := 95) (dkAt dkX7_freed 50 (q := (93, .iload 6, 2)) rfl) rfl 5 rfl ?_
              refine k_ishl C (pc2 := 96) (dkAt dkX7_freed 51 (q := (95, .ishl, 1)) rfl) rfl ?_
              refine k_ior C (pc2 := 97) (dkAt dkX7_freed 52 (q := (96, .ior, 1)) rfl) rfl ?_
              refine kb_istore C (pc2 := 99) (dkAt dkX7_freed 53 (q := (97, .istore 5, 2)) rfl) rfl (by decide) (lv2 := fun v16 => [(5, .int v16), (7, .long q6), (0, rA G 0), (1, .int x1), (4, .int x4), (6, .int x6)]) (fun _ => rfl) h (fun v16 h => ?_)
              refine kb_iinc C (pc2 := 102) (dkAt dkX7_freed 54 (q := (99, .iinc 6 1, 3)) rfl) rfl (j := 5) rfl (v := x6 + 1) rfl (by decide) (lv2 := fun v17 => [(6, .int v17), (5, .int v16), (7, .long q6), (0, rA G 0), (1, .int x1), (4, .int x4)]) (fun _ => rfl) h (fun v17 h => ?_)
              refine k_goto C (tgt := 37) (dkAt dkX7_freed 55 (q := (102, .goto (-65), 3)) rfl) (by decide) ?_
              refine k_lv [3, 4, 5, 1, 0] (lv2 := [(0, rA G 0), (1, .int x1), (4, .int x4), (5, .int v16), (6, .int v17)]) rfl ?_
              exact ih v16 v17 h
set_option maxRecDepth 100000 in
set_option maxHeartbeats 4000000 in
theorem ct_X7_freed (l : Launch) (G : GG) (sh : Sh) (xs : List va_E) (hX : isX sh) (x1 : Int32) (x2 : Int32) (M : Mm) (r : Mm × Int32) (h : f_X7_freed x1 x2 M = some r) : Ct l yX7_freed cX7_freed 9 (some .int) rm_X7_freed G [rA G 0, .int x1, .int x2] sh M xs (some (.int r.2)) sh r.1 xs 0 0 := by
  refine ct_of (by decide) (Nat.le_of_ble_eq_true rfl) ?_
  intro p e s m args below meth c hnm C
  refine k_lv [0, 1, 2] (lv2 := [(0, rA G 0), (1, .int x1), (2, .int x2)]) rfl ?_
  unfold f_X7_freed at h
  refine k_aload_n C (pc2 := 1) (dkAt dkX7_freed 0 (q := (0, .aload_n 0, 1)) rfl) rfl rfl 0 rfl ?_
  refine k_iload_n C (pc2 := 2) (dkAt dkX7_freed 1 (q := (1, .iload_n 1, 1)) rfl) rfl rfl 1 rfl ?_
  refine k_iload_n C (pc2 := 3) (dkAt dkX7_freed 2 (q := (2, .iload_n 2, 1)) rfl) rfl rfl 2 rfl ?_
  obtain ⟨q1, e2, h⟩ := ob_inv h
  refine kc_V C (As := [.int x1, .int x2]) (st2 := [.int q1]) (ct_X7_troubleOfTicks l G sh xs hX x1 x2 M q1 e2) (cl_X7_318 (hts_of C) ⟨Nat.le_of_ble_eq_true rfl, Nat.le_of_ble_eq_true rfl⟩ rfl rfl) hX.1 rfl rfl rfl rfl rfl (Nat.le_of_ble_eq_true rfl) (dkAt dkX7_freed 3 (q := (3, .invokevirtual 318, 3)) rfl) ⟨Nat.zero_le _, Nat.zero_le _⟩ (pc2 := 6) rfl rfl ?_
  refine k_istore_n C (pc2 := 7) (dkAt dkX7_freed 4 (q := (6, .istore_n 3, 1)) rfl) rfl rfl (by decide) (lv2 := [(3, .int q1), (0, rA G 0), (1, .int x1), (2, .int x2)]) rfl ?_
  refine k_iload_n C (pc2 := 8) (dkAt dkX7_freed 5 (q := (7, .iload_n 3, 1)) rfl) rfl rfl 0 rfl ?_
  refine k_if_eq C (tgt := 17) (pc2 := 11) (dkAt dkX7_freed 6 (q := (8, .ifCond .eq 9, 3)) rfl) (by decide) rfl h (fun h => ?_) (fun h => ?_)
  · refine k_aload_n C (pc2 := 18) (dkAt dkX7_freed 11 (q := (17, .aload_n 0, 1)) rfl) rfl rfl 1 rfl ?_
    refine kf_X7_10 C (pc2 := 21) (o := 0) (o2 := 1) hX.1 rfl (dkAt dkX7_freed 12 (q := (18, .getfield 10, 3)) rfl) rfl ?_
    refine kf_X7_122 C (pc2 := 24) (o := 1) (o2 := 2) hX.2.1.1 rfl (dkAt dkX7_freed 13 (q := (21, .getfield 122, 3)) rfl) rfl ?_
    refine k_iload_n C (pc2 := 25) (dkAt dkX7_freed 14 (q := (24, .iload_n 2, 1)) rfl) rfl rfl 3 rfl ?_
    refine k_aa11 C (pc2 := 26) (o := 2) (o2 := 3 + x2.toNatClampNeg) (nA := 8) hX.2.1.2.1 rfl (dkAt dkX7_freed 15 (q := (25, .aaload, 1)) rfl) rfl h (fun h hl3 => ?_)
    refine kf_X7_194 C (pc2 := 29) (o := 3 + x2.toNatClampNeg) (o2 := 0) (hX.2.1.2.2 _ hl3) (dkAt dkX7_freed 16 (q := (26, .getfield 194, 3)) rfl) rfl ?_
    refine kb_istore C (pc2 := 31) (dkAt dkX7_freed 17 (q := (29, .istore 4, 2)) rfl) rfl (by decide) (lv2 := fun v4 => [(4, .int v4), (3, .int q1), (0, rA G 0), (1, .int x1), (2, .int x2)]) (fun _ => rfl) h (fun v4 h => ?_)
    refine k_iconst C (pc2 := 32) (dkAt dkX7_freed 18 (q := (31, .iconst 0, 1)) rfl) rfl (v := 0) rfl ?_
    refine k_istore C (pc2 := 34) (dkAt dkX7_freed 19 (q := (32, .istore 5, 2)) rfl) rfl (by decide) (lv2 := [(5, .int 0), (4, .int v4), (3, .int q1), (0, rA G 0), (1, .int x1), (2, .int x2)]) rfl ?_
    refine k_iconst C (pc2 := 35) (dkAt dkX7_freed 20 (q := (34, .iconst 0, 1)) rfl) rfl (v := 0) rfl ?_
    refine k_istore C (pc2 := 37) (dkAt dkX7_freed 21 (q := (35, .istore 6, 2)) rfl) rfl (by decide) (lv2 := [(6, .int 0), (5, .int 0), (4, .int v4), (3, .int q1), (0, rA G 0), (1, .int x1), (2, .int x2)]) rfl ?_
    refine k_lv [4, 5, 2, 1, 0] (lv2 := [(0, rA G 0), (1, .int x1), (4, .int v4), (5, .int 0), (6, .int 0)]) rfl ?_
    obtain ⟨v20, e19, h⟩ := ob_inv h
    refine kl_X7_freed_L37 C hX x1 v4 M v20 ?_ 1000 0 0 e19
    refine k_iload C (pc2 := 107) (dkAt dkX7_freed 56 (q := (105, .iload 5, 2)) rfl) rfl 0 rfl ?_
    exact k_iret C (dkAt dkX7_freed 57 (q := (107, .ireturn, 1)) rfl) (pe2 (Option.some.inj h)) rfl (pe1 (Option.some.inj h)) rfl
  · refine k_aload_n C (pc2 := 12) (dkAt dkX7_freed 7 (q := (11, .aload_n 0, 1)) rfl) rfl rfl 1 rfl ?_
    refine k_iload_n C (pc2 := 13) (dkAt dkX7_freed 8 (q := (12, .iload_n 3, 1)) rfl) rfl rfl 0 rfl ?_
    obtain ⟨q21, e22, h⟩ := ob_inv h
    refine kc_V C (As := [.int q1]) (st2 := [.int q21.2]) (ct_X7_refuse l G sh xs hX q1 M q21 e22) (cl_X7_62 (hts_of C) ⟨Nat.le_of_ble_eq_true rfl, Nat.le_of_ble_eq_true rfl⟩ rfl rfl) hX.1 rfl rfl rfl rfl rfl (Nat.le_of_ble_eq_true rfl) (dkAt dkX7_freed 9 (q := (13, .invokevirtual 62, 3)) rfl) ⟨Nat.zero_le _, Nat.zero_le _⟩ (pc2 := 16) rfl rfl ?_
    exact k_iret C (dkAt dkX7_freed 10 (q := (16, .ireturn, 1)) rfl) (pe2 (Option.some.inj h)) rfl (pe1 (Option.some.inj h)) rfl
set_option maxRecDepth 100000 in
set_option maxHeartbeats 4000000 in
theorem kl_X7_firstWrong_L7 {p : Program} {l : Launch} {e : Env} {s : State} {m : MethodId} {args : Array Value} {below : List Frame} {meth : Method} {c : Code} {G : GG} {sh : Sh} {xs : List va_E} (C : Cx p s m c args meth G RX7 cX7_firstWrong 8 (some .int)) (hX : isX sh) (o1 : Nat) (h1 : isSh sh o1) (x2 : Int32) (M : Mm) (r : Int32) (t : (Unit) ⊕ (Int32)) (hcont : t = Sum.inl () → KW p l e rm_X7_firstWrong s m args below meth c G 8 (MQ below (QO G (some (.int r)) sh M xs) args s 0 0 (gA G)) sh xs 0 0 M 74 [] []) (hres : ∀ z, t = Sum.inr z → z = r) : ∀ (n : Nat) (x3 : Int64) (x5 : Int32), f_X7_firstWrong_L7 o1 x2 M n x3 x5 = some t → KW p l e rm_X7_firstWrong s m args below meth c G 8 (MQ below (QO G (some (.int r)) sh M xs) args s 0 0 (gA G)) sh xs 0 0 M 7 [(0, rA G 0), (1, rA G o1), (2, .int x2), (3, .long x3), (5, .int x5)] [] := by
  intro n
  induction n with
  | zero =>
    intro x3 x5 h
    cases h
  | succ n ih =>
    intro x3 x5 h
    unfold f_X7_firstWrong_L7 at h
    refine k_iload C (pc2 := 9) (dkAt dkX7_firstWrong 4 (q := (7, .iload 5, 2)) rfl) rfl 4 rfl ?_
    refine k_iload_n C (pc2 := 10) (dkAt dkX7_firstWrong 5 (q := (9, .iload_n 2, 1)) rfl) rfl rfl 2 rfl ?_
    refine k_icmp_ge C (tgt := 74) (pc2 := 13) (dkAt dkX7_firstWrong 6 (q := (10, .if_icmp .ge 64, 3)) rfl) (by decide) rfl h (fun h => ?_) (fun h => ?_)
    · refine k_lv [] (lv2 := []) rfl ?_
      exact hcont (Option.some.inj h).symm
    · refine k_aload_n C (pc2 := 14) (dkAt dkX7_firstWrong 7 (q := (13, .aload_n 1, 1)) rfl) rfl rfl 1 rfl ?_
      refine k_iload C (pc2 := 16) (dkAt dkX7_firstWrong 8 (q := (14, .iload 5, 2)) rfl) rfl 4 rfl ?_
      obtain ⟨q1, e2, h⟩ := ob_inv h
      refine kc_V C (As := [.int x5]) (st2 := [.long q1]) (ct_X4_elementAt l G sh xs o1 h1 x5 M q1 e2) (cl_X7_101 (hts_of C) ⟨Nat.le_of_ble_eq_true rfl, Nat.le_of_ble_eq_true rfl⟩ rfl rfl) h1.1 rfl rfl rfl rfl rfl (Nat.le_of_ble_eq_true rfl) (dkAt dkX7_firstWrong 9 (q := (16, .invokevirtual 101, 3)) rfl) ⟨Nat.zero_le _, Nat.zero_le _⟩ (pc2 := 19) rfl rfl ?_
      refine k_lstore C (pc2 := 21) (dkAt dkX7_firstWrong 10 (q := (19, .lstore 6, 2)) rfl) rfl (by decide) (lv2 := [(6, .long q1), (0, rA G 0), (1, rA G o1), (2, .int x2), (3, .long x3), (5, .int x5)]) rfl ?_
      refine k_lload C (pc2 := 23) (dkAt dkX7_firstWrong 11 (q := (21, .lload 6, 2)) rfl) rfl 0 rfl ?_
      refine k_lload_n C (pc2 := 24) (dkAt dkX7_firstWrong 12 (q := (23, .lload_n 3, 1)) rfl) rfl rfl 4 rfl ?_
      refine k_lcmp C (pc2 := 25) (dkAt dkX7_firstWrong 13 (q := (24, .lcmp, 1)) rfl) rfl ?_
      refine k_if_le C (tgt := 62) (pc2 := 28) (dkAt dkX7_firstWrong 14 (q := (25, .ifCond .le 37, 3)) rfl) (by decide) rfl h (fun h => ?_) (fun h => ?_)
      · refine k_iload C (pc2 := 64) (dkAt dkX7_firstWrong 31 (q := (62, .iload 5, 2)) rfl) rfl 5 rfl ?_
        exact k_iret C (dkAt dkX7_firstWrong 32 (q := (64, .ireturn, 1)) rfl) (hres _ (Option.some.inj h).symm) rfl rfl rfl
      · refine k_lload C (pc2 := 30) (dkAt dkX7_firstWrong 15 (q := (28, .lload 6, 2)) rfl) rfl 0 rfl ?_
        refine k_aload_n C (pc2 := 31) (dkAt dkX7_firstWrong 16 (q := (30, .aload_n 0, 1)) rfl) rfl rfl 1 rfl ?_
        refine kf_X7_10 C (pc2 := 34) (o := 0) (o2 := 1) hX.1 rfl (dkAt dkX7_firstWrong 17 (q := (31, .getfield 10, 3)) rfl) rfl ?_
        refine kf_X7_134 C (pc2 := 37) (o := 1) (o2 := 0) hX.2.1.1 (dkAt dkX7_firstWrong 18 (q := (34, .getfield 134, 3)) rfl) rfl ?_
        refine k_i2l C (pc2 := 38) (dkAt dkX7_firstWrong 19 (q := (37, .i2l, 1)) rfl) rfl ?_
        refine k_lcmp C (pc2 := 39) (dkAt dkX7_firstWrong 20 (q := (38, .lcmp, 1)) rfl) rfl ?_
        refine k_if_ge C (tgt := 62) (pc2 := 42) (dkAt dkX7_firstWrong 21 (q := (39, .ifCond .ge 23, 3)) rfl) (by decide) rfl h (fun h => ?_) (fun h => ?_)
        · refine k_iload C (pc2 := 64) (dkAt dkX7_firstWrong 31 (q := (62, .iload 5, 2)) rfl) rfl 5 rfl ?_
          exact k_iret C (dkAt dkX7_firstWrong 32 (q := (64, .ireturn, 1)) rfl) (hres _ (Option.some.inj h).symm) rfl rfl rfl
        · refine k_aload_n C (pc2 := 43) (dkAt dkX7_firstWrong 22 (q := (42, .aload_n 0, 1)) rfl) rfl rfl 1 rfl ?_
          refine kf_X7_10 C (pc2 := 46) (o := 0) (o2 := 1) hX.1 rfl (dkAt dkX7_firstWrong 23 (q := (43, .getfield 10, 3)) rfl) rfl ?_
          refine k_lload C (pc2 := 48) (dkAt dkX7_firstWrong 24 (q := (46, .lload 6, 2)) rfl) rfl 0 rfl ?_
          refine k_l2i C (pc2 := 49) (dkAt dkX7_firstWrong 25 (q := (48, .l2i, 1)) rfl) rfl ?_
          obtain ⟨q3, e4, h⟩ := ob_inv h
          refine kc_V C (As := [.int q1.toInt32]) (st2 := [.int q3]) (ct_X1_howManyOn l G sh xs 1 hX.2.1 q1.toInt32 M q3 e4) (cl_X7_353 (hts_of C) ⟨Nat.le_of_ble_eq_true rfl, Nat.le_of_ble_eq_true rfl⟩ rfl rfl) hX.2.1.1 rfl rfl rfl rfl rfl (Nat.le_of_ble_eq_true rfl) (dkAt dkX7_firstWrong 26 (q := (49, .invokevirtual 353, 3)) rfl) ⟨Nat.zero_le _, Nat.zero_le _⟩ (pc2 := 52) rfl rfl ?_
          refine k_aload_n C (pc2 := 53) (dkAt dkX7_firstWrong 27 (q := (52, .aload_n 0, 1)) rfl) rfl rfl 1 rfl ?_
          refine kf_X7_10 C (pc2 := 56) (o := 0) (o2 := 1) hX.1 rfl (dkAt dkX7_firstWrong 28 (q := (53, .getfield 10, 3)) rfl) rfl ?_
          refine kf_X7_160 C (pc2 := 59) (o := 1) (o2 := 0) hX.2.1.1 (dkAt dkX7_firstWrong 29 (q := (56, .getfield 160, 3)) rfl) rfl ?_
          refine k_icmp_ge C (tgt := 65) (pc2 := 62) (dkAt dkX7_firstWrong 30 (q := (59, .if_icmp .ge 6, 3)) rfl) (by decide) rfl h (fun h => ?_) (fun h => ?_)
          · refine k_lload C (pc2 := 67) (dkAt dkX7_firstWrong 33 (q := (65, .lload 6, 2)) rfl) rfl 0 rfl ?_
            refine k_lstore_n C (pc2 := 68) (dkAt dkX7_firstWrong 34 (q := (67, .lstore_n 3, 1)) rfl) rfl rfl (by decide) (lv2 := [(3, .long q1), (6, .long q1), (0, rA G 0), (1, rA G o1), (2, .int x2), (5, .int x5)]) rfl ?_
            refine kb_iinc C (pc2 := 71) (dkAt dkX7_firstWrong 35 (q := (68, .iinc 5 1, 3)) rfl) rfl (j := 5) rfl (v := x5 + 1) rfl (by decide) (lv2 := fun v5 => [(5, .int v5), (3, .long q1), (6, .long q1), (0, rA G 0), (1, rA G o1), (2, .int x2)]) (fun _ => rfl) h (fun v5 h => ?_)
            refine k_goto C (tgt := 7) (dkAt dkX7_firstWrong 36 (q := (71, .goto (-64), 3)) rfl) (by decide) ?_
            refine k_lv [3, 4, 5, 1, 0] (lv2 := [(0, rA G 0), (1, rA G o1), (2, .int x2), (3, .long q1), (5, .int v5)]) rfl ?_
            exact ih q1 v5 h
          · refine k_iload C (pc2 := 64) (dkAt dkX7_firstWrong 31 (q := (62, .iload 5, 2)) rfl) rfl 5 rfl ?_
            exact k_iret C (dkAt dkX7_firstWrong 32 (q := (64, .ireturn, 1)) rfl) (hres _ (Option.some.inj h).symm) rfl rfl rfl
set_option maxRecDepth 100000 in
set_option maxHeartbeats 4000000 in
theorem ct_X7_firstWrong (l : Launch) (G : GG) (sh : Sh) (xs : List va_E) (hX : isX sh) (o1 : Nat) (h1 : isSh sh o1) (x2 : Int32) (M : Mm) (r : Int32) (h : f_X7_firstWrong o1 x2 M = some r) : Ct l yX7_firstWrong cX7_firstWrong 8 (some .int) rm_X7_firstWrong G [rA G 0, rA G o1, .int x2] sh M xs (some (.int r)) sh M xs 0 0 := by
  refine ct_of (by decide) (Nat.le_of_ble_eq_true rfl) ?_
  intro p e s m args below meth c hnm C
  refine k_lv [0, 1, 2] (lv2 := [(0, rA G 0), (1, rA G o1), (2, .int x2)]) rfl ?_
  unfold f_X7_firstWrong at h
  refine k_ldc2 C (pc2 := 3) (dkAt dkX7_firstWrong 0 (q := (0, .ldc2_w 375, 3)) rfl) rfl (v := (-1)) tL_X7_375 ?_
  refine k_lstore_n C (pc2 := 4) (dkAt dkX7_firstWrong 1 (q := (3, .lstore_n 3, 1)) rfl) rfl rfl (by decide) (lv2 := [(3, .long (-1)), (0, rA G 0), (1, rA G o1), (2, .int x2)]) rfl ?_
  refine k_iconst C (pc2 := 5) (dkAt dkX7_firstWrong 2 (q := (4, .iconst 0, 1)) rfl) rfl (v := 0) rfl ?_
  refine k_istore C (pc2 := 7) (dkAt dkX7_firstWrong 3 (q := (5, .istore 5, 2)) rfl) rfl (by decide) (lv2 := [(5, .int 0), (3, .long (-1)), (0, rA G 0), (1, rA G o1), (2, .int x2)]) rfl ?_
  refine k_lv [2, 3, 4, 1, 0] (lv2 := [(0, rA G 0), (1, rA G o1), (2, .int x2), (3, .long (-1)), (5, .int 0)]) rfl ?_
  obtain ⟨t6, e7, hA, hB⟩ := obS_inv h
  refine kl_X7_firstWrong_L7 C hX o1 h1 x2 M r t6 ?_ ?_ 1000 (-1) 0 e7
  · intro et
    have h := hA _ et
    refine k_iconst C (pc2 := 75) (dkAt dkX7_firstWrong 37 (q := (74, .iconst (-1), 1)) rfl) rfl (v := (-1)) rfl ?_
    exact k_iret C (dkAt dkX7_firstWrong 38 (q := (75, .ireturn, 1)) rfl) (Option.some.inj h) rfl rfl rfl
  · intro z et
    have h := hB _ et
    exact Option.some.inj h
set_option maxRecDepth 100000 in
set_option maxHeartbeats 4000000 in
theorem ct_X7_troubleOfPlan (l : Launch) (G : GG) (sh : Sh) (xs : List va_E) (hX : isX sh) (x1 : Int32) (x2 : Int32) (M : Mm) (r : Int32) (h : f_X7_troubleOfPlan x1 x2 M = some r) : Ct l yX7_troubleOfPlan cX7_troubleOfPlan 4 (some .int) rm_X7_troubleOfPlan G [rA G 0, .int x1, .int x2] sh M xs (some (.int r)) sh M xs 0 0 := by
  refine ct_of (by decide) (Nat.le_of_ble_eq_true rfl) ?_
  intro p e s m args below meth c hnm C
  refine k_lv [0, 1, 2] (lv2 := [(0, rA G 0), (1, .int x1), (2, .int x2)]) rfl ?_
  unfold f_X7_troubleOfPlan at h
  refine k_iload_n C (pc2 := 1) (dkAt dkX7_troubleOfPlan 0 (q := (0, .iload_n 2, 1)) rfl) rfl rfl 2 rfl ?_
  refine k_iconst C (pc2 := 2) (dkAt dkX7_troubleOfPlan 1 (q := (1, .iconst 0, 1)) rfl) rfl (v := 0) rfl ?_
  refine k_bipush C (pc2 := 4) (dkAt dkX7_troubleOfPlan 2 (q := (2, .bipush 40, 2)) rfl) rfl (v := 40) rfl ?_
  obtain ⟨q1, e2, h⟩ := ob_inv h
  refine kc_S C (As := [.int x2, .int 0, .int 40]) (st2 := [.int q1]) (ct_X7_within l G sh xs x2 0 40 M q1 e2) (cl_X7_58 (hts_of C) ⟨Nat.le_of_ble_eq_true rfl, Nat.le_of_ble_eq_true rfl⟩ rfl rfl) rfl rfl (Nat.le_of_ble_eq_true rfl) (dkAt dkX7_troubleOfPlan 3 (q := (4, .invokestatic 58, 3)) rfl) ⟨Nat.zero_le _, Nat.zero_le _⟩ (pc2 := 7) rfl rfl ?_
  refine k_if_eq C (tgt := 18) (pc2 := 10) (dkAt dkX7_troubleOfPlan 4 (q := (7, .ifCond .eq 11, 3)) rfl) (by decide) rfl h (fun h => ?_) (fun h => ?_)
  · refine k_bipush C (pc2 := 20) (dkAt dkX7_troubleOfPlan 9 (q := (18, .bipush (-2), 2)) rfl) rfl (v := (-2)) rfl ?_
    refine k_istore_n C (pc2 := 21) (dkAt dkX7_troubleOfPlan 10 (q := (20, .istore_n 3, 1)) rfl) rfl rfl (by decide) (lv2 := [(3, .int (-2)), (0, rA G 0), (1, .int x1), (2, .int x2)]) rfl ?_
    refine k_iload_n C (pc2 := 22) (dkAt dkX7_troubleOfPlan 11 (q := (21, .iload_n 3, 1)) rfl) rfl rfl 0 rfl ?_
    refine k_if_ne C (tgt := 41) (pc2 := 25) (dkAt dkX7_troubleOfPlan 12 (q := (22, .ifCond .ne 19, 3)) rfl) (by decide) rfl h (fun h => ?_) (fun h => ?_)
    · refine k_iload_n C (pc2 := 42) (dkAt dkX7_troubleOfPlan 22 (q := (41, .iload_n 3, 1)) rfl) rfl rfl 0 rfl ?_
      exact k_iret C (dkAt dkX7_troubleOfPlan 23 (q := (42, .ireturn, 1)) rfl) (Option.some.inj h) rfl rfl rfl
    · refine k_iload_n C (pc2 := 26) (dkAt dkX7_troubleOfPlan 13 (q := (25, .iload_n 2, 1)) rfl) rfl rfl 3 rfl ?_
      refine k_aload_n C (pc2 := 27) (dkAt dkX7_troubleOfPlan 14 (q := (26, .aload_n 0, 1)) rfl) rfl rfl 1 rfl ?_
      refine kf_X7_42 C (pc2 := 30) (o := 0) (o2 := 50) hX.1 rfl (dkAt dkX7_troubleOfPlan 15 (q := (27, .getfield 42, 3)) rfl) rfl ?_
      refine k_iload_n C (pc2 := 31) (dkAt dkX7_troubleOfPlan 16 (q := (30, .iload_n 1, 1)) rfl) rfl rfl 2 rfl ?_
      refine k_aa12 C (pc2 := 32) (o := 50) (o2 := 53 + 2 * x1.toNatClampNeg) (nA := 8) hX.2.2.2.2.2.2.1 rfl (dkAt dkX7_troubleOfPlan 17 (q := (31, .aaload, 1)) rfl) rfl h (fun h hl3 => ?_)
      refine kf_X7_73 C (pc2 := 35) (o := 53 + 2 * x1.toNatClampNeg) (o2 := 0) ((hX.2.2.2.2.2.2.2.2.2 _ hl3).1) (dkAt dkX7_troubleOfPlan 18 (q := (32, .getfield 73, 3)) rfl) rfl ?_
      refine k_icmp_le C (tgt := 41) (pc2 := 38) (dkAt dkX7_troubleOfPlan 19 (q := (35, .if_icmp .le 6, 3)) rfl) (by decide) rfl h (fun h => ?_) (fun h => ?_)
      · refine k_iload_n C (pc2 := 42) (dkAt dkX7_troubleOfPlan 22 (q := (41, .iload_n 3, 1)) rfl) rfl rfl 0 rfl ?_
        exact k_iret C (dkAt dkX7_troubleOfPlan 23 (q := (42, .ireturn, 1)) rfl) (Option.some.inj h) rfl rfl rfl
      · refine k_bipush C (pc2 := 40) (dkAt dkX7_troubleOfPlan 20 (q := (38, .bipush (-2), 2)) rfl) rfl (v := (-2)) rfl ?_
        refine k_istore_n C (pc2 := 41) (dkAt dkX7_troubleOfPlan 21 (q := (40, .istore_n 3, 1)) rfl) rfl rfl (by decide) (lv2 := [(3, .int (-2)), (0, rA G 0), (1, .int x1), (2, .int x2)]) rfl ?_
        refine k_iload_n C (pc2 := 42) (dkAt dkX7_troubleOfPlan 22 (q := (41, .iload_n 3, 1)) rfl) rfl rfl 0 rfl ?_
        exact k_iret C (dkAt dkX7_troubleOfPlan 23 (q := (42, .ireturn, 1)) rfl) (Option.some.inj h) rfl rfl rfl
  · refine k_aload_n C (pc2 := 11) (dkAt dkX7_troubleOfPlan 5 (q := (10, .aload_n 0, 1)) rfl) rfl rfl 0 rfl ?_
    refine k_iload_n C (pc2 := 12) (dkAt dkX7_troubleOfPlan 6 (q := (11, .iload_n 1, 1)) rfl) rfl rfl 1 rfl ?_
    obtain ⟨q4, e5, h⟩ := ob_inv h
    refine kc_V C (As := [.int x1]) (st2 := [.int q4]) (ct_X7_troubleOfRow l G sh xs hX x1 M q4 e5) (cl_X7_70 (hts_of C) ⟨Nat.le_of_ble_eq_true rfl, Nat.le_of_ble_eq_true rfl⟩ rfl rfl) hX.1 rfl rfl rfl rfl rfl (Nat.le_of_ble_eq_true rfl) (dkAt dkX7_troubleOfPlan 7 (q := (12, .invokevirtual 70, 3)) rfl) ⟨Nat.zero_le _, Nat.zero_le _⟩ (pc2 := 15) rfl rfl ?_
    refine k_goto C (tgt := 20) (dkAt dkX7_troubleOfPlan 8 (q := (15, .goto 5, 3)) rfl) (by decide) ?_
    refine k_istore_n C (pc2 := 21) (dkAt dkX7_troubleOfPlan 10 (q := (20, .istore_n 3, 1)) rfl) rfl rfl (by decide) (lv2 := [(3, .int q4), (0, rA G 0), (1, .int x1), (2, .int x2)]) rfl ?_
    refine k_iload_n C (pc2 := 22) (dkAt dkX7_troubleOfPlan 11 (q := (21, .iload_n 3, 1)) rfl) rfl rfl 0 rfl ?_
    refine k_if_ne C (tgt := 41) (pc2 := 25) (dkAt dkX7_troubleOfPlan 12 (q := (22, .ifCond .ne 19, 3)) rfl) (by decide) rfl h (fun h => ?_) (fun h => ?_)
    · refine k_iload_n C (pc2 := 42) (dkAt dkX7_troubleOfPlan 22 (q := (41, .iload_n 3, 1)) rfl) rfl rfl 0 rfl ?_
      exact k_iret C (dkAt dkX7_troubleOfPlan 23 (q := (42, .ireturn, 1)) rfl) (Option.some.inj h) rfl rfl rfl
    · refine k_iload_n C (pc2 := 26) (dkAt dkX7_troubleOfPlan 13 (q := (25, .iload_n 2, 1)) rfl) rfl rfl 3 rfl ?_
      refine k_aload_n C (pc2 := 27) (dkAt dkX7_troubleOfPlan 14 (q := (26, .aload_n 0, 1)) rfl) rfl rfl 1 rfl ?_
      refine kf_X7_42 C (pc2 := 30) (o := 0) (o2 := 50) hX.1 rfl (dkAt dkX7_troubleOfPlan 15 (q := (27, .getfield 42, 3)) rfl) rfl ?_
      refine k_iload_n C (pc2 := 31) (dkAt dkX7_troubleOfPlan 16 (q := (30, .iload_n 1, 1)) rfl) rfl rfl 2 rfl ?_
      refine k_aa12 C (pc2 := 32) (o := 50) (o2 := 53 + 2 * x1.toNatClampNeg) (nA := 8) hX.2.2.2.2.2.2.1 rfl (dkAt dkX7_troubleOfPlan 17 (q := (31, .aaload, 1)) rfl) rfl h (fun h hl6 => ?_)
      refine kf_X7_73 C (pc2 := 35) (o := 53 + 2 * x1.toNatClampNeg) (o2 := 0) ((hX.2.2.2.2.2.2.2.2.2 _ hl6).1) (dkAt dkX7_troubleOfPlan 18 (q := (32, .getfield 73, 3)) rfl) rfl ?_
      refine k_icmp_le C (tgt := 41) (pc2 := 38) (dkAt dkX7_troubleOfPlan 19 (q := (35, .if_icmp .le 6, 3)) rfl) (by decide) rfl h (fun h => ?_) (fun h => ?_)
      · refine k_iload_n C (pc2 := 42) (dkAt dkX7_troubleOfPlan 22 (q := (41, .iload_n 3, 1)) rfl) rfl rfl 0 rfl ?_
        exact k_iret C (dkAt dkX7_troubleOfPlan 23 (q := (42, .ireturn, 1)) rfl) (Option.some.inj h) rfl rfl rfl
      · refine k_bipush C (pc2 := 40) (dkAt dkX7_troubleOfPlan 20 (q := (38, .bipush (-2), 2)) rfl) rfl (v := (-2)) rfl ?_
        refine k_istore_n C (pc2 := 41) (dkAt dkX7_troubleOfPlan 21 (q := (40, .istore_n 3, 1)) rfl) rfl rfl (by decide) (lv2 := [(3, .int (-2)), (0, rA G 0), (1, .int x1), (2, .int x2)]) rfl ?_
        refine k_iload_n C (pc2 := 42) (dkAt dkX7_troubleOfPlan 22 (q := (41, .iload_n 3, 1)) rfl) rfl rfl 0 rfl ?_
        exact k_iret C (dkAt dkX7_troubleOfPlan 23 (q := (42, .ireturn, 1)) rfl) (Option.some.inj h) rfl rfl rfl
set_option maxRecDepth 100000 in
set_option maxHeartbeats 4000000 in
theorem ct_X7_judge (l : Launch) (G : GG) (sh : Sh) (xs : List va_E) (hX : isX sh) (x1 : Int32) (x2 : Int32) (M : Mm) (r : Mm × Int32) (h : f_X7_judge x1 x2 M = some r) : Ct l yX7_judge cX7_judge 4 (some .int) rm_X7_judge G [rA G 0, .int x1, .int x2] sh M xs (some (.int r.2)) sh r.1 xs 0 0 := by
  refine ct_of (by decide) (Nat.le_of_ble_eq_true rfl) ?_
  intro p e s m args below meth c hnm C
  refine k_lv [0, 1, 2] (lv2 := [(0, rA G 0), (1, .int x1), (2, .int x2)]) rfl ?_
  unfold f_X7_judge at h
  refine k_aload_n C (pc2 := 1) (dkAt dkX7_judge 0 (q := (0, .aload_n 0, 1)) rfl) rfl rfl 0 rfl ?_
  refine k_iload_n C (pc2 := 2) (dkAt dkX7_judge 1 (q := (1, .iload_n 1, 1)) rfl) rfl rfl 1 rfl ?_
  refine k_iload_n C (pc2 := 3) (dkAt dkX7_judge 2 (q := (2, .iload_n 2, 1)) rfl) rfl rfl 2 rfl ?_
  obtain ⟨q1, e2, h⟩ := ob_inv h
  refine kc_V C (As := [.int x1, .int x2]) (st2 := [.int q1]) (ct_X7_troubleOfPlan l G sh xs hX x1 x2 M q1 e2) (cl_X7_330 (hts_of C) ⟨Nat.le_of_ble_eq_true rfl, Nat.le_of_ble_eq_true rfl⟩ rfl rfl) hX.1 rfl rfl rfl rfl rfl (Nat.le_of_ble_eq_true rfl) (dkAt dkX7_judge 3 (q := (3, .invokevirtual 330, 3)) rfl) ⟨Nat.zero_le _, Nat.zero_le _⟩ (pc2 := 6) rfl rfl ?_
  refine k_istore_n C (pc2 := 7) (dkAt dkX7_judge 4 (q := (6, .istore_n 3, 1)) rfl) rfl rfl (by decide) (lv2 := [(3, .int q1), (0, rA G 0), (1, .int x1), (2, .int x2)]) rfl ?_
  refine k_iload_n C (pc2 := 8) (dkAt dkX7_judge 5 (q := (7, .iload_n 3, 1)) rfl) rfl rfl 0 rfl ?_
  refine k_if_ne C (tgt := 25) (pc2 := 11) (dkAt dkX7_judge 6 (q := (8, .ifCond .ne 17, 3)) rfl) (by decide) rfl h (fun h => ?_) (fun h => ?_)
  · refine k_aload_n C (pc2 := 26) (dkAt dkX7_judge 15 (q := (25, .aload_n 0, 1)) rfl) rfl rfl 1 rfl ?_
    refine k_iload_n C (pc2 := 27) (dkAt dkX7_judge 16 (q := (26, .iload_n 3, 1)) rfl) rfl rfl 0 rfl ?_
    obtain ⟨q3, e4, h⟩ := ob_inv h
    refine kc_V C (As := [.int q1]) (st2 := [.int q3.2]) (ct_X7_refuse l G sh xs hX q1 M q3 e4) (cl_X7_62 (hts_of C) ⟨Nat.le_of_ble_eq_true rfl, Nat.le_of_ble_eq_true rfl⟩ rfl rfl) hX.1 rfl rfl rfl rfl rfl (Nat.le_of_ble_eq_true rfl) (dkAt dkX7_judge 17 (q := (27, .invokevirtual 62, 3)) rfl) ⟨Nat.zero_le _, Nat.zero_le _⟩ (pc2 := 30) rfl rfl ?_
    exact k_iret C (dkAt dkX7_judge 18 (q := (30, .ireturn, 1)) rfl) (pe2 (Option.some.inj h)) rfl (pe1 (Option.some.inj h)) rfl
  · refine k_aload_n C (pc2 := 12) (dkAt dkX7_judge 7 (q := (11, .aload_n 0, 1)) rfl) rfl rfl 1 rfl ?_
    refine k_aload_n C (pc2 := 13) (dkAt dkX7_judge 8 (q := (12, .aload_n 0, 1)) rfl) rfl rfl 1 rfl ?_
    refine kf_X7_42 C (pc2 := 16) (o := 0) (o2 := 50) hX.1 rfl (dkAt dkX7_judge 9 (q := (13, .getfield 42, 3)) rfl) rfl ?_
    refine k_iload_n C (pc2 := 17) (dkAt dkX7_judge 10 (q := (16, .iload_n 1, 1)) rfl) rfl rfl 2 rfl ?_
    refine k_aa12 C (pc2 := 18) (o := 50) (o2 := 53 + 2 * x1.toNatClampNeg) (nA := 8) hX.2.2.2.2.2.2.1 rfl (dkAt dkX7_judge 11 (q := (17, .aaload, 1)) rfl) rfl h (fun h hl5 => ?_)
    refine k_iload_n C (pc2 := 19) (dkAt dkX7_judge 12 (q := (18, .iload_n 2, 1)) rfl) rfl rfl 3 rfl ?_
    obtain ⟨q6, e7, h⟩ := ob_inv h
    refine kc_V C (As := [rA G (53 + 2 * x1.toNatClampNeg), .int x2]) (st2 := [.int q6]) (ct_X7_firstWrong l G sh xs hX (53 + 2 * x1.toNatClampNeg) (hX.2.2.2.2.2.2.2.2.2 _ hl5) x2 M q6 e7) (cl_X7_333 (hts_of C) ⟨Nat.le_of_ble_eq_true rfl, Nat.le_of_ble_eq_true rfl⟩ rfl rfl) hX.1 rfl rfl rfl rfl rfl (Nat.le_of_ble_eq_true rfl) (dkAt dkX7_judge 13 (q := (19, .invokevirtual 333, 3)) rfl) ⟨Nat.zero_le _, Nat.zero_le _⟩ (pc2 := 22) rfl rfl ?_
    refine k_goto C (tgt := 30) (dkAt dkX7_judge 14 (q := (22, .goto 8, 3)) rfl) (by decide) ?_
    exact k_iret C (dkAt dkX7_judge 18 (q := (30, .ireturn, 1)) rfl) (pe2 (Option.some.inj h)) rfl (pe1 (Option.some.inj h)) rfl
set_option maxRecDepth 100000 in
set_option maxHeartbeats 4000000 in
theorem ct_X7_troubleOfRightPlan (l : Launch) (G : GG) (sh : Sh) (xs : List va_E) (hX : isX sh) (x1 : Int32) (x2 : Int32) (M : Mm) (r : Int32) (h : f_X7_troubleOfRightPlan x1 x2 M = some r) : Ct l yX7_troubleOfRightPlan cX7_troubleOfRightPlan 4 (some .int) rm_X7_troubleOfRightPlan G [rA G 0, .int x1, .int x2] sh M xs (some (.int r)) sh M xs 0 0 := by
  refine ct_of (by decide) (Nat.le_of_ble_eq_true rfl) ?_
  intro p e s m args below meth c hnm C
  refine k_lv [0, 1, 2] (lv2 := [(0, rA G 0), (1, .int x1), (2, .int x2)]) rfl ?_
  unfold f_X7_troubleOfRightPlan at h
  refine k_aload_n C (pc2 := 1) (dkAt dkX7_troubleOfRightPlan 0 (q := (0, .aload_n 0, 1)) rfl) rfl rfl 0 rfl ?_
  refine k_iload_n C (pc2 := 2) (dkAt dkX7_troubleOfRightPlan 1 (q := (1, .iload_n 1, 1)) rfl) rfl rfl 1 rfl ?_
  refine k_iload_n C (pc2 := 3) (dkAt dkX7_troubleOfRightPlan 2 (q := (2, .iload_n 2, 1)) rfl) rfl rfl 2 rfl ?_
  obtain ⟨q1, e2, h⟩ := ob_inv h
  refine kc_V C (As := [.int x1, .int x2]) (st2 := [.int q1]) (ct_X7_troubleOfPlan l G sh xs hX x1 x2 M q1 e2) (cl_X7_330 (hts_of C) ⟨Nat.le_of_ble_eq_true rfl, Nat.le_of_ble_eq_true rfl⟩ rfl rfl) hX.1 rfl rfl rfl rfl rfl (Nat.le_of_ble_eq_true rfl) (dkAt dkX7_troubleOfRightPlan 3 (q := (3, .invokevirtual 330, 3)) rfl) ⟨Nat.zero_le _, Nat.zero_le _⟩ (pc2 := 6) rfl rfl ?_
  refine k_istore_n C (pc2 := 7) (dkAt dkX7_troubleOfRightPlan 4 (q := (6, .istore_n 3, 1)) rfl) rfl rfl (by decide) (lv2 := [(3, .int q1), (0, rA G 0), (1, .int x1), (2, .int x2)]) rfl ?_
  refine k_iload_n C (pc2 := 8) (dkAt dkX7_troubleOfRightPlan 5 (q := (7, .iload_n 3, 1)) rfl) rfl rfl 0 rfl ?_
  refine k_if_ne C (tgt := 29) (pc2 := 11) (dkAt dkX7_troubleOfRightPlan 6 (q := (8, .ifCond .ne 21, 3)) rfl) (by decide) rfl h (fun h => ?_) (fun h => ?_)
  · refine k_iload_n C (pc2 := 30) (dkAt dkX7_troubleOfRightPlan 18 (q := (29, .iload_n 3, 1)) rfl) rfl rfl 0 rfl ?_
    exact k_iret C (dkAt dkX7_troubleOfRightPlan 19 (q := (30, .ireturn, 1)) rfl) (Option.some.inj h) rfl rfl rfl
  · refine k_aload_n C (pc2 := 12) (dkAt dkX7_troubleOfRightPlan 7 (q := (11, .aload_n 0, 1)) rfl) rfl rfl 1 rfl ?_
    refine k_aload_n C (pc2 := 13) (dkAt dkX7_troubleOfRightPlan 8 (q := (12, .aload_n 0, 1)) rfl) rfl rfl 1 rfl ?_
    refine kf_X7_42 C (pc2 := 16) (o := 0) (o2 := 50) hX.1 rfl (dkAt dkX7_troubleOfRightPlan 9 (q := (13, .getfield 42, 3)) rfl) rfl ?_
    refine k_iload_n C (pc2 := 17) (dkAt dkX7_troubleOfRightPlan 10 (q := (16, .iload_n 1, 1)) rfl) rfl rfl 2 rfl ?_
    refine k_aa12 C (pc2 := 18) (o := 50) (o2 := 53 + 2 * x1.toNatClampNeg) (nA := 8) hX.2.2.2.2.2.2.1 rfl (dkAt dkX7_troubleOfRightPlan 11 (q := (17, .aaload, 1)) rfl) rfl h (fun h hl3 => ?_)
    refine k_iload_n C (pc2 := 19) (dkAt dkX7_troubleOfRightPlan 12 (q := (18, .iload_n 2, 1)) rfl) rfl rfl 3 rfl ?_
    obtain ⟨q4, e5, h⟩ := ob_inv h
    refine kc_V C (As := [rA G (53 + 2 * x1.toNatClampNeg), .int x2]) (st2 := [.int q4]) (ct_X7_firstWrong l G sh xs hX (53 + 2 * x1.toNatClampNeg) (hX.2.2.2.2.2.2.2.2.2 _ hl3) x2 M q4 e5) (cl_X7_333 (hts_of C) ⟨Nat.le_of_ble_eq_true rfl, Nat.le_of_ble_eq_true rfl⟩ rfl rfl) hX.1 rfl rfl rfl rfl rfl (Nat.le_of_ble_eq_true rfl) (dkAt dkX7_troubleOfRightPlan 13 (q := (19, .invokevirtual 333, 3)) rfl) ⟨Nat.zero_le _, Nat.zero_le _⟩ (pc2 := 22) rfl rfl ?_
    refine k_iconst C (pc2 := 23) (dkAt dkX7_troubleOfRightPlan 14 (q := (22, .iconst (-1), 1)) rfl) rfl (v := (-1)) rfl ?_
    refine k_icmp_eq C (tgt := 29) (pc2 := 26) (dkAt dkX7_troubleOfRightPlan 15 (q := (23, .if_icmp .eq 6, 3)) rfl) (by decide) rfl h (fun h => ?_) (fun h => ?_)
    · refine k_iload_n C (pc2 := 30) (dkAt dkX7_troubleOfRightPlan 18 (q := (29, .iload_n 3, 1)) rfl) rfl rfl 0 rfl ?_
      exact k_iret C (dkAt dkX7_troubleOfRightPlan 19 (q := (30, .ireturn, 1)) rfl) (Option.some.inj h) rfl rfl rfl
    · refine k_bipush C (pc2 := 28) (dkAt dkX7_troubleOfRightPlan 16 (q := (26, .bipush (-5), 2)) rfl) rfl (v := (-5)) rfl ?_
      refine k_istore_n C (pc2 := 29) (dkAt dkX7_troubleOfRightPlan 17 (q := (28, .istore_n 3, 1)) rfl) rfl rfl (by decide) (lv2 := [(3, .int (-5)), (0, rA G 0), (1, .int x1), (2, .int x2)]) rfl ?_
      refine k_iload_n C (pc2 := 30) (dkAt dkX7_troubleOfRightPlan 18 (q := (29, .iload_n 3, 1)) rfl) rfl rfl 0 rfl ?_
      exact k_iret C (dkAt dkX7_troubleOfRightPlan 19 (q := (30, .ireturn, 1)) rfl) (Option.some.inj h) rfl rfl rfl
set_option maxRecDepth 100000 in
set_option maxHeartbeats 4000000 in
theorem kl_X7_leftOut_L43 {p : Program} {l : Launch} {e : Env} {s : State} {m : MethodId} {args : Array Value} {below : List Frame} {meth : Method} {c : Code} {G : GG} {sh : Sh} {xs : List va_E} {Q : State → Prop} (C : Cx p s m c args meth G RX7 cX7_leftOut 9 (some .int)) (hX : isX sh) (x1 : Int32) (x2 : Int32) (x3 : Int32) (M : Mm) (y5 : Int32) (y6 : Int32) (hcont : KW p l e rm_X7_leftOut s m args below meth c G 9 Q sh xs 0 0 M 112 [(3, .int x3), (5, .int y5), (6, .int y6)] []) : ∀ (n : Nat) (x5 : Int32) (x6 : Int32) (x7 : Int32), f_X7_leftOut_L43 x1 x2 x3 M n x5 x6 x7 = some (y5, y6) → KW p l e rm_X7_leftOut s m args below meth c G 9 Q sh xs 0 0 M 43 [(0, rA G 0), (1, .int x1), (2, .int x2), (3, .int x3), (5, .int x5), (6, .int x6), (7, .int x7)] [] := by
  intro n
  induction n with
  | zero =>
    intro x5 x6 x7 h
    cases h
  | succ n ih =>
    intro x5 x6 x7 h
    unfold f_X7_leftOut_L43 at h
    refine k_iload C (pc2 := 45) (dkAt dkX7_leftOut 24 (q := (43, .iload 7, 2)) rfl) rfl 6 rfl ?_
    refine k_aload_n C (pc2 := 46) (dkAt dkX7_leftOut 25 (q := (45, .aload_n 0, 1)) rfl) rfl rfl 0 rfl ?_
    refine kf_X7_10 C (pc2 := 49) (o := 0) (o2 := 1) hX.1 rfl (dkAt dkX7_leftOut 26 (q := (46, .getfield 10, 3)) rfl) rfl ?_
    refine kf_X7_216 C (pc2 := 52) (o := 1) (o2 := 0) hX.2.1.1 (dkAt dkX7_leftOut 27 (q := (49, .getfield 216, 3)) rfl) rfl ?_
    refine k_icmp_ge C (tgt := 112) (pc2 := 55) (dkAt dkX7_leftOut 28 (q := (52, .if_icmp .ge 60, 3)) rfl) (by decide) rfl h (fun h => ?_) (fun h => ?_)
    · refine k_lv [3, 4, 5] (lv2 := [(3, .int x3), (5, .int x5), (6, .int x6)]) rfl ?_
      cases h
      exact hcont
    · refine k_aload_n C (pc2 := 56) (dkAt dkX7_leftOut 29 (q := (55, .aload_n 0, 1)) rfl) rfl rfl 0 rfl ?_
      refine kf_X7_42 C (pc2 := 59) (o := 0) (o2 := 50) hX.1 rfl (dkAt dkX7_leftOut 30 (q := (56, .getfield 42, 3)) rfl) rfl ?_
      refine k_iload_n C (pc2 := 60) (dkAt dkX7_leftOut 31 (q := (59, .iload_n 1, 1)) rfl) rfl rfl 1 rfl ?_
      refine k_aa12 C (pc2 := 61) (o := 50) (o2 := 53 + 2 * x1.toNatClampNeg) (nA := 8) hX.2.2.2.2.2.2.1 rfl (dkAt dkX7_leftOut 32 (q := (60, .aaload, 1)) rfl) rfl h (fun h hl3 => ?_)
      refine k_aload_n C (pc2 := 62) (dkAt dkX7_leftOut 33 (q := (61, .aload_n 0, 1)) rfl) rfl rfl 0 rfl ?_
      refine kf_X7_10 C (pc2 := 65) (o := 0) (o2 := 1) hX.1 rfl (dkAt dkX7_leftOut 34 (q := (62, .getfield 10, 3)) rfl) rfl ?_
      refine kf_X7_122 C (pc2 := 68) (o := 1) (o2 := 2) hX.2.1.1 rfl (dkAt dkX7_leftOut 35 (q := (65, .getfield 122, 3)) rfl) rfl ?_
      refine k_iload C (pc2 := 70) (dkAt dkX7_leftOut 36 (q := (68, .iload 7, 2)) rfl) rfl 6 rfl ?_
      refine k_aa11 C (pc2 := 71) (o := 2) (o2 := 3 + x7.toNatClampNeg) (nA := 8) hX.2.1.2.1 rfl (dkAt dkX7_leftOut 37 (q := (70, .aaload, 1)) rfl) rfl h (fun h hl4 => ?_)
      refine k_iload_n C (pc2 := 72) (dkAt dkX7_leftOut 38 (q := (71, .iload_n 2, 1)) rfl) rfl rfl 2 rfl ?_
      obtain ⟨q5, e6, h⟩ := ob_inv h
      refine kc_V C (As := [rA G (3 + x7.toNatClampNeg), .int x2]) (st2 := [.int q5]) (ct_X4_daysNotFree l G sh xs (53 + 2 * x1.toNatClampNeg) (hX.2.2.2.2.2.2.2.2.2 _ hl3) (3 + x7.toNatClampNeg) (hX.2.1.2.2 _ hl4) x2 M q5 e6) (cl_X7_340 (hts_of C) ⟨Nat.le_of_ble_eq_true rfl, Nat.le_of_ble_eq_true rfl⟩ rfl rfl) ((hX.2.2.2.2.2.2.2.2.2 _ hl3).1) rfl rfl rfl rfl rfl (Nat.le_of_ble_eq_true rfl) (dkAt dkX7_leftOut 39 (q := (72, .invokevirtual 340, 3)) rfl) ⟨Nat.zero_le _, Nat.zero_le _⟩ (pc2 := 75) rfl rfl ?_
      refine k_istore C (pc2 := 77) (dkAt dkX7_leftOut 40 (q := (75, .istore 8, 2)) rfl) rfl (by decide) (lv2 := [(8, .int q5), (0, rA G 0), (1, .int x1), (2, .int x2), (3, .int x3), (5, .int x5), (6, .int x6), (7, .int x7)]) rfl ?_
      refine k_iload C (pc2 := 79) (dkAt dkX7_leftOut 41 (q := (77, .iload 5, 2)) rfl) rfl 5 rfl ?_
      refine k_iload C (pc2 := 81) (dkAt dkX7_leftOut 42 (q := (79, .iload 8, 2)) rfl) rfl 0 rfl ?_
      refine k_iadd C (pc2 := 82) (dkAt dkX7_leftOut 43 (q := (81, .iadd, 1)) rfl) rfl ?_
      refine kb_istore C (pc2 := 84) (dkAt dkX7_leftOut 44 (q := (82, .istore 5, 2)) rfl) rfl (by decide) (lv2 := fun v7 => [(5, .int v7), (8, .int q5), (0, rA G 0), (1, .int x1), (2, .int x2), (3, .int x3), (6, .int x6), (7, .int x7)]) (fun _ => rfl) h (fun v7 h => ?_)
      refine k_iload C (pc2 := 86) (dkAt dkX7_leftOut 45 (q := (84, .iload 6, 2)) rfl) rfl 6 rfl ?_
      refine k_aload_n C (pc2 := 87) (dkAt dkX7_leftOut 46 (q := (86, .aload_n 0, 1)) rfl) rfl rfl 2 rfl ?_
      refine kf_X7_10 C (pc2 := 90) (o := 0) (o2 := 1) hX.1 rfl (dkAt dkX7_leftOut 47 (q := (87, .getfield 10, 3)) rfl) rfl ?_
      refine kf_X7_122 C (pc2 := 93) (o := 1) (o2 := 2) hX.2.1.1 rfl (dkAt dkX7_leftOut 48 (q := (90, .getfield 122, 3)) rfl) rfl ?_
      refine k_iload C (pc2 := 95) (dkAt dkX7_leftOut 49 (q := (93, .iload 7, 2)) rfl) rfl 7 rfl ?_
      refine k_aa11 C (pc2 := 96) (o := 2) (o2 := 3 + x7.toNatClampNeg) (nA := 8) hX.2.1.2.1 rfl (dkAt dkX7_leftOut 50 (q := (95, .aaload, 1)) rfl) rfl h (fun h hl8 => ?_)
      refine k_iload C (pc2 := 98) (dkAt dkX7_leftOut 51 (q := (96, .iload 8, 2)) rfl) rfl 1 rfl ?_
      obtain ⟨q9, e10, h⟩ := ob_inv h
      refine kc_V C (As := [.int q5]) (st2 := [.int q9, .int x6]) (ct_X2_outAfter l G sh xs (3 + x7.toNatClampNeg) (hX.2.1.2.2 _ hl8) q5 M q9 e10) (cl_X7_344 (hts_of C) ⟨Nat.le_of_ble_eq_true rfl, Nat.le_of_ble_eq_true rfl⟩ rfl rfl) (hX.2.1.2.2 _ hl8) rfl rfl rfl rfl rfl (Nat.le_of_ble_eq_true rfl) (dkAt dkX7_leftOut 52 (q := (98, .invokevirtual 344, 3)) rfl) ⟨Nat.zero_le _, Nat.zero_le _⟩ (pc2 := 101) rfl rfl ?_
      refine k_mmax C tM_X7_298 (Nat.le_of_ble_eq_true rfl) (Nat.le_of_ble_eq_true rfl) (Nat.zero_le _) (Nat.zero_le _) (dkAt dkX7_leftOut 53 (q := (101, .invokestatic 298, 3)) rfl) (pc2 := 104) rfl ?_
      refine kb_istore C (pc2 := 106) (dkAt dkX7_leftOut 54 (q := (104, .istore 6, 2)) rfl) rfl (by decide) (lv2 := fun v11 => [(6, .int v11), (5, .int v7), (8, .int q5), (0, rA G 0), (1, .int x1), (2, .int x2), (3, .int x3), (7, .int x7)]) (fun _ => rfl) h (fun v11 h => ?_)
      refine kb_iinc C (pc2 := 109) (dkAt dkX7_leftOut 55 (q := (106, .iinc 7 1, 3)) rfl) rfl (j := 7) rfl (v := x7 + 1) rfl (by decide) (lv2 := fun v12 => [(7, .int v12), (6, .int v11), (5, .int v7), (8, .int q5), (0, rA G 0), (1, .int x1), (2, .int x2), (3, .int x3)]) (fun _ => rfl) h (fun v12 h => ?_)
      refine k_goto C (tgt := 43) (dkAt dkX7_leftOut 56 (q := (109, .goto (-66), 3)) rfl) (by decide) ?_
      refine k_lv [4, 5, 6, 7, 2, 1, 0] (lv2 := [(0, rA G 0), (1, .int x1), (2, .int x2), (3, .int x3), (5, .int v7), (6, .int v11), (7, .int v12)]) rfl ?_
      exact ih v7 v11 v12 h
set_option maxRecDepth 100000 in
set_option maxHeartbeats 4000000 in
theorem ct_X7_leftOut (l : Launch) (G : GG) (sh : Sh) (xs : List va_E) (hX : isX sh) (x1 : Int32) (x2 : Int32) (x3 : Int32) (M : Mm) (r : Mm × Int32) (h : f_X7_leftOut x1 x2 x3 M = some r) : Ct l yX7_leftOut cX7_leftOut 9 (some .int) rm_X7_leftOut G [rA G 0, .int x1, .int x2, .int x3] sh M xs (some (.int r.2)) sh r.1 xs 0 0 := by
  refine ct_of (by decide) (Nat.le_of_ble_eq_true rfl) ?_
  intro p e s m args below meth c hnm C
  refine k_lv [0, 1, 2, 3] (lv2 := [(0, rA G 0), (1, .int x1), (2, .int x2), (3, .int x3)]) rfl ?_
  unfold f_X7_leftOut at h
  refine k_iload_n C (pc2 := 1) (dkAt dkX7_leftOut 0 (q := (0, .iload_n 3, 1)) rfl) rfl rfl 3 rfl ?_
  refine k_iconst C (pc2 := 2) (dkAt dkX7_leftOut 1 (q := (1, .iconst 0, 1)) rfl) rfl (v := 0) rfl ?_
  refine k_iconst C (pc2 := 3) (dkAt dkX7_leftOut 2 (q := (2, .iconst 1, 1)) rfl) rfl (v := 1) rfl ?_
  obtain ⟨q1, e2, h⟩ := ob_inv h
  refine kc_S C (As := [.int x3, .int 0, .int 1]) (st2 := [.int q1]) (ct_X7_within l G sh xs x3 0 1 M q1 e2) (cl_X7_58 (hts_of C) ⟨Nat.le_of_ble_eq_true rfl, Nat.le_of_ble_eq_true rfl⟩ rfl rfl) rfl rfl (Nat.le_of_ble_eq_true rfl) (dkAt dkX7_leftOut 3 (q := (3, .invokestatic 58, 3)) rfl) ⟨Nat.zero_le _, Nat.zero_le _⟩ (pc2 := 6) rfl rfl ?_
  refine k_if_eq C (tgt := 18) (pc2 := 9) (dkAt dkX7_leftOut 4 (q := (6, .ifCond .eq 12, 3)) rfl) (by decide) rfl h (fun h => ?_) (fun h => ?_)
  · refine k_bipush C (pc2 := 20) (dkAt dkX7_leftOut 10 (q := (18, .bipush (-2), 2)) rfl) rfl (v := (-2)) rfl ?_
    refine k_istore C (pc2 := 22) (dkAt dkX7_leftOut 11 (q := (20, .istore 4, 2)) rfl) rfl (by decide) (lv2 := [(4, .int (-2)), (0, rA G 0), (1, .int x1), (2, .int x2), (3, .int x3)]) rfl ?_
    refine k_iload C (pc2 := 24) (dkAt dkX7_leftOut 12 (q := (22, .iload 4, 2)) rfl) rfl 0 rfl ?_
    refine k_if_eq C (tgt := 34) (pc2 := 27) (dkAt dkX7_leftOut 13 (q := (24, .ifCond .eq 10, 3)) rfl) (by decide) rfl h (fun h => ?_) (fun h => ?_)
    · refine k_iconst C (pc2 := 35) (dkAt dkX7_leftOut 18 (q := (34, .iconst 0, 1)) rfl) rfl (v := 0) rfl ?_
      refine k_istore C (pc2 := 37) (dkAt dkX7_leftOut 19 (q := (35, .istore 5, 2)) rfl) rfl (by decide) (lv2 := [(5, .int 0), (4, .int (-2)), (0, rA G 0), (1, .int x1), (2, .int x2), (3, .int x3)]) rfl ?_
      refine k_iconst C (pc2 := 38) (dkAt dkX7_leftOut 20 (q := (37, .iconst 0, 1)) rfl) rfl (v := 0) rfl ?_
      refine k_istore C (pc2 := 40) (dkAt dkX7_leftOut 21 (q := (38, .istore 6, 2)) rfl) rfl (by decide) (lv2 := [(6, .int 0), (5, .int 0), (4, .int (-2)), (0, rA G 0), (1, .int x1), (2, .int x2), (3, .int x3)]) rfl ?_
      refine k_iconst C (pc2 := 41) (dkAt dkX7_leftOut 22 (q := (40, .iconst 0, 1)) rfl) rfl (v := 0) rfl ?_
      refine k_istore C (pc2 := 43) (dkAt dkX7_leftOut 23 (q := (41, .istore 7, 2)) rfl) rfl (by decide) (lv2 := [(7, .int 0), (6, .int 0), (5, .int 0), (4, .int (-2)), (0, rA G 0), (1, .int x1), (2, .int x2), (3, .int x3)]) rfl ?_
      refine k_lv [4, 5, 6, 7, 2, 1, 0] (lv2 := [(0, rA G 0), (1, .int x1), (2, .int x2), (3, .int x3), (5, .int 0), (6, .int 0), (7, .int 0)]) rfl ?_
      obtain ⟨v15, v16, e14, h⟩ := ob2_inv h
      refine kl_X7_leftOut_L43 C hX x1 x2 x3 M v15 v16 ?_ 1000 0 0 0 e14
      refine k_iload_n C (pc2 := 113) (dkAt dkX7_leftOut 57 (q := (112, .iload_n 3, 1)) rfl) rfl rfl 0 rfl ?_
      refine k_if_ne C (tgt := 121) (pc2 := 116) (dkAt dkX7_leftOut 58 (q := (113, .ifCond .ne 8, 3)) rfl) (by decide) rfl h (fun h => ?_) (fun h => ?_)
      · refine k_iload C (pc2 := 123) (dkAt dkX7_leftOut 61 (q := (121, .iload 6, 2)) rfl) rfl 2 rfl ?_
        exact k_iret C (dkAt dkX7_leftOut 62 (q := (123, .ireturn, 1)) rfl) (pe2 (Option.some.inj h)) rfl (pe1 (Option.some.inj h)) rfl
      · refine k_iload C (pc2 := 118) (dkAt dkX7_leftOut 59 (q := (116, .iload 5, 2)) rfl) rfl 1 rfl ?_
        refine k_goto C (tgt := 123) (dkAt dkX7_leftOut 60 (q := (118, .goto 5, 3)) rfl) (by decide) ?_
        exact k_iret C (dkAt dkX7_leftOut 62 (q := (123, .ireturn, 1)) rfl) (pe2 (Option.some.inj h)) rfl (pe1 (Option.some.inj h)) rfl
    · refine k_aload_n C (pc2 := 28) (dkAt dkX7_leftOut 14 (q := (27, .aload_n 0, 1)) rfl) rfl rfl 1 rfl ?_
      refine k_iload C (pc2 := 30) (dkAt dkX7_leftOut 15 (q := (28, .iload 4, 2)) rfl) rfl 0 rfl ?_
      obtain ⟨q17, e18, h⟩ := ob_inv h
      refine kc_V C (As := [.int (-2)]) (st2 := [.int q17.2]) (ct_X7_refuse l G sh xs hX (-2) M q17 e18) (cl_X7_62 (hts_of C) ⟨Nat.le_of_ble_eq_true rfl, Nat.le_of_ble_eq_true rfl⟩ rfl rfl) hX.1 rfl rfl rfl rfl rfl (Nat.le_of_ble_eq_true rfl) (dkAt dkX7_leftOut 16 (q := (30, .invokevirtual 62, 3)) rfl) ⟨Nat.zero_le _, Nat.zero_le _⟩ (pc2 := 33) rfl rfl ?_
      exact k_iret C (dkAt dkX7_leftOut 17 (q := (33, .ireturn, 1)) rfl) (pe2 (Option.some.inj h)) rfl (pe1 (Option.some.inj h)) rfl
  · refine k_aload_n C (pc2 := 10) (dkAt dkX7_leftOut 5 (q := (9, .aload_n 0, 1)) rfl) rfl rfl 0 rfl ?_
    refine k_iload_n C (pc2 := 11) (dkAt dkX7_leftOut 6 (q := (10, .iload_n 1, 1)) rfl) rfl rfl 1 rfl ?_
    refine k_iload_n C (pc2 := 12) (dkAt dkX7_leftOut 7 (q := (11, .iload_n 2, 1)) rfl) rfl rfl 2 rfl ?_
    obtain ⟨q19, e20, h⟩ := ob_inv h
    refine kc_V C (As := [.int x1, .int x2]) (st2 := [.int q19]) (ct_X7_troubleOfRightPlan l G sh xs hX x1 x2 M q19 e20) (cl_X7_337 (hts_of C) ⟨Nat.le_of_ble_eq_true rfl, Nat.le_of_ble_eq_true rfl⟩ rfl rfl) hX.1 rfl rfl rfl rfl rfl (Nat.le_of_ble_eq_true rfl) (dkAt dkX7_leftOut 8 (q := (12, .invokevirtual 337, 3)) rfl) ⟨Nat.zero_le _, Nat.zero_le _⟩ (pc2 := 15) rfl rfl ?_
    refine k_goto C (tgt := 20) (dkAt dkX7_leftOut 9 (q := (15, .goto 5, 3)) rfl) (by decide) ?_
    refine k_istore C (pc2 := 22) (dkAt dkX7_leftOut 11 (q := (20, .istore 4, 2)) rfl) rfl (by decide) (lv2 := [(4, .int q19), (0, rA G 0), (1, .int x1), (2, .int x2), (3, .int x3)]) rfl ?_
    refine k_iload C (pc2 := 24) (dkAt dkX7_leftOut 12 (q := (22, .iload 4, 2)) rfl) rfl 0 rfl ?_
    refine k_if_eq C (tgt := 34) (pc2 := 27) (dkAt dkX7_leftOut 13 (q := (24, .ifCond .eq 10, 3)) rfl) (by decide) rfl h (fun h => ?_) (fun h => ?_)
    · refine k_iconst C (pc2 := 35) (dkAt dkX7_leftOut 18 (q := (34, .iconst 0, 1)) rfl) rfl (v := 0) rfl ?_
      refine k_istore C (pc2 := 37) (dkAt dkX7_leftOut 19 (q := (35, .istore 5, 2)) rfl) rfl (by decide) (lv2 := [(5, .int 0), (4, .int q19), (0, rA G 0), (1, .int x1), (2, .int x2), (3, .int x3)]) rfl ?_
      refine k_iconst C (pc2 := 38) (dkAt dkX7_leftOut 20 (q := (37, .iconst 0, 1)) rfl) rfl (v := 0) rfl ?_
      refine k_istore C (pc2 := 40) (dkAt dkX7_leftOut 21 (q := (38, .istore 6, 2)) rfl) rfl (by decide) (lv2 := [(6, .int 0), (5, .int 0), (4, .int q19), (0, rA G 0), (1, .int x1), (2, .int x2), (3, .int x3)]) rfl ?_
      refine k_iconst C (pc2 := 41) (dkAt dkX7_leftOut 22 (q := (40, .iconst 0, 1)) rfl) rfl (v := 0) rfl ?_
      refine k_istore C (pc2 := 43) (dkAt dkX7_leftOut 23 (q := (41, .istore 7, 2)) rfl) rfl (by decide) (lv2 := [(7, .int 0), (6, .int 0), (5, .int 0), (4, .int q19), (0, rA G 0), (1, .int x1), (2, .int x2), (3, .int x3)]) rfl ?_
      refine k_lv [4, 5, 6, 7, 2, 1, 0] (lv2 := [(0, rA G 0), (1, .int x1), (2, .int x2), (3, .int x3), (5, .int 0), (6, .int 0), (7, .int 0)]) rfl ?_
      obtain ⟨v23, v24, e22, h⟩ := ob2_inv h
      refine kl_X7_leftOut_L43 C hX x1 x2 x3 M v23 v24 ?_ 1000 0 0 0 e22
      refine k_iload_n C (pc2 := 113) (dkAt dkX7_leftOut 57 (q := (112, .iload_n 3, 1)) rfl) rfl rfl 0 rfl ?_
      refine k_if_ne C (tgt := 121) (pc2 := 116) (dkAt dkX7_leftOut 58 (q := (113, .ifCond .ne 8, 3)) rfl) (by decide) rfl h (fun h => ?_) (fun h => ?_)
      · refine k_iload C (pc2 := 123) (dkAt dkX7_leftOut 61 (q := (121, .iload 6, 2)) rfl) rfl 2 rfl ?_
        exact k_iret C (dkAt dkX7_leftOut 62 (q := (123, .ireturn, 1)) rfl) (pe2 (Option.some.inj h)) rfl (pe1 (Option.some.inj h)) rfl
      · refine k_iload C (pc2 := 118) (dkAt dkX7_leftOut 59 (q := (116, .iload 5, 2)) rfl) rfl 1 rfl ?_
        refine k_goto C (tgt := 123) (dkAt dkX7_leftOut 60 (q := (118, .goto 5, 3)) rfl) (by decide) ?_
        exact k_iret C (dkAt dkX7_leftOut 62 (q := (123, .ireturn, 1)) rfl) (pe2 (Option.some.inj h)) rfl (pe1 (Option.some.inj h)) rfl
    · refine k_aload_n C (pc2 := 28) (dkAt dkX7_leftOut 14 (q := (27, .aload_n 0, 1)) rfl) rfl rfl 1 rfl ?_
      refine k_iload C (pc2 := 30) (dkAt dkX7_leftOut 15 (q := (28, .iload 4, 2)) rfl) rfl 0 rfl ?_
      obtain ⟨q25, e26, h⟩ := ob_inv h
      refine kc_V C (As := [.int q19]) (st2 := [.int q25.2]) (ct_X7_refuse l G sh xs hX q19 M q25 e26) (cl_X7_62 (hts_of C) ⟨Nat.le_of_ble_eq_true rfl, Nat.le_of_ble_eq_true rfl⟩ rfl rfl) hX.1 rfl rfl rfl rfl rfl (Nat.le_of_ble_eq_true rfl) (dkAt dkX7_leftOut 16 (q := (30, .invokevirtual 62, 3)) rfl) ⟨Nat.zero_le _, Nat.zero_le _⟩ (pc2 := 33) rfl rfl ?_
      exact k_iret C (dkAt dkX7_leftOut 17 (q := (33, .ireturn, 1)) rfl) (pe2 (Option.some.inj h)) rfl (pe1 (Option.some.inj h)) rfl
set_option maxRecDepth 100000 in
set_option maxHeartbeats 4000000 in
theorem kl_X7_done_L20 {p : Program} {l : Launch} {e : Env} {s : State} {m : MethodId} {args : Array Value} {below : List Frame} {meth : Method} {c : Code} {G : GG} {sh : Sh} {xs : List va_E} {Q : State → Prop} (C : Cx p s m c args meth G RX7 cX7_done 5 (some .int)) (hX : isX sh) (x1 : Int32) (x2 : Int32) (M2 : Mm) (hcont : KW p l e rm_X7_done s m args below meth c G 5 Q sh xs 0 0 M2 51 [(0, rA G 0)] []) : ∀ (n : Nat) (x4 : Int32) (M : Mm), f_X7_done_L20 x1 x2 n x4 M = some M2 → KW p l e rm_X7_done s m args below meth c G 5 Q sh xs 0 0 M 20 [(0, rA G 0), (1, .int x1), (2, .int x2), (4, .int x4)] [] := by
  intro n
  induction n with
  | zero =>
    intro x4 M h
    cases h
  | succ n ih =>
    intro x4 M h
    unfold f_X7_done_L20 at h
    refine k_iload C (pc2 := 22) (dkAt dkX7_done 13 (q := (20, .iload 4, 2)) rfl) rfl 3 rfl ?_
    refine k_iload_n C (pc2 := 23) (dkAt dkX7_done 14 (q := (22, .iload_n 2, 1)) rfl) rfl rfl 2 rfl ?_
    refine k_icmp_ge C (tgt := 51) (pc2 := 26) (dkAt dkX7_done 15 (q := (23, .if_icmp .ge 28, 3)) rfl) (by decide) rfl h (fun h => ?_) (fun h => ?_)
    · refine k_lv [0] (lv2 := [(0, rA G 0)]) rfl ?_
      cases h
      exact hcont
    · refine k_aload_n C (pc2 := 27) (dkAt dkX7_done 16 (q := (26, .aload_n 0, 1)) rfl) rfl rfl 0 rfl ?_
      refine kf_X7_10 C (pc2 := 30) (o := 0) (o2 := 1) hX.1 rfl (dkAt dkX7_done 17 (q := (27, .getfield 10, 3)) rfl) rfl ?_
      refine k_aload_n C (pc2 := 31) (dkAt dkX7_done 18 (q := (30, .aload_n 0, 1)) rfl) rfl rfl 0 rfl ?_
      refine kf_X7_42 C (pc2 := 34) (o := 0) (o2 := 50) hX.1 rfl (dkAt dkX7_done 19 (q := (31, .getfield 42, 3)) rfl) rfl ?_
      refine k_iload_n C (pc2 := 35) (dkAt dkX7_done 20 (q := (34, .iload_n 1, 1)) rfl) rfl rfl 1 rfl ?_
      refine k_aa12 C (pc2 := 36) (o := 50) (o2 := 53 + 2 * x1.toNatClampNeg) (nA := 8) hX.2.2.2.2.2.2.1 rfl (dkAt dkX7_done 21 (q := (35, .aaload, 1)) rfl) rfl h (fun h hl3 => ?_)
      refine k_iload C (pc2 := 38) (dkAt dkX7_done 22 (q := (36, .iload 4, 2)) rfl) rfl 3 rfl ?_
      obtain ⟨q4, e5, h⟩ := ob_inv h
      refine kc_V C (As := [.int x4]) (st2 := [.long q4, rA G 1]) (ct_X4_elementAt l G sh xs (53 + 2 * x1.toNatClampNeg) (hX.2.2.2.2.2.2.2.2.2 _ hl3) x4 M q4 e5) (cl_X7_101 (hts_of C) ⟨Nat.le_of_ble_eq_true rfl, Nat.le_of_ble_eq_true rfl⟩ rfl rfl) ((hX.2.2.2.2.2.2.2.2.2 _ hl3).1) rfl rfl rfl rfl rfl (Nat.le_of_ble_eq_true rfl) (dkAt dkX7_done 23 (q := (38, .invokevirtual 101, 3)) rfl) ⟨Nat.zero_le _, Nat.zero_le _⟩ (pc2 := 41) rfl rfl ?_
      refine k_l2i C (pc2 := 42) (dkAt dkX7_done 24 (q := (41, .l2i, 1)) rfl) rfl ?_
      obtain ⟨q6, e7, h⟩ := ob_inv h
      refine kc_V C (As := [.int q4.toInt32]) (st2 := []) (ct_X1_dinnerOn l G sh xs 1 hX.2.1 q4.toInt32 M q6 e7) (cl_X7_347 (hts_of C) ⟨Nat.le_of_ble_eq_true rfl, Nat.le_of_ble_eq_true rfl⟩ rfl rfl) hX.2.1.1 rfl rfl rfl rfl rfl (Nat.le_of_ble_eq_true rfl) (dkAt dkX7_done 25 (q := (42, .invokevirtual 347, 3)) rfl) ⟨Nat.zero_le _, Nat.zero_le _⟩ (pc2 := 45) rfl rfl ?_
      refine kb_iinc C (pc2 := 48) (dkAt dkX7_done 26 (q := (45, .iinc 4 1, 3)) rfl) rfl (j := 3) rfl (v := x4 + 1) rfl (by decide) (lv2 := fun v8 => [(4, .int v8), (0, rA G 0), (1, .int x1), (2, .int x2)]) (fun _ => rfl) h (fun v8 h => ?_)
      refine k_goto C (tgt := 20) (dkAt dkX7_done 27 (q := (48, .goto (-28), 3)) rfl) (by decide) ?_
      refine k_lv [1, 2, 3, 0] (lv2 := [(0, rA G 0), (1, .int x1), (2, .int x2), (4, .int v8)]) rfl ?_
      exact ih v8 q6 h
set_option maxRecDepth 100000 in
set_option maxHeartbeats 4000000 in
theorem ct_X7_done (l : Launch) (G : GG) (sh : Sh) (xs : List va_E) (hX : isX sh) (x1 : Int32) (x2 : Int32) (M : Mm) (r : Mm × Int32) (h : f_X7_done x1 x2 M = some r) : Ct l yX7_done cX7_done 5 (some .int) rm_X7_done G [rA G 0, .int x1, .int x2] sh M xs (some (.int r.2)) sh r.1 xs 0 0 := by
  refine ct_of (by decide) (Nat.le_of_ble_eq_true rfl) ?_
  intro p e s m args below meth c hnm C
  refine k_lv [0, 1, 2] (lv2 := [(0, rA G 0), (1, .int x1), (2, .int x2)]) rfl ?_
  unfold f_X7_done at h
  refine k_aload_n C (pc2 := 1) (dkAt dkX7_done 0 (q := (0, .aload_n 0, 1)) rfl) rfl rfl 0 rfl ?_
  refine k_iload_n C (pc2 := 2) (dkAt dkX7_done 1 (q := (1, .iload_n 1, 1)) rfl) rfl rfl 1 rfl ?_
  refine k_iload_n C (pc2 := 3) (dkAt dkX7_done 2 (q := (2, .iload_n 2, 1)) rfl) rfl rfl 2 rfl ?_
  obtain ⟨q1, e2, h⟩ := ob_inv h
  refine kc_V C (As := [.int x1, .int x2]) (st2 := [.int q1]) (ct_X7_troubleOfRightPlan l G sh xs hX x1 x2 M q1 e2) (cl_X7_337 (hts_of C) ⟨Nat.le_of_ble_eq_true rfl, Nat.le_of_ble_eq_true rfl⟩ rfl rfl) hX.1 rfl rfl rfl rfl rfl (Nat.le_of_ble_eq_true rfl) (dkAt dkX7_done 3 (q := (3, .invokevirtual 337, 3)) rfl) ⟨Nat.zero_le _, Nat.zero_le _⟩ (pc2 := 6) rfl rfl ?_
  refine k_istore_n C (pc2 := 7) (dkAt dkX7_done 4 (q := (6, .istore_n 3, 1)) rfl) rfl rfl (by decide) (lv2 := [(3, .int q1), (0, rA G 0), (1, .int x1), (2, .int x2)]) rfl ?_
  refine k_iload_n C (pc2 := 8) (dkAt dkX7_done 5 (q := (7, .iload_n 3, 1)) rfl) rfl rfl 0 rfl ?_
  refine k_if_eq C (tgt := 17) (pc2 := 11) (dkAt dkX7_done 6 (q := (8, .ifCond .eq 9, 3)) rfl) (by decide) rfl h (fun h => ?_) (fun h => ?_)
  · refine k_iconst C (pc2 := 18) (dkAt dkX7_done 11 (q := (17, .iconst 0, 1)) rfl) rfl (v := 0) rfl ?_
    refine k_istore C (pc2 := 20) (dkAt dkX7_done 12 (q := (18, .istore 4, 2)) rfl) rfl (by decide) (lv2 := [(4, .int 0), (3, .int q1), (0, rA G 0), (1, .int x1), (2, .int x2)]) rfl ?_
    refine k_lv [2, 3, 4, 0] (lv2 := [(0, rA G 0), (1, .int x1), (2, .int x2), (4, .int 0)]) rfl ?_
    obtain ⟨M11, e10, h⟩ := ob_inv h
    refine kl_X7_done_L20 C hX x1 x2 M11 ?_ 1000 0 M e10
    refine k_aload_n C (pc2 := 52) (dkAt dkX7_done 28 (q := (51, .aload_n 0, 1)) rfl) rfl rfl 0 rfl ?_
    refine kf_X7_10 C (pc2 := 55) (o := 0) (o2 := 1) hX.1 rfl (dkAt dkX7_done 29 (q := (52, .getfield 10, 3)) rfl) rfl ?_
    refine kf_X7_350 C (pc2 := 58) (o := 1) (o2 := 0) hX.2.1.1 (dkAt dkX7_done 30 (q := (55, .getfield 350, 3)) rfl) rfl ?_
    exact k_iret C (dkAt dkX7_done 31 (q := (58, .ireturn, 1)) rfl) (pe2 (Option.some.inj h)) rfl (pe1 (Option.some.inj h)) rfl
  · refine k_aload_n C (pc2 := 12) (dkAt dkX7_done 7 (q := (11, .aload_n 0, 1)) rfl) rfl rfl 1 rfl ?_
    refine k_iload_n C (pc2 := 13) (dkAt dkX7_done 8 (q := (12, .iload_n 3, 1)) rfl) rfl rfl 0 rfl ?_
    obtain ⟨q12, e13, h⟩ := ob_inv h
    refine kc_V C (As := [.int q1]) (st2 := [.int q12.2]) (ct_X7_refuse l G sh xs hX q1 M q12 e13) (cl_X7_62 (hts_of C) ⟨Nat.le_of_ble_eq_true rfl, Nat.le_of_ble_eq_true rfl⟩ rfl rfl) hX.1 rfl rfl rfl rfl rfl (Nat.le_of_ble_eq_true rfl) (dkAt dkX7_done 9 (q := (13, .invokevirtual 62, 3)) rfl) ⟨Nat.zero_le _, Nat.zero_le _⟩ (pc2 := 16) rfl rfl ?_
    exact k_iret C (dkAt dkX7_done 10 (q := (16, .ireturn, 1)) rfl) (pe2 (Option.some.inj h)) rfl (pe1 (Option.some.inj h)) rfl
set_option maxRecDepth 100000 in
set_option maxHeartbeats 4000000 in
theorem ct_X7_dine (l : Launch) (G : GG) (sh : Sh) (xs : List va_E) (hX : isX sh) (x1 : Int32) (M : Mm) (r : Mm × Int32) (h : f_X7_dine x1 M = some r) : Ct l yX7_dine cX7_dine 2 (some .int) rm_X7_dine G [rA G 0, .int x1] sh M xs (some (.int r.2)) sh r.1 xs 0 0 := by
  refine ct_of (by decide) (Nat.le_of_ble_eq_true rfl) ?_
  intro p e s m args below meth c hnm C
  refine k_lv [0, 1] (lv2 := [(0, rA G 0), (1, .int x1)]) rfl ?_
  unfold f_X7_dine at h
  refine k_aload_n C (pc2 := 1) (dkAt dkX7_dine 0 (q := (0, .aload_n 0, 1)) rfl) rfl rfl 0 rfl ?_
  refine kf_X7_10 C (pc2 := 4) (o := 0) (o2 := 1) hX.1 rfl (dkAt dkX7_dine 1 (q := (1, .getfield 10, 3)) rfl) rfl ?_
  refine k_iload_n C (pc2 := 5) (dkAt dkX7_dine 2 (q := (4, .iload_n 1, 1)) rfl) rfl rfl 1 rfl ?_
  obtain ⟨q1, e2, h⟩ := ob_inv h
  refine kc_V C (As := [.int x1]) (st2 := [.int q1]) (ct_X1_hasDay l G sh xs 1 hX.2.1 x1 M q1 e2) (cl_X7_147 (hts_of C) ⟨Nat.le_of_ble_eq_true rfl, Nat.le_of_ble_eq_true rfl⟩ rfl rfl) hX.2.1.1 rfl rfl rfl rfl rfl (Nat.le_of_ble_eq_true rfl) (dkAt dkX7_dine 3 (q := (5, .invokevirtual 147, 3)) rfl) ⟨Nat.zero_le _, Nat.zero_le _⟩ (pc2 := 8) rfl rfl ?_
  refine k_if_ne C (tgt := 18) (pc2 := 11) (dkAt dkX7_dine 4 (q := (8, .ifCond .ne 10, 3)) rfl) (by decide) rfl h (fun h => ?_) (fun h => ?_)
  · refine k_aload_n C (pc2 := 19) (dkAt dkX7_dine 9 (q := (18, .aload_n 0, 1)) rfl) rfl rfl 0 rfl ?_
    refine kf_X7_10 C (pc2 := 22) (o := 0) (o2 := 1) hX.1 rfl (dkAt dkX7_dine 10 (q := (19, .getfield 10, 3)) rfl) rfl ?_
    refine k_iload_n C (pc2 := 23) (dkAt dkX7_dine 11 (q := (22, .iload_n 1, 1)) rfl) rfl rfl 1 rfl ?_
    obtain ⟨q3, e4, h⟩ := ob_inv h
    refine kc_V C (As := [.int x1]) (st2 := [.int q3]) (ct_X1_howManyOn l G sh xs 1 hX.2.1 x1 M q3 e4) (cl_X7_353 (hts_of C) ⟨Nat.le_of_ble_eq_true rfl, Nat.le_of_ble_eq_true rfl⟩ rfl rfl) hX.2.1.1 rfl rfl rfl rfl rfl (Nat.le_of_ble_eq_true rfl) (dkAt dkX7_dine 12 (q := (23, .invokevirtual 353, 3)) rfl) ⟨Nat.zero_le _, Nat.zero_le _⟩ (pc2 := 26) rfl rfl ?_
    refine k_aload_n C (pc2 := 27) (dkAt dkX7_dine 13 (q := (26, .aload_n 0, 1)) rfl) rfl rfl 0 rfl ?_
    refine kf_X7_10 C (pc2 := 30) (o := 0) (o2 := 1) hX.1 rfl (dkAt dkX7_dine 14 (q := (27, .getfield 10, 3)) rfl) rfl ?_
    refine kf_X7_160 C (pc2 := 33) (o := 1) (o2 := 0) hX.2.1.1 (dkAt dkX7_dine 15 (q := (30, .getfield 160, 3)) rfl) rfl ?_
    refine k_icmp_ge C (tgt := 43) (pc2 := 36) (dkAt dkX7_dine 16 (q := (33, .if_icmp .ge 10, 3)) rfl) (by decide) rfl h (fun h => ?_) (fun h => ?_)
    · refine k_aload_n C (pc2 := 44) (dkAt dkX7_dine 21 (q := (43, .aload_n 0, 1)) rfl) rfl rfl 0 rfl ?_
      refine kf_X7_10 C (pc2 := 47) (o := 0) (o2 := 1) hX.1 rfl (dkAt dkX7_dine 22 (q := (44, .getfield 10, 3)) rfl) rfl ?_
      refine k_iload_n C (pc2 := 48) (dkAt dkX7_dine 23 (q := (47, .iload_n 1, 1)) rfl) rfl rfl 1 rfl ?_
      obtain ⟨q5, e6, h⟩ := ob_inv h
      refine kc_V C (As := [.int x1]) (st2 := []) (ct_X1_dinnerOn l G sh xs 1 hX.2.1 x1 M q5 e6) (cl_X7_347 (hts_of C) ⟨Nat.le_of_ble_eq_true rfl, Nat.le_of_ble_eq_true rfl⟩ rfl rfl) hX.2.1.1 rfl rfl rfl rfl rfl (Nat.le_of_ble_eq_true rfl) (dkAt dkX7_dine 24 (q := (48, .invokevirtual 347, 3)) rfl) ⟨Nat.zero_le _, Nat.zero_le _⟩ (pc2 := 51) rfl rfl ?_
      refine k_aload_n C (pc2 := 52) (dkAt dkX7_dine 25 (q := (51, .aload_n 0, 1)) rfl) rfl rfl 0 rfl ?_
      refine kf_X7_10 C (pc2 := 55) (o := 0) (o2 := 1) hX.1 rfl (dkAt dkX7_dine 26 (q := (52, .getfield 10, 3)) rfl) rfl ?_
      refine k_iload_n C (pc2 := 56) (dkAt dkX7_dine 27 (q := (55, .iload_n 1, 1)) rfl) rfl rfl 1 rfl ?_
      obtain ⟨q7, e8, h⟩ := ob_inv h
      refine kc_V C (As := [.int x1]) (st2 := [.int q7]) (ct_X1_howManyOn l G sh xs 1 hX.2.1 x1 q5 q7 e8) (cl_X7_353 (hts_of C) ⟨Nat.le_of_ble_eq_true rfl, Nat.le_of_ble_eq_true rfl⟩ rfl rfl) hX.2.1.1 rfl rfl rfl rfl rfl (Nat.le_of_ble_eq_true rfl) (dkAt dkX7_dine 28 (q := (56, .invokevirtual 353, 3)) rfl) ⟨Nat.zero_le _, Nat.zero_le _⟩ (pc2 := 59) rfl rfl ?_
      exact k_iret C (dkAt dkX7_dine 29 (q := (59, .ireturn, 1)) rfl) (pe2 (Option.some.inj h)) rfl (pe1 (Option.some.inj h)) rfl
    · refine k_aload_n C (pc2 := 37) (dkAt dkX7_dine 17 (q := (36, .aload_n 0, 1)) rfl) rfl rfl 0 rfl ?_
      refine k_bipush C (pc2 := 39) (dkAt dkX7_dine 18 (q := (37, .bipush (-5), 2)) rfl) rfl (v := (-5)) rfl ?_
      obtain ⟨q9, e10, h⟩ := ob_inv h
      refine kc_V C (As := [.int (-5)]) (st2 := [.int q9.2]) (ct_X7_refuse l G sh xs hX (-5) M q9 e10) (cl_X7_62 (hts_of C) ⟨Nat.le_of_ble_eq_true rfl, Nat.le_of_ble_eq_true rfl⟩ rfl rfl) hX.1 rfl rfl rfl rfl rfl (Nat.le_of_ble_eq_true rfl) (dkAt dkX7_dine 19 (q := (39, .invokevirtual 62, 3)) rfl) ⟨Nat.zero_le _, Nat.zero_le _⟩ (pc2 := 42) rfl rfl ?_
      exact k_iret C (dkAt dkX7_dine 20 (q := (42, .ireturn, 1)) rfl) (pe2 (Option.some.inj h)) rfl (pe1 (Option.some.inj h)) rfl
  · refine k_aload_n C (pc2 := 12) (dkAt dkX7_dine 5 (q := (11, .aload_n 0, 1)) rfl) rfl rfl 0 rfl ?_
    refine k_bipush C (pc2 := 14) (dkAt dkX7_dine 6 (q := (12, .bipush (-2), 2)) rfl) rfl (v := (-2)) rfl ?_
    obtain ⟨q11, e12, h⟩ := ob_inv h
    refine kc_V C (As := [.int (-2)]) (st2 := [.int q11.2]) (ct_X7_refuse l G sh xs hX (-2) M q11 e12) (cl_X7_62 (hts_of C) ⟨Nat.le_of_ble_eq_true rfl, Nat.le_of_ble_eq_true rfl⟩ rfl rfl) hX.1 rfl rfl rfl rfl rfl (Nat.le_of_ble_eq_true rfl) (dkAt dkX7_dine 7 (q := (14, .invokevirtual 62, 3)) rfl) ⟨Nat.zero_le _, Nat.zero_le _⟩ (pc2 := 17) rfl rfl ?_
    exact k_iret C (dkAt dkX7_dine 8 (q := (17, .ireturn, 1)) rfl) (pe2 (Option.some.inj h)) rfl (pe1 (Option.some.inj h)) rfl
set_option maxRecDepth 100000 in
set_option maxHeartbeats 4000000 in
theorem ct_X7_clear (l : Launch) (G : GG) (sh : Sh) (xs : List va_E) (hX : isX sh) (x1 : Int32) (M : Mm) (r : Mm × Int32) (h : f_X7_clear x1 M = some r) : Ct l yX7_clear cX7_clear 3 (some .int) rm_X7_clear G [rA G 0, .int x1] sh M xs (some (.int r.2)) sh r.1 xs 0 0 := by
  refine ct_of (by decide) (Nat.le_of_ble_eq_true rfl) ?_
  intro p e s m args below meth c hnm C
  refine k_lv [0, 1] (lv2 := [(0, rA G 0), (1, .int x1)]) rfl ?_
  unfold f_X7_clear at h
  refine k_aload_n C (pc2 := 1) (dkAt dkX7_clear 0 (q := (0, .aload_n 0, 1)) rfl) rfl rfl 0 rfl ?_
  refine kf_X7_10 C (pc2 := 4) (o := 0) (o2 := 1) hX.1 rfl (dkAt dkX7_clear 1 (q := (1, .getfield 10, 3)) rfl) rfl ?_
  refine k_iload_n C (pc2 := 5) (dkAt dkX7_clear 2 (q := (4, .iload_n 1, 1)) rfl) rfl rfl 1 rfl ?_
  obtain ⟨q1, e2, h⟩ := ob_inv h
  refine kc_V C (As := [.int x1]) (st2 := [.int q1]) (ct_X1_hasPerson l G sh xs 1 hX.2.1 x1 M q1 e2) (cl_X7_105 (hts_of C) ⟨Nat.le_of_ble_eq_true rfl, Nat.le_of_ble_eq_true rfl⟩ rfl rfl) hX.2.1.1 rfl rfl rfl rfl rfl (Nat.le_of_ble_eq_true rfl) (dkAt dkX7_clear 3 (q := (5, .invokevirtual 105, 3)) rfl) ⟨Nat.zero_le _, Nat.zero_le _⟩ (pc2 := 8) rfl rfl ?_
  refine k_if_ne C (tgt := 18) (pc2 := 11) (dkAt dkX7_clear 4 (q := (8, .ifCond .ne 10, 3)) rfl) (by decide) rfl h (fun h => ?_) (fun h => ?_)
  · refine k_aload_n C (pc2 := 19) (dkAt dkX7_clear 9 (q := (18, .aload_n 0, 1)) rfl) rfl rfl 0 rfl ?_
    refine kf_X7_10 C (pc2 := 22) (o := 0) (o2 := 1) hX.1 rfl (dkAt dkX7_clear 10 (q := (19, .getfield 10, 3)) rfl) rfl ?_
    refine kf_X7_122 C (pc2 := 25) (o := 1) (o2 := 2) hX.2.1.1 rfl (dkAt dkX7_clear 11 (q := (22, .getfield 122, 3)) rfl) rfl ?_
    refine k_iload_n C (pc2 := 26) (dkAt dkX7_clear 12 (q := (25, .iload_n 1, 1)) rfl) rfl rfl 1 rfl ?_
    refine k_aa11 C (pc2 := 27) (o := 2) (o2 := 3 + x1.toNatClampNeg) (nA := 8) hX.2.1.2.1 rfl (dkAt dkX7_clear 13 (q := (26, .aaload, 1)) rfl) rfl h (fun h hl3 => ?_)
    refine kf_X7_203 C (pc2 := 30) (o := 3 + x1.toNatClampNeg) (o2 := 0) (hX.2.1.2.2 _ hl3) (dkAt dkX7_clear 14 (q := (27, .getfield 203, 3)) rfl) rfl ?_
    obtain ⟨q4, e5, h⟩ := ob_inv h
    refine kc_S C (As := [.int (M.1 (3 + x1.toNatClampNeg) 3)]) (st2 := [.int q4]) (ct_J6_bitCount_0f7a4 l G sh xs (M.1 (3 + x1.toNatClampNeg) 3) M q4 e5) (cl_X7_232 (hts_of C) ⟨Nat.le_of_ble_eq_true rfl, Nat.le_of_ble_eq_true rfl⟩ rfl rfl) rfl rfl (Nat.le_of_ble_eq_true rfl) (dkAt dkX7_clear 15 (q := (30, .invokestatic 232, 3)) rfl) ⟨Nat.zero_le _, Nat.zero_le _⟩ (pc2 := 33) rfl rfl ?_
    refine k_istore_n C (pc2 := 34) (dkAt dkX7_clear 16 (q := (33, .istore_n 2, 1)) rfl) rfl rfl (by decide) (lv2 := [(2, .int q4), (0, rA G 0), (1, .int x1)]) rfl ?_
    refine k_aload_n C (pc2 := 35) (dkAt dkX7_clear 17 (q := (34, .aload_n 0, 1)) rfl) rfl rfl 1 rfl ?_
    refine kf_X7_10 C (pc2 := 38) (o := 0) (o2 := 1) hX.1 rfl (dkAt dkX7_clear 18 (q := (35, .getfield 10, 3)) rfl) rfl ?_
    refine kf_X7_122 C (pc2 := 41) (o := 1) (o2 := 2) hX.2.1.1 rfl (dkAt dkX7_clear 19 (q := (38, .getfield 122, 3)) rfl) rfl ?_
    refine k_iload_n C (pc2 := 42) (dkAt dkX7_clear 20 (q := (41, .iload_n 1, 1)) rfl) rfl rfl 2 rfl ?_
    refine k_aa11 C (pc2 := 43) (o := 2) (o2 := 3 + x1.toNatClampNeg) (nA := 8) hX.2.1.2.1 rfl (dkAt dkX7_clear 21 (q := (42, .aaload, 1)) rfl) rfl h (fun h hl6 => ?_)
    refine k_iconst C (pc2 := 44) (dkAt dkX7_clear 22 (q := (43, .iconst 0, 1)) rfl) rfl (v := 0) rfl ?_
    refine kp_X7_203 C (pc2 := 47) (o := 3 + x1.toNatClampNeg) (hX.2.1.2.2 _ hl6) (dkAt dkX7_clear 23 (q := (44, .putfield 203, 3)) rfl) rfl h (fun M7 h => ?_)
    refine k_iload_n C (pc2 := 48) (dkAt dkX7_clear 24 (q := (47, .iload_n 2, 1)) rfl) rfl rfl 0 rfl ?_
    exact k_iret C (dkAt dkX7_clear 25 (q := (48, .ireturn, 1)) rfl) (pe2 (Option.some.inj h)) rfl (pe1 (Option.some.inj h)) rfl
  · refine k_aload_n C (pc2 := 12) (dkAt dkX7_clear 5 (q := (11, .aload_n 0, 1)) rfl) rfl rfl 0 rfl ?_
    refine k_bipush C (pc2 := 14) (dkAt dkX7_clear 6 (q := (12, .bipush (-2), 2)) rfl) rfl (v := (-2)) rfl ?_
    obtain ⟨q8, e9, h⟩ := ob_inv h
    refine kc_V C (As := [.int (-2)]) (st2 := [.int q8.2]) (ct_X7_refuse l G sh xs hX (-2) M q8 e9) (cl_X7_62 (hts_of C) ⟨Nat.le_of_ble_eq_true rfl, Nat.le_of_ble_eq_true rfl⟩ rfl rfl) hX.1 rfl rfl rfl rfl rfl (Nat.le_of_ble_eq_true rfl) (dkAt dkX7_clear 7 (q := (14, .invokevirtual 62, 3)) rfl) ⟨Nat.zero_le _, Nat.zero_le _⟩ (pc2 := 17) rfl rfl ?_
    exact k_iret C (dkAt dkX7_clear 8 (q := (17, .ireturn, 1)) rfl) (pe2 (Option.some.inj h)) rfl (pe1 (Option.some.inj h)) rfl
set_option maxRecDepth 100000 in
set_option maxHeartbeats 4000000 in
theorem kl_X7_pass_L21 {p : Program} {l : Launch} {e : Env} {s : State} {m : MethodId} {args : Array Value} {below : List Frame} {meth : Method} {c : Code} {G : GG} {sh : Sh} {xs : List va_E} {Q : State → Prop} (C : Cx p s m c args meth G RX7 cX7_pass 4 (some .int)) (hX : isX sh) (x1 : Int32) (y2 : Int32) (M2 : Mm) (hcont : KW p l e rm_X7_pass s m args below meth c G 4 Q sh xs 0 0 M2 42 [(2, .int y2)] []) : ∀ (n : Nat) (x2 : Int32) (x3 : Int32) (M : Mm), f_X7_pass_L21 x1 n x2 x3 M = some (y2, M2) → KW p l e rm_X7_pass s m args below meth c G 4 Q sh xs 0 0 M 21 [(0, rA G 0), (1, .int x1), (2, .int x2), (3, .int x3)] [] := by
  intro n
  induction n with
  | zero =>
    intro x2 x3 M h
    cases h
  | succ n ih =>
    intro x2 x3 M h
    unfold f_X7_pass_L21 at h
    refine k_iload_n C (pc2 := 22) (dkAt dkX7_pass 13 (q := (21, .iload_n 3, 1)) rfl) rfl rfl 3 rfl ?_
    refine k_iload_n C (pc2 := 23) (dkAt dkX7_pass 14 (q := (22, .iload_n 1, 1)) rfl) rfl rfl 1 rfl ?_
    refine k_icmp_ge C (tgt := 42) (pc2 := 26) (dkAt dkX7_pass 15 (q := (23, .if_icmp .ge 19, 3)) rfl) (by decide) rfl h (fun h => ?_) (fun h => ?_)
    · refine k_lv [2] (lv2 := [(2, .int x2)]) rfl ?_
      cases h
      exact hcont
    · refine k_iload_n C (pc2 := 27) (dkAt dkX7_pass 16 (q := (26, .iload_n 2, 1)) rfl) rfl rfl 2 rfl ?_
      refine k_aload_n C (pc2 := 28) (dkAt dkX7_pass 17 (q := (27, .aload_n 0, 1)) rfl) rfl rfl 0 rfl ?_
      refine kf_X7_10 C (pc2 := 31) (o := 0) (o2 := 1) hX.1 rfl (dkAt dkX7_pass 18 (q := (28, .getfield 10, 3)) rfl) rfl ?_
      obtain ⟨q3, e4, h⟩ := ob_inv h
      refine kc_V C (As := []) (st2 := [.int q3.2, .int x2]) (ct_X1_passDay l G sh xs 1 hX.2.1 M q3 e4) (cl_X7_356 (hts_of C) ⟨Nat.le_of_ble_eq_true rfl, Nat.le_of_ble_eq_true rfl⟩ rfl rfl) hX.2.1.1 rfl rfl rfl rfl rfl (Nat.le_of_ble_eq_true rfl) (dkAt dkX7_pass 19 (q := (31, .invokevirtual 356, 3)) rfl) ⟨Nat.zero_le _, Nat.zero_le _⟩ (pc2 := 34) rfl rfl ?_
      refine k_iadd C (pc2 := 35) (dkAt dkX7_pass 20 (q := (34, .iadd, 1)) rfl) rfl ?_
      refine kb_istore_n C (pc2 := 36) (dkAt dkX7_pass 21 (q := (35, .istore_n 2, 1)) rfl) rfl rfl (by decide) (lv2 := fun v5 => [(2, .int v5), (0, rA G 0), (1, .int x1), (3, .int x3)]) (fun _ => rfl) h (fun v5 h => ?_)
      refine kb_iinc C (pc2 := 39) (dkAt dkX7_pass 22 (q := (36, .iinc 3 1, 3)) rfl) rfl (j := 3) rfl (v := x3 + 1) rfl (by decide) (lv2 := fun v6 => [(3, .int v6), (2, .int v5), (0, rA G 0), (1, .int x1)]) (fun _ => rfl) h (fun v6 h => ?_)
      refine k_goto C (tgt := 21) (dkAt dkX7_pass 23 (q := (39, .goto (-18), 3)) rfl) (by decide) ?_
      refine k_lv [2, 3, 1, 0] (lv2 := [(0, rA G 0), (1, .int x1), (2, .int v5), (3, .int v6)]) rfl ?_
      exact ih v5 v6 q3.1 h
set_option maxRecDepth 100000 in
set_option maxHeartbeats 4000000 in
theorem ct_X7_pass (l : Launch) (G : GG) (sh : Sh) (xs : List va_E) (hX : isX sh) (x1 : Int32) (M : Mm) (r : Mm × Int32) (h : f_X7_pass x1 M = some r) : Ct l yX7_pass cX7_pass 4 (some .int) rm_X7_pass G [rA G 0, .int x1] sh M xs (some (.int r.2)) sh r.1 xs 0 0 := by
  refine ct_of (by decide) (Nat.le_of_ble_eq_true rfl) ?_
  intro p e s m args below meth c hnm C
  refine k_lv [0, 1] (lv2 := [(0, rA G 0), (1, .int x1)]) rfl ?_
  unfold f_X7_pass at h
  refine k_iload_n C (pc2 := 1) (dkAt dkX7_pass 0 (q := (0, .iload_n 1, 1)) rfl) rfl rfl 1 rfl ?_
  refine k_iconst C (pc2 := 2) (dkAt dkX7_pass 1 (q := (1, .iconst 1, 1)) rfl) rfl (v := 1) rfl ?_
  refine k_bipush C (pc2 := 4) (dkAt dkX7_pass 2 (q := (2, .bipush 99, 2)) rfl) rfl (v := 99) rfl ?_
  obtain ⟨q1, e2, h⟩ := ob_inv h
  refine kc_S C (As := [.int x1, .int 1, .int 99]) (st2 := [.int q1]) (ct_X7_within l G sh xs x1 1 99 M q1 e2) (cl_X7_58 (hts_of C) ⟨Nat.le_of_ble_eq_true rfl, Nat.le_of_ble_eq_true rfl⟩ rfl rfl) rfl rfl (Nat.le_of_ble_eq_true rfl) (dkAt dkX7_pass 3 (q := (4, .invokestatic 58, 3)) rfl) ⟨Nat.zero_le _, Nat.zero_le _⟩ (pc2 := 7) rfl rfl ?_
  refine k_if_ne C (tgt := 17) (pc2 := 10) (dkAt dkX7_pass 4 (q := (7, .ifCond .ne 10, 3)) rfl) (by decide) rfl h (fun h => ?_) (fun h => ?_)
  · refine k_iconst C (pc2 := 18) (dkAt dkX7_pass 9 (q := (17, .iconst 0, 1)) rfl) rfl (v := 0) rfl ?_
    refine k_istore_n C (pc2 := 19) (dkAt dkX7_pass 10 (q := (18, .istore_n 2, 1)) rfl) rfl rfl (by decide) (lv2 := [(2, .int 0), (0, rA G 0), (1, .int x1)]) rfl ?_
    refine k_iconst C (pc2 := 20) (dkAt dkX7_pass 11 (q := (19, .iconst 0, 1)) rfl) rfl (v := 0) rfl ?_
    refine k_istore_n C (pc2 := 21) (dkAt dkX7_pass 12 (q := (20, .istore_n 3, 1)) rfl) rfl rfl (by decide) (lv2 := [(3, .int 0), (2, .int 0), (0, rA G 0), (1, .int x1)]) rfl ?_
    refine k_lv [2, 3, 1, 0] (lv2 := [(0, rA G 0), (1, .int x1), (2, .int 0), (3, .int 0)]) rfl ?_
    obtain ⟨v9, M10, e8, h⟩ := ob2_inv h
    refine kl_X7_pass_L21 C hX x1 v9 M10 ?_ 1000 0 0 M e8
    refine k_iload_n C (pc2 := 43) (dkAt dkX7_pass 24 (q := (42, .iload_n 2, 1)) rfl) rfl rfl 0 rfl ?_
    exact k_iret C (dkAt dkX7_pass 25 (q := (43, .ireturn, 1)) rfl) (pe2 (Option.some.inj h)) rfl (pe1 (Option.some.inj h)) rfl
  · refine k_aload_n C (pc2 := 11) (dkAt dkX7_pass 5 (q := (10, .aload_n 0, 1)) rfl) rfl rfl 0 rfl ?_
    refine k_bipush C (pc2 := 13) (dkAt dkX7_pass 6 (q := (11, .bipush (-2), 2)) rfl) rfl (v := (-2)) rfl ?_
    obtain ⟨q11, e12, h⟩ := ob_inv h
    refine kc_V C (As := [.int (-2)]) (st2 := [.int q11.2]) (ct_X7_refuse l G sh xs hX (-2) M q11 e12) (cl_X7_62 (hts_of C) ⟨Nat.le_of_ble_eq_true rfl, Nat.le_of_ble_eq_true rfl⟩ rfl rfl) hX.1 rfl rfl rfl rfl rfl (Nat.le_of_ble_eq_true rfl) (dkAt dkX7_pass 7 (q := (13, .invokevirtual 62, 3)) rfl) ⟨Nat.zero_le _, Nat.zero_le _⟩ (pc2 := 16) rfl rfl ?_
    exact k_iret C (dkAt dkX7_pass 8 (q := (16, .ireturn, 1)) rfl) (pe2 (Option.some.inj h)) rfl (pe1 (Option.some.inj h)) rfl
set_option maxRecDepth 100000 in
set_option maxHeartbeats 4000000 in
theorem ct_X7_fill (l : Launch) (G : GG) (sh : Sh) (xs : List va_E) (hX : isX sh) (M : Mm) (r : Mm × Int32) (h : f_X7_fill M = some r) : Ct l yX7_fill cX7_fill 1 (some .int) rm_X7_fill G [rA G 0] sh M xs (some (.int r.2)) sh r.1 xs 0 0 := by
  refine ct_of (by decide) (Nat.le_of_ble_eq_true rfl) ?_
  intro p e s m args below meth c hnm C
  refine k_lv [0] (lv2 := [(0, rA G 0)]) rfl ?_
  unfold f_X7_fill at h
  refine k_aload_n C (pc2 := 1) (dkAt dkX7_fill 0 (q := (0, .aload_n 0, 1)) rfl) rfl rfl 0 rfl ?_
  refine kf_X7_10 C (pc2 := 4) (o := 0) (o2 := 1) hX.1 rfl (dkAt dkX7_fill 1 (q := (1, .getfield 10, 3)) rfl) rfl ?_
  obtain ⟨q1, e2, h⟩ := ob_inv h
  refine kc_V C (As := []) (st2 := [.int q1.2]) (ct_X1_fillByDraws l G sh xs 1 hX.2.1 M q1 e2) (cl_X7_359 (hts_of C) ⟨Nat.le_of_ble_eq_true rfl, Nat.le_of_ble_eq_true rfl⟩ rfl rfl) hX.2.1.1 rfl rfl rfl rfl rfl (Nat.le_of_ble_eq_true rfl) (dkAt dkX7_fill 2 (q := (4, .invokevirtual 359, 3)) rfl) ⟨Nat.zero_le _, Nat.zero_le _⟩ (pc2 := 7) rfl rfl ?_
  exact k_iret C (dkAt dkX7_fill 3 (q := (7, .ireturn, 1)) rfl) (pe2 (Option.some.inj h)) rfl (pe1 (Option.some.inj h)) rfl
set_option maxRecDepth 100000 in
set_option maxHeartbeats 4000000 in
theorem kl_X7_years_L44 {p : Program} {l : Launch} {e : Env} {s : State} {m : MethodId} {args : Array Value} {below : List Frame} {meth : Method} {c : Code} {G : GG} {sh : Sh} {xs : List va_E} {Q : State → Prop} (C : Cx p s m c args meth G RX7 cX7_years 5 (some .int)) (hX : isX sh) (x1 : Int32) (x2 : Int32) (M2 : Mm) (hcont : KW p l e rm_X7_years s m args below meth c G 5 Q sh xs 0 0 M2 111 [(0, rA G 0), (2, .int x2)] []) : ∀ (n : Nat) (x3 : Int32) (M : Mm), f_X7_years_L44 x1 x2 n x3 M = some M2 → KW p l e rm_X7_years s m args below meth c G 5 Q sh xs 0 0 M 44 [(0, rA G 0), (1, .int x1), (2, .int x2), (3, .int x3)] [] := by
  intro n
  induction n with
  | zero =>
    intro x3 M h
    cases h
  | succ n ih =>
    intro x3 M h
    unfold f_X7_years_L44 at h
    refine k_iload_n C (pc2 := 45) (dkAt dkX7_years 23 (q := (44, .iload_n 3, 1)) rfl) rfl rfl 3 rfl ?_
    refine k_iload_n C (pc2 := 46) (dkAt dkX7_years 24 (q := (45, .iload_n 1, 1)) rfl) rfl rfl 1 rfl ?_
    refine k_icmp_ge C (tgt := 111) (pc2 := 49) (dkAt dkX7_years 25 (q := (46, .if_icmp .ge 65, 3)) rfl) (by decide) rfl h (fun h => ?_) (fun h => ?_)
    · refine k_lv [0, 2] (lv2 := [(0, rA G 0), (2, .int x2)]) rfl ?_
      cases h
      exact hcont
    · refine k_aload_n C (pc2 := 50) (dkAt dkX7_years 26 (q := (49, .aload_n 0, 1)) rfl) rfl rfl 0 rfl ?_
      refine kf_X7_10 C (pc2 := 53) (o := 0) (o2 := 1) hX.1 rfl (dkAt dkX7_years 27 (q := (50, .getfield 10, 3)) rfl) rfl ?_
      obtain ⟨q4, e5, h⟩ := ob_inv h
      refine kc_V C (As := []) (st2 := [.int q4.2]) (ct_X1_fillByDraws l G sh xs 1 hX.2.1 M q4 e5) (cl_X7_359 (hts_of C) ⟨Nat.le_of_ble_eq_true rfl, Nat.le_of_ble_eq_true rfl⟩ rfl rfl) hX.2.1.1 rfl rfl rfl rfl rfl (Nat.le_of_ble_eq_true rfl) (dkAt dkX7_years 28 (q := (53, .invokevirtual 359, 3)) rfl) ⟨Nat.zero_le _, Nat.zero_le _⟩ (pc2 := 56) rfl rfl ?_
      refine k_pop C (pc2 := 57) (dkAt dkX7_years 29 (q := (56, .pop, 1)) rfl) rfl rfl ?_
      refine k_aload_n C (pc2 := 58) (dkAt dkX7_years 30 (q := (57, .aload_n 0, 1)) rfl) rfl rfl 0 rfl ?_
      refine kf_X7_22 C (pc2 := 61) (o := 0) (o2 := 21) hX.1 rfl (dkAt dkX7_years 31 (q := (58, .getfield 22, 3)) rfl) rfl ?_
      refine k_aload_n C (pc2 := 62) (dkAt dkX7_years 32 (q := (61, .aload_n 0, 1)) rfl) rfl rfl 0 rfl ?_
      refine kf_X7_10 C (pc2 := 65) (o := 0) (o2 := 1) hX.1 rfl (dkAt dkX7_years 33 (q := (62, .getfield 10, 3)) rfl) rfl ?_
      obtain ⟨q6, e7, h⟩ := ob_inv h
      refine kc_V C (As := [rA G 1]) (st2 := []) (ct_X6_reckon l G sh xs 21 hX.2.2.2.1 1 hX.2.1 q4.1 q6 e7) (cl_X7_206 (hts_of C) ⟨Nat.le_of_ble_eq_true rfl, Nat.le_of_ble_eq_true rfl⟩ rfl rfl) hX.2.2.2.1.1 rfl rfl rfl rfl rfl (Nat.le_of_ble_eq_true rfl) (dkAt dkX7_years 34 (q := (65, .invokevirtual 206, 3)) rfl) ⟨Nat.zero_le _, Nat.zero_le _⟩ (pc2 := 68) rfl rfl ?_
      refine k_aload_n C (pc2 := 69) (dkAt dkX7_years 35 (q := (68, .aload_n 0, 1)) rfl) rfl rfl 0 rfl ?_
      refine kf_X7_22 C (pc2 := 72) (o := 0) (o2 := 21) hX.1 rfl (dkAt dkX7_years 36 (q := (69, .getfield 22, 3)) rfl) rfl ?_
      obtain ⟨q8, e9, h⟩ := ob_inv h
      refine kc_V C (As := []) (st2 := [.int q8]) (ct_X6_bestOfAll l G sh xs 21 hX.2.2.2.1 q6 q8 e9) (cl_X7_217 (hts_of C) ⟨Nat.le_of_ble_eq_true rfl, Nat.le_of_ble_eq_true rfl⟩ rfl rfl) hX.2.2.2.1.1 rfl rfl rfl rfl rfl (Nat.le_of_ble_eq_true rfl) (dkAt dkX7_years 37 (q := (72, .invokevirtual 217, 3)) rfl) ⟨Nat.zero_le _, Nat.zero_le _⟩ (pc2 := 75) rfl rfl ?_
      refine k_istore C (pc2 := 77) (dkAt dkX7_years 38 (q := (75, .istore 4, 2)) rfl) rfl (by decide) (lv2 := [(4, .int q8), (0, rA G 0), (1, .int x1), (2, .int x2), (3, .int x3)]) rfl ?_
      refine k_aload_n C (pc2 := 78) (dkAt dkX7_years 39 (q := (77, .aload_n 0, 1)) rfl) rfl rfl 1 rfl ?_
      refine kf_X7_10 C (pc2 := 81) (o := 0) (o2 := 1) hX.1 rfl (dkAt dkX7_years 40 (q := (78, .getfield 10, 3)) rfl) rfl ?_
      refine k_iload C (pc2 := 83) (dkAt dkX7_years 41 (q := (81, .iload 4, 2)) rfl) rfl 0 rfl ?_
      obtain ⟨q10, e11, h⟩ := ob_inv h
      refine kc_V C (As := [.int q8]) (st2 := [.int q10]) (ct_X1_howManyOn l G sh xs 1 hX.2.1 q8 q6 q10 e11) (cl_X7_353 (hts_of C) ⟨Nat.le_of_ble_eq_true rfl, Nat.le_of_ble_eq_true rfl⟩ rfl rfl) hX.2.1.1 rfl rfl rfl rfl rfl (Nat.le_of_ble_eq_true rfl) (dkAt dkX7_years 42 (q := (83, .invokevirtual 353, 3)) rfl) ⟨Nat.zero_le _, Nat.zero_le _⟩ (pc2 := 86) rfl rfl ?_
      refine k_aload_n C (pc2 := 87) (dkAt dkX7_years 43 (q := (86, .aload_n 0, 1)) rfl) rfl rfl 1 rfl ?_
      refine kf_X7_10 C (pc2 := 90) (o := 0) (o2 := 1) hX.1 rfl (dkAt dkX7_years 44 (q := (87, .getfield 10, 3)) rfl) rfl ?_
      refine kf_X7_160 C (pc2 := 93) (o := 1) (o2 := 0) hX.2.1.1 (dkAt dkX7_years 45 (q := (90, .getfield 160, 3)) rfl) rfl ?_
      refine k_icmp_lt C (tgt := 105) (pc2 := 96) (dkAt dkX7_years 46 (q := (93, .if_icmp .lt 12, 3)) rfl) (by decide) rfl h (fun h => ?_) (fun h => ?_)
      · refine kb_iinc C (pc2 := 108) (dkAt dkX7_years 51 (q := (105, .iinc 3 1, 3)) rfl) rfl (j := 4) rfl (v := x3 + 1) rfl (by decide) (lv2 := fun v12 => [(3, .int v12), (4, .int q8), (0, rA G 0), (1, .int x1), (2, .int x2)]) (fun _ => rfl) h (fun v12 h => ?_)
        refine k_goto C (tgt := 44) (dkAt dkX7_years 52 (q := (108, .goto (-64), 3)) rfl) (by decide) ?_
        refine k_lv [2, 3, 4, 0] (lv2 := [(0, rA G 0), (1, .int x1), (2, .int x2), (3, .int v12)]) rfl ?_
        exact ih v12 q6 h
      · refine k_aload_n C (pc2 := 97) (dkAt dkX7_years 47 (q := (96, .aload_n 0, 1)) rfl) rfl rfl 1 rfl ?_
        refine kf_X7_10 C (pc2 := 100) (o := 0) (o2 := 1) hX.1 rfl (dkAt dkX7_years 48 (q := (97, .getfield 10, 3)) rfl) rfl ?_
        refine k_iload C (pc2 := 102) (dkAt dkX7_years 49 (q := (100, .iload 4, 2)) rfl) rfl 0 rfl ?_
        obtain ⟨q13, e14, h⟩ := ob_inv h
        refine kc_V C (As := [.int q8]) (st2 := []) (ct_X1_dinnerOn l G sh xs 1 hX.2.1 q8 q6 q13 e14) (cl_X7_347 (hts_of C) ⟨Nat.le_of_ble_eq_true rfl, Nat.le_of_ble_eq_true rfl⟩ rfl rfl) hX.2.1.1 rfl rfl rfl rfl rfl (Nat.le_of_ble_eq_true rfl) (dkAt dkX7_years 50 (q := (102, .invokevirtual 347, 3)) rfl) ⟨Nat.zero_le _, Nat.zero_le _⟩ (pc2 := 105) rfl rfl ?_
        refine kb_iinc C (pc2 := 108) (dkAt dkX7_years 51 (q := (105, .iinc 3 1, 3)) rfl) rfl (j := 4) rfl (v := x3 + 1) rfl (by decide) (lv2 := fun v15 => [(3, .int v15), (4, .int q8), (0, rA G 0), (1, .int x1), (2, .int x2)]) (fun _ => rfl) h (fun v15 h => ?_)
        refine k_goto C (tgt := 44) (dkAt dkX7_years 52 (q := (108, .goto (-64), 3)) rfl) (by decide) ?_
        refine k_lv [2, 3, 4, 0] (lv2 := [(0, rA G 0), (1, .int x1), (2, .int x2), (3, .int v15)]) rfl ?_
        exact ih v15 q13 h
set_option maxRecDepth 100000 in
set_option maxHeartbeats 4000000 in
theorem ct_X7_years (l : Launch) (G : GG) (sh : Sh) (xs : List va_E) (hX : isX sh) (x1 : Int32) (M : Mm) (r : Mm × Int32) (h : f_X7_years x1 M = some r) : Ct l yX7_years cX7_years 5 (some .int) rm_X7_years G [rA G 0, .int x1] sh M xs (some (.int r.2)) sh r.1 xs 0 0 := by
  refine ct_of (by decide) (Nat.le_of_ble_eq_true rfl) ?_
  intro p e s m args below meth c hnm C
  refine k_lv [0, 1] (lv2 := [(0, rA G 0), (1, .int x1)]) rfl ?_
  unfold f_X7_years at h
  refine k_iload_n C (pc2 := 1) (dkAt dkX7_years 0 (q := (0, .iload_n 1, 1)) rfl) rfl rfl 1 rfl ?_
  refine k_iconst C (pc2 := 2) (dkAt dkX7_years 1 (q := (1, .iconst 1, 1)) rfl) rfl (v := 1) rfl ?_
  refine k_bipush C (pc2 := 4) (dkAt dkX7_years 2 (q := (2, .bipush 50, 2)) rfl) rfl (v := 50) rfl ?_
  obtain ⟨q1, e2, h⟩ := ob_inv h
  refine kc_S C (As := [.int x1, .int 1, .int 50]) (st2 := [.int q1]) (ct_X7_within l G sh xs x1 1 50 M q1 e2) (cl_X7_58 (hts_of C) ⟨Nat.le_of_ble_eq_true rfl, Nat.le_of_ble_eq_true rfl⟩ rfl rfl) rfl rfl (Nat.le_of_ble_eq_true rfl) (dkAt dkX7_years 3 (q := (4, .invokestatic 58, 3)) rfl) ⟨Nat.zero_le _, Nat.zero_le _⟩ (pc2 := 7) rfl rfl ?_
  refine k_if_ne C (tgt := 17) (pc2 := 10) (dkAt dkX7_years 4 (q := (7, .ifCond .ne 10, 3)) rfl) (by decide) rfl h (fun h => ?_) (fun h => ?_)
  · refine k_aload_n C (pc2 := 18) (dkAt dkX7_years 9 (q := (17, .aload_n 0, 1)) rfl) rfl rfl 0 rfl ?_
    refine kf_X7_10 C (pc2 := 21) (o := 0) (o2 := 1) hX.1 rfl (dkAt dkX7_years 10 (q := (18, .getfield 10, 3)) rfl) rfl ?_
    refine kf_X7_216 C (pc2 := 24) (o := 1) (o2 := 0) hX.2.1.1 (dkAt dkX7_years 11 (q := (21, .getfield 216, 3)) rfl) rfl ?_
    refine k_if_ne C (tgt := 34) (pc2 := 27) (dkAt dkX7_years 12 (q := (24, .ifCond .ne 10, 3)) rfl) (by decide) rfl h (fun h => ?_) (fun h => ?_)
    · refine k_aload_n C (pc2 := 35) (dkAt dkX7_years 17 (q := (34, .aload_n 0, 1)) rfl) rfl rfl 0 rfl ?_
      refine kf_X7_10 C (pc2 := 38) (o := 0) (o2 := 1) hX.1 rfl (dkAt dkX7_years 18 (q := (35, .getfield 10, 3)) rfl) rfl ?_
      refine kf_X7_350 C (pc2 := 41) (o := 1) (o2 := 0) hX.2.1.1 (dkAt dkX7_years 19 (q := (38, .getfield 350, 3)) rfl) rfl ?_
      refine kb_istore_n C (pc2 := 42) (dkAt dkX7_years 20 (q := (41, .istore_n 2, 1)) rfl) rfl rfl (by decide) (lv2 := fun v3 => [(2, .int v3), (0, rA G 0), (1, .int x1)]) (fun _ => rfl) h (fun v3 h => ?_)
      refine k_iconst C (pc2 := 43) (dkAt dkX7_years 21 (q := (42, .iconst 0, 1)) rfl) rfl (v := 0) rfl ?_
      refine k_istore_n C (pc2 := 44) (dkAt dkX7_years 22 (q := (43, .istore_n 3, 1)) rfl) rfl rfl (by decide) (lv2 := [(3, .int 0), (2, .int v3), (0, rA G 0), (1, .int x1)]) rfl ?_
      refine k_lv [2, 3, 1, 0] (lv2 := [(0, rA G 0), (1, .int x1), (2, .int v3), (3, .int 0)]) rfl ?_
      obtain ⟨M18, e17, h⟩ := ob_inv h
      refine kl_X7_years_L44 C hX x1 v3 M18 ?_ 1000 0 M e17
      refine k_aload_n C (pc2 := 112) (dkAt dkX7_years 53 (q := (111, .aload_n 0, 1)) rfl) rfl rfl 0 rfl ?_
      refine kf_X7_10 C (pc2 := 115) (o := 0) (o2 := 1) hX.1 rfl (dkAt dkX7_years 54 (q := (112, .getfield 10, 3)) rfl) rfl ?_
      refine kf_X7_350 C (pc2 := 118) (o := 1) (o2 := 0) hX.2.1.1 (dkAt dkX7_years 55 (q := (115, .getfield 350, 3)) rfl) rfl ?_
      refine k_iload_n C (pc2 := 119) (dkAt dkX7_years 56 (q := (118, .iload_n 2, 1)) rfl) rfl rfl 1 rfl ?_
      refine k_isub C (pc2 := 120) (dkAt dkX7_years 57 (q := (119, .isub, 1)) rfl) rfl ?_
      exact k_iret C (dkAt dkX7_years 58 (q := (120, .ireturn, 1)) rfl) (pe2 (Option.some.inj h)) rfl (pe1 (Option.some.inj h)) rfl
    · refine k_aload_n C (pc2 := 28) (dkAt dkX7_years 13 (q := (27, .aload_n 0, 1)) rfl) rfl rfl 0 rfl ?_
      refine k_bipush C (pc2 := 30) (dkAt dkX7_years 14 (q := (28, .bipush (-5), 2)) rfl) rfl (v := (-5)) rfl ?_
      obtain ⟨q19, e20, h⟩ := ob_inv h
      refine kc_V C (As := [.int (-5)]) (st2 := [.int q19.2]) (ct_X7_refuse l G sh xs hX (-5) M q19 e20) (cl_X7_62 (hts_of C) ⟨Nat.le_of_ble_eq_true rfl, Nat.le_of_ble_eq_true rfl⟩ rfl rfl) hX.1 rfl rfl rfl rfl rfl (Nat.le_of_ble_eq_true rfl) (dkAt dkX7_years 15 (q := (30, .invokevirtual 62, 3)) rfl) ⟨Nat.zero_le _, Nat.zero_le _⟩ (pc2 := 33) rfl rfl ?_
      exact k_iret C (dkAt dkX7_years 16 (q := (33, .ireturn, 1)) rfl) (pe2 (Option.some.inj h)) rfl (pe1 (Option.some.inj h)) rfl
  · refine k_aload_n C (pc2 := 11) (dkAt dkX7_years 5 (q := (10, .aload_n 0, 1)) rfl) rfl rfl 0 rfl ?_
    refine k_bipush C (pc2 := 13) (dkAt dkX7_years 6 (q := (11, .bipush (-2), 2)) rfl) rfl (v := (-2)) rfl ?_
    obtain ⟨q21, e22, h⟩ := ob_inv h
    refine kc_V C (As := [.int (-2)]) (st2 := [.int q21.2]) (ct_X7_refuse l G sh xs hX (-2) M q21 e22) (cl_X7_62 (hts_of C) ⟨Nat.le_of_ble_eq_true rfl, Nat.le_of_ble_eq_true rfl⟩ rfl rfl) hX.1 rfl rfl rfl rfl rfl (Nat.le_of_ble_eq_true rfl) (dkAt dkX7_years 7 (q := (13, .invokevirtual 62, 3)) rfl) ⟨Nat.zero_le _, Nat.zero_le _⟩ (pc2 := 16) rfl rfl ?_
    exact k_iret C (dkAt dkX7_years 8 (q := (16, .ireturn, 1)) rfl) (pe2 (Option.some.inj h)) rfl (pe1 (Option.some.inj h)) rfl
set_option maxRecDepth 100000 in
set_option maxHeartbeats 4000000 in
theorem ct_X7_seed (l : Launch) (G : GG) (sh : Sh) (xs : List va_E) (hX : isX sh) (x1 : Int32) (M : Mm) (r : Mm × Int32) (h : f_X7_seed x1 M = some r) : Ct l yX7_seed cX7_seed 3 (some .int) rm_X7_seed G [rA G 0, .int x1] sh M xs (some (.int r.2)) sh r.1 xs 0 0 := by
  refine ct_of (by decide) (Nat.le_of_ble_eq_true rfl) ?_
  intro p e s m args below meth c hnm C
  refine k_lv [0, 1] (lv2 := [(0, rA G 0), (1, .int x1)]) rfl ?_
  unfold f_X7_seed at h
  refine k_aload_n C (pc2 := 1) (dkAt dkX7_seed 0 (q := (0, .aload_n 0, 1)) rfl) rfl rfl 0 rfl ?_
  refine kf_X7_10 C (pc2 := 4) (o := 0) (o2 := 1) hX.1 rfl (dkAt dkX7_seed 1 (q := (1, .getfield 10, 3)) rfl) rfl ?_
  refine kf_X7_362 C (pc2 := 7) (o := 1) (o2 := 0) hX.2.1.1 (dkAt dkX7_seed 2 (q := (4, .getfield 362, 3)) rfl) rfl ?_
  refine kb_istore_n C (pc2 := 8) (dkAt dkX7_seed 3 (q := (7, .istore_n 2, 1)) rfl) rfl rfl (by decide) (lv2 := fun v1 => [(2, .int v1), (0, rA G 0), (1, .int x1)]) (fun _ => rfl) h (fun v1 h => ?_)
  refine k_aload_n C (pc2 := 9) (dkAt dkX7_seed 4 (q := (8, .aload_n 0, 1)) rfl) rfl rfl 1 rfl ?_
  refine kf_X7_10 C (pc2 := 12) (o := 0) (o2 := 1) hX.1 rfl (dkAt dkX7_seed 5 (q := (9, .getfield 10, 3)) rfl) rfl ?_
  refine k_iload_n C (pc2 := 13) (dkAt dkX7_seed 6 (q := (12, .iload_n 1, 1)) rfl) rfl rfl 2 rfl ?_
  refine kp_X7_362 C (pc2 := 16) (o := 1) hX.2.1.1 (dkAt dkX7_seed 7 (q := (13, .putfield 362, 3)) rfl) rfl h (fun M2 h => ?_)
  refine k_iload_n C (pc2 := 17) (dkAt dkX7_seed 8 (q := (16, .iload_n 2, 1)) rfl) rfl rfl 0 rfl ?_
  exact k_iret C (dkAt dkX7_seed 9 (q := (17, .ireturn, 1)) rfl) (pe2 (Option.some.inj h)) rfl (pe1 (Option.some.inj h)) rfl
set_option maxRecDepth 100000 in
set_option maxHeartbeats 4000000 in
theorem ct_X7_image (l : Launch) (G : GG) (sh : Sh) (xs : List va_E) (hX : isX sh) (M : Mm) (r : Mm × Int32) (h : f_X7_image M = some r) : Ct l yX7_image cX7_image 1 (some .int) rm_X7_image G [rA G 0] sh M xs (some (.int r.2)) sh r.1 xs 0 0 := by
  refine ct_of (by decide) (Nat.le_of_ble_eq_true rfl) ?_
  intro p e s m args below meth c hnm C
  refine k_lv [0] (lv2 := [(0, rA G 0)]) rfl ?_
  unfold f_X7_image at h
  refine k_aload_n C (pc2 := 1) (dkAt dkX7_image 0 (q := (0, .aload_n 0, 1)) rfl) rfl rfl 0 rfl ?_
  refine kf_X7_16 C (pc2 := 4) (o := 0) (o2 := 11) hX.1 rfl (dkAt dkX7_image 1 (q := (1, .getfield 16, 3)) rfl) rfl ?_
  refine k_aload_n C (pc2 := 5) (dkAt dkX7_image 2 (q := (4, .aload_n 0, 1)) rfl) rfl rfl 0 rfl ?_
  refine kf_X7_10 C (pc2 := 8) (o := 0) (o2 := 1) hX.1 rfl (dkAt dkX7_image 3 (q := (5, .getfield 10, 3)) rfl) rfl ?_
  obtain ⟨q1, e2, h⟩ := ob_inv h
  refine kc_V C (As := [rA G 1]) (st2 := []) (ct_X1_takeOver l G sh xs 11 hX.2.2.1 1 hX.2.1 M q1 e2) (cl_X7_184 (hts_of C) ⟨Nat.le_of_ble_eq_true rfl, Nat.le_of_ble_eq_true rfl⟩ rfl rfl) hX.2.2.1.1 rfl rfl rfl rfl rfl (Nat.le_of_ble_eq_true rfl) (dkAt dkX7_image 4 (q := (8, .invokevirtual 184, 3)) rfl) ⟨Nat.zero_le _, Nat.zero_le _⟩ (pc2 := 11) rfl rfl ?_
  refine k_aload_n C (pc2 := 12) (dkAt dkX7_image 5 (q := (11, .aload_n 0, 1)) rfl) rfl rfl 0 rfl ?_
  refine k_iconst C (pc2 := 13) (dkAt dkX7_image 6 (q := (12, .iconst 1, 1)) rfl) rfl (v := 1) rfl ?_
  refine kp_X7_365 C (pc2 := 16) (o := 0) hX.1 rfl (dkAt dkX7_image 7 (q := (13, .putfield 365, 3)) rfl) rfl h (fun M3 h => ?_)
  refine k_iconst C (pc2 := 17) (dkAt dkX7_image 8 (q := (16, .iconst 1, 1)) rfl) rfl (v := 1) rfl ?_
  exact k_iret C (dkAt dkX7_image 9 (q := (17, .ireturn, 1)) rfl) (pe2 (Option.some.inj h)) rfl (pe1 (Option.some.inj h)) rfl
set_option maxRecDepth 100000 in
set_option maxHeartbeats 4000000 in
theorem kl_X7_back_L27 {p : Program} {l : Launch} {e : Env} {s : State} {m : MethodId} {args : Array Value} {below : List Frame} {meth : Method} {c : Code} {G : GG} {sh : Sh} {xs : List va_E} {Q : State → Prop} (C : Cx p s m c args meth G RX7 cX7_back 2 (some .int)) (hX : isX sh) (M2 : Mm) (hcont : KW p l e rm_X7_back s m args below meth c G 2 Q sh xs 0 0 M2 79 [] []) : ∀ (n : Nat) (x1 : Int32) (M : Mm), f_X7_back_L27 n x1 M = some M2 → KW p l e rm_X7_back s m args below meth c G 2 Q sh xs 0 0 M 27 [(0, rA G 0), (1, .int x1)] [] := by
  intro n
  induction n with
  | zero =>
    intro x1 M h
    cases h
  | succ n ih =>
    intro x1 M h
    unfold f_X7_back_L27 at h
    refine k_iload_n C (pc2 := 28) (dkAt dkX7_back 14 (q := (27, .iload_n 1, 1)) rfl) rfl rfl 1 rfl ?_
    refine k_bipush C (pc2 := 30) (dkAt dkX7_back 15 (q := (28, .bipush 8, 2)) rfl) rfl (v := 8) rfl ?_
    refine k_icmp_ge C (tgt := 79) (pc2 := 33) (dkAt dkX7_back 16 (q := (30, .if_icmp .ge 49, 3)) rfl) (by decide) rfl h (fun h => ?_) (fun h => ?_)
    · refine k_lv [] (lv2 := []) rfl ?_
      cases h
      exact hcont
    · refine k_aload_n C (pc2 := 34) (dkAt dkX7_back 17 (q := (33, .aload_n 0, 1)) rfl) rfl rfl 0 rfl ?_
      refine kf_X7_42 C (pc2 := 37) (o := 0) (o2 := 50) hX.1 rfl (dkAt dkX7_back 18 (q := (34, .getfield 42, 3)) rfl) rfl ?_
      refine k_iload_n C (pc2 := 38) (dkAt dkX7_back 19 (q := (37, .iload_n 1, 1)) rfl) rfl rfl 1 rfl ?_
      refine k_aa12 C (pc2 := 39) (o := 50) (o2 := 53 + 2 * x1.toNatClampNeg) (nA := 8) hX.2.2.2.2.2.2.1 rfl (dkAt dkX7_back 20 (q := (38, .aaload, 1)) rfl) rfl h (fun h hl3 => ?_)
      obtain ⟨q4, e5, h⟩ := ob_inv h
      refine kc_V C (As := []) (st2 := [.int q4]) (ct_X4_holdsPerson l G sh xs (53 + 2 * x1.toNatClampNeg) (hX.2.2.2.2.2.2.2.2.2 _ hl3) M q4 e5) (cl_X7_84 (hts_of C) ⟨Nat.le_of_ble_eq_true rfl, Nat.le_of_ble_eq_true rfl⟩ rfl rfl) ((hX.2.2.2.2.2.2.2.2.2 _ hl3).1) rfl rfl rfl rfl rfl (Nat.le_of_ble_eq_true rfl) (dkAt dkX7_back 21 (q := (39, .invokevirtual 84, 3)) rfl) ⟨Nat.zero_le _, Nat.zero_le _⟩ (pc2 := 42) rfl rfl ?_
      refine k_if_eq C (tgt := 73) (pc2 := 45) (dkAt dkX7_back 22 (q := (42, .ifCond .eq 31, 3)) rfl) (by decide) rfl h (fun h => ?_) (fun h => ?_)
      · refine kb_iinc C (pc2 := 76) (dkAt dkX7_back 37 (q := (73, .iinc 1 1, 3)) rfl) rfl (j := 1) rfl (v := x1 + 1) rfl (by decide) (lv2 := fun v6 => [(1, .int v6), (0, rA G 0)]) (fun _ => rfl) h (fun v6 h => ?_)
        refine k_goto C (tgt := 27) (dkAt dkX7_back 38 (q := (76, .goto (-49), 3)) rfl) (by decide) ?_
        refine k_lv [1, 0] (lv2 := [(0, rA G 0), (1, .int v6)]) rfl ?_
        exact ih v6 M h
      · refine k_aload_n C (pc2 := 46) (dkAt dkX7_back 23 (q := (45, .aload_n 0, 1)) rfl) rfl rfl 0 rfl ?_
        refine kf_X7_10 C (pc2 := 49) (o := 0) (o2 := 1) hX.1 rfl (dkAt dkX7_back 24 (q := (46, .getfield 10, 3)) rfl) rfl ?_
        refine k_aload_n C (pc2 := 50) (dkAt dkX7_back 25 (q := (49, .aload_n 0, 1)) rfl) rfl rfl 0 rfl ?_
        refine kf_X7_42 C (pc2 := 53) (o := 0) (o2 := 50) hX.1 rfl (dkAt dkX7_back 26 (q := (50, .getfield 42, 3)) rfl) rfl ?_
        refine k_iload_n C (pc2 := 54) (dkAt dkX7_back 27 (q := (53, .iload_n 1, 1)) rfl) rfl rfl 1 rfl ?_
        refine k_aa12 C (pc2 := 55) (o := 50) (o2 := 53 + 2 * x1.toNatClampNeg) (nA := 8) hX.2.2.2.2.2.2.1 rfl (dkAt dkX7_back 28 (q := (54, .aaload, 1)) rfl) rfl h (fun h hl7 => ?_)
        obtain ⟨q8, e9, h⟩ := ob_inv h
        refine kc_V C (As := []) (st2 := [.int q8, rA G 1]) (ct_X4_personHeld l G sh xs (53 + 2 * x1.toNatClampNeg) (hX.2.2.2.2.2.2.2.2.2 _ hl7) M q8 e9) (cl_X7_118 (hts_of C) ⟨Nat.le_of_ble_eq_true rfl, Nat.le_of_ble_eq_true rfl⟩ rfl rfl) ((hX.2.2.2.2.2.2.2.2.2 _ hl7).1) rfl rfl rfl rfl rfl (Nat.le_of_ble_eq_true rfl) (dkAt dkX7_back 29 (q := (55, .invokevirtual 118, 3)) rfl) ⟨Nat.zero_le _, Nat.zero_le _⟩ (pc2 := 58) rfl rfl ?_
        obtain ⟨q10, e11, h⟩ := ob_inv h
        refine kc_V C (As := [.int q8]) (st2 := [.int q10]) (ct_X1_hasPerson l G sh xs 1 hX.2.1 q8 M q10 e11) (cl_X7_105 (hts_of C) ⟨Nat.le_of_ble_eq_true rfl, Nat.le_of_ble_eq_true rfl⟩ rfl rfl) hX.2.1.1 rfl rfl rfl rfl rfl (Nat.le_of_ble_eq_true rfl) (dkAt dkX7_back 30 (q := (58, .invokevirtual 105, 3)) rfl) ⟨Nat.zero_le _, Nat.zero_le _⟩ (pc2 := 61) rfl rfl ?_
        refine k_if_ne C (tgt := 73) (pc2 := 64) (dkAt dkX7_back 31 (q := (61, .ifCond .ne 12, 3)) rfl) (by decide) rfl h (fun h => ?_) (fun h => ?_)
        · refine kb_iinc C (pc2 := 76) (dkAt dkX7_back 37 (q := (73, .iinc 1 1, 3)) rfl) rfl (j := 1) rfl (v := x1 + 1) rfl (by decide) (lv2 := fun v12 => [(1, .int v12), (0, rA G 0)]) (fun _ => rfl) h (fun v12 h => ?_)
          refine k_goto C (tgt := 27) (dkAt dkX7_back 38 (q := (76, .goto (-49), 3)) rfl) (by decide) ?_
          refine k_lv [1, 0] (lv2 := [(0, rA G 0), (1, .int v12)]) rfl ?_
          exact ih v12 M h
        · refine k_aload_n C (pc2 := 65) (dkAt dkX7_back 32 (q := (64, .aload_n 0, 1)) rfl) rfl rfl 0 rfl ?_
          refine kf_X7_42 C (pc2 := 68) (o := 0) (o2 := 50) hX.1 rfl (dkAt dkX7_back 33 (q := (65, .getfield 42, 3)) rfl) rfl ?_
          refine k_iload_n C (pc2 := 69) (dkAt dkX7_back 34 (q := (68, .iload_n 1, 1)) rfl) rfl rfl 1 rfl ?_
          refine k_aa12 C (pc2 := 70) (o := 50) (o2 := 53 + 2 * x1.toNatClampNeg) (nA := 8) hX.2.2.2.2.2.2.1 rfl (dkAt dkX7_back 35 (q := (69, .aaload, 1)) rfl) rfl h (fun h hl13 => ?_)
          obtain ⟨q14, e15, h⟩ := ob_inv h
          refine kc_V C (As := []) (st2 := []) (ct_X4_holdNothing l G sh xs (53 + 2 * x1.toNatClampNeg) (hX.2.2.2.2.2.2.2.2.2 _ hl13) M q14 e15) (cl_X7_108 (hts_of C) ⟨Nat.le_of_ble_eq_true rfl, Nat.le_of_ble_eq_true rfl⟩ rfl rfl) ((hX.2.2.2.2.2.2.2.2.2 _ hl13).1) rfl rfl rfl rfl rfl (Nat.le_of_ble_eq_true rfl) (dkAt dkX7_back 36 (q := (70, .invokevirtual 108, 3)) rfl) ⟨Nat.zero_le _, Nat.zero_le _⟩ (pc2 := 73) rfl rfl ?_
          refine kb_iinc C (pc2 := 76) (dkAt dkX7_back 37 (q := (73, .iinc 1 1, 3)) rfl) rfl (j := 1) rfl (v := x1 + 1) rfl (by decide) (lv2 := fun v16 => [(1, .int v16), (0, rA G 0)]) (fun _ => rfl) h (fun v16 h => ?_)
          refine k_goto C (tgt := 27) (dkAt dkX7_back 38 (q := (76, .goto (-49), 3)) rfl) (by decide) ?_
          refine k_lv [1, 0] (lv2 := [(0, rA G 0), (1, .int v16)]) rfl ?_
          exact ih v16 q14 h
set_option maxRecDepth 100000 in
set_option maxHeartbeats 4000000 in
theorem ct_X7_back (l : Launch) (G : GG) (sh : Sh) (xs : List va_E) (hX : isX sh) (M : Mm) (r : Mm × Int32) (h : f_X7_back M = some r) : Ct l yX7_back cX7_back 2 (some .int) rm_X7_back G [rA G 0] sh M xs (some (.int r.2)) sh r.1 xs 0 0 := by
  refine ct_of (by decide) (Nat.le_of_ble_eq_true rfl) ?_
  intro p e s m args below meth c hnm C
  refine k_lv [0] (lv2 := [(0, rA G 0)]) rfl ?_
  unfold f_X7_back at h
  refine k_aload_n C (pc2 := 1) (dkAt dkX7_back 0 (q := (0, .aload_n 0, 1)) rfl) rfl rfl 0 rfl ?_
  refine kf_X7_365 C (pc2 := 4) (o := 0) (o2 := 0) hX.1 (dkAt dkX7_back 1 (q := (1, .getfield 365, 3)) rfl) rfl ?_
  refine k_if_ne C (tgt := 14) (pc2 := 7) (dkAt dkX7_back 2 (q := (4, .ifCond .ne 10, 3)) rfl) (by decide) rfl h (fun h => ?_) (fun h => ?_)
  · refine k_aload_n C (pc2 := 15) (dkAt dkX7_back 7 (q := (14, .aload_n 0, 1)) rfl) rfl rfl 0 rfl ?_
    refine kf_X7_10 C (pc2 := 18) (o := 0) (o2 := 1) hX.1 rfl (dkAt dkX7_back 8 (q := (15, .getfield 10, 3)) rfl) rfl ?_
    refine k_aload_n C (pc2 := 19) (dkAt dkX7_back 9 (q := (18, .aload_n 0, 1)) rfl) rfl rfl 0 rfl ?_
    refine kf_X7_16 C (pc2 := 22) (o := 0) (o2 := 11) hX.1 rfl (dkAt dkX7_back 10 (q := (19, .getfield 16, 3)) rfl) rfl ?_
    obtain ⟨q1, e2, h⟩ := ob_inv h
    refine kc_V C (As := [rA G 11]) (st2 := []) (ct_X1_takeOver l G sh xs 1 hX.2.1 11 hX.2.2.1 M q1 e2) (cl_X7_184 (hts_of C) ⟨Nat.le_of_ble_eq_true rfl, Nat.le_of_ble_eq_true rfl⟩ rfl rfl) hX.2.1.1 rfl rfl rfl rfl rfl (Nat.le_of_ble_eq_true rfl) (dkAt dkX7_back 11 (q := (22, .invokevirtual 184, 3)) rfl) ⟨Nat.zero_le _, Nat.zero_le _⟩ (pc2 := 25) rfl rfl ?_
    refine k_iconst C (pc2 := 26) (dkAt dkX7_back 12 (q := (25, .iconst 0, 1)) rfl) rfl (v := 0) rfl ?_
    refine k_istore_n C (pc2 := 27) (dkAt dkX7_back 13 (q := (26, .istore_n 1, 1)) rfl) rfl rfl (by decide) (lv2 := [(1, .int 0), (0, rA G 0)]) rfl ?_
    refine k_lv [1, 0] (lv2 := [(0, rA G 0), (1, .int 0)]) rfl ?_
    obtain ⟨M19, e18, h⟩ := ob_inv h
    refine kl_X7_back_L27 C hX M19 ?_ 1000 0 q1 e18
    refine k_iconst C (pc2 := 80) (dkAt dkX7_back 39 (q := (79, .iconst 1, 1)) rfl) rfl (v := 1) rfl ?_
    exact k_iret C (dkAt dkX7_back 40 (q := (80, .ireturn, 1)) rfl) (pe2 (Option.some.inj h)) rfl (pe1 (Option.some.inj h)) rfl
  · refine k_aload_n C (pc2 := 8) (dkAt dkX7_back 3 (q := (7, .aload_n 0, 1)) rfl) rfl rfl 0 rfl ?_
    refine k_bipush C (pc2 := 10) (dkAt dkX7_back 4 (q := (8, .bipush (-5), 2)) rfl) rfl (v := (-5)) rfl ?_
    obtain ⟨q20, e21, h⟩ := ob_inv h
    refine kc_V C (As := [.int (-5)]) (st2 := [.int q20.2]) (ct_X7_refuse l G sh xs hX (-5) M q20 e21) (cl_X7_62 (hts_of C) ⟨Nat.le_of_ble_eq_true rfl, Nat.le_of_ble_eq_true rfl⟩ rfl rfl) hX.1 rfl rfl rfl rfl rfl (Nat.le_of_ble_eq_true rfl) (dkAt dkX7_back 5 (q := (10, .invokevirtual 62, 3)) rfl) ⟨Nat.zero_le _, Nat.zero_le _⟩ (pc2 := 13) rfl rfl ?_
    exact k_iret C (dkAt dkX7_back 6 (q := (13, .ireturn, 1)) rfl) (pe2 (Option.some.inj h)) rfl (pe1 (Option.some.inj h)) rfl
set_option maxRecDepth 100000 in
set_option maxHeartbeats 4000000 in
theorem kl_X7_shelvesInUse_L4 {p : Program} {l : Launch} {e : Env} {s : State} {m : MethodId} {args : Array Value} {below : List Frame} {meth : Method} {c : Code} {G : GG} {sh : Sh} {xs : List va_E} {Q : State → Prop} (C : Cx p s m c args meth G RX7 cX7_shelvesInUse 3 (some .int)) (hX : isX sh) (M : Mm) (y1 : Int32) (hcont : KW p l e rm_X7_shelvesInUse s m args below meth c G 3 Q sh xs 0 0 M 32 [(1, .int y1)] []) : ∀ (n : Nat) (x1 : Int32) (x2 : Int32), f_X7_shelvesInUse_L4 M n x1 x2 = some y1 → KW p l e rm_X7_shelvesInUse s m args below meth c G 3 Q sh xs 0 0 M 4 [(0, rA G 0), (1, .int x1), (2, .int x2)] [] := by
  intro n
  induction n with
  | zero =>
    intro x1 x2 h
    cases h
  | succ n ih =>
    intro x1 x2 h
    unfold f_X7_shelvesInUse_L4 at h
    refine k_iload_n C (pc2 := 5) (dkAt dkX7_shelvesInUse 4 (q := (4, .iload_n 2, 1)) rfl) rfl rfl 2 rfl ?_
    refine k_bipush C (pc2 := 7) (dkAt dkX7_shelvesInUse 5 (q := (5, .bipush 8, 2)) rfl) rfl (v := 8) rfl ?_
    refine k_icmp_ge C (tgt := 32) (pc2 := 10) (dkAt dkX7_shelvesInUse 6 (q := (7, .if_icmp .ge 25, 3)) rfl) (by decide) rfl h (fun h => ?_) (fun h => ?_)
    · refine k_lv [1] (lv2 := [(1, .int x1)]) rfl ?_
      cases h
      exact hcont
    · refine k_aload_n C (pc2 := 11) (dkAt dkX7_shelvesInUse 7 (q := (10, .aload_n 0, 1)) rfl) rfl rfl 0 rfl ?_
      refine kf_X7_42 C (pc2 := 14) (o := 0) (o2 := 50) hX.1 rfl (dkAt dkX7_shelvesInUse 8 (q := (11, .getfield 42, 3)) rfl) rfl ?_
      refine k_iload_n C (pc2 := 15) (dkAt dkX7_shelvesInUse 9 (q := (14, .iload_n 2, 1)) rfl) rfl rfl 2 rfl ?_
      refine k_aa12 C (pc2 := 16) (o := 50) (o2 := 53 + 2 * x2.toNatClampNeg) (nA := 8) hX.2.2.2.2.2.2.1 rfl (dkAt dkX7_shelvesInUse 10 (q := (15, .aaload, 1)) rfl) rfl h (fun h hl1 => ?_)
      refine kf_X7_81 C (pc2 := 19) (o := 53 + 2 * x2.toNatClampNeg) (o2 := 0) ((hX.2.2.2.2.2.2.2.2.2 _ hl1).1) (dkAt dkX7_shelvesInUse 11 (q := (16, .getfield 81, 3)) rfl) rfl ?_
      refine k_iconst C (pc2 := 20) (dkAt dkX7_shelvesInUse 12 (q := (19, .iconst (-1), 1)) rfl) rfl (v := (-1)) rfl ?_
      refine k_icmp_eq C (tgt := 26) (pc2 := 23) (dkAt dkX7_shelvesInUse 13 (q := (20, .if_icmp .eq 6, 3)) rfl) (by decide) rfl h (fun h => ?_) (fun h => ?_)
      · refine kb_iinc C (pc2 := 29) (dkAt dkX7_shelvesInUse 15 (q := (26, .iinc 2 1, 3)) rfl) rfl (j := 2) rfl (v := x2 + 1) rfl (by decide) (lv2 := fun v2 => [(2, .int v2), (0, rA G 0), (1, .int x1)]) (fun _ => rfl) h (fun v2 h => ?_)
        refine k_goto C (tgt := 4) (dkAt dkX7_shelvesInUse 16 (q := (29, .goto (-25), 3)) rfl) (by decide) ?_
        refine k_lv [1, 2, 0] (lv2 := [(0, rA G 0), (1, .int x1), (2, .int v2)]) rfl ?_
        exact ih x1 v2 h
      · refine kb_iinc C (pc2 := 26) (dkAt dkX7_shelvesInUse 14 (q := (23, .iinc 1 1, 3)) rfl) rfl (j := 1) rfl (v := x1 + 1) rfl (by decide) (lv2 := fun v3 => [(1, .int v3), (0, rA G 0), (2, .int x2)]) (fun _ => rfl) h (fun v3 h => ?_)
        refine kb_iinc C (pc2 := 29) (dkAt dkX7_shelvesInUse 15 (q := (26, .iinc 2 1, 3)) rfl) rfl (j := 2) rfl (v := x2 + 1) rfl (by decide) (lv2 := fun v4 => [(2, .int v4), (1, .int v3), (0, rA G 0)]) (fun _ => rfl) h (fun v4 h => ?_)
        refine k_goto C (tgt := 4) (dkAt dkX7_shelvesInUse 16 (q := (29, .goto (-25), 3)) rfl) (by decide) ?_
        refine k_lv [2, 1, 0] (lv2 := [(0, rA G 0), (1, .int v3), (2, .int v4)]) rfl ?_
        exact ih v3 v4 h
set_option maxRecDepth 100000 in
set_option maxHeartbeats 4000000 in
theorem ct_X7_shelvesInUse (l : Launch) (G : GG) (sh : Sh) (xs : List va_E) (hX : isX sh) (M : Mm) (r : Int32) (h : f_X7_shelvesInUse M = some r) : Ct l yX7_shelvesInUse cX7_shelvesInUse 3 (some .int) rm_X7_shelvesInUse G [rA G 0] sh M xs (some (.int r)) sh M xs 0 0 := by
  refine ct_of (by decide) (Nat.le_of_ble_eq_true rfl) ?_
  intro p e s m args below meth c hnm C
  refine k_lv [0] (lv2 := [(0, rA G 0)]) rfl ?_
  unfold f_X7_shelvesInUse at h
  refine k_iconst C (pc2 := 1) (dkAt dkX7_shelvesInUse 0 (q := (0, .iconst 0, 1)) rfl) rfl (v := 0) rfl ?_
  refine k_istore_n C (pc2 := 2) (dkAt dkX7_shelvesInUse 1 (q := (1, .istore_n 1, 1)) rfl) rfl rfl (by decide) (lv2 := [(1, .int 0), (0, rA G 0)]) rfl ?_
  refine k_iconst C (pc2 := 3) (dkAt dkX7_shelvesInUse 2 (q := (2, .iconst 0, 1)) rfl) rfl (v := 0) rfl ?_
  refine k_istore_n C (pc2 := 4) (dkAt dkX7_shelvesInUse 3 (q := (3, .istore_n 2, 1)) rfl) rfl rfl (by decide) (lv2 := [(2, .int 0), (1, .int 0), (0, rA G 0)]) rfl ?_
  refine k_lv [2, 1, 0] (lv2 := [(0, rA G 0), (1, .int 0), (2, .int 0)]) rfl ?_
  obtain ⟨v7, e6, h⟩ := ob_inv h
  refine kl_X7_shelvesInUse_L4 C hX M v7 ?_ 1000 0 0 e6
  refine k_iload_n C (pc2 := 33) (dkAt dkX7_shelvesInUse 17 (q := (32, .iload_n 1, 1)) rfl) rfl rfl 0 rfl ?_
  exact k_iret C (dkAt dkX7_shelvesInUse 18 (q := (33, .ireturn, 1)) rfl) (Option.some.inj h) rfl rfl rfl
set_option maxRecDepth 100000 in
set_option maxHeartbeats 4000000 in
theorem ct_X7_status (l : Launch) (G : GG) (sh : Sh) (xs : List va_E) (hX : isX sh) (x1 : Int32) (M : Mm) (r : Int32) (h : f_X7_status x1 M = some r) : Ct l yX7_status cX7_status 2 (some .int) rm_X7_status G [rA G 0, .int x1] sh M xs (some (.int r)) sh M xs 0 0 := by
  refine ct_of (by decide) (Nat.le_of_ble_eq_true rfl) ?_
  intro p e s m args below meth c hnm C
  refine k_lv [0, 1] (lv2 := [(0, rA G 0), (1, .int x1)]) rfl ?_
  unfold f_X7_status at h
  refine k_iload_n C (pc2 := 1) (dkAt dkX7_status 0 (q := (0, .iload_n 1, 1)) rfl) rfl rfl 1 rfl ?_
  by_cases q1 : x1 = 0
  · rw [if_pos q1] at h
    refine k_swc C (tgt := 56) (off := 55) (dkAt dkX7_status 1 (q := (1, .tableswitch 135 0 9 #[55, 63, 71, 79, 87, 95, 103, 111, 122, 130], 55)) rfl) q1 (by decide) (by decide) ?_
    refine k_aload_n C (pc2 := 57) (dkAt dkX7_status 2 (q := (56, .aload_n 0, 1)) rfl) rfl rfl 0 rfl ?_
    refine kf_X7_10 C (pc2 := 60) (o := 0) (o2 := 1) hX.1 rfl (dkAt dkX7_status 3 (q := (57, .getfield 10, 3)) rfl) rfl ?_
    refine kf_X7_216 C (pc2 := 63) (o := 1) (o2 := 0) hX.2.1.1 (dkAt dkX7_status 4 (q := (60, .getfield 216, 3)) rfl) rfl ?_
    exact k_iret C (dkAt dkX7_status 5 (q := (63, .ireturn, 1)) rfl) (Option.some.inj h) rfl rfl rfl
  rw [if_neg q1] at h
  by_cases q2 : x1 = 1
  · rw [if_pos q2] at h
    refine k_swc C (tgt := 64) (off := 63) (dkAt dkX7_status 1 (q := (1, .tableswitch 135 0 9 #[55, 63, 71, 79, 87, 95, 103, 111, 122, 130], 55)) rfl) q2 (by decide) (by decide) ?_
    refine k_aload_n C (pc2 := 65) (dkAt dkX7_status 6 (q := (64, .aload_n 0, 1)) rfl) rfl rfl 0 rfl ?_
    refine kf_X7_10 C (pc2 := 68) (o := 0) (o2 := 1) hX.1 rfl (dkAt dkX7_status 7 (q := (65, .getfield 10, 3)) rfl) rfl ?_
    refine kf_X7_134 C (pc2 := 71) (o := 1) (o2 := 0) hX.2.1.1 (dkAt dkX7_status 8 (q := (68, .getfield 134, 3)) rfl) rfl ?_
    exact k_iret C (dkAt dkX7_status 9 (q := (71, .ireturn, 1)) rfl) (Option.some.inj h) rfl rfl rfl
  rw [if_neg q2] at h
  by_cases q3 : x1 = 2
  · rw [if_pos q3] at h
    refine k_swc C (tgt := 72) (off := 71) (dkAt dkX7_status 1 (q := (1, .tableswitch 135 0 9 #[55, 63, 71, 79, 87, 95, 103, 111, 122, 130], 55)) rfl) q3 (by decide) (by decide) ?_
    refine k_aload_n C (pc2 := 73) (dkAt dkX7_status 10 (q := (72, .aload_n 0, 1)) rfl) rfl rfl 0 rfl ?_
    refine kf_X7_10 C (pc2 := 76) (o := 0) (o2 := 1) hX.1 rfl (dkAt dkX7_status 11 (q := (73, .getfield 10, 3)) rfl) rfl ?_
    refine kf_X7_157 C (pc2 := 79) (o := 1) (o2 := 0) hX.2.1.1 (dkAt dkX7_status 12 (q := (76, .getfield 157, 3)) rfl) rfl ?_
    exact k_iret C (dkAt dkX7_status 13 (q := (79, .ireturn, 1)) rfl) (Option.some.inj h) rfl rfl rfl
  rw [if_neg q3] at h
  by_cases q4 : x1 = 3
  · rw [if_pos q4] at h
    refine k_swc C (tgt := 80) (off := 79) (dkAt dkX7_status 1 (q := (1, .tableswitch 135 0 9 #[55, 63, 71, 79, 87, 95, 103, 111, 122, 130], 55)) rfl) q4 (by decide) (by decide) ?_
    refine k_aload_n C (pc2 := 81) (dkAt dkX7_status 14 (q := (80, .aload_n 0, 1)) rfl) rfl rfl 0 rfl ?_
    refine kf_X7_10 C (pc2 := 84) (o := 0) (o2 := 1) hX.1 rfl (dkAt dkX7_status 15 (q := (81, .getfield 10, 3)) rfl) rfl ?_
    refine kf_X7_160 C (pc2 := 87) (o := 1) (o2 := 0) hX.2.1.1 (dkAt dkX7_status 16 (q := (84, .getfield 160, 3)) rfl) rfl ?_
    exact k_iret C (dkAt dkX7_status 17 (q := (87, .ireturn, 1)) rfl) (Option.some.inj h) rfl rfl rfl
  rw [if_neg q4] at h
  by_cases q5 : x1 = 4
  · rw [if_pos q5] at h
    refine k_swc C (tgt := 88) (off := 87) (dkAt dkX7_status 1 (q := (1, .tableswitch 135 0 9 #[55, 63, 71, 79, 87, 95, 103, 111, 122, 130], 55)) rfl) q5 (by decide) (by decide) ?_
    refine k_aload_n C (pc2 := 89) (dkAt dkX7_status 18 (q := (88, .aload_n 0, 1)) rfl) rfl rfl 0 rfl ?_
    refine kf_X7_10 C (pc2 := 92) (o := 0) (o2 := 1) hX.1 rfl (dkAt dkX7_status 19 (q := (89, .getfield 10, 3)) rfl) rfl ?_
    refine kf_X7_163 C (pc2 := 95) (o := 1) (o2 := 0) hX.2.1.1 (dkAt dkX7_status 20 (q := (92, .getfield 163, 3)) rfl) rfl ?_
    exact k_iret C (dkAt dkX7_status 21 (q := (95, .ireturn, 1)) rfl) (Option.some.inj h) rfl rfl rfl
  rw [if_neg q5] at h
  by_cases q6 : x1 = 5
  · rw [if_pos q6] at h
    refine k_swc C (tgt := 96) (off := 95) (dkAt dkX7_status 1 (q := (1, .tableswitch 135 0 9 #[55, 63, 71, 79, 87, 95, 103, 111, 122, 130], 55)) rfl) q6 (by decide) (by decide) ?_
    refine k_aload_n C (pc2 := 97) (dkAt dkX7_status 22 (q := (96, .aload_n 0, 1)) rfl) rfl rfl 0 rfl ?_
    refine kf_X7_10 C (pc2 := 100) (o := 0) (o2 := 1) hX.1 rfl (dkAt dkX7_status 23 (q := (97, .getfield 10, 3)) rfl) rfl ?_
    refine kf_X7_350 C (pc2 := 103) (o := 1) (o2 := 0) hX.2.1.1 (dkAt dkX7_status 24 (q := (100, .getfield 350, 3)) rfl) rfl ?_
    exact k_iret C (dkAt dkX7_status 25 (q := (103, .ireturn, 1)) rfl) (Option.some.inj h) rfl rfl rfl
  rw [if_neg q6] at h
  by_cases q7 : x1 = 6
  · rw [if_pos q7] at h
    refine k_swc C (tgt := 104) (off := 103) (dkAt dkX7_status 1 (q := (1, .tableswitch 135 0 9 #[55, 63, 71, 79, 87, 95, 103, 111, 122, 130], 55)) rfl) q7 (by decide) (by decide) ?_
    refine k_aload_n C (pc2 := 105) (dkAt dkX7_status 26 (q := (104, .aload_n 0, 1)) rfl) rfl rfl 0 rfl ?_
    refine kf_X7_10 C (pc2 := 108) (o := 0) (o2 := 1) hX.1 rfl (dkAt dkX7_status 27 (q := (105, .getfield 10, 3)) rfl) rfl ?_
    obtain ⟨q8, e9, h⟩ := ob_inv h
    refine kc_V C (As := []) (st2 := [.int q8]) (ct_X1_outTogether l G sh xs 1 hX.2.1 M q8 e9) (cl_X7_369 (hts_of C) ⟨Nat.le_of_ble_eq_true rfl, Nat.le_of_ble_eq_true rfl⟩ rfl rfl) hX.2.1.1 rfl rfl rfl rfl rfl (Nat.le_of_ble_eq_true rfl) (dkAt dkX7_status 28 (q := (108, .invokevirtual 369, 3)) rfl) ⟨Nat.zero_le _, Nat.zero_le _⟩ (pc2 := 111) rfl rfl ?_
    exact k_iret C (dkAt dkX7_status 29 (q := (111, .ireturn, 1)) rfl) (Option.some.inj h) rfl rfl rfl
  rw [if_neg q7] at h
  by_cases q10 : x1 = 7
  · rw [if_pos q10] at h
    refine k_swc C (tgt := 112) (off := 111) (dkAt dkX7_status 1 (q := (1, .tableswitch 135 0 9 #[55, 63, 71, 79, 87, 95, 103, 111, 122, 130], 55)) rfl) q10 (by decide) (by decide) ?_
    refine k_aload_n C (pc2 := 113) (dkAt dkX7_status 30 (q := (112, .aload_n 0, 1)) rfl) rfl rfl 0 rfl ?_
    refine kf_X7_36 C (pc2 := 116) (o := 0) (o2 := 37) hX.1 rfl (dkAt dkX7_status 31 (q := (113, .getfield 36, 3)) rfl) rfl ?_
    refine kf_X7_169 C (pc2 := 119) (o := 37) (o2 := 38) hX.2.2.2.2.2.1.1 rfl (dkAt dkX7_status 32 (q := (116, .getfield 169, 3)) rfl) rfl ?_
    refine kf_X7_178 C (pc2 := 122) (o := 38) (o2 := 0) hX.2.2.2.2.2.1.2.1.1 (dkAt dkX7_status 33 (q := (119, .getfield 178, 3)) rfl) rfl ?_
    exact k_iret C (dkAt dkX7_status 34 (q := (122, .ireturn, 1)) rfl) (Option.some.inj h) rfl rfl rfl
  rw [if_neg q10] at h
  by_cases q11 : x1 = 8
  · rw [if_pos q11] at h
    refine k_swc C (tgt := 123) (off := 122) (dkAt dkX7_status 1 (q := (1, .tableswitch 135 0 9 #[55, 63, 71, 79, 87, 95, 103, 111, 122, 130], 55)) rfl) q11 (by decide) (by decide) ?_
    refine k_aload_n C (pc2 := 124) (dkAt dkX7_status 35 (q := (123, .aload_n 0, 1)) rfl) rfl rfl 0 rfl ?_
    refine kf_X7_10 C (pc2 := 127) (o := 0) (o2 := 1) hX.1 rfl (dkAt dkX7_status 36 (q := (124, .getfield 10, 3)) rfl) rfl ?_
    refine kf_X7_362 C (pc2 := 130) (o := 1) (o2 := 0) hX.2.1.1 (dkAt dkX7_status 37 (q := (127, .getfield 362, 3)) rfl) rfl ?_
    exact k_iret C (dkAt dkX7_status 38 (q := (130, .ireturn, 1)) rfl) (Option.some.inj h) rfl rfl rfl
  rw [if_neg q11] at h
  by_cases q12 : x1 = 9
  · rw [if_pos q12] at h
    refine k_swc C (tgt := 131) (off := 130) (dkAt dkX7_status 1 (q := (1, .tableswitch 135 0 9 #[55, 63, 71, 79, 87, 95, 103, 111, 122, 130], 55)) rfl) q12 (by decide) (by decide) ?_
    refine k_aload_n C (pc2 := 132) (dkAt dkX7_status 39 (q := (131, .aload_n 0, 1)) rfl) rfl rfl 0 rfl ?_
    obtain ⟨q13, e14, h⟩ := ob_inv h
    refine kc_V C (As := []) (st2 := [.int q13]) (ct_X7_shelvesInUse l G sh xs hX M q13 e14) (cl_X7_372 (hts_of C) ⟨Nat.le_of_ble_eq_true rfl, Nat.le_of_ble_eq_true rfl⟩ rfl rfl) hX.1 rfl rfl rfl rfl rfl (Nat.le_of_ble_eq_true rfl) (dkAt dkX7_status 40 (q := (132, .invokevirtual 372, 3)) rfl) ⟨Nat.zero_le _, Nat.zero_le _⟩ (pc2 := 135) rfl rfl ?_
    exact k_iret C (dkAt dkX7_status 41 (q := (135, .ireturn, 1)) rfl) (Option.some.inj h) rfl rfl rfl
  rw [if_neg q12] at h
  have zq1 := ne_toInt q1
  have zq2 := ne_toInt q2
  have zq3 := ne_toInt q3
  have zq4 := ne_toInt q4
  have zq5 := ne_toInt q5
  have zq6 := ne_toInt q6
  have zq7 := ne_toInt q7
  have zq10 := ne_toInt q10
  have zq11 := ne_toInt q11
  have zq12 := ne_toInt q12
  refine k_swOut C (tgt := 136) (dkAt dkX7_status 1 (q := (1, .tableswitch 135 0 9 #[55, 63, 71, 79, 87, 95, 103, 111, 122, 130], 55)) rfl) (by have w0 : (0 : Int32).toInt = 0 := (by decide); have w1 : (1 : Int32).toInt = 1 := (by decide); have w2 : (2 : Int32).toInt = 2 := (by decide); have w3 : (3 : Int32).toInt = 3 := (by decide); have w4 : (4 : Int32).toInt = 4 := (by decide); have w5 : (5 : Int32).toInt = 5 := (by decide); have w6 : (6 : Int32).toInt = 6 := (by decide); have w7 : (7 : Int32).toInt = 7 := (by decide); have w8 : (8 : Int32).toInt = 8 := (by decide); have w9 : (9 : Int32).toInt = 9 := (by decide); rw [w0] at zq1; rw [w1] at zq2; rw [w2] at zq3; rw [w3] at zq4; rw [w4] at zq5; rw [w5] at zq6; rw [w6] at zq7; rw [w7] at zq10; rw [w8] at zq11; rw [w9] at zq12; omega) (by decide) ?_
  refine k_iload_n C (pc2 := 137) (dkAt dkX7_status 42 (q := (136, .iload_n 1, 1)) rfl) rfl rfl 1 rfl ?_
  refine k_bipush C (pc2 := 139) (dkAt dkX7_status 43 (q := (137, .bipush 12, 2)) rfl) rfl (v := 12) rfl ?_
  refine k_bipush C (pc2 := 141) (dkAt dkX7_status 44 (q := (139, .bipush 16, 2)) rfl) rfl (v := 16) rfl ?_
  obtain ⟨q15, e16, h⟩ := ob_inv h
  refine kc_S C (As := [.int x1, .int 12, .int 16]) (st2 := [.int q15]) (ct_X7_within l G sh xs x1 12 16 M q15 e16) (cl_X7_58 (hts_of C) ⟨Nat.le_of_ble_eq_true rfl, Nat.le_of_ble_eq_true rfl⟩ rfl rfl) rfl rfl (Nat.le_of_ble_eq_true rfl) (dkAt dkX7_status 45 (q := (141, .invokestatic 58, 3)) rfl) ⟨Nat.zero_le _, Nat.zero_le _⟩ (pc2 := 144) rfl rfl ?_
  refine k_if_eq C (tgt := 159) (pc2 := 147) (dkAt dkX7_status 46 (q := (144, .ifCond .eq 15, 3)) rfl) (by decide) rfl h (fun h => ?_) (fun h => ?_)
  · refine k_iconst C (pc2 := 160) (dkAt dkX7_status 54 (q := (159, .iconst (-1), 1)) rfl) rfl (v := (-1)) rfl ?_
    exact k_iret C (dkAt dkX7_status 55 (q := (160, .ireturn, 1)) rfl) (Option.some.inj h) rfl rfl rfl
  · refine k_aload_n C (pc2 := 148) (dkAt dkX7_status 47 (q := (147, .aload_n 0, 1)) rfl) rfl rfl 0 rfl ?_
    refine kf_X7_50 C (pc2 := 151) (o := 0) (o2 := 52) hX.1 rfl (dkAt dkX7_status 48 (q := (148, .getfield 50, 3)) rfl) rfl ?_
    refine k_iload_n C (pc2 := 152) (dkAt dkX7_status 49 (q := (151, .iload_n 1, 1)) rfl) rfl rfl 1 rfl ?_
    refine k_bipush C (pc2 := 154) (dkAt dkX7_status 50 (q := (152, .bipush 12, 2)) rfl) rfl (v := 12) rfl ?_
    refine k_isub C (pc2 := 155) (dkAt dkX7_status 51 (q := (154, .isub, 1)) rfl) rfl ?_
    refine k_iald C (pc2 := 156) (o := 52) (nA := 5) hX.2.2.2.2.2.2.2.2.1 (dkAt dkX7_status 52 (q := (155, .iaload, 1)) rfl) rfl h (fun h => ?_)
    refine k_goto C (tgt := 160) (dkAt dkX7_status 53 (q := (156, .goto 4, 3)) rfl) (by decide) ?_
    exact k_iret C (dkAt dkX7_status 55 (q := (160, .ireturn, 1)) rfl) (Option.some.inj h) rfl rfl rfl
set_option maxRecDepth 100000 in
set_option maxHeartbeats 4000000 in
theorem ct_X8_refuse (l : Launch) (G : GG) (sh : Sh) (xs : List va_E) (o0 : Nat) (h0 : isM sh o0) (x1 : Int32) (M : Mm) (r : Mm × Int32) (h : f_X8_refuse o0 x1 M = some r) : Ct l yX8_refuse cX8_refuse 2 (some .int) rm_X8_refuse G [rA G o0, .int x1] sh M xs (some (.int r.2)) sh r.1 xs 0 0 := by
  refine ct_of (by decide) (Nat.le_of_ble_eq_true rfl) ?_
  intro p e s m args below meth c hnm C
  refine k_lv [0, 1] (lv2 := [(0, rA G o0), (1, .int x1)]) rfl ?_
  unfold f_X8_refuse at h
  refine k_aload_n C (pc2 := 1) (dkAt dkX8_refuse 0 (q := (0, .aload_n 0, 1)) rfl) rfl rfl 0 rfl ?_
  refine kf_X8_34 C (pc2 := 4) (o := o0) (o2 := o0 + 16) h0.1 rfl (dkAt dkX8_refuse 1 (q := (1, .getfield 34, 3)) rfl) rfl ?_
  refine k_iload_n C (pc2 := 5) (dkAt dkX8_refuse 2 (q := (4, .iload_n 1, 1)) rfl) rfl rfl 1 rfl ?_
  refine k_ineg C (pc2 := 6) (dkAt dkX8_refuse 3 (q := (5, .ineg, 1)) rfl) rfl ?_
  refine k_dup2 C (pc2 := 7) (dkAt dkX8_refuse 4 (q := (6, .dup2, 1)) rfl) rfl rfl rfl ?_
  refine k_iald C (pc2 := 8) (o := o0 + 16) (nA := 8) (isM_refused h0) (dkAt dkX8_refuse 5 (q := (7, .iaload, 1)) rfl) rfl h (fun h => ?_)
  refine k_iconst C (pc2 := 9) (dkAt dkX8_refuse 6 (q := (8, .iconst 1, 1)) rfl) rfl (v := 1) rfl ?_
  refine k_iadd C (pc2 := 10) (dkAt dkX8_refuse 7 (q := (9, .iadd, 1)) rfl) rfl ?_
  refine k_iast C (pc2 := 11) (o := o0 + 16) (nA := 8) (isM_refused h0) (dkAt dkX8_refuse 8 (q := (10, .iastore, 1)) rfl) rfl h (fun M1 h => ?_)
  refine k_iload_n C (pc2 := 12) (dkAt dkX8_refuse 9 (q := (11, .iload_n 1, 1)) rfl) rfl rfl 1 rfl ?_
  exact k_iret C (dkAt dkX8_refuse 10 (q := (12, .ireturn, 1)) rfl) (pe2 (Option.some.inj h)) rfl (pe1 (Option.some.inj h)) rfl
set_option maxRecDepth 100000 in
set_option maxHeartbeats 4000000 in
theorem ct_X8_in (l : Launch) (G : GG) (sh : Sh) (xs : List va_E) (x0 : Int64) (x2 : Int64) (x4 : Int64) (M : Mm) (r : Int32) (h : f_X8_in x0 x2 x4 = some r) : Ct l yX8_in cX8_in 6 (some .boolean) rm_X8_in G [.long x0, .long x2, .long x4] sh M xs (some (.int r)) sh M xs 0 0 := by
  refine ct_of (by decide) (Nat.le_of_ble_eq_true rfl) ?_
  intro p e s m args below meth c hnm C
  refine k_lv [0, 1, 2] (lv2 := [(0, .long x0), (2, .long x2), (4, .long x4)]) rfl ?_
  unfold f_X8_in at h
  refine k_lload_n C (pc2 := 1) (dkAt dkX8_in 0 (q := (0, .lload_n 0, 1)) rfl) rfl rfl 0 rfl ?_
  refine k_lload_n C (pc2 := 2) (dkAt dkX8_in 1 (q := (1, .lload_n 2, 1)) rfl) rfl rfl 1 rfl ?_
  refine k_lcmp C (pc2 := 3) (dkAt dkX8_in 2 (q := (2, .lcmp, 1)) rfl) rfl ?_
  refine k_if_lt C (tgt := 17) (pc2 := 6) (dkAt dkX8_in 3 (q := (3, .ifCond .lt 14, 3)) rfl) (by decide) rfl h (fun h => ?_) (fun h => ?_)
  · refine k_iconst C (pc2 := 18) (dkAt dkX8_in 10 (q := (17, .iconst 0, 1)) rfl) rfl (v := 0) rfl ?_
    exact k_zret C (dkAt dkX8_in 11 (q := (18, .ireturn, 1)) rfl) rfl (Option.some.inj h) rfl rfl rfl
  · refine k_lload_n C (pc2 := 7) (dkAt dkX8_in 4 (q := (6, .lload_n 0, 1)) rfl) rfl rfl 0 rfl ?_
    refine k_lload C (pc2 := 9) (dkAt dkX8_in 5 (q := (7, .lload 4, 2)) rfl) rfl 2 rfl ?_
    refine k_lcmp C (pc2 := 10) (dkAt dkX8_in 6 (q := (9, .lcmp, 1)) rfl) rfl ?_
    refine k_if_gt C (tgt := 17) (pc2 := 13) (dkAt dkX8_in 7 (q := (10, .ifCond .gt 7, 3)) rfl) (by decide) rfl h (fun h => ?_) (fun h => ?_)
    · refine k_iconst C (pc2 := 18) (dkAt dkX8_in 10 (q := (17, .iconst 0, 1)) rfl) rfl (v := 0) rfl ?_
      exact k_zret C (dkAt dkX8_in 11 (q := (18, .ireturn, 1)) rfl) rfl (Option.some.inj h) rfl rfl rfl
    · refine k_iconst C (pc2 := 14) (dkAt dkX8_in 8 (q := (13, .iconst 1, 1)) rfl) rfl (v := 1) rfl ?_
      refine k_goto C (tgt := 18) (dkAt dkX8_in 9 (q := (14, .goto 4, 3)) rfl) (by decide) ?_
      exact k_zret C (dkAt dkX8_in 11 (q := (18, .ireturn, 1)) rfl) rfl (Option.some.inj h) rfl rfl rfl
set_option maxRecDepth 100000 in
set_option maxHeartbeats 4000000 in
theorem ct_X8_isOne (l : Launch) (G : GG) (sh : Sh) (xs : List va_E) (o0 : Nat) (h0 : isM sh o0) (x1 : Int32) (M : Mm) (r : Int32) (h : f_X8_isOne o0 x1 M = some r) : Ct l yX8_isOne cX8_isOne 2 (some .boolean) rm_X8_isOne G [rA G o0, .int x1] sh M xs (some (.int r)) sh M xs 0 0 := by
  refine ct_of (by decide) (Nat.le_of_ble_eq_true rfl) ?_
  intro p e s m args below meth c hnm C
  refine k_lv [0, 1] (lv2 := [(0, rA G o0), (1, .int x1)]) rfl ?_
  unfold f_X8_isOne at h
  refine k_iload_n C (pc2 := 1) (dkAt dkX8_isOne 0 (q := (0, .iload_n 1, 1)) rfl) rfl rfl 1 rfl ?_
  refine k_i2l C (pc2 := 2) (dkAt dkX8_isOne 1 (q := (1, .i2l, 1)) rfl) rfl ?_
  refine k_lconst C (pc2 := 3) (dkAt dkX8_isOne 2 (q := (2, .lconst 0, 1)) rfl) rfl (v := 0) rfl ?_
  refine k_aload_n C (pc2 := 4) (dkAt dkX8_isOne 3 (q := (3, .aload_n 0, 1)) rfl) rfl rfl 0 rfl ?_
  refine kf_X8_82 C (pc2 := 7) (o := o0) (o2 := 0) h0.1 (dkAt dkX8_isOne 4 (q := (4, .getfield 82, 3)) rfl) rfl ?_
  refine k_iconst C (pc2 := 8) (dkAt dkX8_isOne 5 (q := (7, .iconst 1, 1)) rfl) rfl (v := 1) rfl ?_
  refine k_isub C (pc2 := 9) (dkAt dkX8_isOne 6 (q := (8, .isub, 1)) rfl) rfl ?_
  refine k_i2l C (pc2 := 10) (dkAt dkX8_isOne 7 (q := (9, .i2l, 1)) rfl) rfl ?_
  obtain ⟨q1, e2, h⟩ := ob_inv h
  refine kc_S C (As := [.long x1.toInt64, .long 0, .long (((M.1 o0 10) - 1).toInt64)]) (st2 := [.int q1]) (ct_X8_in l G sh xs x1.toInt64 0 (((M.1 o0 10) - 1).toInt64) M q1 e2) (cl_X8_85 (hts_of C) ⟨Nat.le_of_ble_eq_true rfl, Nat.le_of_ble_eq_true rfl⟩ rfl rfl) rfl rfl (Nat.le_of_ble_eq_true rfl) (dkAt dkX8_isOne 8 (q := (10, .invokestatic 85, 3)) rfl) ⟨Nat.zero_le _, Nat.zero_le _⟩ (pc2 := 13) rfl rfl ?_
  obtain ⟨hb, h⟩ := chb_inv h
  exact k_zret C (dkAt dkX8_isOne 9 (q := (13, .ireturn, 1)) rfl) hb (Option.some.inj h) rfl rfl rfl
set_option maxRecDepth 100000 in
set_option maxHeartbeats 4000000 in
theorem ct_X8_isDay (l : Launch) (G : GG) (sh : Sh) (xs : List va_E) (o0 : Nat) (h0 : isM sh o0) (x1 : Int64) (M : Mm) (r : Int32) (h : f_X8_isDay o0 x1 M = some r) : Ct l yX8_isDay cX8_isDay 3 (some .boolean) rm_X8_isDay G [rA G o0, .long x1] sh M xs (some (.int r)) sh M xs 0 0 := by
  refine ct_of (by decide) (Nat.le_of_ble_eq_true rfl) ?_
  intro p e s m args below meth c hnm C
  refine k_lv [0, 1] (lv2 := [(0, rA G o0), (1, .long x1)]) rfl ?_
  unfold f_X8_isDay at h
  refine k_lload_n C (pc2 := 1) (dkAt dkX8_isDay 0 (q := (0, .lload_n 1, 1)) rfl) rfl rfl 1 rfl ?_
  refine k_lconst C (pc2 := 2) (dkAt dkX8_isDay 1 (q := (1, .lconst 0, 1)) rfl) rfl (v := 0) rfl ?_
  refine k_aload_n C (pc2 := 3) (dkAt dkX8_isDay 2 (q := (2, .aload_n 0, 1)) rfl) rfl rfl 0 rfl ?_
  refine kf_X8_37 C (pc2 := 6) (o := o0) (o2 := 0) h0.1 (dkAt dkX8_isDay 3 (q := (3, .getfield 37, 3)) rfl) rfl ?_
  refine k_iconst C (pc2 := 7) (dkAt dkX8_isDay 4 (q := (6, .iconst 1, 1)) rfl) rfl (v := 1) rfl ?_
  refine k_isub C (pc2 := 8) (dkAt dkX8_isDay 5 (q := (7, .isub, 1)) rfl) rfl ?_
  refine k_i2l C (pc2 := 9) (dkAt dkX8_isDay 6 (q := (8, .i2l, 1)) rfl) rfl ?_
  obtain ⟨q1, e2, h⟩ := ob_inv h
  refine kc_S C (As := [.long x1, .long 0, .long (((M.1 o0 9) - 1).toInt64)]) (st2 := [.int q1]) (ct_X8_in l G sh xs x1 0 (((M.1 o0 9) - 1).toInt64) M q1 e2) (cl_X8_85 (hts_of C) ⟨Nat.le_of_ble_eq_true rfl, Nat.le_of_ble_eq_true rfl⟩ rfl rfl) rfl rfl (Nat.le_of_ble_eq_true rfl) (dkAt dkX8_isDay 7 (q := (9, .invokestatic 85, 3)) rfl) ⟨Nat.zero_le _, Nat.zero_le _⟩ (pc2 := 12) rfl rfl ?_
  obtain ⟨hb, h⟩ := chb_inv h
  exact k_zret C (dkAt dkX8_isDay 8 (q := (12, .ireturn, 1)) rfl) hb (Option.some.inj h) rfl rfl rfl
set_option maxRecDepth 100000 in
set_option maxHeartbeats 4000000 in
theorem ct_X8_isHundred (l : Launch) (G : GG) (sh : Sh) (xs : List va_E) (x0 : Int32) (M : Mm) (r : Int32) (h : f_X8_isHundred x0 = some r) : Ct l yX8_isHundred cX8_isHundred 1 (some .boolean) rm_X8_isHundred G [.int x0] sh M xs (some (.int r)) sh M xs 0 0 := by
  refine ct_of (by decide) (Nat.le_of_ble_eq_true rfl) ?_
  intro p e s m args below meth c hnm C
  refine k_lv [0] (lv2 := [(0, .int x0)]) rfl ?_
  unfold f_X8_isHundred at h
  refine k_iload_n C (pc2 := 1) (dkAt dkX8_isHundred 0 (q := (0, .iload_n 0, 1)) rfl) rfl rfl 0 rfl ?_
  refine k_i2l C (pc2 := 2) (dkAt dkX8_isHundred 1 (q := (1, .i2l, 1)) rfl) rfl ?_
  refine k_lconst C (pc2 := 3) (dkAt dkX8_isHundred 2 (q := (2, .lconst 1, 1)) rfl) rfl (v := 1) rfl ?_
  refine k_ldc2 C (pc2 := 6) (dkAt dkX8_isHundred 3 (q := (3, .ldc2_w 89, 3)) rfl) rfl (v := 99) tL_X8_89 ?_
  obtain ⟨q1, e2, h⟩ := ob_inv h
  refine kc_S C (As := [.long x0.toInt64, .long 1, .long 99]) (st2 := [.int q1]) (ct_X8_in l G sh xs x0.toInt64 1 99 M q1 e2) (cl_X8_85 (hts_of C) ⟨Nat.le_of_ble_eq_true rfl, Nat.le_of_ble_eq_true rfl⟩ rfl rfl) rfl rfl (Nat.le_of_ble_eq_true rfl) (dkAt dkX8_isHundred 4 (q := (6, .invokestatic 85, 3)) rfl) ⟨Nat.zero_le _, Nat.zero_le _⟩ (pc2 := 9) rfl rfl ?_
  obtain ⟨hb, h⟩ := chb_inv h
  exact k_zret C (dkAt dkX8_isHundred 5 (q := (9, .ireturn, 1)) rfl) hb (Option.some.inj h) rfl rfl rfl
set_option maxRecDepth 100000 in
set_option maxHeartbeats 4000000 in
theorem ct_X8_isFree (l : Launch) (G : GG) (sh : Sh) (xs : List va_E) (o0 : Nat) (h0 : isM sh o0) (x1 : Int32) (x2 : Int32) (M : Mm) (r : Int32) (h : f_X8_isFree o0 x1 x2 M = some r) : Ct l yX8_isFree cX8_isFree 3 (some .boolean) rm_X8_isFree G [rA G o0, .int x1, .int x2] sh M xs (some (.int r)) sh M xs 0 0 := by
  refine ct_of (by decide) (Nat.le_of_ble_eq_true rfl) ?_
  intro p e s m args below meth c hnm C
  refine k_lv [0, 1, 2] (lv2 := [(0, rA G o0), (1, .int x1), (2, .int x2)]) rfl ?_
  unfold f_X8_isFree at h
  refine k_aload_n C (pc2 := 1) (dkAt dkX8_isFree 0 (q := (0, .aload_n 0, 1)) rfl) rfl rfl 0 rfl ?_
  refine kf_X8_50 C (pc2 := 4) (o := o0) (o2 := o0 + 20) h0.1 rfl (dkAt dkX8_isFree 1 (q := (1, .getfield 50, 3)) rfl) rfl ?_
  refine k_iload_n C (pc2 := 5) (dkAt dkX8_isFree 2 (q := (4, .iload_n 1, 1)) rfl) rfl rfl 1 rfl ?_
  refine k_iald C (pc2 := 6) (o := o0 + 20) (nA := 8) (isM_can h0) (dkAt dkX8_isFree 3 (q := (5, .iaload, 1)) rfl) rfl h (fun h => ?_)
  refine k_iload_n C (pc2 := 7) (dkAt dkX8_isFree 4 (q := (6, .iload_n 2, 1)) rfl) rfl rfl 2 rfl ?_
  refine k_ishr C (pc2 := 8) (dkAt dkX8_isFree 5 (q := (7, .ishr, 1)) rfl) rfl ?_
  refine k_iconst C (pc2 := 9) (dkAt dkX8_isFree 6 (q := (8, .iconst 1, 1)) rfl) rfl (v := 1) rfl ?_
  refine k_iand C (pc2 := 10) (dkAt dkX8_isFree 7 (q := (9, .iand, 1)) rfl) rfl ?_
  refine k_if_eq C (tgt := 17) (pc2 := 13) (dkAt dkX8_isFree 8 (q := (10, .ifCond .eq 7, 3)) rfl) (by decide) rfl h (fun h => ?_) (fun h => ?_)
  · refine k_iconst C (pc2 := 18) (dkAt dkX8_isFree 11 (q := (17, .iconst 0, 1)) rfl) rfl (v := 0) rfl ?_
    exact k_zret C (dkAt dkX8_isFree 12 (q := (18, .ireturn, 1)) rfl) rfl (Option.some.inj h) rfl rfl rfl
  · refine k_iconst C (pc2 := 14) (dkAt dkX8_isFree 9 (q := (13, .iconst 1, 1)) rfl) rfl (v := 1) rfl ?_
    refine k_goto C (tgt := 18) (dkAt dkX8_isFree 10 (q := (14, .goto 4, 3)) rfl) (by decide) ?_
    exact k_zret C (dkAt dkX8_isFree 12 (q := (18, .ireturn, 1)) rfl) rfl (Option.some.inj h) rfl rfl rfl
set_option maxRecDepth 100000 in
set_option maxHeartbeats 4000000 in
theorem kl_X8_bits_L4 {p : Program} {l : Launch} {e : Env} {s : State} {m : MethodId} {args : Array Value} {below : List Frame} {meth : Method} {c : Code} {G : GG} {sh : Sh} {xs : List va_E} {Q : State → Prop} (C : Cx p s m c args meth G RX8 cX8_bits 3 (some .int))  (M : Mm) (y1 : Int32) (hcont : KW p l e rm_X8_bits s m args below meth c G 3 Q sh xs 0 0 M 20 [(1, .int y1)] []) : ∀ (n : Nat) (x1 : Int32) (x2 : Int32), f_X8_bits_L4 n x1 x2 = some y1 → KW p l e rm_X8_bits s m args below meth c G 3 Q sh xs 0 0 M 4 [(1, .int x1), (2, .int x2)] [] := by
  intro n
  induction n with
  | zero =>
    intro x1 x2 h
    cases h
  | succ n ih =>
    intro x1 x2 h
    unfold f_X8_bits_L4 at h
    refine k_iload_n C (pc2 := 5) (dkAt dkX8_bits 4 (q := (4, .iload_n 2, 1)) rfl) rfl rfl 1 rfl ?_
    refine k_if_eq C (tgt := 20) (pc2 := 8) (dkAt dkX8_bits 5 (q := (5, .ifCond .eq 15, 3)) rfl) (by decide) rfl h (fun h => ?_) (fun h => ?_)
    · refine k_lv [0] (lv2 := [(1, .int x1)]) rfl ?_
      cases h
      exact hcont
    · refine kb_iinc C (pc2 := 11) (dkAt dkX8_bits 6 (q := (8, .iinc 1 1, 3)) rfl) rfl (j := 0) rfl (v := x1 + 1) rfl (by decide) (lv2 := fun v1 => [(1, .int v1), (2, .int x2)]) (fun _ => rfl) h (fun v1 h => ?_)
      refine k_iload_n C (pc2 := 12) (dkAt dkX8_bits 7 (q := (11, .iload_n 2, 1)) rfl) rfl rfl 1 rfl ?_
      refine k_iload_n C (pc2 := 13) (dkAt dkX8_bits 8 (q := (12, .iload_n 2, 1)) rfl) rfl rfl 1 rfl ?_
      refine k_iconst C (pc2 := 14) (dkAt dkX8_bits 9 (q := (13, .iconst 1, 1)) rfl) rfl (v := 1) rfl ?_
      refine k_isub C (pc2 := 15) (dkAt dkX8_bits 10 (q := (14, .isub, 1)) rfl) rfl ?_
      refine k_iand C (pc2 := 16) (dkAt dkX8_bits 11 (q := (15, .iand, 1)) rfl) rfl ?_
      refine kb_istore_n C (pc2 := 17) (dkAt dkX8_bits 12 (q := (16, .istore_n 2, 1)) rfl) rfl rfl (by decide) (lv2 := fun v2 => [(2, .int v2), (1, .int v1)]) (fun _ => rfl) h (fun v2 h => ?_)
      refine k_goto C (tgt := 4) (dkAt dkX8_bits 13 (q := (17, .goto (-13), 3)) rfl) (by decide) ?_
      refine k_lv [1, 0] (lv2 := [(1, .int v1), (2, .int v2)]) rfl ?_
      exact ih v1 v2 h
set_option maxRecDepth 100000 in
set_option maxHeartbeats 4000000 in
theorem ct_X8_bits (l : Launch) (G : GG) (sh : Sh) (xs : List va_E) (x0 : Int32) (M : Mm) (r : Int32) (h : f_X8_bits x0 = some r) : Ct l yX8_bits cX8_bits 3 (some .int) rm_X8_bits G [.int x0] sh M xs (some (.int r)) sh M xs 0 0 := by
  refine ct_of (by decide) (Nat.le_of_ble_eq_true rfl) ?_
  intro p e s m args below meth c hnm C
  refine k_lv [0] (lv2 := [(0, .int x0)]) rfl ?_
  unfold f_X8_bits at h
  refine k_iconst C (pc2 := 1) (dkAt dkX8_bits 0 (q := (0, .iconst 0, 1)) rfl) rfl (v := 0) rfl ?_
  refine k_istore_n C (pc2 := 2) (dkAt dkX8_bits 1 (q := (1, .istore_n 1, 1)) rfl) rfl rfl (by decide) (lv2 := [(1, .int 0), (0, .int x0)]) rfl ?_
  refine k_iload_n C (pc2 := 3) (dkAt dkX8_bits 2 (q := (2, .iload_n 0, 1)) rfl) rfl rfl 1 rfl ?_
  refine k_istore_n C (pc2 := 4) (dkAt dkX8_bits 3 (q := (3, .istore_n 2, 1)) rfl) rfl rfl (by decide) (lv2 := [(2, .int x0), (1, .int 0), (0, .int x0)]) rfl ?_
  refine k_lv [1, 0] (lv2 := [(1, .int 0), (2, .int x0)]) rfl ?_
  obtain ⟨v5, e4, h⟩ := ob_inv h
  refine kl_X8_bits_L4 C M v5 ?_ 1000 0 x0 e4
  refine k_iload_n C (pc2 := 21) (dkAt dkX8_bits 14 (q := (20, .iload_n 1, 1)) rfl) rfl rfl 0 rfl ?_
  exact k_iret C (dkAt dkX8_bits 15 (q := (21, .ireturn, 1)) rfl) (Option.some.inj h) rfl rfl rfl
set_option maxRecDepth 100000 in
set_option maxHeartbeats 4000000 in
theorem kl_X8_row_L67 {p : Program} {l : Launch} {e : Env} {s : State} {m : MethodId} {args : Array Value} {below : List Frame} {meth : Method} {c : Code} {G : GG} {sh : Sh} {xs : List va_E} {Q : State → Prop} (C : Cx p s m c args meth G RX8 cX8_row 5 (some .int)) (o0 : Nat) (h0 : isM sh o0) (x1 : Int32) (M2 : Mm) (hcont : KW p l e rm_X8_row s m args below meth c G 5 Q sh xs 0 0 M2 90 [] []) : ∀ (n : Nat) (x4 : Int32) (M : Mm), f_X8_row_L67 o0 x1 n x4 M = some M2 → KW p l e rm_X8_row s m args below meth c G 5 Q sh xs 0 0 M 67 [(0, rA G o0), (1, .int x1), (4, .int x4)] [] := by
  intro n
  induction n with
  | zero =>
    intro x4 M h
    cases h
  | succ n ih =>
    intro x4 M h
    unfold f_X8_row_L67 at h
    refine k_iload C (pc2 := 69) (dkAt dkX8_row 39 (q := (67, .iload 4, 2)) rfl) rfl 2 rfl ?_
    refine k_bipush C (pc2 := 71) (dkAt dkX8_row 40 (q := (69, .bipush 40, 2)) rfl) rfl (v := 40) rfl ?_
    refine k_icmp_ge C (tgt := 90) (pc2 := 74) (dkAt dkX8_row 41 (q := (71, .if_icmp .ge 19, 3)) rfl) (by decide) rfl h (fun h => ?_) (fun h => ?_)
    · refine k_lv [] (lv2 := []) rfl ?_
      cases h
      exact hcont
    · refine k_aload_n C (pc2 := 75) (dkAt dkX8_row 42 (q := (74, .aload_n 0, 1)) rfl) rfl rfl 0 rfl ?_
      refine kf_X8_21 C (pc2 := 78) (o := o0) (o2 := o0 + 4) h0.1 rfl (dkAt dkX8_row 43 (q := (75, .getfield 21, 3)) rfl) rfl ?_
      refine k_iload_n C (pc2 := 79) (dkAt dkX8_row 44 (q := (78, .iload_n 1, 1)) rfl) rfl rfl 1 rfl ?_
      refine k_aa14 C (pc2 := 80) (o := o0 + 4) (o2 := o0 + 5 + x1.toNatClampNeg) (nA := 8) (isM_rows h0) rfl (dkAt dkX8_row 45 (q := (79, .aaload, 1)) rfl) rfl h (fun h hl14 => ?_)
      refine k_iload C (pc2 := 82) (dkAt dkX8_row 46 (q := (80, .iload 4, 2)) rfl) rfl 2 rfl ?_
      refine k_lconst C (pc2 := 83) (dkAt dkX8_row 47 (q := (82, .lconst 0, 1)) rfl) rfl (v := 0) rfl ?_
      refine k_last C (pc2 := 84) (o := o0 + 5 + x1.toNatClampNeg) (nA := 40) (isM_rowsI h0 _ hl14) (dkAt dkX8_row 48 (q := (83, .lastore, 1)) rfl) rfl h (fun M15 h => ?_)
      refine kb_iinc C (pc2 := 87) (dkAt dkX8_row 49 (q := (84, .iinc 4 1, 3)) rfl) rfl (j := 2) rfl (v := x4 + 1) rfl (by decide) (lv2 := fun v16 => [(4, .int v16), (0, rA G o0), (1, .int x1)]) (fun _ => rfl) h (fun v16 h => ?_)
      refine k_goto C (tgt := 67) (dkAt dkX8_row 50 (q := (87, .goto (-20), 3)) rfl) (by decide) ?_
      refine k_lv [1, 2, 0] (lv2 := [(0, rA G o0), (1, .int x1), (4, .int v16)]) rfl ?_
      exact ih v16 M15 h
set_option maxRecDepth 100000 in
set_option maxHeartbeats 4000000 in
theorem ct_X8_row (l : Launch) (G : GG) (sh : Sh) (xs : List va_E) (o0 : Nat) (h0 : isM sh o0) (x1 : Int32) (x2 : Int32) (x3 : Int32) (M : Mm) (r : Mm × Int32) (h : f_X8_row o0 x1 x2 x3 M = some r) : Ct l yX8_row cX8_row 5 (some .int) rm_X8_row G [rA G o0, .int x1, .int x2, .int x3] sh M xs (some (.int r.2)) sh r.1 xs 0 0 := by
  refine ct_of (by decide) (Nat.le_of_ble_eq_true rfl) ?_
  intro p e s m args below meth c hnm C
  refine k_lv [0, 1, 2, 3] (lv2 := [(0, rA G o0), (1, .int x1), (2, .int x2), (3, .int x3)]) rfl ?_
  unfold f_X8_row at h
  refine k_iload_n C (pc2 := 1) (dkAt dkX8_row 0 (q := (0, .iload_n 1, 1)) rfl) rfl rfl 1 rfl ?_
  refine k_i2l C (pc2 := 2) (dkAt dkX8_row 1 (q := (1, .i2l, 1)) rfl) rfl ?_
  refine k_lconst C (pc2 := 3) (dkAt dkX8_row 2 (q := (2, .lconst 0, 1)) rfl) rfl (v := 0) rfl ?_
  refine k_ldc2 C (pc2 := 6) (dkAt dkX8_row 3 (q := (3, .ldc2_w 91, 3)) rfl) rfl (v := 7) tL_X8_91 ?_
  obtain ⟨q1, e2, h⟩ := ob_inv h
  refine kc_S C (As := [.long x1.toInt64, .long 0, .long 7]) (st2 := [.int q1]) (ct_X8_in l G sh xs x1.toInt64 0 7 M q1 e2) (cl_X8_85 (hts_of C) ⟨Nat.le_of_ble_eq_true rfl, Nat.le_of_ble_eq_true rfl⟩ rfl rfl) rfl rfl (Nat.le_of_ble_eq_true rfl) (dkAt dkX8_row 4 (q := (6, .invokestatic 85, 3)) rfl) ⟨Nat.zero_le _, Nat.zero_le _⟩ (pc2 := 9) rfl rfl ?_
  refine k_if_eq C (tgt := 36) (pc2 := 12) (dkAt dkX8_row 5 (q := (9, .ifCond .eq 27, 3)) rfl) (by decide) rfl h (fun h => ?_) (fun h => ?_)
  · refine k_aload_n C (pc2 := 37) (dkAt dkX8_row 18 (q := (36, .aload_n 0, 1)) rfl) rfl rfl 0 rfl ?_
    refine k_bipush C (pc2 := 39) (dkAt dkX8_row 19 (q := (37, .bipush (-2), 2)) rfl) rfl (v := (-2)) rfl ?_
    obtain ⟨q3, e4, h⟩ := ob_inv h
    refine kc_V C (As := [.int (-2)]) (st2 := [.int q3.2]) (ct_X8_refuse l G sh xs o0 h0 (-2) M q3 e4) (cl_X8_97 (hts_of C) ⟨Nat.le_of_ble_eq_true rfl, Nat.le_of_ble_eq_true rfl⟩ rfl rfl) h0.1 rfl rfl rfl rfl rfl (Nat.le_of_ble_eq_true rfl) (dkAt dkX8_row 20 (q := (39, .invokevirtual 97, 3)) rfl) ⟨Nat.zero_le _, Nat.zero_le _⟩ (pc2 := 42) rfl rfl ?_
    exact k_iret C (dkAt dkX8_row 21 (q := (42, .ireturn, 1)) rfl) (pe2 (Option.some.inj h)) rfl (pe1 (Option.some.inj h)) rfl
  · refine k_iload_n C (pc2 := 13) (dkAt dkX8_row 6 (q := (12, .iload_n 2, 1)) rfl) rfl rfl 2 rfl ?_
    refine k_i2l C (pc2 := 14) (dkAt dkX8_row 7 (q := (13, .i2l, 1)) rfl) rfl ?_
    refine k_lconst C (pc2 := 15) (dkAt dkX8_row 8 (q := (14, .lconst 0, 1)) rfl) rfl (v := 0) rfl ?_
    refine k_ldc2 C (pc2 := 18) (dkAt dkX8_row 9 (q := (15, .ldc2_w 93, 3)) rfl) rfl (v := 4) tL_X8_93 ?_
    obtain ⟨q5, e6, h⟩ := ob_inv h
    refine kc_S C (As := [.long x2.toInt64, .long 0, .long 4]) (st2 := [.int q5]) (ct_X8_in l G sh xs x2.toInt64 0 4 M q5 e6) (cl_X8_85 (hts_of C) ⟨Nat.le_of_ble_eq_true rfl, Nat.le_of_ble_eq_true rfl⟩ rfl rfl) rfl rfl (Nat.le_of_ble_eq_true rfl) (dkAt dkX8_row 10 (q := (18, .invokestatic 85, 3)) rfl) ⟨Nat.zero_le _, Nat.zero_le _⟩ (pc2 := 21) rfl rfl ?_
    refine k_if_eq C (tgt := 36) (pc2 := 24) (dkAt dkX8_row 11 (q := (21, .ifCond .eq 15, 3)) rfl) (by decide) rfl h (fun h => ?_) (fun h => ?_)
    · refine k_aload_n C (pc2 := 37) (dkAt dkX8_row 18 (q := (36, .aload_n 0, 1)) rfl) rfl rfl 0 rfl ?_
      refine k_bipush C (pc2 := 39) (dkAt dkX8_row 19 (q := (37, .bipush (-2), 2)) rfl) rfl (v := (-2)) rfl ?_
      obtain ⟨q7, e8, h⟩ := ob_inv h
      refine kc_V C (As := [.int (-2)]) (st2 := [.int q7.2]) (ct_X8_refuse l G sh xs o0 h0 (-2) M q7 e8) (cl_X8_97 (hts_of C) ⟨Nat.le_of_ble_eq_true rfl, Nat.le_of_ble_eq_true rfl⟩ rfl rfl) h0.1 rfl rfl rfl rfl rfl (Nat.le_of_ble_eq_true rfl) (dkAt dkX8_row 20 (q := (39, .invokevirtual 97, 3)) rfl) ⟨Nat.zero_le _, Nat.zero_le _⟩ (pc2 := 42) rfl rfl ?_
      exact k_iret C (dkAt dkX8_row 21 (q := (42, .ireturn, 1)) rfl) (pe2 (Option.some.inj h)) rfl (pe1 (Option.some.inj h)) rfl
    · refine k_iload_n C (pc2 := 25) (dkAt dkX8_row 12 (q := (24, .iload_n 3, 1)) rfl) rfl rfl 3 rfl ?_
      refine k_i2l C (pc2 := 26) (dkAt dkX8_row 13 (q := (25, .i2l, 1)) rfl) rfl ?_
      refine k_lconst C (pc2 := 27) (dkAt dkX8_row 14 (q := (26, .lconst 0, 1)) rfl) rfl (v := 0) rfl ?_
      refine k_ldc2 C (pc2 := 30) (dkAt dkX8_row 15 (q := (27, .ldc2_w 95, 3)) rfl) rfl (v := 40) tL_X8_95 ?_
      obtain ⟨q9, e10, h⟩ := ob_inv h
      refine kc_S C (As := [.long x3.toInt64, .long 0, .long 40]) (st2 := [.int q9]) (ct_X8_in l G sh xs x3.toInt64 0 40 M q9 e10) (cl_X8_85 (hts_of C) ⟨Nat.le_of_ble_eq_true rfl, Nat.le_of_ble_eq_true rfl⟩ rfl rfl) rfl rfl (Nat.le_of_ble_eq_true rfl) (dkAt dkX8_row 16 (q := (30, .invokestatic 85, 3)) rfl) ⟨Nat.zero_le _, Nat.zero_le _⟩ (pc2 := 33) rfl rfl ?_
      refine k_if_ne C (tgt := 43) (pc2 := 36) (dkAt dkX8_row 17 (q := (33, .ifCond .ne 10, 3)) rfl) (by decide) rfl h (fun h => ?_) (fun h => ?_)
      · refine k_aload_n C (pc2 := 44) (dkAt dkX8_row 22 (q := (43, .aload_n 0, 1)) rfl) rfl rfl 0 rfl ?_
        refine kf_X8_7 C (pc2 := 47) (o := o0) (o2 := o0 + 1) h0.1 rfl (dkAt dkX8_row 23 (q := (44, .getfield 7, 3)) rfl) rfl ?_
        refine k_iload_n C (pc2 := 48) (dkAt dkX8_row 24 (q := (47, .iload_n 1, 1)) rfl) rfl rfl 1 rfl ?_
        refine k_iconst C (pc2 := 49) (dkAt dkX8_row 25 (q := (48, .iconst 1, 1)) rfl) rfl (v := 1) rfl ?_
        refine k_iast C (pc2 := 50) (o := o0 + 1) (nA := 8) (isM_shelf h0) (dkAt dkX8_row 26 (q := (49, .iastore, 1)) rfl) rfl h (fun M11 h => ?_)
        refine k_aload_n C (pc2 := 51) (dkAt dkX8_row 27 (q := (50, .aload_n 0, 1)) rfl) rfl rfl 0 rfl ?_
        refine kf_X8_13 C (pc2 := 54) (o := o0) (o2 := o0 + 2) h0.1 rfl (dkAt dkX8_row 28 (q := (51, .getfield 13, 3)) rfl) rfl ?_
        refine k_iload_n C (pc2 := 55) (dkAt dkX8_row 29 (q := (54, .iload_n 1, 1)) rfl) rfl rfl 1 rfl ?_
        refine k_iload_n C (pc2 := 56) (dkAt dkX8_row 30 (q := (55, .iload_n 2, 1)) rfl) rfl rfl 2 rfl ?_
        refine k_iast C (pc2 := 57) (o := o0 + 2) (nA := 8) (isM_rowSort h0) (dkAt dkX8_row 31 (q := (56, .iastore, 1)) rfl) rfl h (fun M12 h => ?_)
        refine k_aload_n C (pc2 := 58) (dkAt dkX8_row 32 (q := (57, .aload_n 0, 1)) rfl) rfl rfl 0 rfl ?_
        refine kf_X8_16 C (pc2 := 61) (o := o0) (o2 := o0 + 3) h0.1 rfl (dkAt dkX8_row 33 (q := (58, .getfield 16, 3)) rfl) rfl ?_
        refine k_iload_n C (pc2 := 62) (dkAt dkX8_row 34 (q := (61, .iload_n 1, 1)) rfl) rfl rfl 1 rfl ?_
        refine k_iload_n C (pc2 := 63) (dkAt dkX8_row 35 (q := (62, .iload_n 3, 1)) rfl) rfl rfl 3 rfl ?_
        refine k_iast C (pc2 := 64) (o := o0 + 3) (nA := 8) (isM_rowSize h0) (dkAt dkX8_row 36 (q := (63, .iastore, 1)) rfl) rfl h (fun M13 h => ?_)
        refine k_iconst C (pc2 := 65) (dkAt dkX8_row 37 (q := (64, .iconst 0, 1)) rfl) rfl (v := 0) rfl ?_
        refine k_istore C (pc2 := 67) (dkAt dkX8_row 38 (q := (65, .istore 4, 2)) rfl) rfl (by decide) (lv2 := [(4, .int 0), (0, rA G o0), (1, .int x1), (2, .int x2), (3, .int x3)]) rfl ?_
        refine k_lv [1, 2, 0] (lv2 := [(0, rA G o0), (1, .int x1), (4, .int 0)]) rfl ?_
        obtain ⟨M19, e18, h⟩ := ob_inv h
        refine kl_X8_row_L67 C o0 h0 x1 M19 ?_ 1000 0 M13 e18
        refine k_iconst C (pc2 := 91) (dkAt dkX8_row 51 (q := (90, .iconst 1, 1)) rfl) rfl (v := 1) rfl ?_
        exact k_iret C (dkAt dkX8_row 52 (q := (91, .ireturn, 1)) rfl) (pe2 (Option.some.inj h)) rfl (pe1 (Option.some.inj h)) rfl
      · refine k_aload_n C (pc2 := 37) (dkAt dkX8_row 18 (q := (36, .aload_n 0, 1)) rfl) rfl rfl 0 rfl ?_
        refine k_bipush C (pc2 := 39) (dkAt dkX8_row 19 (q := (37, .bipush (-2), 2)) rfl) rfl (v := (-2)) rfl ?_
        obtain ⟨q20, e21, h⟩ := ob_inv h
        refine kc_V C (As := [.int (-2)]) (st2 := [.int q20.2]) (ct_X8_refuse l G sh xs o0 h0 (-2) M q20 e21) (cl_X8_97 (hts_of C) ⟨Nat.le_of_ble_eq_true rfl, Nat.le_of_ble_eq_true rfl⟩ rfl rfl) h0.1 rfl rfl rfl rfl rfl (Nat.le_of_ble_eq_true rfl) (dkAt dkX8_row 20 (q := (39, .invokevirtual 97, 3)) rfl) ⟨Nat.zero_le _, Nat.zero_le _⟩ (pc2 := 42) rfl rfl ?_
        exact k_iret C (dkAt dkX8_row 21 (q := (42, .ireturn, 1)) rfl) (pe2 (Option.some.inj h)) rfl (pe1 (Option.some.inj h)) rfl
set_option maxRecDepth 100000 in
set_option maxHeartbeats 4000000 in
theorem ct_X8_fit (l : Launch) (G : GG) (sh : Sh) (xs : List va_E) (x0 : Int32) (x1 : Int64) (M : Mm) (r : Int64) (h : f_X8_fit x0 x1 = some r) : Ct l yX8_fit cX8_fit 3 (some .long) rm_X8_fit G [.int x0, .long x1] sh M xs (some (.long r)) sh M xs 0 0 := by
  refine ct_of (by decide) (Nat.le_of_ble_eq_true rfl) ?_
  intro p e s m args below meth c hnm C
  refine k_lv [0, 1] (lv2 := [(0, .int x0), (1, .long x1)]) rfl ?_
  unfold f_X8_fit at h
  refine k_iload_n C (pc2 := 1) (dkAt dkX8_fit 0 (q := (0, .iload_n 0, 1)) rfl) rfl rfl 0 rfl ?_
  by_cases q1 : x0 = 0
  · rw [if_pos q1] at h
    refine k_swc C (tgt := 32) (off := 31) (dkAt dkX8_fit 1 (q := (1, .tableswitch 47 0 3 #[31, 36, 41, 45], 31)) rfl) q1 (by decide) (by decide) ?_
    refine k_lload_n C (pc2 := 33) (dkAt dkX8_fit 2 (q := (32, .lload_n 1, 1)) rfl) rfl rfl 1 rfl ?_
    refine k_l2i C (pc2 := 34) (dkAt dkX8_fit 3 (q := (33, .l2i, 1)) rfl) rfl ?_
    refine k_i2b C (pc2 := 35) (dkAt dkX8_fit 4 (q := (34, .i2b, 1)) rfl) rfl ?_
    refine k_i2l C (pc2 := 36) (dkAt dkX8_fit 5 (q := (35, .i2l, 1)) rfl) rfl ?_
    exact k_lret C (dkAt dkX8_fit 6 (q := (36, .lreturn, 1)) rfl) (Option.some.inj h) rfl rfl rfl
  rw [if_neg q1] at h
  by_cases q2 : x0 = 1
  · rw [if_pos q2] at h
    refine k_swc C (tgt := 37) (off := 36) (dkAt dkX8_fit 1 (q := (1, .tableswitch 47 0 3 #[31, 36, 41, 45], 31)) rfl) q2 (by decide) (by decide) ?_
    refine k_lload_n C (pc2 := 38) (dkAt dkX8_fit 7 (q := (37, .lload_n 1, 1)) rfl) rfl rfl 1 rfl ?_
    refine k_l2i C (pc2 := 39) (dkAt dkX8_fit 8 (q := (38, .l2i, 1)) rfl) rfl ?_
    refine k_i2s C (pc2 := 40) (dkAt dkX8_fit 9 (q := (39, .i2s, 1)) rfl) rfl ?_
    refine k_i2l C (pc2 := 41) (dkAt dkX8_fit 10 (q := (40, .i2l, 1)) rfl) rfl ?_
    exact k_lret C (dkAt dkX8_fit 11 (q := (41, .lreturn, 1)) rfl) (Option.some.inj h) rfl rfl rfl
  rw [if_neg q2] at h
  by_cases q3 : x0 = 2
  · rw [if_pos q3] at h
    refine k_swc C (tgt := 42) (off := 41) (dkAt dkX8_fit 1 (q := (1, .tableswitch 47 0 3 #[31, 36, 41, 45], 31)) rfl) q3 (by decide) (by decide) ?_
    refine k_lload_n C (pc2 := 43) (dkAt dkX8_fit 12 (q := (42, .lload_n 1, 1)) rfl) rfl rfl 1 rfl ?_
    refine k_l2i C (pc2 := 44) (dkAt dkX8_fit 13 (q := (43, .l2i, 1)) rfl) rfl ?_
    refine k_i2l C (pc2 := 45) (dkAt dkX8_fit 14 (q := (44, .i2l, 1)) rfl) rfl ?_
    exact k_lret C (dkAt dkX8_fit 15 (q := (45, .lreturn, 1)) rfl) (Option.some.inj h) rfl rfl rfl
  rw [if_neg q3] at h
  by_cases q4 : x0 = 3
  · rw [if_pos q4] at h
    refine k_swc C (tgt := 46) (off := 45) (dkAt dkX8_fit 1 (q := (1, .tableswitch 47 0 3 #[31, 36, 41, 45], 31)) rfl) q4 (by decide) (by decide) ?_
    refine k_lload_n C (pc2 := 47) (dkAt dkX8_fit 16 (q := (46, .lload_n 1, 1)) rfl) rfl rfl 1 rfl ?_
    exact k_lret C (dkAt dkX8_fit 17 (q := (47, .lreturn, 1)) rfl) (Option.some.inj h) rfl rfl rfl
  rw [if_neg q4] at h
  have zq1 := ne_toInt q1
  have zq2 := ne_toInt q2
  have zq3 := ne_toInt q3
  have zq4 := ne_toInt q4
  refine k_swOut C (tgt := 48) (dkAt dkX8_fit 1 (q := (1, .tableswitch 47 0 3 #[31, 36, 41, 45], 31)) rfl) (by have w0 : (0 : Int32).toInt = 0 := (by decide); have w1 : (1 : Int32).toInt = 1 := (by decide); have w2 : (2 : Int32).toInt = 2 := (by decide); have w3 : (3 : Int32).toInt = 3 := (by decide); rw [w0] at zq1; rw [w1] at zq2; rw [w2] at zq3; rw [w3] at zq4; omega) (by decide) ?_
  refine k_lload_n C (pc2 := 49) (dkAt dkX8_fit 18 (q := (48, .lload_n 1, 1)) rfl) rfl rfl 1 rfl ?_
  refine k_lconst C (pc2 := 50) (dkAt dkX8_fit 19 (q := (49, .lconst 0, 1)) rfl) rfl (v := 0) rfl ?_
  refine k_lcmp C (pc2 := 51) (dkAt dkX8_fit 20 (q := (50, .lcmp, 1)) rfl) rfl ?_
  refine k_if_eq C (tgt := 58) (pc2 := 54) (dkAt dkX8_fit 21 (q := (51, .ifCond .eq 7, 3)) rfl) (by decide) rfl h (fun h => ?_) (fun h => ?_)
  · refine k_lconst C (pc2 := 59) (dkAt dkX8_fit 24 (q := (58, .lconst 0, 1)) rfl) rfl (v := 0) rfl ?_
    exact k_lret C (dkAt dkX8_fit 25 (q := (59, .lreturn, 1)) rfl) (Option.some.inj h) rfl rfl rfl
  · refine k_lconst C (pc2 := 55) (dkAt dkX8_fit 22 (q := (54, .lconst 1, 1)) rfl) rfl (v := 1) rfl ?_
    refine k_goto C (tgt := 59) (dkAt dkX8_fit 23 (q := (55, .goto 4, 3)) rfl) (by decide) ?_
    exact k_lret C (dkAt dkX8_fit 25 (q := (59, .lreturn, 1)) rfl) (Option.some.inj h) rfl rfl rfl
