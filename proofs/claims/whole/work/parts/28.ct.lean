set_option maxRecDepth 100000 in
set_option maxHeartbeats 4000000 in
theorem ct_X8_tickBy (l : Launch) (G : GG) (sh : Sh) (xs : List va_E) (o0 : Nat) (h0 : isM sh o0) (x1 : Int32) (x2 : Int32) (x3 : Int32) (M : Mm) (r : Int32) (h : f_X8_tickBy o0 x1 x2 x3 M = some r) : Ct l yX8_tickBy cX8_tickBy 5 (some .int) rm_X8_tickBy G [rA G o0, .int x1, .int x2, .int x3] sh M xs (some (.int r)) sh M xs 0 0 := by
  refine ct_of (by decide) (Nat.le_of_ble_eq_true rfl) ?_
  intro p e s m args below meth c hnm C
  refine k_lv [0, 1, 2, 3] (lv2 := [(0, rA G o0), (1, .int x1), (2, .int x2), (3, .int x3)]) rfl ?_
  unfold f_X8_tickBy at h
  refine k_aload_n C (pc2 := 1) (dkAt dkX8_tickBy 0 (q := (0, .aload_n 0, 1)) rfl) rfl rfl 0 rfl ?_
  refine k_iload_n C (pc2 := 2) (dkAt dkX8_tickBy 1 (q := (1, .iload_n 1, 1)) rfl) rfl rfl 1 rfl ?_
  refine k_iload_n C (pc2 := 3) (dkAt dkX8_tickBy 2 (q := (2, .iload_n 3, 1)) rfl) rfl rfl 3 rfl ?_
  obtain ⟨q1, e2, h⟩ := ob_inv h
  refine kc_V C (As := [.int x1, .int x3]) (st2 := [.int q1]) (ct_X8_isFree l G sh xs o0 h0 x1 x3 M q1 e2) (cl_X8_139 (hts_of C) ⟨Nat.le_of_ble_eq_true rfl, Nat.le_of_ble_eq_true rfl⟩ rfl rfl) h0.1 rfl rfl rfl rfl rfl (Nat.le_of_ble_eq_true rfl) (dkAt dkX8_tickBy 3 (q := (3, .invokevirtual 139, 3)) rfl) ⟨Nat.zero_le _, Nat.zero_le _⟩ (pc2 := 6) rfl rfl ?_
  refine k_istore C (pc2 := 8) (dkAt dkX8_tickBy 4 (q := (6, .istore 4, 2)) rfl) rfl (by decide) (lv2 := [(4, .int q1), (0, rA G o0), (1, .int x1), (2, .int x2), (3, .int x3)]) rfl ?_
  refine k_iload_n C (pc2 := 9) (dkAt dkX8_tickBy 5 (q := (8, .iload_n 2, 1)) rfl) rfl rfl 3 rfl ?_
  by_cases q3 : x2 = 1
  · rw [if_pos q3] at h
    refine k_swc C (tgt := 44) (off := 35) (dkAt dkX8_tickBy 6 (q := (9, .tableswitch 118 1 5 #[35, 48, 37, 78, 97], 35)) rfl) q3 (by decide) (by decide) ?_
    refine k_iconst C (pc2 := 45) (dkAt dkX8_tickBy 7 (q := (44, .iconst 2, 1)) rfl) rfl (v := 2) rfl ?_
    exact k_iret C (dkAt dkX8_tickBy 8 (q := (45, .ireturn, 1)) rfl) (Option.some.inj h) rfl rfl rfl
  rw [if_neg q3] at h
  by_cases q4 : x2 = 2
  · rw [if_pos q4] at h
    refine k_swc C (tgt := 57) (off := 48) (dkAt dkX8_tickBy 6 (q := (9, .tableswitch 118 1 5 #[35, 48, 37, 78, 97], 35)) rfl) q4 (by decide) (by decide) ?_
    refine k_iload C (pc2 := 59) (dkAt dkX8_tickBy 15 (q := (57, .iload 4, 2)) rfl) rfl 0 rfl ?_
    refine k_if_ne C (tgt := 66) (pc2 := 62) (dkAt dkX8_tickBy 16 (q := (59, .ifCond .ne 7, 3)) rfl) (by decide) rfl h (fun h => ?_) (fun h => ?_)
    · refine k_aload_n C (pc2 := 67) (dkAt dkX8_tickBy 19 (q := (66, .aload_n 0, 1)) rfl) rfl rfl 1 rfl ?_
      refine kf_X8_70 C (pc2 := 70) (o := o0) (o2 := o0 + 33) h0.1 rfl (dkAt dkX8_tickBy 20 (q := (67, .getfield 70, 3)) rfl) rfl ?_
      refine k_iload_n C (pc2 := 71) (dkAt dkX8_tickBy 21 (q := (70, .iload_n 3, 1)) rfl) rfl rfl 4 rfl ?_
      refine k_iald C (pc2 := 72) (o := o0 + 33) (nA := 14) (isM_yes h0) (dkAt dkX8_tickBy 22 (q := (71, .iaload, 1)) rfl) rfl h (fun h => ?_)
      refine k_aload_n C (pc2 := 73) (dkAt dkX8_tickBy 23 (q := (72, .aload_n 0, 1)) rfl) rfl rfl 1 rfl ?_
      refine kf_X8_44 C (pc2 := 76) (o := o0) (o2 := o0 + 18) h0.1 rfl (dkAt dkX8_tickBy 24 (q := (73, .getfield 44, 3)) rfl) rfl ?_
      refine k_iload_n C (pc2 := 77) (dkAt dkX8_tickBy 25 (q := (76, .iload_n 1, 1)) rfl) rfl rfl 2 rfl ?_
      refine k_iald C (pc2 := 78) (o := o0 + 18) (nA := 8) (isM_by h0) (dkAt dkX8_tickBy 26 (q := (77, .iaload, 1)) rfl) rfl h (fun h => ?_)
      refine k_icmp_lt C (tgt := 85) (pc2 := 81) (dkAt dkX8_tickBy 27 (q := (78, .if_icmp .lt 7, 3)) rfl) (by decide) rfl h (fun h => ?_) (fun h => ?_)
      · refine k_iconst C (pc2 := 86) (dkAt dkX8_tickBy 30 (q := (85, .iconst 1, 1)) rfl) rfl (v := 1) rfl ?_
        exact k_iret C (dkAt dkX8_tickBy 31 (q := (86, .ireturn, 1)) rfl) (Option.some.inj h) rfl rfl rfl
      · refine k_iconst C (pc2 := 82) (dkAt dkX8_tickBy 28 (q := (81, .iconst 2, 1)) rfl) rfl (v := 2) rfl ?_
        refine k_goto C (tgt := 86) (dkAt dkX8_tickBy 29 (q := (82, .goto 4, 3)) rfl) (by decide) ?_
        exact k_iret C (dkAt dkX8_tickBy 31 (q := (86, .ireturn, 1)) rfl) (Option.some.inj h) rfl rfl rfl
    · refine k_iconst C (pc2 := 63) (dkAt dkX8_tickBy 17 (q := (62, .iconst 0, 1)) rfl) rfl (v := 0) rfl ?_
      refine k_goto C (tgt := 86) (dkAt dkX8_tickBy 18 (q := (63, .goto 23, 3)) rfl) (by decide) ?_
      exact k_iret C (dkAt dkX8_tickBy 31 (q := (86, .ireturn, 1)) rfl) (Option.some.inj h) rfl rfl rfl
  rw [if_neg q4] at h
  by_cases q5 : x2 = 3
  · rw [if_pos q5] at h
    refine k_swc C (tgt := 46) (off := 37) (dkAt dkX8_tickBy 6 (q := (9, .tableswitch 118 1 5 #[35, 48, 37, 78, 97], 35)) rfl) q5 (by decide) (by decide) ?_
    refine k_iload C (pc2 := 48) (dkAt dkX8_tickBy 9 (q := (46, .iload 4, 2)) rfl) rfl 0 rfl ?_
    refine k_if_eq C (tgt := 55) (pc2 := 51) (dkAt dkX8_tickBy 10 (q := (48, .ifCond .eq 7, 3)) rfl) (by decide) rfl h (fun h => ?_) (fun h => ?_)
    · refine k_iconst C (pc2 := 56) (dkAt dkX8_tickBy 13 (q := (55, .iconst 1, 1)) rfl) rfl (v := 1) rfl ?_
      exact k_iret C (dkAt dkX8_tickBy 14 (q := (56, .ireturn, 1)) rfl) (Option.some.inj h) rfl rfl rfl
    · refine k_iconst C (pc2 := 52) (dkAt dkX8_tickBy 11 (q := (51, .iconst 2, 1)) rfl) rfl (v := 2) rfl ?_
      refine k_goto C (tgt := 56) (dkAt dkX8_tickBy 12 (q := (52, .goto 4, 3)) rfl) (by decide) ?_
      exact k_iret C (dkAt dkX8_tickBy 14 (q := (56, .ireturn, 1)) rfl) (Option.some.inj h) rfl rfl rfl
  rw [if_neg q5] at h
  by_cases q6 : x2 = 4
  · rw [if_pos q6] at h
    refine k_swc C (tgt := 87) (off := 78) (dkAt dkX8_tickBy 6 (q := (9, .tableswitch 118 1 5 #[35, 48, 37, 78, 97], 35)) rfl) q6 (by decide) (by decide) ?_
    refine k_iload C (pc2 := 89) (dkAt dkX8_tickBy 32 (q := (87, .iload 4, 2)) rfl) rfl 0 rfl ?_
    refine k_if_eq C (tgt := 104) (pc2 := 92) (dkAt dkX8_tickBy 33 (q := (89, .ifCond .eq 15, 3)) rfl) (by decide) rfl h (fun h => ?_) (fun h => ?_)
    · refine k_iconst C (pc2 := 105) (dkAt dkX8_tickBy 40 (q := (104, .iconst 0, 1)) rfl) rfl (v := 0) rfl ?_
      exact k_iret C (dkAt dkX8_tickBy 41 (q := (105, .ireturn, 1)) rfl) (Option.some.inj h) rfl rfl rfl
    · refine k_iload_n C (pc2 := 93) (dkAt dkX8_tickBy 34 (q := (92, .iload_n 3, 1)) rfl) rfl rfl 4 rfl ?_
      refine k_aload_n C (pc2 := 94) (dkAt dkX8_tickBy 35 (q := (93, .aload_n 0, 1)) rfl) rfl rfl 1 rfl ?_
      obtain ⟨q7, e8, h⟩ := ob_inv h
      refine kc_V C (As := []) (st2 := [.int q7, .int x3]) (ct_X8_mostYes l G sh xs o0 h0 M q7 e8) (cl_X8_246 (hts_of C) ⟨Nat.le_of_ble_eq_true rfl, Nat.le_of_ble_eq_true rfl⟩ rfl rfl) h0.1 rfl rfl rfl rfl rfl (Nat.le_of_ble_eq_true rfl) (dkAt dkX8_tickBy 36 (q := (94, .invokevirtual 246, 3)) rfl) ⟨Nat.zero_le _, Nat.zero_le _⟩ (pc2 := 97) rfl rfl ?_
      refine k_icmp_ne C (tgt := 104) (pc2 := 100) (dkAt dkX8_tickBy 37 (q := (97, .if_icmp .ne 7, 3)) rfl) (by decide) rfl h (fun h => ?_) (fun h => ?_)
      · refine k_iconst C (pc2 := 105) (dkAt dkX8_tickBy 40 (q := (104, .iconst 0, 1)) rfl) rfl (v := 0) rfl ?_
        exact k_iret C (dkAt dkX8_tickBy 41 (q := (105, .ireturn, 1)) rfl) (Option.some.inj h) rfl rfl rfl
      · refine k_iconst C (pc2 := 101) (dkAt dkX8_tickBy 38 (q := (100, .iconst 2, 1)) rfl) rfl (v := 2) rfl ?_
        refine k_goto C (tgt := 105) (dkAt dkX8_tickBy 39 (q := (101, .goto 4, 3)) rfl) (by decide) ?_
        exact k_iret C (dkAt dkX8_tickBy 41 (q := (105, .ireturn, 1)) rfl) (Option.some.inj h) rfl rfl rfl
  rw [if_neg q6] at h
  by_cases q9 : x2 = 5
  · rw [if_pos q9] at h
    refine k_swc C (tgt := 106) (off := 97) (dkAt dkX8_tickBy 6 (q := (9, .tableswitch 118 1 5 #[35, 48, 37, 78, 97], 35)) rfl) q9 (by decide) (by decide) ?_
    refine k_iload C (pc2 := 108) (dkAt dkX8_tickBy 42 (q := (106, .iload 4, 2)) rfl) rfl 0 rfl ?_
    refine k_if_eq C (tgt := 125) (pc2 := 111) (dkAt dkX8_tickBy 43 (q := (108, .ifCond .eq 17, 3)) rfl) (by decide) rfl h (fun h => ?_) (fun h => ?_)
    · refine k_iconst C (pc2 := 126) (dkAt dkX8_tickBy 52 (q := (125, .iconst 0, 1)) rfl) rfl (v := 0) rfl ?_
      exact k_iret C (dkAt dkX8_tickBy 53 (q := (126, .ireturn, 1)) rfl) (Option.some.inj h) rfl rfl rfl
    · refine k_iload_n C (pc2 := 112) (dkAt dkX8_tickBy 44 (q := (111, .iload_n 3, 1)) rfl) rfl rfl 4 rfl ?_
      refine k_aload_n C (pc2 := 113) (dkAt dkX8_tickBy 45 (q := (112, .aload_n 0, 1)) rfl) rfl rfl 1 rfl ?_
      refine kf_X8_44 C (pc2 := 116) (o := o0) (o2 := o0 + 18) h0.1 rfl (dkAt dkX8_tickBy 46 (q := (113, .getfield 44, 3)) rfl) rfl ?_
      refine k_iload_n C (pc2 := 117) (dkAt dkX8_tickBy 47 (q := (116, .iload_n 1, 1)) rfl) rfl rfl 2 rfl ?_
      refine k_iald C (pc2 := 118) (o := o0 + 18) (nA := 8) (isM_by h0) (dkAt dkX8_tickBy 48 (q := (117, .iaload, 1)) rfl) rfl h (fun h => ?_)
      refine k_icmp_ne C (tgt := 125) (pc2 := 121) (dkAt dkX8_tickBy 49 (q := (118, .if_icmp .ne 7, 3)) rfl) (by decide) rfl h (fun h => ?_) (fun h => ?_)
      · refine k_iconst C (pc2 := 126) (dkAt dkX8_tickBy 52 (q := (125, .iconst 0, 1)) rfl) rfl (v := 0) rfl ?_
        exact k_iret C (dkAt dkX8_tickBy 53 (q := (126, .ireturn, 1)) rfl) (Option.some.inj h) rfl rfl rfl
      · refine k_iconst C (pc2 := 122) (dkAt dkX8_tickBy 50 (q := (121, .iconst 2, 1)) rfl) rfl (v := 2) rfl ?_
        refine k_goto C (tgt := 126) (dkAt dkX8_tickBy 51 (q := (122, .goto 4, 3)) rfl) (by decide) ?_
        exact k_iret C (dkAt dkX8_tickBy 53 (q := (126, .ireturn, 1)) rfl) (Option.some.inj h) rfl rfl rfl
  rw [if_neg q9] at h
  have zq3 := ne_toInt q3
  have zq4 := ne_toInt q4
  have zq5 := ne_toInt q5
  have zq6 := ne_toInt q6
  have zq9 := ne_toInt q9
  refine k_swOut C (tgt := 127) (dkAt dkX8_tickBy 6 (q := (9, .tableswitch 118 1 5 #[35, 48, 37, 78, 97], 35)) rfl) (by have w0 : (1 : Int32).toInt = 1 := (by decide); have w1 : (2 : Int32).toInt = 2 := (by decide); have w2 : (3 : Int32).toInt = 3 := (by decide); have w3 : (4 : Int32).toInt = 4 := (by decide); have w4 : (5 : Int32).toInt = 5 := (by decide); rw [w0] at zq3; rw [w1] at zq4; rw [w2] at zq5; rw [w3] at zq6; rw [w4] at zq9; omega) (by decide) ?_
  refine k_iload C (pc2 := 129) (dkAt dkX8_tickBy 54 (q := (127, .iload 4, 2)) rfl) rfl 0 rfl ?_
  refine k_if_eq C (tgt := 136) (pc2 := 132) (dkAt dkX8_tickBy 55 (q := (129, .ifCond .eq 7, 3)) rfl) (by decide) rfl h (fun h => ?_) (fun h => ?_)
  · refine k_iconst C (pc2 := 137) (dkAt dkX8_tickBy 58 (q := (136, .iconst 0, 1)) rfl) rfl (v := 0) rfl ?_
    exact k_iret C (dkAt dkX8_tickBy 59 (q := (137, .ireturn, 1)) rfl) (Option.some.inj h) rfl rfl rfl
  · refine k_iconst C (pc2 := 133) (dkAt dkX8_tickBy 56 (q := (132, .iconst 2, 1)) rfl) rfl (v := 2) rfl ?_
    refine k_goto C (tgt := 137) (dkAt dkX8_tickBy 57 (q := (133, .goto 4, 3)) rfl) (by decide) ?_
    exact k_iret C (dkAt dkX8_tickBy 59 (q := (137, .ireturn, 1)) rfl) (Option.some.inj h) rfl rfl rfl
set_option maxRecDepth 100000 in
set_option maxHeartbeats 4000000 in
theorem kl_X8_findTicks_L2 {p : Program} {l : Launch} {e : Env} {s : State} {m : MethodId} {args : Array Value} {below : List Frame} {meth : Method} {c : Code} {G : GG} {sh : Sh} {xs : List va_E} {Q : State → Prop} (C : Cx p s m c args meth G RX8 cX8_findTicks 4 none) (o0 : Nat) (h0 : isM sh o0) (x1 : Int32) (M2 : Mm) (hcont : KW p l e rm_X8_findTicks s m args below meth c G 4 Q sh xs 0 0 M2 23 [(0, rA G o0), (1, .int x1)] []) : ∀ (n : Nat) (x2 : Int32) (M : Mm), f_X8_findTicks_L2 o0 x1 n x2 M = some M2 → KW p l e rm_X8_findTicks s m args below meth c G 4 Q sh xs 0 0 M 2 [(0, rA G o0), (1, .int x1), (2, .int x2)] [] := by
  intro n
  induction n with
  | zero =>
    intro x2 M h
    cases h
  | succ n ih =>
    intro x2 M h
    unfold f_X8_findTicks_L2 at h
    refine k_iload_n C (pc2 := 3) (dkAt dkX8_findTicks 2 (q := (2, .iload_n 2, 1)) rfl) rfl rfl 2 rfl ?_
    refine k_aload_n C (pc2 := 4) (dkAt dkX8_findTicks 3 (q := (3, .aload_n 0, 1)) rfl) rfl rfl 0 rfl ?_
    refine kf_X8_37 C (pc2 := 7) (o := o0) (o2 := 0) h0.1 (dkAt dkX8_findTicks 4 (q := (4, .getfield 37, 3)) rfl) rfl ?_
    refine k_icmp_ge C (tgt := 23) (pc2 := 10) (dkAt dkX8_findTicks 5 (q := (7, .if_icmp .ge 16, 3)) rfl) (by decide) rfl h (fun h => ?_) (fun h => ?_)
    · refine k_lv [0, 1] (lv2 := [(0, rA G o0), (1, .int x1)]) rfl ?_
      cases h
      exact hcont
    · refine k_aload_n C (pc2 := 11) (dkAt dkX8_findTicks 6 (q := (10, .aload_n 0, 1)) rfl) rfl rfl 0 rfl ?_
      refine kf_X8_70 C (pc2 := 14) (o := o0) (o2 := o0 + 33) h0.1 rfl (dkAt dkX8_findTicks 7 (q := (11, .getfield 70, 3)) rfl) rfl ?_
      refine k_iload_n C (pc2 := 15) (dkAt dkX8_findTicks 8 (q := (14, .iload_n 2, 1)) rfl) rfl rfl 2 rfl ?_
      refine k_iconst C (pc2 := 16) (dkAt dkX8_findTicks 9 (q := (15, .iconst 0, 1)) rfl) rfl (v := 0) rfl ?_
      refine k_iast C (pc2 := 17) (o := o0 + 33) (nA := 14) (isM_yes h0) (dkAt dkX8_findTicks 10 (q := (16, .iastore, 1)) rfl) rfl h (fun M1 h => ?_)
      refine kb_iinc C (pc2 := 20) (dkAt dkX8_findTicks 11 (q := (17, .iinc 2 1, 3)) rfl) rfl (j := 2) rfl (v := x2 + 1) rfl (by decide) (lv2 := fun v2 => [(2, .int v2), (0, rA G o0), (1, .int x1)]) (fun _ => rfl) h (fun v2 h => ?_)
      refine k_goto C (tgt := 2) (dkAt dkX8_findTicks 12 (q := (20, .goto (-18), 3)) rfl) (by decide) ?_
      refine k_lv [1, 2, 0] (lv2 := [(0, rA G o0), (1, .int x1), (2, .int v2)]) rfl ?_
      exact ih v2 M1 h
set_option maxRecDepth 100000 in
set_option maxHeartbeats 4000000 in
theorem kl_X8_findTicks_L32 {p : Program} {l : Launch} {e : Env} {s : State} {m : MethodId} {args : Array Value} {below : List Frame} {meth : Method} {c : Code} {G : GG} {sh : Sh} {xs : List va_E} {Q : State → Prop} (C : Cx p s m c args meth G RX8 cX8_findTicks 4 none) (o0 : Nat) (h0 : isM sh o0) (x1 : Int32) (x2 : Int32) (M2 : Mm) (hcont : KW p l e rm_X8_findTicks s m args below meth c G 4 Q sh xs 0 0 M2 66 [(0, rA G o0), (1, .int x1), (2, .int x2)] []) : ∀ (n : Nat) (x3 : Int32) (M : Mm), f_X8_findTicks_L32 o0 x1 x2 n x3 M = some M2 → KW p l e rm_X8_findTicks s m args below meth c G 4 Q sh xs 0 0 M 32 [(0, rA G o0), (1, .int x1), (2, .int x2), (3, .int x3)] [] := by
  intro n
  induction n with
  | zero =>
    intro x3 M h
    cases h
  | succ n ih =>
    intro x3 M h
    unfold f_X8_findTicks_L32 at h
    refine k_iload_n C (pc2 := 33) (dkAt dkX8_findTicks 20 (q := (32, .iload_n 3, 1)) rfl) rfl rfl 3 rfl ?_
    refine k_aload_n C (pc2 := 34) (dkAt dkX8_findTicks 21 (q := (33, .aload_n 0, 1)) rfl) rfl rfl 0 rfl ?_
    refine kf_X8_37 C (pc2 := 37) (o := o0) (o2 := 0) h0.1 (dkAt dkX8_findTicks 22 (q := (34, .getfield 37, 3)) rfl) rfl ?_
    refine k_icmp_ge C (tgt := 66) (pc2 := 40) (dkAt dkX8_findTicks 23 (q := (37, .if_icmp .ge 29, 3)) rfl) (by decide) rfl h (fun h => ?_) (fun h => ?_)
    · refine k_lv [0, 1, 2] (lv2 := [(0, rA G o0), (1, .int x1), (2, .int x2)]) rfl ?_
      cases h
      exact hcont
    · refine k_aload_n C (pc2 := 41) (dkAt dkX8_findTicks 24 (q := (40, .aload_n 0, 1)) rfl) rfl rfl 0 rfl ?_
      refine kf_X8_67 C (pc2 := 44) (o := o0) (o2 := o0 + 24) h0.1 rfl (dkAt dkX8_findTicks 25 (q := (41, .getfield 67, 3)) rfl) rfl ?_
      refine k_iload_n C (pc2 := 45) (dkAt dkX8_findTicks 26 (q := (44, .iload_n 2, 1)) rfl) rfl rfl 2 rfl ?_
      refine k_aa13 C (pc2 := 46) (o := o0 + 24) (o2 := o0 + 25 + x2.toNatClampNeg) (nA := 8) (isM_ticks h0) rfl (dkAt dkX8_findTicks 27 (q := (45, .aaload, 1)) rfl) rfl h (fun h hl6 => ?_)
      refine k_iload_n C (pc2 := 47) (dkAt dkX8_findTicks 28 (q := (46, .iload_n 3, 1)) rfl) rfl rfl 3 rfl ?_
      refine k_aload_n C (pc2 := 48) (dkAt dkX8_findTicks 29 (q := (47, .aload_n 0, 1)) rfl) rfl rfl 0 rfl ?_
      refine k_iload_n C (pc2 := 49) (dkAt dkX8_findTicks 30 (q := (48, .iload_n 2, 1)) rfl) rfl rfl 2 rfl ?_
      refine k_aload_n C (pc2 := 50) (dkAt dkX8_findTicks 31 (q := (49, .aload_n 0, 1)) rfl) rfl rfl 0 rfl ?_
      refine kf_X8_41 C (pc2 := 53) (o := o0) (o2 := o0 + 17) h0.1 rfl (dkAt dkX8_findTicks 32 (q := (50, .getfield 41, 3)) rfl) rfl ?_
      refine k_iload_n C (pc2 := 54) (dkAt dkX8_findTicks 33 (q := (53, .iload_n 2, 1)) rfl) rfl rfl 2 rfl ?_
      refine k_iald C (pc2 := 55) (o := o0 + 17) (nA := 8) (isM_kind h0) (dkAt dkX8_findTicks 34 (q := (54, .iaload, 1)) rfl) rfl h (fun h => ?_)
      refine k_iload_n C (pc2 := 56) (dkAt dkX8_findTicks 35 (q := (55, .iload_n 3, 1)) rfl) rfl rfl 3 rfl ?_
      obtain ⟨q7, e8, h⟩ := ob_inv h
      refine kc_V C (As := [.int x2, .int (M.1 (o0 + 17) x2.toNatClampNeg), .int x3]) (st2 := [.int q7, .int x3, rA G (o0 + 25 + x2.toNatClampNeg)]) (ct_X8_tickBy l G sh xs o0 h0 x2 (M.1 (o0 + 17) x2.toNatClampNeg) x3 M q7 e8) (cl_X8_249 (hts_of C) ⟨Nat.le_of_ble_eq_true rfl, Nat.le_of_ble_eq_true rfl⟩ rfl rfl) h0.1 rfl rfl rfl rfl rfl (Nat.le_of_ble_eq_true rfl) (dkAt dkX8_findTicks 36 (q := (56, .invokevirtual 249, 3)) rfl) ⟨Nat.zero_le _, Nat.zero_le _⟩ (pc2 := 59) rfl rfl ?_
      refine k_iast C (pc2 := 60) (o := o0 + 25 + x2.toNatClampNeg) (nA := 14) (isM_ticksI h0 _ hl6) (dkAt dkX8_findTicks 37 (q := (59, .iastore, 1)) rfl) rfl h (fun M9 h => ?_)
      refine kb_iinc C (pc2 := 63) (dkAt dkX8_findTicks 38 (q := (60, .iinc 3 1, 3)) rfl) rfl (j := 3) rfl (v := x3 + 1) rfl (by decide) (lv2 := fun v10 => [(3, .int v10), (0, rA G o0), (1, .int x1), (2, .int x2)]) (fun _ => rfl) h (fun v10 h => ?_)
      refine k_goto C (tgt := 32) (dkAt dkX8_findTicks 39 (q := (63, .goto (-31), 3)) rfl) (by decide) ?_
      refine k_lv [1, 2, 3, 0] (lv2 := [(0, rA G o0), (1, .int x1), (2, .int x2), (3, .int v10)]) rfl ?_
      exact ih v10 M9 h
set_option maxRecDepth 100000 in
set_option maxHeartbeats 4000000 in
theorem kl_X8_findTicks_L68 {p : Program} {l : Launch} {e : Env} {s : State} {m : MethodId} {args : Array Value} {below : List Frame} {meth : Method} {c : Code} {G : GG} {sh : Sh} {xs : List va_E} {Q : State → Prop} (C : Cx p s m c args meth G RX8 cX8_findTicks 4 none) (o0 : Nat) (h0 : isM sh o0) (x1 : Int32) (x2 : Int32) (M2 : Mm) (hcont : KW p l e rm_X8_findTicks s m args below meth c G 4 Q sh xs 0 0 M2 108 [(0, rA G o0), (1, .int x1), (2, .int x2)] []) : ∀ (n : Nat) (x3 : Int32) (M : Mm), f_X8_findTicks_L68 o0 x1 x2 n x3 M = some M2 → KW p l e rm_X8_findTicks s m args below meth c G 4 Q sh xs 0 0 M 68 [(0, rA G o0), (1, .int x1), (2, .int x2), (3, .int x3)] [] := by
  intro n
  induction n with
  | zero =>
    intro x3 M h
    cases h
  | succ n ih =>
    intro x3 M h
    unfold f_X8_findTicks_L68 at h
    refine k_iload_n C (pc2 := 69) (dkAt dkX8_findTicks 42 (q := (68, .iload_n 3, 1)) rfl) rfl rfl 3 rfl ?_
    refine k_aload_n C (pc2 := 70) (dkAt dkX8_findTicks 43 (q := (69, .aload_n 0, 1)) rfl) rfl rfl 0 rfl ?_
    refine kf_X8_37 C (pc2 := 73) (o := o0) (o2 := 0) h0.1 (dkAt dkX8_findTicks 44 (q := (70, .getfield 37, 3)) rfl) rfl ?_
    refine k_icmp_ge C (tgt := 108) (pc2 := 76) (dkAt dkX8_findTicks 45 (q := (73, .if_icmp .ge 35, 3)) rfl) (by decide) rfl h (fun h => ?_) (fun h => ?_)
    · refine k_lv [0, 1, 2] (lv2 := [(0, rA G o0), (1, .int x1), (2, .int x2)]) rfl ?_
      cases h
      exact hcont
    · refine k_aload_n C (pc2 := 77) (dkAt dkX8_findTicks 46 (q := (76, .aload_n 0, 1)) rfl) rfl rfl 0 rfl ?_
      refine kf_X8_70 C (pc2 := 80) (o := o0) (o2 := o0 + 33) h0.1 rfl (dkAt dkX8_findTicks 47 (q := (77, .getfield 70, 3)) rfl) rfl ?_
      refine k_iload_n C (pc2 := 81) (dkAt dkX8_findTicks 48 (q := (80, .iload_n 3, 1)) rfl) rfl rfl 3 rfl ?_
      refine k_dup2 C (pc2 := 82) (dkAt dkX8_findTicks 49 (q := (81, .dup2, 1)) rfl) rfl rfl rfl ?_
      refine k_iald C (pc2 := 83) (o := o0 + 33) (nA := 14) (isM_yes h0) (dkAt dkX8_findTicks 50 (q := (82, .iaload, 1)) rfl) rfl h (fun h => ?_)
      refine k_aload_n C (pc2 := 84) (dkAt dkX8_findTicks 51 (q := (83, .aload_n 0, 1)) rfl) rfl rfl 0 rfl ?_
      refine kf_X8_67 C (pc2 := 87) (o := o0) (o2 := o0 + 24) h0.1 rfl (dkAt dkX8_findTicks 52 (q := (84, .getfield 67, 3)) rfl) rfl ?_
      refine k_iload_n C (pc2 := 88) (dkAt dkX8_findTicks 53 (q := (87, .iload_n 2, 1)) rfl) rfl rfl 2 rfl ?_
      refine k_aa13 C (pc2 := 89) (o := o0 + 24) (o2 := o0 + 25 + x2.toNatClampNeg) (nA := 8) (isM_ticks h0) rfl (dkAt dkX8_findTicks 54 (q := (88, .aaload, 1)) rfl) rfl h (fun h hl14 => ?_)
      refine k_iload_n C (pc2 := 90) (dkAt dkX8_findTicks 55 (q := (89, .iload_n 3, 1)) rfl) rfl rfl 3 rfl ?_
      refine k_iald C (pc2 := 91) (o := o0 + 25 + x2.toNatClampNeg) (nA := 14) (isM_ticksI h0 _ hl14) (dkAt dkX8_findTicks 56 (q := (90, .iaload, 1)) rfl) rfl h (fun h => ?_)
      refine k_iconst C (pc2 := 92) (dkAt dkX8_findTicks 57 (q := (91, .iconst 2, 1)) rfl) rfl (v := 2) rfl ?_
      refine k_icmp_ne C (tgt := 99) (pc2 := 95) (dkAt dkX8_findTicks 58 (q := (92, .if_icmp .ne 7, 3)) rfl) (by decide) rfl h (fun h => ?_) (fun h => ?_)
      · refine k_iconst C (pc2 := 100) (dkAt dkX8_findTicks 61 (q := (99, .iconst 0, 1)) rfl) rfl (v := 0) rfl ?_
        refine k_iadd C (pc2 := 101) (dkAt dkX8_findTicks 62 (q := (100, .iadd, 1)) rfl) rfl ?_
        refine k_iast C (pc2 := 102) (o := o0 + 33) (nA := 14) (isM_yes h0) (dkAt dkX8_findTicks 63 (q := (101, .iastore, 1)) rfl) rfl h (fun M15 h => ?_)
        refine kb_iinc C (pc2 := 105) (dkAt dkX8_findTicks 64 (q := (102, .iinc 3 1, 3)) rfl) rfl (j := 3) rfl (v := x3 + 1) rfl (by decide) (lv2 := fun v16 => [(3, .int v16), (0, rA G o0), (1, .int x1), (2, .int x2)]) (fun _ => rfl) h (fun v16 h => ?_)
        refine k_goto C (tgt := 68) (dkAt dkX8_findTicks 65 (q := (105, .goto (-37), 3)) rfl) (by decide) ?_
        refine k_lv [1, 2, 3, 0] (lv2 := [(0, rA G o0), (1, .int x1), (2, .int x2), (3, .int v16)]) rfl ?_
        exact ih v16 M15 h
      · refine k_iconst C (pc2 := 96) (dkAt dkX8_findTicks 59 (q := (95, .iconst 1, 1)) rfl) rfl (v := 1) rfl ?_
        refine k_goto C (tgt := 100) (dkAt dkX8_findTicks 60 (q := (96, .goto 4, 3)) rfl) (by decide) ?_
        refine k_iadd C (pc2 := 101) (dkAt dkX8_findTicks 62 (q := (100, .iadd, 1)) rfl) rfl ?_
        refine k_iast C (pc2 := 102) (o := o0 + 33) (nA := 14) (isM_yes h0) (dkAt dkX8_findTicks 63 (q := (101, .iastore, 1)) rfl) rfl h (fun M17 h => ?_)
        refine kb_iinc C (pc2 := 105) (dkAt dkX8_findTicks 64 (q := (102, .iinc 3 1, 3)) rfl) rfl (j := 3) rfl (v := x3 + 1) rfl (by decide) (lv2 := fun v18 => [(3, .int v18), (0, rA G o0), (1, .int x1), (2, .int x2)]) (fun _ => rfl) h (fun v18 h => ?_)
        refine k_goto C (tgt := 68) (dkAt dkX8_findTicks 65 (q := (105, .goto (-37), 3)) rfl) (by decide) ?_
        refine k_lv [1, 2, 3, 0] (lv2 := [(0, rA G o0), (1, .int x1), (2, .int x2), (3, .int v18)]) rfl ?_
        exact ih v18 M17 h
set_option maxRecDepth 100000 in
set_option maxHeartbeats 4000000 in
theorem kl_X8_findTicks_L25 {p : Program} {l : Launch} {e : Env} {s : State} {m : MethodId} {args : Array Value} {below : List Frame} {meth : Method} {c : Code} {G : GG} {sh : Sh} {xs : List va_E} {Q : State → Prop} (C : Cx p s m c args meth G RX8 cX8_findTicks 4 none) (o0 : Nat) (h0 : isM sh o0) (x1 : Int32) (M2 : Mm) (hcont : KW p l e rm_X8_findTicks s m args below meth c G 4 Q sh xs 0 0 M2 114 [] []) : ∀ (n : Nat) (x2 : Int32) (M : Mm), f_X8_findTicks_L25 o0 x1 n x2 M = some M2 → KW p l e rm_X8_findTicks s m args below meth c G 4 Q sh xs 0 0 M 25 [(0, rA G o0), (1, .int x1), (2, .int x2)] [] := by
  intro n
  induction n with
  | zero =>
    intro x2 M h
    cases h
  | succ n ih =>
    intro x2 M h
    unfold f_X8_findTicks_L25 at h
    refine k_iload_n C (pc2 := 26) (dkAt dkX8_findTicks 15 (q := (25, .iload_n 2, 1)) rfl) rfl rfl 2 rfl ?_
    refine k_iload_n C (pc2 := 27) (dkAt dkX8_findTicks 16 (q := (26, .iload_n 1, 1)) rfl) rfl rfl 1 rfl ?_
    refine k_icmp_ge C (tgt := 114) (pc2 := 30) (dkAt dkX8_findTicks 17 (q := (27, .if_icmp .ge 87, 3)) rfl) (by decide) rfl h (fun h => ?_) (fun h => ?_)
    · refine k_lv [] (lv2 := []) rfl ?_
      cases h
      exact hcont
    · refine k_iconst C (pc2 := 31) (dkAt dkX8_findTicks 18 (q := (30, .iconst 0, 1)) rfl) rfl (v := 0) rfl ?_
      refine k_istore_n C (pc2 := 32) (dkAt dkX8_findTicks 19 (q := (31, .istore_n 3, 1)) rfl) rfl rfl (by decide) (lv2 := [(3, .int 0), (0, rA G o0), (1, .int x1), (2, .int x2)]) rfl ?_
      refine k_lv [1, 2, 3, 0] (lv2 := [(0, rA G o0), (1, .int x1), (2, .int x2), (3, .int 0)]) rfl ?_
      obtain ⟨M13, e12, h⟩ := ob_inv h
      refine kl_X8_findTicks_L32 C o0 h0 x1 x2 M13 ?_ 1000 0 M e12
      refine k_iconst C (pc2 := 67) (dkAt dkX8_findTicks 40 (q := (66, .iconst 0, 1)) rfl) rfl (v := 0) rfl ?_
      refine k_istore_n C (pc2 := 68) (dkAt dkX8_findTicks 41 (q := (67, .istore_n 3, 1)) rfl) rfl rfl (by decide) (lv2 := [(3, .int 0), (0, rA G o0), (1, .int x1), (2, .int x2)]) rfl ?_
      refine k_lv [1, 2, 3, 0] (lv2 := [(0, rA G o0), (1, .int x1), (2, .int x2), (3, .int 0)]) rfl ?_
      obtain ⟨M21, e20, h⟩ := ob_inv h
      refine kl_X8_findTicks_L68 C o0 h0 x1 x2 M21 ?_ 1000 0 M13 e20
      refine kb_iinc C (pc2 := 111) (dkAt dkX8_findTicks 66 (q := (108, .iinc 2 1, 3)) rfl) rfl (j := 2) rfl (v := x2 + 1) rfl (by decide) (lv2 := fun v22 => [(2, .int v22), (0, rA G o0), (1, .int x1)]) (fun _ => rfl) h (fun v22 h => ?_)
      refine k_goto C (tgt := 25) (dkAt dkX8_findTicks 67 (q := (111, .goto (-86), 3)) rfl) (by decide) ?_
      refine k_lv [1, 2, 0] (lv2 := [(0, rA G o0), (1, .int x1), (2, .int v22)]) rfl ?_
      exact ih v22 M21 h
set_option maxRecDepth 100000 in
set_option maxHeartbeats 4000000 in
theorem ct_X8_findTicks (l : Launch) (G : GG) (sh : Sh) (xs : List va_E) (o0 : Nat) (h0 : isM sh o0) (x1 : Int32) (M : Mm) (r : Mm) (h : f_X8_findTicks o0 x1 M = some r) : Ct l yX8_findTicks cX8_findTicks 4 none rm_X8_findTicks G [rA G o0, .int x1] sh M xs none sh r xs 0 0 := by
  refine ct_of (by decide) (Nat.le_of_ble_eq_true rfl) ?_
  intro p e s m args below meth c hnm C
  refine k_lv [0, 1] (lv2 := [(0, rA G o0), (1, .int x1)]) rfl ?_
  unfold f_X8_findTicks at h
  refine k_iconst C (pc2 := 1) (dkAt dkX8_findTicks 0 (q := (0, .iconst 0, 1)) rfl) rfl (v := 0) rfl ?_
  refine k_istore_n C (pc2 := 2) (dkAt dkX8_findTicks 1 (q := (1, .istore_n 2, 1)) rfl) rfl rfl (by decide) (lv2 := [(2, .int 0), (0, rA G o0), (1, .int x1)]) rfl ?_
  refine k_lv [1, 2, 0] (lv2 := [(0, rA G o0), (1, .int x1), (2, .int 0)]) rfl ?_
  obtain ⟨M5, e4, h⟩ := ob_inv h
  refine kl_X8_findTicks_L2 C o0 h0 x1 M5 ?_ 1000 0 M e4
  refine k_iconst C (pc2 := 24) (dkAt dkX8_findTicks 13 (q := (23, .iconst 0, 1)) rfl) rfl (v := 0) rfl ?_
  refine k_istore_n C (pc2 := 25) (dkAt dkX8_findTicks 14 (q := (24, .istore_n 2, 1)) rfl) rfl rfl (by decide) (lv2 := [(2, .int 0), (0, rA G o0), (1, .int x1)]) rfl ?_
  refine k_lv [1, 2, 0] (lv2 := [(0, rA G o0), (1, .int x1), (2, .int 0)]) rfl ?_
  obtain ⟨M25, e24, h⟩ := ob_inv h
  refine kl_X8_findTicks_L25 C o0 h0 x1 M25 ?_ 1000 0 M5 e24
  exact k_vret C (dkAt dkX8_findTicks 68 (q := (114, .return_, 1)) rfl) rfl (Option.some.inj h) rfl
set_option maxRecDepth 100000 in
set_option maxHeartbeats 4000000 in
theorem ct_X8_tick (l : Launch) (G : GG) (sh : Sh) (xs : List va_E) (o0 : Nat) (h0 : isM sh o0) (x1 : Int32) (x2 : Int32) (M : Mm) (r : Mm × Int32) (h : f_X8_tick o0 x1 x2 M = some r) : Ct l yX8_tick cX8_tick 3 (some .int) rm_X8_tick G [rA G o0, .int x1, .int x2] sh M xs (some (.int r.2)) sh r.1 xs 0 0 := by
  refine ct_of (by decide) (Nat.le_of_ble_eq_true rfl) ?_
  intro p e s m args below meth c hnm C
  refine k_lv [0, 1, 2] (lv2 := [(0, rA G o0), (1, .int x1), (2, .int x2)]) rfl ?_
  unfold f_X8_tick at h
  refine k_aload_n C (pc2 := 1) (dkAt dkX8_tick 0 (q := (0, .aload_n 0, 1)) rfl) rfl rfl 0 rfl ?_
  refine k_iload_n C (pc2 := 2) (dkAt dkX8_tick 1 (q := (1, .iload_n 1, 1)) rfl) rfl rfl 1 rfl ?_
  obtain ⟨q1, e2, h⟩ := ob_inv h
  refine kc_V C (As := [.int x1]) (st2 := [.int q1]) (ct_X8_isOne l G sh xs o0 h0 x1 M q1 e2) (cl_X8_108 (hts_of C) ⟨Nat.le_of_ble_eq_true rfl, Nat.le_of_ble_eq_true rfl⟩ rfl rfl) h0.1 rfl rfl rfl rfl rfl (Nat.le_of_ble_eq_true rfl) (dkAt dkX8_tick 2 (q := (2, .invokevirtual 108, 3)) rfl) ⟨Nat.zero_le _, Nat.zero_le _⟩ (pc2 := 5) rfl rfl ?_
  refine k_if_eq C (tgt := 17) (pc2 := 8) (dkAt dkX8_tick 3 (q := (5, .ifCond .eq 12, 3)) rfl) (by decide) rfl h (fun h => ?_) (fun h => ?_)
  · refine k_aload_n C (pc2 := 18) (dkAt dkX8_tick 9 (q := (17, .aload_n 0, 1)) rfl) rfl rfl 0 rfl ?_
    refine k_bipush C (pc2 := 20) (dkAt dkX8_tick 10 (q := (18, .bipush (-2), 2)) rfl) rfl (v := (-2)) rfl ?_
    obtain ⟨q3, e4, h⟩ := ob_inv h
    refine kc_V C (As := [.int (-2)]) (st2 := [.int q3.2]) (ct_X8_refuse l G sh xs o0 h0 (-2) M q3 e4) (cl_X8_97 (hts_of C) ⟨Nat.le_of_ble_eq_true rfl, Nat.le_of_ble_eq_true rfl⟩ rfl rfl) h0.1 rfl rfl rfl rfl rfl (Nat.le_of_ble_eq_true rfl) (dkAt dkX8_tick 11 (q := (20, .invokevirtual 97, 3)) rfl) ⟨Nat.zero_le _, Nat.zero_le _⟩ (pc2 := 23) rfl rfl ?_
    exact k_iret C (dkAt dkX8_tick 12 (q := (23, .ireturn, 1)) rfl) (pe2 (Option.some.inj h)) rfl (pe1 (Option.some.inj h)) rfl
  · refine k_aload_n C (pc2 := 9) (dkAt dkX8_tick 4 (q := (8, .aload_n 0, 1)) rfl) rfl rfl 0 rfl ?_
    refine k_iload_n C (pc2 := 10) (dkAt dkX8_tick 5 (q := (9, .iload_n 2, 1)) rfl) rfl rfl 2 rfl ?_
    refine k_i2l C (pc2 := 11) (dkAt dkX8_tick 6 (q := (10, .i2l, 1)) rfl) rfl ?_
    obtain ⟨q5, e6, h⟩ := ob_inv h
    refine kc_V C (As := [.long x2.toInt64]) (st2 := [.int q5]) (ct_X8_isDay l G sh xs o0 h0 x2.toInt64 M q5 e6) (cl_X8_135 (hts_of C) ⟨Nat.le_of_ble_eq_true rfl, Nat.le_of_ble_eq_true rfl⟩ rfl rfl) h0.1 rfl rfl rfl rfl rfl (Nat.le_of_ble_eq_true rfl) (dkAt dkX8_tick 7 (q := (11, .invokevirtual 135, 3)) rfl) ⟨Nat.zero_le _, Nat.zero_le _⟩ (pc2 := 14) rfl rfl ?_
    refine k_if_ne C (tgt := 24) (pc2 := 17) (dkAt dkX8_tick 8 (q := (14, .ifCond .ne 10, 3)) rfl) (by decide) rfl h (fun h => ?_) (fun h => ?_)
    · refine k_aload_n C (pc2 := 25) (dkAt dkX8_tick 13 (q := (24, .aload_n 0, 1)) rfl) rfl rfl 0 rfl ?_
      refine k_aload_n C (pc2 := 26) (dkAt dkX8_tick 14 (q := (25, .aload_n 0, 1)) rfl) rfl rfl 0 rfl ?_
      refine kf_X8_82 C (pc2 := 29) (o := o0) (o2 := 0) h0.1 (dkAt dkX8_tick 15 (q := (26, .getfield 82, 3)) rfl) rfl ?_
      obtain ⟨q7, e8, h⟩ := ob_inv h
      refine kc_V C (As := [.int (M.1 o0 10)]) (st2 := []) (ct_X8_findTicks l G sh xs o0 h0 (M.1 o0 10) M q7 e8) (cl_X8_253 (hts_of C) ⟨Nat.le_of_ble_eq_true rfl, Nat.le_of_ble_eq_true rfl⟩ rfl rfl) h0.1 rfl rfl rfl rfl rfl (Nat.le_of_ble_eq_true rfl) (dkAt dkX8_tick 16 (q := (29, .invokevirtual 253, 3)) rfl) ⟨Nat.zero_le _, Nat.zero_le _⟩ (pc2 := 32) rfl rfl ?_
      refine k_aload_n C (pc2 := 33) (dkAt dkX8_tick 17 (q := (32, .aload_n 0, 1)) rfl) rfl rfl 0 rfl ?_
      refine kf_X8_67 C (pc2 := 36) (o := o0) (o2 := o0 + 24) h0.1 rfl (dkAt dkX8_tick 18 (q := (33, .getfield 67, 3)) rfl) rfl ?_
      refine k_iload_n C (pc2 := 37) (dkAt dkX8_tick 19 (q := (36, .iload_n 1, 1)) rfl) rfl rfl 1 rfl ?_
      refine k_aa13 C (pc2 := 38) (o := o0 + 24) (o2 := o0 + 25 + x1.toNatClampNeg) (nA := 8) (isM_ticks h0) rfl (dkAt dkX8_tick 20 (q := (37, .aaload, 1)) rfl) rfl h (fun h hl9 => ?_)
      refine k_iload_n C (pc2 := 39) (dkAt dkX8_tick 21 (q := (38, .iload_n 2, 1)) rfl) rfl rfl 2 rfl ?_
      refine k_iald C (pc2 := 40) (o := o0 + 25 + x1.toNatClampNeg) (nA := 14) (isM_ticksI h0 _ hl9) (dkAt dkX8_tick 22 (q := (39, .iaload, 1)) rfl) rfl h (fun h => ?_)
      exact k_iret C (dkAt dkX8_tick 23 (q := (40, .ireturn, 1)) rfl) (pe2 (Option.some.inj h)) rfl (pe1 (Option.some.inj h)) rfl
    · refine k_aload_n C (pc2 := 18) (dkAt dkX8_tick 9 (q := (17, .aload_n 0, 1)) rfl) rfl rfl 0 rfl ?_
      refine k_bipush C (pc2 := 20) (dkAt dkX8_tick 10 (q := (18, .bipush (-2), 2)) rfl) rfl (v := (-2)) rfl ?_
      obtain ⟨q10, e11, h⟩ := ob_inv h
      refine kc_V C (As := [.int (-2)]) (st2 := [.int q10.2]) (ct_X8_refuse l G sh xs o0 h0 (-2) M q10 e11) (cl_X8_97 (hts_of C) ⟨Nat.le_of_ble_eq_true rfl, Nat.le_of_ble_eq_true rfl⟩ rfl rfl) h0.1 rfl rfl rfl rfl rfl (Nat.le_of_ble_eq_true rfl) (dkAt dkX8_tick 11 (q := (20, .invokevirtual 97, 3)) rfl) ⟨Nat.zero_le _, Nat.zero_le _⟩ (pc2 := 23) rfl rfl ?_
      exact k_iret C (dkAt dkX8_tick 12 (q := (23, .ireturn, 1)) rfl) (pe2 (Option.some.inj h)) rfl (pe1 (Option.some.inj h)) rfl
set_option maxRecDepth 100000 in
set_option maxHeartbeats 4000000 in
theorem kl_X8_countOf_L4 {p : Program} {l : Launch} {e : Env} {s : State} {m : MethodId} {args : Array Value} {below : List Frame} {meth : Method} {c : Code} {G : GG} {sh : Sh} {xs : List va_E} {Q : State → Prop} (C : Cx p s m c args meth G RX8 cX8_countOf 4 (some .int)) (o0 : Nat) (h0 : isM sh o0) (x1 : Int32) (M : Mm) (y2 : Int32) (hcont : KW p l e rm_X8_countOf s m args below meth c G 4 Q sh xs 0 0 M 29 [(2, .int y2)] []) : ∀ (n : Nat) (x2 : Int32) (x3 : Int32), f_X8_countOf_L4 o0 x1 M n x2 x3 = some y2 → KW p l e rm_X8_countOf s m args below meth c G 4 Q sh xs 0 0 M 4 [(0, rA G o0), (1, .int x1), (2, .int x2), (3, .int x3)] [] := by
  intro n
  induction n with
  | zero =>
    intro x2 x3 h
    cases h
  | succ n ih =>
    intro x2 x3 h
    unfold f_X8_countOf_L4 at h
    refine k_iload_n C (pc2 := 5) (dkAt dkX8_countOf 4 (q := (4, .iload_n 3, 1)) rfl) rfl rfl 3 rfl ?_
    refine k_aload_n C (pc2 := 6) (dkAt dkX8_countOf 5 (q := (5, .aload_n 0, 1)) rfl) rfl rfl 0 rfl ?_
    refine kf_X8_82 C (pc2 := 9) (o := o0) (o2 := 0) h0.1 (dkAt dkX8_countOf 6 (q := (6, .getfield 82, 3)) rfl) rfl ?_
    refine k_icmp_ge C (tgt := 29) (pc2 := 12) (dkAt dkX8_countOf 7 (q := (9, .if_icmp .ge 20, 3)) rfl) (by decide) rfl h (fun h => ?_) (fun h => ?_)
    · refine k_lv [2] (lv2 := [(2, .int x2)]) rfl ?_
      cases h
      exact hcont
    · refine k_iload_n C (pc2 := 13) (dkAt dkX8_countOf 8 (q := (12, .iload_n 2, 1)) rfl) rfl rfl 2 rfl ?_
      refine k_aload_n C (pc2 := 14) (dkAt dkX8_countOf 9 (q := (13, .aload_n 0, 1)) rfl) rfl rfl 0 rfl ?_
      refine kf_X8_67 C (pc2 := 17) (o := o0) (o2 := o0 + 24) h0.1 rfl (dkAt dkX8_countOf 10 (q := (14, .getfield 67, 3)) rfl) rfl ?_
      refine k_iload_n C (pc2 := 18) (dkAt dkX8_countOf 11 (q := (17, .iload_n 3, 1)) rfl) rfl rfl 3 rfl ?_
      refine k_aa13 C (pc2 := 19) (o := o0 + 24) (o2 := o0 + 25 + x3.toNatClampNeg) (nA := 8) (isM_ticks h0) rfl (dkAt dkX8_countOf 12 (q := (18, .aaload, 1)) rfl) rfl h (fun h hl1 => ?_)
      refine k_iload_n C (pc2 := 20) (dkAt dkX8_countOf 13 (q := (19, .iload_n 1, 1)) rfl) rfl rfl 1 rfl ?_
      refine k_iald C (pc2 := 21) (o := o0 + 25 + x3.toNatClampNeg) (nA := 14) (isM_ticksI h0 _ hl1) (dkAt dkX8_countOf 14 (q := (20, .iaload, 1)) rfl) rfl h (fun h => ?_)
      refine k_iadd C (pc2 := 22) (dkAt dkX8_countOf 15 (q := (21, .iadd, 1)) rfl) rfl ?_
      refine kb_istore_n C (pc2 := 23) (dkAt dkX8_countOf 16 (q := (22, .istore_n 2, 1)) rfl) rfl rfl (by decide) (lv2 := fun v2 => [(2, .int v2), (0, rA G o0), (1, .int x1), (3, .int x3)]) (fun _ => rfl) h (fun v2 h => ?_)
      refine kb_iinc C (pc2 := 26) (dkAt dkX8_countOf 17 (q := (23, .iinc 3 1, 3)) rfl) rfl (j := 3) rfl (v := x3 + 1) rfl (by decide) (lv2 := fun v3 => [(3, .int v3), (2, .int v2), (0, rA G o0), (1, .int x1)]) (fun _ => rfl) h (fun v3 h => ?_)
      refine k_goto C (tgt := 4) (dkAt dkX8_countOf 18 (q := (26, .goto (-22), 3)) rfl) (by decide) ?_
      refine k_lv [2, 3, 1, 0] (lv2 := [(0, rA G o0), (1, .int x1), (2, .int v2), (3, .int v3)]) rfl ?_
      exact ih v2 v3 h
set_option maxRecDepth 100000 in
set_option maxHeartbeats 4000000 in
theorem ct_X8_countOf (l : Launch) (G : GG) (sh : Sh) (xs : List va_E) (o0 : Nat) (h0 : isM sh o0) (x1 : Int32) (M : Mm) (r : Int32) (h : f_X8_countOf o0 x1 M = some r) : Ct l yX8_countOf cX8_countOf 4 (some .int) rm_X8_countOf G [rA G o0, .int x1] sh M xs (some (.int r)) sh M xs 0 0 := by
  refine ct_of (by decide) (Nat.le_of_ble_eq_true rfl) ?_
  intro p e s m args below meth c hnm C
  refine k_lv [0, 1] (lv2 := [(0, rA G o0), (1, .int x1)]) rfl ?_
  unfold f_X8_countOf at h
  refine k_iconst C (pc2 := 1) (dkAt dkX8_countOf 0 (q := (0, .iconst 0, 1)) rfl) rfl (v := 0) rfl ?_
  refine k_istore_n C (pc2 := 2) (dkAt dkX8_countOf 1 (q := (1, .istore_n 2, 1)) rfl) rfl rfl (by decide) (lv2 := [(2, .int 0), (0, rA G o0), (1, .int x1)]) rfl ?_
  refine k_iconst C (pc2 := 3) (dkAt dkX8_countOf 2 (q := (2, .iconst 0, 1)) rfl) rfl (v := 0) rfl ?_
  refine k_istore_n C (pc2 := 4) (dkAt dkX8_countOf 3 (q := (3, .istore_n 3, 1)) rfl) rfl rfl (by decide) (lv2 := [(3, .int 0), (2, .int 0), (0, rA G o0), (1, .int x1)]) rfl ?_
  refine k_lv [2, 3, 1, 0] (lv2 := [(0, rA G o0), (1, .int x1), (2, .int 0), (3, .int 0)]) rfl ?_
  obtain ⟨v6, e5, h⟩ := ob_inv h
  refine kl_X8_countOf_L4 C o0 h0 x1 M v6 ?_ 1000 0 0 e5
  refine k_iload_n C (pc2 := 30) (dkAt dkX8_countOf 19 (q := (29, .iload_n 2, 1)) rfl) rfl rfl 0 rfl ?_
  exact k_iret C (dkAt dkX8_countOf 20 (q := (30, .ireturn, 1)) rfl) (Option.some.inj h) rfl rfl rfl
set_option maxRecDepth 100000 in
set_option maxHeartbeats 4000000 in
theorem ct_X8_count (l : Launch) (G : GG) (sh : Sh) (xs : List va_E) (o0 : Nat) (h0 : isM sh o0) (x1 : Int32) (M : Mm) (r : Mm × Int32) (h : f_X8_count o0 x1 M = some r) : Ct l yX8_count cX8_count 2 (some .int) rm_X8_count G [rA G o0, .int x1] sh M xs (some (.int r.2)) sh r.1 xs 0 0 := by
  refine ct_of (by decide) (Nat.le_of_ble_eq_true rfl) ?_
  intro p e s m args below meth c hnm C
  refine k_lv [0, 1] (lv2 := [(0, rA G o0), (1, .int x1)]) rfl ?_
  unfold f_X8_count at h
  refine k_aload_n C (pc2 := 1) (dkAt dkX8_count 0 (q := (0, .aload_n 0, 1)) rfl) rfl rfl 0 rfl ?_
  refine k_iload_n C (pc2 := 2) (dkAt dkX8_count 1 (q := (1, .iload_n 1, 1)) rfl) rfl rfl 1 rfl ?_
  refine k_i2l C (pc2 := 3) (dkAt dkX8_count 2 (q := (2, .i2l, 1)) rfl) rfl ?_
  obtain ⟨q1, e2, h⟩ := ob_inv h
  refine kc_V C (As := [.long x1.toInt64]) (st2 := [.int q1]) (ct_X8_isDay l G sh xs o0 h0 x1.toInt64 M q1 e2) (cl_X8_135 (hts_of C) ⟨Nat.le_of_ble_eq_true rfl, Nat.le_of_ble_eq_true rfl⟩ rfl rfl) h0.1 rfl rfl rfl rfl rfl (Nat.le_of_ble_eq_true rfl) (dkAt dkX8_count 3 (q := (3, .invokevirtual 135, 3)) rfl) ⟨Nat.zero_le _, Nat.zero_le _⟩ (pc2 := 6) rfl rfl ?_
  refine k_if_ne C (tgt := 16) (pc2 := 9) (dkAt dkX8_count 4 (q := (6, .ifCond .ne 10, 3)) rfl) (by decide) rfl h (fun h => ?_) (fun h => ?_)
  · refine k_aload_n C (pc2 := 17) (dkAt dkX8_count 9 (q := (16, .aload_n 0, 1)) rfl) rfl rfl 0 rfl ?_
    refine k_aload_n C (pc2 := 18) (dkAt dkX8_count 10 (q := (17, .aload_n 0, 1)) rfl) rfl rfl 0 rfl ?_
    refine kf_X8_82 C (pc2 := 21) (o := o0) (o2 := 0) h0.1 (dkAt dkX8_count 11 (q := (18, .getfield 82, 3)) rfl) rfl ?_
    obtain ⟨q3, e4, h⟩ := ob_inv h
    refine kc_V C (As := [.int (M.1 o0 10)]) (st2 := []) (ct_X8_findTicks l G sh xs o0 h0 (M.1 o0 10) M q3 e4) (cl_X8_253 (hts_of C) ⟨Nat.le_of_ble_eq_true rfl, Nat.le_of_ble_eq_true rfl⟩ rfl rfl) h0.1 rfl rfl rfl rfl rfl (Nat.le_of_ble_eq_true rfl) (dkAt dkX8_count 12 (q := (21, .invokevirtual 253, 3)) rfl) ⟨Nat.zero_le _, Nat.zero_le _⟩ (pc2 := 24) rfl rfl ?_
    refine k_aload_n C (pc2 := 25) (dkAt dkX8_count 13 (q := (24, .aload_n 0, 1)) rfl) rfl rfl 0 rfl ?_
    refine k_iload_n C (pc2 := 26) (dkAt dkX8_count 14 (q := (25, .iload_n 1, 1)) rfl) rfl rfl 1 rfl ?_
    obtain ⟨q5, e6, h⟩ := ob_inv h
    refine kc_V C (As := [.int x1]) (st2 := [.int q5]) (ct_X8_countOf l G sh xs o0 h0 x1 q3 q5 e6) (cl_X8_256 (hts_of C) ⟨Nat.le_of_ble_eq_true rfl, Nat.le_of_ble_eq_true rfl⟩ rfl rfl) h0.1 rfl rfl rfl rfl rfl (Nat.le_of_ble_eq_true rfl) (dkAt dkX8_count 15 (q := (26, .invokevirtual 256, 3)) rfl) ⟨Nat.zero_le _, Nat.zero_le _⟩ (pc2 := 29) rfl rfl ?_
    exact k_iret C (dkAt dkX8_count 16 (q := (29, .ireturn, 1)) rfl) (pe2 (Option.some.inj h)) rfl (pe1 (Option.some.inj h)) rfl
  · refine k_aload_n C (pc2 := 10) (dkAt dkX8_count 5 (q := (9, .aload_n 0, 1)) rfl) rfl rfl 0 rfl ?_
    refine k_bipush C (pc2 := 12) (dkAt dkX8_count 6 (q := (10, .bipush (-2), 2)) rfl) rfl (v := (-2)) rfl ?_
    obtain ⟨q7, e8, h⟩ := ob_inv h
    refine kc_V C (As := [.int (-2)]) (st2 := [.int q7.2]) (ct_X8_refuse l G sh xs o0 h0 (-2) M q7 e8) (cl_X8_97 (hts_of C) ⟨Nat.le_of_ble_eq_true rfl, Nat.le_of_ble_eq_true rfl⟩ rfl rfl) h0.1 rfl rfl rfl rfl rfl (Nat.le_of_ble_eq_true rfl) (dkAt dkX8_count 7 (q := (12, .invokevirtual 97, 3)) rfl) ⟨Nat.zero_le _, Nat.zero_le _⟩ (pc2 := 15) rfl rfl ?_
    exact k_iret C (dkAt dkX8_count 8 (q := (15, .ireturn, 1)) rfl) (pe2 (Option.some.inj h)) rfl (pe1 (Option.some.inj h)) rfl
set_option maxRecDepth 100000 in
set_option maxHeartbeats 4000000 in
theorem kl_X8_bestDay_L12 {p : Program} {l : Launch} {e : Env} {s : State} {m : MethodId} {args : Array Value} {below : List Frame} {meth : Method} {c : Code} {G : GG} {sh : Sh} {xs : List va_E} {Q : State → Prop} (C : Cx p s m c args meth G RX8 cX8_bestDay 5 (some .int)) (o0 : Nat) (h0 : isM sh o0) (x1 : Int32) (M : Mm) (y2 : Int32) (hcont : KW p l e rm_X8_bestDay s m args below meth c G 5 Q sh xs 0 0 M 83 [(2, .int y2)] []) : ∀ (n : Nat) (x2 : Int32) (x3 : Int32), f_X8_bestDay_L12 o0 x1 M n x2 x3 = some y2 → KW p l e rm_X8_bestDay s m args below meth c G 5 Q sh xs 0 0 M 12 [(0, rA G o0), (1, .int x1), (2, .int x2), (3, .int x3)] [] := by
  intro n
  induction n with
  | zero =>
    intro x2 x3 h
    cases h
  | succ n ih =>
    intro x2 x3 h
    unfold f_X8_bestDay_L12 at h
    refine k_iload_n C (pc2 := 13) (dkAt dkX8_bestDay 8 (q := (12, .iload_n 3, 1)) rfl) rfl rfl 3 rfl ?_
    refine k_aload_n C (pc2 := 14) (dkAt dkX8_bestDay 9 (q := (13, .aload_n 0, 1)) rfl) rfl rfl 0 rfl ?_
    refine kf_X8_37 C (pc2 := 17) (o := o0) (o2 := 0) h0.1 (dkAt dkX8_bestDay 10 (q := (14, .getfield 37, 3)) rfl) rfl ?_
    refine k_icmp_ge C (tgt := 83) (pc2 := 20) (dkAt dkX8_bestDay 11 (q := (17, .if_icmp .ge 66, 3)) rfl) (by decide) rfl h (fun h => ?_) (fun h => ?_)
    · refine k_lv [2] (lv2 := [(2, .int x2)]) rfl ?_
      cases h
      exact hcont
    · refine k_iload_n C (pc2 := 21) (dkAt dkX8_bestDay 12 (q := (20, .iload_n 1, 1)) rfl) rfl rfl 1 rfl ?_
      refine k_if_eq C (tgt := 41) (pc2 := 24) (dkAt dkX8_bestDay 13 (q := (21, .ifCond .eq 20, 3)) rfl) (by decide) rfl h (fun h => ?_) (fun h => ?_)
      · refine k_iconst C (pc2 := 42) (dkAt dkX8_bestDay 25 (q := (41, .iconst 1, 1)) rfl) rfl (v := 1) rfl ?_
        refine k_goto C (tgt := 46) (dkAt dkX8_bestDay 26 (q := (42, .goto 4, 3)) rfl) (by decide) ?_
        refine k_istore C (pc2 := 48) (dkAt dkX8_bestDay 28 (q := (46, .istore 4, 2)) rfl) rfl (by decide) (lv2 := [(4, .int 1), (0, rA G o0), (1, .int x1), (2, .int x2), (3, .int x3)]) rfl ?_
        refine k_iload C (pc2 := 50) (dkAt dkX8_bestDay 29 (q := (48, .iload 4, 2)) rfl) rfl 0 rfl ?_
        refine k_if_eq C (tgt := 75) (pc2 := 53) (dkAt dkX8_bestDay 30 (q := (50, .ifCond .eq 25, 3)) rfl) (by decide) rfl h (fun h => ?_) (fun h => ?_)
        · refine k_iload_n C (pc2 := 76) (dkAt dkX8_bestDay 43 (q := (75, .iload_n 2, 1)) rfl) rfl rfl 3 rfl ?_
          refine k_istore_n C (pc2 := 77) (dkAt dkX8_bestDay 44 (q := (76, .istore_n 2, 1)) rfl) rfl rfl (by decide) (lv2 := [(2, .int x2), (4, .int 1), (0, rA G o0), (1, .int x1), (3, .int x3)]) rfl ?_
          refine kb_iinc C (pc2 := 80) (dkAt dkX8_bestDay 45 (q := (77, .iinc 3 1, 3)) rfl) rfl (j := 4) rfl (v := x3 + 1) rfl (by decide) (lv2 := fun v3 => [(3, .int v3), (2, .int x2), (4, .int 1), (0, rA G o0), (1, .int x1)]) (fun _ => rfl) h (fun v3 h => ?_)
          refine k_goto C (tgt := 12) (dkAt dkX8_bestDay 46 (q := (80, .goto (-68), 3)) rfl) (by decide) ?_
          refine k_lv [3, 4, 1, 0] (lv2 := [(0, rA G o0), (1, .int x1), (2, .int x2), (3, .int v3)]) rfl ?_
          exact ih x2 v3 h
        · refine k_iload_n C (pc2 := 54) (dkAt dkX8_bestDay 31 (q := (53, .iload_n 2, 1)) rfl) rfl rfl 3 rfl ?_
          refine k_iconst C (pc2 := 55) (dkAt dkX8_bestDay 32 (q := (54, .iconst (-1), 1)) rfl) rfl (v := (-1)) rfl ?_
          refine k_icmp_eq C (tgt := 71) (pc2 := 58) (dkAt dkX8_bestDay 33 (q := (55, .if_icmp .eq 16, 3)) rfl) (by decide) rfl h (fun h => ?_) (fun h => ?_)
          · refine k_iload_n C (pc2 := 72) (dkAt dkX8_bestDay 41 (q := (71, .iload_n 3, 1)) rfl) rfl rfl 4 rfl ?_
            refine k_goto C (tgt := 76) (dkAt dkX8_bestDay 42 (q := (72, .goto 4, 3)) rfl) (by decide) ?_
            refine k_istore_n C (pc2 := 77) (dkAt dkX8_bestDay 44 (q := (76, .istore_n 2, 1)) rfl) rfl rfl (by decide) (lv2 := [(2, .int x3), (4, .int 1), (0, rA G o0), (1, .int x1), (3, .int x3)]) rfl ?_
            refine kb_iinc C (pc2 := 80) (dkAt dkX8_bestDay 45 (q := (77, .iinc 3 1, 3)) rfl) rfl (j := 4) rfl (v := x3 + 1) rfl (by decide) (lv2 := fun v4 => [(3, .int v4), (2, .int x3), (4, .int 1), (0, rA G o0), (1, .int x1)]) (fun _ => rfl) h (fun v4 h => ?_)
            refine k_goto C (tgt := 12) (dkAt dkX8_bestDay 46 (q := (80, .goto (-68), 3)) rfl) (by decide) ?_
            refine k_lv [3, 4, 1, 0] (lv2 := [(0, rA G o0), (1, .int x1), (2, .int x3), (3, .int v4)]) rfl ?_
            exact ih x3 v4 h
          · refine k_aload_n C (pc2 := 59) (dkAt dkX8_bestDay 34 (q := (58, .aload_n 0, 1)) rfl) rfl rfl 1 rfl ?_
            refine k_iload_n C (pc2 := 60) (dkAt dkX8_bestDay 35 (q := (59, .iload_n 3, 1)) rfl) rfl rfl 4 rfl ?_
            obtain ⟨q5, e6, h⟩ := ob_inv h
            refine kc_V C (As := [.int x3]) (st2 := [.int q5]) (ct_X8_countOf l G sh xs o0 h0 x3 M q5 e6) (cl_X8_256 (hts_of C) ⟨Nat.le_of_ble_eq_true rfl, Nat.le_of_ble_eq_true rfl⟩ rfl rfl) h0.1 rfl rfl rfl rfl rfl (Nat.le_of_ble_eq_true rfl) (dkAt dkX8_bestDay 36 (q := (60, .invokevirtual 256, 3)) rfl) ⟨Nat.zero_le _, Nat.zero_le _⟩ (pc2 := 63) rfl rfl ?_
            refine k_aload_n C (pc2 := 64) (dkAt dkX8_bestDay 37 (q := (63, .aload_n 0, 1)) rfl) rfl rfl 1 rfl ?_
            refine k_iload_n C (pc2 := 65) (dkAt dkX8_bestDay 38 (q := (64, .iload_n 2, 1)) rfl) rfl rfl 3 rfl ?_
            obtain ⟨q7, e8, h⟩ := ob_inv h
            refine kc_V C (As := [.int x2]) (st2 := [.int q7, .int q5]) (ct_X8_countOf l G sh xs o0 h0 x2 M q7 e8) (cl_X8_256 (hts_of C) ⟨Nat.le_of_ble_eq_true rfl, Nat.le_of_ble_eq_true rfl⟩ rfl rfl) h0.1 rfl rfl rfl rfl rfl (Nat.le_of_ble_eq_true rfl) (dkAt dkX8_bestDay 39 (q := (65, .invokevirtual 256, 3)) rfl) ⟨Nat.zero_le _, Nat.zero_le _⟩ (pc2 := 68) rfl rfl ?_
            refine k_icmp_le C (tgt := 75) (pc2 := 71) (dkAt dkX8_bestDay 40 (q := (68, .if_icmp .le 7, 3)) rfl) (by decide) rfl h (fun h => ?_) (fun h => ?_)
            · refine k_iload_n C (pc2 := 76) (dkAt dkX8_bestDay 43 (q := (75, .iload_n 2, 1)) rfl) rfl rfl 3 rfl ?_
              refine k_istore_n C (pc2 := 77) (dkAt dkX8_bestDay 44 (q := (76, .istore_n 2, 1)) rfl) rfl rfl (by decide) (lv2 := [(2, .int x2), (4, .int 1), (0, rA G o0), (1, .int x1), (3, .int x3)]) rfl ?_
              refine kb_iinc C (pc2 := 80) (dkAt dkX8_bestDay 45 (q := (77, .iinc 3 1, 3)) rfl) rfl (j := 4) rfl (v := x3 + 1) rfl (by decide) (lv2 := fun v9 => [(3, .int v9), (2, .int x2), (4, .int 1), (0, rA G o0), (1, .int x1)]) (fun _ => rfl) h (fun v9 h => ?_)
              refine k_goto C (tgt := 12) (dkAt dkX8_bestDay 46 (q := (80, .goto (-68), 3)) rfl) (by decide) ?_
              refine k_lv [3, 4, 1, 0] (lv2 := [(0, rA G o0), (1, .int x1), (2, .int x2), (3, .int v9)]) rfl ?_
              exact ih x2 v9 h
            · refine k_iload_n C (pc2 := 72) (dkAt dkX8_bestDay 41 (q := (71, .iload_n 3, 1)) rfl) rfl rfl 4 rfl ?_
              refine k_goto C (tgt := 76) (dkAt dkX8_bestDay 42 (q := (72, .goto 4, 3)) rfl) (by decide) ?_
              refine k_istore_n C (pc2 := 77) (dkAt dkX8_bestDay 44 (q := (76, .istore_n 2, 1)) rfl) rfl rfl (by decide) (lv2 := [(2, .int x3), (4, .int 1), (0, rA G o0), (1, .int x1), (3, .int x3)]) rfl ?_
              refine kb_iinc C (pc2 := 80) (dkAt dkX8_bestDay 45 (q := (77, .iinc 3 1, 3)) rfl) rfl (j := 4) rfl (v := x3 + 1) rfl (by decide) (lv2 := fun v10 => [(3, .int v10), (2, .int x3), (4, .int 1), (0, rA G o0), (1, .int x1)]) (fun _ => rfl) h (fun v10 h => ?_)
              refine k_goto C (tgt := 12) (dkAt dkX8_bestDay 46 (q := (80, .goto (-68), 3)) rfl) (by decide) ?_
              refine k_lv [3, 4, 1, 0] (lv2 := [(0, rA G o0), (1, .int x1), (2, .int x3), (3, .int v10)]) rfl ?_
              exact ih x3 v10 h
      · refine k_aload_n C (pc2 := 25) (dkAt dkX8_bestDay 14 (q := (24, .aload_n 0, 1)) rfl) rfl rfl 0 rfl ?_
        refine kf_X8_67 C (pc2 := 28) (o := o0) (o2 := o0 + 24) h0.1 rfl (dkAt dkX8_bestDay 15 (q := (25, .getfield 67, 3)) rfl) rfl ?_
        refine k_aload_n C (pc2 := 29) (dkAt dkX8_bestDay 16 (q := (28, .aload_n 0, 1)) rfl) rfl rfl 0 rfl ?_
        refine kf_X8_56 C (pc2 := 32) (o := o0) (o2 := o0 + 22) h0.1 rfl (dkAt dkX8_bestDay 17 (q := (29, .getfield 56, 3)) rfl) rfl ?_
        refine k_iconst C (pc2 := 33) (dkAt dkX8_bestDay 18 (q := (32, .iconst 0, 1)) rfl) rfl (v := 0) rfl ?_
        refine k_ialdc C (pc2 := 34) (o := o0 + 22) (nA := 3) (j := 0) (isM_asked h0) (dkAt dkX8_bestDay 19 (q := (33, .iaload, 1)) rfl) rfl (by unfold vp_in; decide) (by decide) ?_
        refine k_aa13 C (pc2 := 35) (o := o0 + 24) (o2 := o0 + 25 + (M.1 (o0 + 22) 0).toNatClampNeg) (nA := 8) (isM_ticks h0) rfl (dkAt dkX8_bestDay 20 (q := (34, .aaload, 1)) rfl) rfl h (fun h hl11 => ?_)
        refine k_iload_n C (pc2 := 36) (dkAt dkX8_bestDay 21 (q := (35, .iload_n 3, 1)) rfl) rfl rfl 3 rfl ?_
        refine k_iald C (pc2 := 37) (o := o0 + 25 + (M.1 (o0 + 22) 0).toNatClampNeg) (nA := 14) (isM_ticksI h0 _ hl11) (dkAt dkX8_bestDay 22 (q := (36, .iaload, 1)) rfl) rfl h (fun h => ?_)
        refine k_iconst C (pc2 := 38) (dkAt dkX8_bestDay 23 (q := (37, .iconst 2, 1)) rfl) rfl (v := 2) rfl ?_
        refine k_icmp_ne C (tgt := 45) (pc2 := 41) (dkAt dkX8_bestDay 24 (q := (38, .if_icmp .ne 7, 3)) rfl) (by decide) rfl h (fun h => ?_) (fun h => ?_)
        · refine k_iconst C (pc2 := 46) (dkAt dkX8_bestDay 27 (q := (45, .iconst 0, 1)) rfl) rfl (v := 0) rfl ?_
          refine k_istore C (pc2 := 48) (dkAt dkX8_bestDay 28 (q := (46, .istore 4, 2)) rfl) rfl (by decide) (lv2 := [(4, .int 0), (0, rA G o0), (1, .int x1), (2, .int x2), (3, .int x3)]) rfl ?_
          refine k_iload C (pc2 := 50) (dkAt dkX8_bestDay 29 (q := (48, .iload 4, 2)) rfl) rfl 0 rfl ?_
          refine k_if_eq C (tgt := 75) (pc2 := 53) (dkAt dkX8_bestDay 30 (q := (50, .ifCond .eq 25, 3)) rfl) (by decide) rfl h (fun h => ?_) (fun h => ?_)
          · refine k_iload_n C (pc2 := 76) (dkAt dkX8_bestDay 43 (q := (75, .iload_n 2, 1)) rfl) rfl rfl 3 rfl ?_
            refine k_istore_n C (pc2 := 77) (dkAt dkX8_bestDay 44 (q := (76, .istore_n 2, 1)) rfl) rfl rfl (by decide) (lv2 := [(2, .int x2), (4, .int 0), (0, rA G o0), (1, .int x1), (3, .int x3)]) rfl ?_
            refine kb_iinc C (pc2 := 80) (dkAt dkX8_bestDay 45 (q := (77, .iinc 3 1, 3)) rfl) rfl (j := 4) rfl (v := x3 + 1) rfl (by decide) (lv2 := fun v12 => [(3, .int v12), (2, .int x2), (4, .int 0), (0, rA G o0), (1, .int x1)]) (fun _ => rfl) h (fun v12 h => ?_)
            refine k_goto C (tgt := 12) (dkAt dkX8_bestDay 46 (q := (80, .goto (-68), 3)) rfl) (by decide) ?_
            refine k_lv [3, 4, 1, 0] (lv2 := [(0, rA G o0), (1, .int x1), (2, .int x2), (3, .int v12)]) rfl ?_
            exact ih x2 v12 h
          · refine k_iload_n C (pc2 := 54) (dkAt dkX8_bestDay 31 (q := (53, .iload_n 2, 1)) rfl) rfl rfl 3 rfl ?_
            refine k_iconst C (pc2 := 55) (dkAt dkX8_bestDay 32 (q := (54, .iconst (-1), 1)) rfl) rfl (v := (-1)) rfl ?_
            refine k_icmp_eq C (tgt := 71) (pc2 := 58) (dkAt dkX8_bestDay 33 (q := (55, .if_icmp .eq 16, 3)) rfl) (by decide) rfl h (fun h => ?_) (fun h => ?_)
            · refine k_iload_n C (pc2 := 72) (dkAt dkX8_bestDay 41 (q := (71, .iload_n 3, 1)) rfl) rfl rfl 4 rfl ?_
              refine k_goto C (tgt := 76) (dkAt dkX8_bestDay 42 (q := (72, .goto 4, 3)) rfl) (by decide) ?_
              refine k_istore_n C (pc2 := 77) (dkAt dkX8_bestDay 44 (q := (76, .istore_n 2, 1)) rfl) rfl rfl (by decide) (lv2 := [(2, .int x3), (4, .int 0), (0, rA G o0), (1, .int x1), (3, .int x3)]) rfl ?_
              refine kb_iinc C (pc2 := 80) (dkAt dkX8_bestDay 45 (q := (77, .iinc 3 1, 3)) rfl) rfl (j := 4) rfl (v := x3 + 1) rfl (by decide) (lv2 := fun v13 => [(3, .int v13), (2, .int x3), (4, .int 0), (0, rA G o0), (1, .int x1)]) (fun _ => rfl) h (fun v13 h => ?_)
              refine k_goto C (tgt := 12) (dkAt dkX8_bestDay 46 (q := (80, .goto (-68), 3)) rfl) (by decide) ?_
              refine k_lv [3, 4, 1, 0] (lv2 := [(0, rA G o0), (1, .int x1), (2, .int x3), (3, .int v13)]) rfl ?_
              exact ih x3 v13 h
            · refine k_aload_n C (pc2 := 59) (dkAt dkX8_bestDay 34 (q := (58, .aload_n 0, 1)) rfl) rfl rfl 1 rfl ?_
              refine k_iload_n C (pc2 := 60) (dkAt dkX8_bestDay 35 (q := (59, .iload_n 3, 1)) rfl) rfl rfl 4 rfl ?_
              obtain ⟨q14, e15, h⟩ := ob_inv h
              refine kc_V C (As := [.int x3]) (st2 := [.int q14]) (ct_X8_countOf l G sh xs o0 h0 x3 M q14 e15) (cl_X8_256 (hts_of C) ⟨Nat.le_of_ble_eq_true rfl, Nat.le_of_ble_eq_true rfl⟩ rfl rfl) h0.1 rfl rfl rfl rfl rfl (Nat.le_of_ble_eq_true rfl) (dkAt dkX8_bestDay 36 (q := (60, .invokevirtual 256, 3)) rfl) ⟨Nat.zero_le _, Nat.zero_le _⟩ (pc2 := 63) rfl rfl ?_
              refine k_aload_n C (pc2 := 64) (dkAt dkX8_bestDay 37 (q := (63, .aload_n 0, 1)) rfl) rfl rfl 1 rfl ?_
              refine k_iload_n C (pc2 := 65) (dkAt dkX8_bestDay 38 (q := (64, .iload_n 2, 1)) rfl) rfl rfl 3 rfl ?_
              obtain ⟨q16, e17, h⟩ := ob_inv h
              refine kc_V C (As := [.int x2]) (st2 := [.int q16, .int q14]) (ct_X8_countOf l G sh xs o0 h0 x2 M q16 e17) (cl_X8_256 (hts_of C) ⟨Nat.le_of_ble_eq_true rfl, Nat.le_of_ble_eq_true rfl⟩ rfl rfl) h0.1 rfl rfl rfl rfl rfl (Nat.le_of_ble_eq_true rfl) (dkAt dkX8_bestDay 39 (q := (65, .invokevirtual 256, 3)) rfl) ⟨Nat.zero_le _, Nat.zero_le _⟩ (pc2 := 68) rfl rfl ?_
              refine k_icmp_le C (tgt := 75) (pc2 := 71) (dkAt dkX8_bestDay 40 (q := (68, .if_icmp .le 7, 3)) rfl) (by decide) rfl h (fun h => ?_) (fun h => ?_)
              · refine k_iload_n C (pc2 := 76) (dkAt dkX8_bestDay 43 (q := (75, .iload_n 2, 1)) rfl) rfl rfl 3 rfl ?_
                refine k_istore_n C (pc2 := 77) (dkAt dkX8_bestDay 44 (q := (76, .istore_n 2, 1)) rfl) rfl rfl (by decide) (lv2 := [(2, .int x2), (4, .int 0), (0, rA G o0), (1, .int x1), (3, .int x3)]) rfl ?_
                refine kb_iinc C (pc2 := 80) (dkAt dkX8_bestDay 45 (q := (77, .iinc 3 1, 3)) rfl) rfl (j := 4) rfl (v := x3 + 1) rfl (by decide) (lv2 := fun v18 => [(3, .int v18), (2, .int x2), (4, .int 0), (0, rA G o0), (1, .int x1)]) (fun _ => rfl) h (fun v18 h => ?_)
                refine k_goto C (tgt := 12) (dkAt dkX8_bestDay 46 (q := (80, .goto (-68), 3)) rfl) (by decide) ?_
                refine k_lv [3, 4, 1, 0] (lv2 := [(0, rA G o0), (1, .int x1), (2, .int x2), (3, .int v18)]) rfl ?_
                exact ih x2 v18 h
              · refine k_iload_n C (pc2 := 72) (dkAt dkX8_bestDay 41 (q := (71, .iload_n 3, 1)) rfl) rfl rfl 4 rfl ?_
                refine k_goto C (tgt := 76) (dkAt dkX8_bestDay 42 (q := (72, .goto 4, 3)) rfl) (by decide) ?_
                refine k_istore_n C (pc2 := 77) (dkAt dkX8_bestDay 44 (q := (76, .istore_n 2, 1)) rfl) rfl rfl (by decide) (lv2 := [(2, .int x3), (4, .int 0), (0, rA G o0), (1, .int x1), (3, .int x3)]) rfl ?_
                refine kb_iinc C (pc2 := 80) (dkAt dkX8_bestDay 45 (q := (77, .iinc 3 1, 3)) rfl) rfl (j := 4) rfl (v := x3 + 1) rfl (by decide) (lv2 := fun v19 => [(3, .int v19), (2, .int x3), (4, .int 0), (0, rA G o0), (1, .int x1)]) (fun _ => rfl) h (fun v19 h => ?_)
                refine k_goto C (tgt := 12) (dkAt dkX8_bestDay 46 (q := (80, .goto (-68), 3)) rfl) (by decide) ?_
                refine k_lv [3, 4, 1, 0] (lv2 := [(0, rA G o0), (1, .int x1), (2, .int x3), (3, .int v19)]) rfl ?_
                exact ih x3 v19 h
        · refine k_iconst C (pc2 := 42) (dkAt dkX8_bestDay 25 (q := (41, .iconst 1, 1)) rfl) rfl (v := 1) rfl ?_
          refine k_goto C (tgt := 46) (dkAt dkX8_bestDay 26 (q := (42, .goto 4, 3)) rfl) (by decide) ?_
          refine k_istore C (pc2 := 48) (dkAt dkX8_bestDay 28 (q := (46, .istore 4, 2)) rfl) rfl (by decide) (lv2 := [(4, .int 1), (0, rA G o0), (1, .int x1), (2, .int x2), (3, .int x3)]) rfl ?_
          refine k_iload C (pc2 := 50) (dkAt dkX8_bestDay 29 (q := (48, .iload 4, 2)) rfl) rfl 0 rfl ?_
          refine k_if_eq C (tgt := 75) (pc2 := 53) (dkAt dkX8_bestDay 30 (q := (50, .ifCond .eq 25, 3)) rfl) (by decide) rfl h (fun h => ?_) (fun h => ?_)
          · refine k_iload_n C (pc2 := 76) (dkAt dkX8_bestDay 43 (q := (75, .iload_n 2, 1)) rfl) rfl rfl 3 rfl ?_
            refine k_istore_n C (pc2 := 77) (dkAt dkX8_bestDay 44 (q := (76, .istore_n 2, 1)) rfl) rfl rfl (by decide) (lv2 := [(2, .int x2), (4, .int 1), (0, rA G o0), (1, .int x1), (3, .int x3)]) rfl ?_
            refine kb_iinc C (pc2 := 80) (dkAt dkX8_bestDay 45 (q := (77, .iinc 3 1, 3)) rfl) rfl (j := 4) rfl (v := x3 + 1) rfl (by decide) (lv2 := fun v20 => [(3, .int v20), (2, .int x2), (4, .int 1), (0, rA G o0), (1, .int x1)]) (fun _ => rfl) h (fun v20 h => ?_)
            refine k_goto C (tgt := 12) (dkAt dkX8_bestDay 46 (q := (80, .goto (-68), 3)) rfl) (by decide) ?_
            refine k_lv [3, 4, 1, 0] (lv2 := [(0, rA G o0), (1, .int x1), (2, .int x2), (3, .int v20)]) rfl ?_
            exact ih x2 v20 h
          · refine k_iload_n C (pc2 := 54) (dkAt dkX8_bestDay 31 (q := (53, .iload_n 2, 1)) rfl) rfl rfl 3 rfl ?_
            refine k_iconst C (pc2 := 55) (dkAt dkX8_bestDay 32 (q := (54, .iconst (-1), 1)) rfl) rfl (v := (-1)) rfl ?_
            refine k_icmp_eq C (tgt := 71) (pc2 := 58) (dkAt dkX8_bestDay 33 (q := (55, .if_icmp .eq 16, 3)) rfl) (by decide) rfl h (fun h => ?_) (fun h => ?_)
            · refine k_iload_n C (pc2 := 72) (dkAt dkX8_bestDay 41 (q := (71, .iload_n 3, 1)) rfl) rfl rfl 4 rfl ?_
              refine k_goto C (tgt := 76) (dkAt dkX8_bestDay 42 (q := (72, .goto 4, 3)) rfl) (by decide) ?_
              refine k_istore_n C (pc2 := 77) (dkAt dkX8_bestDay 44 (q := (76, .istore_n 2, 1)) rfl) rfl rfl (by decide) (lv2 := [(2, .int x3), (4, .int 1), (0, rA G o0), (1, .int x1), (3, .int x3)]) rfl ?_
              refine kb_iinc C (pc2 := 80) (dkAt dkX8_bestDay 45 (q := (77, .iinc 3 1, 3)) rfl) rfl (j := 4) rfl (v := x3 + 1) rfl (by decide) (lv2 := fun v21 => [(3, .int v21), (2, .int x3), (4, .int 1), (0, rA G o0), (1, .int x1)]) (fun _ => rfl) h (fun v21 h => ?_)
              refine k_goto C (tgt := 12) (dkAt dkX8_bestDay 46 (q := (80, .goto (-68), 3)) rfl) (by decide) ?_
              refine k_lv [3, 4, 1, 0] (lv2 := [(0, rA G o0), (1, .int x1), (2, .int x3), (3, .int v21)]) rfl ?_
              exact ih x3 v21 h
            · refine k_aload_n C (pc2 := 59) (dkAt dkX8_bestDay 34 (q := (58, .aload_n 0, 1)) rfl) rfl rfl 1 rfl ?_
              refine k_iload_n C (pc2 := 60) (dkAt dkX8_bestDay 35 (q := (59, .iload_n 3, 1)) rfl) rfl rfl 4 rfl ?_
              obtain ⟨q22, e23, h⟩ := ob_inv h
              refine kc_V C (As := [.int x3]) (st2 := [.int q22]) (ct_X8_countOf l G sh xs o0 h0 x3 M q22 e23) (cl_X8_256 (hts_of C) ⟨Nat.le_of_ble_eq_true rfl, Nat.le_of_ble_eq_true rfl⟩ rfl rfl) h0.1 rfl rfl rfl rfl rfl (Nat.le_of_ble_eq_true rfl) (dkAt dkX8_bestDay 36 (q := (60, .invokevirtual 256, 3)) rfl) ⟨Nat.zero_le _, Nat.zero_le _⟩ (pc2 := 63) rfl rfl ?_
              refine k_aload_n C (pc2 := 64) (dkAt dkX8_bestDay 37 (q := (63, .aload_n 0, 1)) rfl) rfl rfl 1 rfl ?_
              refine k_iload_n C (pc2 := 65) (dkAt dkX8_bestDay 38 (q := (64, .iload_n 2, 1)) rfl) rfl rfl 3 rfl ?_
              obtain ⟨q24, e25, h⟩ := ob_inv h
              refine kc_V C (As := [.int x2]) (st2 := [.int q24, .int q22]) (ct_X8_countOf l G sh xs o0 h0 x2 M q24 e25) (cl_X8_256 (hts_of C) ⟨Nat.le_of_ble_eq_true rfl, Nat.le_of_ble_eq_true rfl⟩ rfl rfl) h0.1 rfl rfl rfl rfl rfl (Nat.le_of_ble_eq_true rfl) (dkAt dkX8_bestDay 39 (q := (65, .invokevirtual 256, 3)) rfl) ⟨Nat.zero_le _, Nat.zero_le _⟩ (pc2 := 68) rfl rfl ?_
              refine k_icmp_le C (tgt := 75) (pc2 := 71) (dkAt dkX8_bestDay 40 (q := (68, .if_icmp .le 7, 3)) rfl) (by decide) rfl h (fun h => ?_) (fun h => ?_)
              · refine k_iload_n C (pc2 := 76) (dkAt dkX8_bestDay 43 (q := (75, .iload_n 2, 1)) rfl) rfl rfl 3 rfl ?_
                refine k_istore_n C (pc2 := 77) (dkAt dkX8_bestDay 44 (q := (76, .istore_n 2, 1)) rfl) rfl rfl (by decide) (lv2 := [(2, .int x2), (4, .int 1), (0, rA G o0), (1, .int x1), (3, .int x3)]) rfl ?_
                refine kb_iinc C (pc2 := 80) (dkAt dkX8_bestDay 45 (q := (77, .iinc 3 1, 3)) rfl) rfl (j := 4) rfl (v := x3 + 1) rfl (by decide) (lv2 := fun v26 => [(3, .int v26), (2, .int x2), (4, .int 1), (0, rA G o0), (1, .int x1)]) (fun _ => rfl) h (fun v26 h => ?_)
                refine k_goto C (tgt := 12) (dkAt dkX8_bestDay 46 (q := (80, .goto (-68), 3)) rfl) (by decide) ?_
                refine k_lv [3, 4, 1, 0] (lv2 := [(0, rA G o0), (1, .int x1), (2, .int x2), (3, .int v26)]) rfl ?_
                exact ih x2 v26 h
              · refine k_iload_n C (pc2 := 72) (dkAt dkX8_bestDay 41 (q := (71, .iload_n 3, 1)) rfl) rfl rfl 4 rfl ?_
                refine k_goto C (tgt := 76) (dkAt dkX8_bestDay 42 (q := (72, .goto 4, 3)) rfl) (by decide) ?_
                refine k_istore_n C (pc2 := 77) (dkAt dkX8_bestDay 44 (q := (76, .istore_n 2, 1)) rfl) rfl rfl (by decide) (lv2 := [(2, .int x3), (4, .int 1), (0, rA G o0), (1, .int x1), (3, .int x3)]) rfl ?_
                refine kb_iinc C (pc2 := 80) (dkAt dkX8_bestDay 45 (q := (77, .iinc 3 1, 3)) rfl) rfl (j := 4) rfl (v := x3 + 1) rfl (by decide) (lv2 := fun v27 => [(3, .int v27), (2, .int x3), (4, .int 1), (0, rA G o0), (1, .int x1)]) (fun _ => rfl) h (fun v27 h => ?_)
                refine k_goto C (tgt := 12) (dkAt dkX8_bestDay 46 (q := (80, .goto (-68), 3)) rfl) (by decide) ?_
                refine k_lv [3, 4, 1, 0] (lv2 := [(0, rA G o0), (1, .int x1), (2, .int x3), (3, .int v27)]) rfl ?_
                exact ih x3 v27 h
set_option maxRecDepth 100000 in
set_option maxHeartbeats 4000000 in
theorem ct_X8_bestDay (l : Launch) (G : GG) (sh : Sh) (xs : List va_E) (o0 : Nat) (h0 : isM sh o0) (x1 : Int32) (M : Mm) (r : Mm × Int32) (h : f_X8_bestDay o0 x1 M = some r) : Ct l yX8_bestDay cX8_bestDay 5 (some .int) rm_X8_bestDay G [rA G o0, .int x1] sh M xs (some (.int r.2)) sh r.1 xs 0 0 := by
  refine ct_of (by decide) (Nat.le_of_ble_eq_true rfl) ?_
  intro p e s m args below meth c hnm C
  refine k_lv [0, 1] (lv2 := [(0, rA G o0), (1, .int x1)]) rfl ?_
  unfold f_X8_bestDay at h
  refine k_aload_n C (pc2 := 1) (dkAt dkX8_bestDay 0 (q := (0, .aload_n 0, 1)) rfl) rfl rfl 0 rfl ?_
  refine k_aload_n C (pc2 := 2) (dkAt dkX8_bestDay 1 (q := (1, .aload_n 0, 1)) rfl) rfl rfl 0 rfl ?_
  refine kf_X8_82 C (pc2 := 5) (o := o0) (o2 := 0) h0.1 (dkAt dkX8_bestDay 2 (q := (2, .getfield 82, 3)) rfl) rfl ?_
  obtain ⟨q1, e2, h⟩ := ob_inv h
  refine kc_V C (As := [.int (M.1 o0 10)]) (st2 := []) (ct_X8_findTicks l G sh xs o0 h0 (M.1 o0 10) M q1 e2) (cl_X8_253 (hts_of C) ⟨Nat.le_of_ble_eq_true rfl, Nat.le_of_ble_eq_true rfl⟩ rfl rfl) h0.1 rfl rfl rfl rfl rfl (Nat.le_of_ble_eq_true rfl) (dkAt dkX8_bestDay 3 (q := (5, .invokevirtual 253, 3)) rfl) ⟨Nat.zero_le _, Nat.zero_le _⟩ (pc2 := 8) rfl rfl ?_
  refine k_iconst C (pc2 := 9) (dkAt dkX8_bestDay 4 (q := (8, .iconst (-1), 1)) rfl) rfl (v := (-1)) rfl ?_
  refine k_istore_n C (pc2 := 10) (dkAt dkX8_bestDay 5 (q := (9, .istore_n 2, 1)) rfl) rfl rfl (by decide) (lv2 := [(2, .int (-1)), (0, rA G o0), (1, .int x1)]) rfl ?_
  refine k_iconst C (pc2 := 11) (dkAt dkX8_bestDay 6 (q := (10, .iconst 0, 1)) rfl) rfl (v := 0) rfl ?_
  refine k_istore_n C (pc2 := 12) (dkAt dkX8_bestDay 7 (q := (11, .istore_n 3, 1)) rfl) rfl rfl (by decide) (lv2 := [(3, .int 0), (2, .int (-1)), (0, rA G o0), (1, .int x1)]) rfl ?_
  refine k_lv [2, 3, 1, 0] (lv2 := [(0, rA G o0), (1, .int x1), (2, .int (-1)), (3, .int 0)]) rfl ?_
  obtain ⟨v30, e29, h⟩ := ob_inv h
  refine kl_X8_bestDay_L12 C o0 h0 x1 q1 v30 ?_ 1000 (-1) 0 e29
  refine k_iload_n C (pc2 := 84) (dkAt dkX8_bestDay 47 (q := (83, .iload_n 2, 1)) rfl) rfl rfl 0 rfl ?_
  exact k_iret C (dkAt dkX8_bestDay 48 (q := (84, .ireturn, 1)) rfl) (pe2 (Option.some.inj h)) rfl (pe1 (Option.some.inj h)) rfl
set_option maxRecDepth 100000 in
set_option maxHeartbeats 4000000 in
theorem ct_X8_best (l : Launch) (G : GG) (sh : Sh) (xs : List va_E) (o0 : Nat) (h0 : isM sh o0) (x1 : Int32) (M : Mm) (r : Mm × Int32) (h : f_X8_best o0 x1 M = some r) : Ct l yX8_best cX8_best 2 (some .int) rm_X8_best G [rA G o0, .int x1] sh M xs (some (.int r.2)) sh r.1 xs 0 0 := by
  refine ct_of (by decide) (Nat.le_of_ble_eq_true rfl) ?_
  intro p e s m args below meth c hnm C
  refine k_lv [0, 1] (lv2 := [(0, rA G o0), (1, .int x1)]) rfl ?_
  unfold f_X8_best at h
  refine k_iload_n C (pc2 := 1) (dkAt dkX8_best 0 (q := (0, .iload_n 1, 1)) rfl) rfl rfl 1 rfl ?_
  refine k_i2l C (pc2 := 2) (dkAt dkX8_best 1 (q := (1, .i2l, 1)) rfl) rfl ?_
  refine k_lconst C (pc2 := 3) (dkAt dkX8_best 2 (q := (2, .lconst 0, 1)) rfl) rfl (v := 0) rfl ?_
  refine k_lconst C (pc2 := 4) (dkAt dkX8_best 3 (q := (3, .lconst 1, 1)) rfl) rfl (v := 1) rfl ?_
  obtain ⟨q1, e2, h⟩ := ob_inv h
  refine kc_S C (As := [.long x1.toInt64, .long 0, .long 1]) (st2 := [.int q1]) (ct_X8_in l G sh xs x1.toInt64 0 1 M q1 e2) (cl_X8_85 (hts_of C) ⟨Nat.le_of_ble_eq_true rfl, Nat.le_of_ble_eq_true rfl⟩ rfl rfl) rfl rfl (Nat.le_of_ble_eq_true rfl) (dkAt dkX8_best 4 (q := (4, .invokestatic 85, 3)) rfl) ⟨Nat.zero_le _, Nat.zero_le _⟩ (pc2 := 7) rfl rfl ?_
  refine k_if_ne C (tgt := 17) (pc2 := 10) (dkAt dkX8_best 5 (q := (7, .ifCond .ne 10, 3)) rfl) (by decide) rfl h (fun h => ?_) (fun h => ?_)
  · refine k_aload_n C (pc2 := 18) (dkAt dkX8_best 10 (q := (17, .aload_n 0, 1)) rfl) rfl rfl 0 rfl ?_
    refine kf_X8_82 C (pc2 := 21) (o := o0) (o2 := 0) h0.1 (dkAt dkX8_best 11 (q := (18, .getfield 82, 3)) rfl) rfl ?_
    refine k_if_ne C (tgt := 33) (pc2 := 24) (dkAt dkX8_best 12 (q := (21, .ifCond .ne 12, 3)) rfl) (by decide) rfl h (fun h => ?_) (fun h => ?_)
    · refine k_aload_n C (pc2 := 34) (dkAt dkX8_best 17 (q := (33, .aload_n 0, 1)) rfl) rfl rfl 0 rfl ?_
      refine k_iload_n C (pc2 := 35) (dkAt dkX8_best 18 (q := (34, .iload_n 1, 1)) rfl) rfl rfl 1 rfl ?_
      refine k_iconst C (pc2 := 36) (dkAt dkX8_best 19 (q := (35, .iconst 1, 1)) rfl) rfl (v := 1) rfl ?_
      refine k_icmp_ne C (tgt := 43) (pc2 := 39) (dkAt dkX8_best 20 (q := (36, .if_icmp .ne 7, 3)) rfl) (by decide) rfl h (fun h => ?_) (fun h => ?_)
      · refine k_iconst C (pc2 := 44) (dkAt dkX8_best 23 (q := (43, .iconst 0, 1)) rfl) rfl (v := 0) rfl ?_
        obtain ⟨q3, e4, h⟩ := ob_inv h
        refine kc_V C (As := [.int 0]) (st2 := [.int q3.2]) (ct_X8_bestDay l G sh xs o0 h0 0 M q3 e4) (cl_X8_259 (hts_of C) ⟨Nat.le_of_ble_eq_true rfl, Nat.le_of_ble_eq_true rfl⟩ rfl rfl) h0.1 rfl rfl rfl rfl rfl (Nat.le_of_ble_eq_true rfl) (dkAt dkX8_best 24 (q := (44, .invokevirtual 259, 3)) rfl) ⟨Nat.zero_le _, Nat.zero_le _⟩ (pc2 := 47) rfl rfl ?_
        exact k_iret C (dkAt dkX8_best 25 (q := (47, .ireturn, 1)) rfl) (pe2 (Option.some.inj h)) rfl (pe1 (Option.some.inj h)) rfl
      · refine k_iconst C (pc2 := 40) (dkAt dkX8_best 21 (q := (39, .iconst 1, 1)) rfl) rfl (v := 1) rfl ?_
        refine k_goto C (tgt := 44) (dkAt dkX8_best 22 (q := (40, .goto 4, 3)) rfl) (by decide) ?_
        obtain ⟨q5, e6, h⟩ := ob_inv h
        refine kc_V C (As := [.int 1]) (st2 := [.int q5.2]) (ct_X8_bestDay l G sh xs o0 h0 1 M q5 e6) (cl_X8_259 (hts_of C) ⟨Nat.le_of_ble_eq_true rfl, Nat.le_of_ble_eq_true rfl⟩ rfl rfl) h0.1 rfl rfl rfl rfl rfl (Nat.le_of_ble_eq_true rfl) (dkAt dkX8_best 24 (q := (44, .invokevirtual 259, 3)) rfl) ⟨Nat.zero_le _, Nat.zero_le _⟩ (pc2 := 47) rfl rfl ?_
        exact k_iret C (dkAt dkX8_best 25 (q := (47, .ireturn, 1)) rfl) (pe2 (Option.some.inj h)) rfl (pe1 (Option.some.inj h)) rfl
    · refine k_aload_n C (pc2 := 25) (dkAt dkX8_best 13 (q := (24, .aload_n 0, 1)) rfl) rfl rfl 0 rfl ?_
      refine k_bipush C (pc2 := 27) (dkAt dkX8_best 14 (q := (25, .bipush (-5), 2)) rfl) rfl (v := (-5)) rfl ?_
      obtain ⟨q7, e8, h⟩ := ob_inv h
      refine kc_V C (As := [.int (-5)]) (st2 := [.int q7.2]) (ct_X8_refuse l G sh xs o0 h0 (-5) M q7 e8) (cl_X8_97 (hts_of C) ⟨Nat.le_of_ble_eq_true rfl, Nat.le_of_ble_eq_true rfl⟩ rfl rfl) h0.1 rfl rfl rfl rfl rfl (Nat.le_of_ble_eq_true rfl) (dkAt dkX8_best 15 (q := (27, .invokevirtual 97, 3)) rfl) ⟨Nat.zero_le _, Nat.zero_le _⟩ (pc2 := 30) rfl rfl ?_
      refine k_goto C (tgt := 47) (dkAt dkX8_best 16 (q := (30, .goto 17, 3)) rfl) (by decide) ?_
      exact k_iret C (dkAt dkX8_best 25 (q := (47, .ireturn, 1)) rfl) (pe2 (Option.some.inj h)) rfl (pe1 (Option.some.inj h)) rfl
  · refine k_aload_n C (pc2 := 11) (dkAt dkX8_best 6 (q := (10, .aload_n 0, 1)) rfl) rfl rfl 0 rfl ?_
    refine k_bipush C (pc2 := 13) (dkAt dkX8_best 7 (q := (11, .bipush (-2), 2)) rfl) rfl (v := (-2)) rfl ?_
    obtain ⟨q9, e10, h⟩ := ob_inv h
    refine kc_V C (As := [.int (-2)]) (st2 := [.int q9.2]) (ct_X8_refuse l G sh xs o0 h0 (-2) M q9 e10) (cl_X8_97 (hts_of C) ⟨Nat.le_of_ble_eq_true rfl, Nat.le_of_ble_eq_true rfl⟩ rfl rfl) h0.1 rfl rfl rfl rfl rfl (Nat.le_of_ble_eq_true rfl) (dkAt dkX8_best 8 (q := (13, .invokevirtual 97, 3)) rfl) ⟨Nat.zero_le _, Nat.zero_le _⟩ (pc2 := 16) rfl rfl ?_
    exact k_iret C (dkAt dkX8_best 9 (q := (16, .ireturn, 1)) rfl) (pe2 (Option.some.inj h)) rfl (pe1 (Option.some.inj h)) rfl
set_option maxRecDepth 100000 in
set_option maxHeartbeats 4000000 in
theorem kl_X8_thereOn_L4 {p : Program} {l : Launch} {e : Env} {s : State} {m : MethodId} {args : Array Value} {below : List Frame} {meth : Method} {c : Code} {G : GG} {sh : Sh} {xs : List va_E} {Q : State → Prop} (C : Cx p s m c args meth G RX8 cX8_thereOn 4 (some .int)) (o0 : Nat) (h0 : isM sh o0) (x1 : Int32) (M : Mm) (y2 : Int32) (hcont : KW p l e rm_X8_thereOn s m args below meth c G 4 Q sh xs 0 0 M 37 [(2, .int y2)] []) : ∀ (n : Nat) (x2 : Int32) (x3 : Int32), f_X8_thereOn_L4 o0 x1 M n x2 x3 = some y2 → KW p l e rm_X8_thereOn s m args below meth c G 4 Q sh xs 0 0 M 4 [(0, rA G o0), (1, .int x1), (2, .int x2), (3, .int x3)] [] := by
  intro n
  induction n with
  | zero =>
    intro x2 x3 h
    cases h
  | succ n ih =>
    intro x2 x3 h
    unfold f_X8_thereOn_L4 at h
    refine k_iload_n C (pc2 := 5) (dkAt dkX8_thereOn 4 (q := (4, .iload_n 3, 1)) rfl) rfl rfl 3 rfl ?_
    refine k_aload_n C (pc2 := 6) (dkAt dkX8_thereOn 5 (q := (5, .aload_n 0, 1)) rfl) rfl rfl 0 rfl ?_
    refine kf_X8_82 C (pc2 := 9) (o := o0) (o2 := 0) h0.1 (dkAt dkX8_thereOn 6 (q := (6, .getfield 82, 3)) rfl) rfl ?_
    refine k_icmp_ge C (tgt := 37) (pc2 := 12) (dkAt dkX8_thereOn 7 (q := (9, .if_icmp .ge 28, 3)) rfl) (by decide) rfl h (fun h => ?_) (fun h => ?_)
    · refine k_lv [2] (lv2 := [(2, .int x2)]) rfl ?_
      cases h
      exact hcont
    · refine k_iload_n C (pc2 := 13) (dkAt dkX8_thereOn 8 (q := (12, .iload_n 2, 1)) rfl) rfl rfl 2 rfl ?_
      refine k_aload_n C (pc2 := 14) (dkAt dkX8_thereOn 9 (q := (13, .aload_n 0, 1)) rfl) rfl rfl 0 rfl ?_
      refine k_iload_n C (pc2 := 15) (dkAt dkX8_thereOn 10 (q := (14, .iload_n 3, 1)) rfl) rfl rfl 3 rfl ?_
      refine k_iload_n C (pc2 := 16) (dkAt dkX8_thereOn 11 (q := (15, .iload_n 1, 1)) rfl) rfl rfl 1 rfl ?_
      obtain ⟨q1, e2, h⟩ := ob_inv h
      refine kc_V C (As := [.int x3, .int x1]) (st2 := [.int q1, .int x2]) (ct_X8_isFree l G sh xs o0 h0 x3 x1 M q1 e2) (cl_X8_139 (hts_of C) ⟨Nat.le_of_ble_eq_true rfl, Nat.le_of_ble_eq_true rfl⟩ rfl rfl) h0.1 rfl rfl rfl rfl rfl (Nat.le_of_ble_eq_true rfl) (dkAt dkX8_thereOn 12 (q := (16, .invokevirtual 139, 3)) rfl) ⟨Nat.zero_le _, Nat.zero_le _⟩ (pc2 := 19) rfl rfl ?_
      refine k_if_eq C (tgt := 28) (pc2 := 22) (dkAt dkX8_thereOn 13 (q := (19, .ifCond .eq 9, 3)) rfl) (by decide) rfl h (fun h => ?_) (fun h => ?_)
      · refine k_iconst C (pc2 := 29) (dkAt dkX8_thereOn 18 (q := (28, .iconst 0, 1)) rfl) rfl (v := 0) rfl ?_
        refine k_ior C (pc2 := 30) (dkAt dkX8_thereOn 19 (q := (29, .ior, 1)) rfl) rfl ?_
        refine kb_istore_n C (pc2 := 31) (dkAt dkX8_thereOn 20 (q := (30, .istore_n 2, 1)) rfl) rfl rfl (by decide) (lv2 := fun v3 => [(2, .int v3), (0, rA G o0), (1, .int x1), (3, .int x3)]) (fun _ => rfl) h (fun v3 h => ?_)
        refine kb_iinc C (pc2 := 34) (dkAt dkX8_thereOn 21 (q := (31, .iinc 3 1, 3)) rfl) rfl (j := 3) rfl (v := x3 + 1) rfl (by decide) (lv2 := fun v4 => [(3, .int v4), (2, .int v3), (0, rA G o0), (1, .int x1)]) (fun _ => rfl) h (fun v4 h => ?_)
        refine k_goto C (tgt := 4) (dkAt dkX8_thereOn 22 (q := (34, .goto (-30), 3)) rfl) (by decide) ?_
        refine k_lv [2, 3, 1, 0] (lv2 := [(0, rA G o0), (1, .int x1), (2, .int v3), (3, .int v4)]) rfl ?_
        exact ih v3 v4 h
      · refine k_iconst C (pc2 := 23) (dkAt dkX8_thereOn 14 (q := (22, .iconst 1, 1)) rfl) rfl (v := 1) rfl ?_
        refine k_iload_n C (pc2 := 24) (dkAt dkX8_thereOn 15 (q := (23, .iload_n 3, 1)) rfl) rfl rfl 3 rfl ?_
        refine k_ishl C (pc2 := 25) (dkAt dkX8_thereOn 16 (q := (24, .ishl, 1)) rfl) rfl ?_
        refine k_goto C (tgt := 29) (dkAt dkX8_thereOn 17 (q := (25, .goto 4, 3)) rfl) (by decide) ?_
        refine k_ior C (pc2 := 30) (dkAt dkX8_thereOn 19 (q := (29, .ior, 1)) rfl) rfl ?_
        refine kb_istore_n C (pc2 := 31) (dkAt dkX8_thereOn 20 (q := (30, .istore_n 2, 1)) rfl) rfl rfl (by decide) (lv2 := fun v5 => [(2, .int v5), (0, rA G o0), (1, .int x1), (3, .int x3)]) (fun _ => rfl) h (fun v5 h => ?_)
        refine kb_iinc C (pc2 := 34) (dkAt dkX8_thereOn 21 (q := (31, .iinc 3 1, 3)) rfl) rfl (j := 3) rfl (v := x3 + 1) rfl (by decide) (lv2 := fun v6 => [(3, .int v6), (2, .int v5), (0, rA G o0), (1, .int x1)]) (fun _ => rfl) h (fun v6 h => ?_)
        refine k_goto C (tgt := 4) (dkAt dkX8_thereOn 22 (q := (34, .goto (-30), 3)) rfl) (by decide) ?_
        refine k_lv [2, 3, 1, 0] (lv2 := [(0, rA G o0), (1, .int x1), (2, .int v5), (3, .int v6)]) rfl ?_
        exact ih v5 v6 h
set_option maxRecDepth 100000 in
set_option maxHeartbeats 4000000 in
theorem ct_X8_thereOn (l : Launch) (G : GG) (sh : Sh) (xs : List va_E) (o0 : Nat) (h0 : isM sh o0) (x1 : Int32) (M : Mm) (r : Int32) (h : f_X8_thereOn o0 x1 M = some r) : Ct l yX8_thereOn cX8_thereOn 4 (some .int) rm_X8_thereOn G [rA G o0, .int x1] sh M xs (some (.int r)) sh M xs 0 0 := by
  refine ct_of (by decide) (Nat.le_of_ble_eq_true rfl) ?_
  intro p e s m args below meth c hnm C
  refine k_lv [0, 1] (lv2 := [(0, rA G o0), (1, .int x1)]) rfl ?_
  unfold f_X8_thereOn at h
  refine k_iconst C (pc2 := 1) (dkAt dkX8_thereOn 0 (q := (0, .iconst 0, 1)) rfl) rfl (v := 0) rfl ?_
  refine k_istore_n C (pc2 := 2) (dkAt dkX8_thereOn 1 (q := (1, .istore_n 2, 1)) rfl) rfl rfl (by decide) (lv2 := [(2, .int 0), (0, rA G o0), (1, .int x1)]) rfl ?_
  refine k_iconst C (pc2 := 3) (dkAt dkX8_thereOn 2 (q := (2, .iconst 0, 1)) rfl) rfl (v := 0) rfl ?_
  refine k_istore_n C (pc2 := 4) (dkAt dkX8_thereOn 3 (q := (3, .istore_n 3, 1)) rfl) rfl rfl (by decide) (lv2 := [(3, .int 0), (2, .int 0), (0, rA G o0), (1, .int x1)]) rfl ?_
  refine k_lv [2, 3, 1, 0] (lv2 := [(0, rA G o0), (1, .int x1), (2, .int 0), (3, .int 0)]) rfl ?_
  obtain ⟨v9, e8, h⟩ := ob_inv h
  refine kl_X8_thereOn_L4 C o0 h0 x1 M v9 ?_ 1000 0 0 e8
  refine k_iload_n C (pc2 := 38) (dkAt dkX8_thereOn 23 (q := (37, .iload_n 2, 1)) rfl) rfl rfl 0 rfl ?_
  exact k_iret C (dkAt dkX8_thereOn 24 (q := (38, .ireturn, 1)) rfl) (Option.some.inj h) rfl rfl rfl
set_option maxRecDepth 100000 in
set_option maxHeartbeats 4000000 in
theorem ct_X8_there (l : Launch) (G : GG) (sh : Sh) (xs : List va_E) (o0 : Nat) (h0 : isM sh o0) (x1 : Int32) (M : Mm) (r : Mm × Int32) (h : f_X8_there o0 x1 M = some r) : Ct l yX8_there cX8_there 2 (some .int) rm_X8_there G [rA G o0, .int x1] sh M xs (some (.int r.2)) sh r.1 xs 0 0 := by
  refine ct_of (by decide) (Nat.le_of_ble_eq_true rfl) ?_
  intro p e s m args below meth c hnm C
  refine k_lv [0, 1] (lv2 := [(0, rA G o0), (1, .int x1)]) rfl ?_
  unfold f_X8_there at h
  refine k_aload_n C (pc2 := 1) (dkAt dkX8_there 0 (q := (0, .aload_n 0, 1)) rfl) rfl rfl 0 rfl ?_
  refine k_iload_n C (pc2 := 2) (dkAt dkX8_there 1 (q := (1, .iload_n 1, 1)) rfl) rfl rfl 1 rfl ?_
  refine k_i2l C (pc2 := 3) (dkAt dkX8_there 2 (q := (2, .i2l, 1)) rfl) rfl ?_
  obtain ⟨q1, e2, h⟩ := ob_inv h
  refine kc_V C (As := [.long x1.toInt64]) (st2 := [.int q1]) (ct_X8_isDay l G sh xs o0 h0 x1.toInt64 M q1 e2) (cl_X8_135 (hts_of C) ⟨Nat.le_of_ble_eq_true rfl, Nat.le_of_ble_eq_true rfl⟩ rfl rfl) h0.1 rfl rfl rfl rfl rfl (Nat.le_of_ble_eq_true rfl) (dkAt dkX8_there 3 (q := (3, .invokevirtual 135, 3)) rfl) ⟨Nat.zero_le _, Nat.zero_le _⟩ (pc2 := 6) rfl rfl ?_
  refine k_if_eq C (tgt := 17) (pc2 := 9) (dkAt dkX8_there 4 (q := (6, .ifCond .eq 11, 3)) rfl) (by decide) rfl h (fun h => ?_) (fun h => ?_)
  · refine k_aload_n C (pc2 := 18) (dkAt dkX8_there 9 (q := (17, .aload_n 0, 1)) rfl) rfl rfl 0 rfl ?_
    refine k_bipush C (pc2 := 20) (dkAt dkX8_there 10 (q := (18, .bipush (-2), 2)) rfl) rfl (v := (-2)) rfl ?_
    obtain ⟨q3, e4, h⟩ := ob_inv h
    refine kc_V C (As := [.int (-2)]) (st2 := [.int q3.2]) (ct_X8_refuse l G sh xs o0 h0 (-2) M q3 e4) (cl_X8_97 (hts_of C) ⟨Nat.le_of_ble_eq_true rfl, Nat.le_of_ble_eq_true rfl⟩ rfl rfl) h0.1 rfl rfl rfl rfl rfl (Nat.le_of_ble_eq_true rfl) (dkAt dkX8_there 11 (q := (20, .invokevirtual 97, 3)) rfl) ⟨Nat.zero_le _, Nat.zero_le _⟩ (pc2 := 23) rfl rfl ?_
    exact k_iret C (dkAt dkX8_there 12 (q := (23, .ireturn, 1)) rfl) (pe2 (Option.some.inj h)) rfl (pe1 (Option.some.inj h)) rfl
  · refine k_aload_n C (pc2 := 10) (dkAt dkX8_there 5 (q := (9, .aload_n 0, 1)) rfl) rfl rfl 0 rfl ?_
    refine k_iload_n C (pc2 := 11) (dkAt dkX8_there 6 (q := (10, .iload_n 1, 1)) rfl) rfl rfl 1 rfl ?_
    obtain ⟨q5, e6, h⟩ := ob_inv h
    refine kc_V C (As := [.int x1]) (st2 := [.int q5]) (ct_X8_thereOn l G sh xs o0 h0 x1 M q5 e6) (cl_X8_263 (hts_of C) ⟨Nat.le_of_ble_eq_true rfl, Nat.le_of_ble_eq_true rfl⟩ rfl rfl) h0.1 rfl rfl rfl rfl rfl (Nat.le_of_ble_eq_true rfl) (dkAt dkX8_there 7 (q := (11, .invokevirtual 263, 3)) rfl) ⟨Nat.zero_le _, Nat.zero_le _⟩ (pc2 := 14) rfl rfl ?_
    refine k_goto C (tgt := 23) (dkAt dkX8_there 8 (q := (14, .goto 9, 3)) rfl) (by decide) ?_
    exact k_iret C (dkAt dkX8_there 12 (q := (23, .ireturn, 1)) rfl) (pe2 (Option.some.inj h)) rfl (pe1 (Option.some.inj h)) rfl
set_option maxRecDepth 100000 in
set_option maxHeartbeats 4000000 in
theorem kl_X8_allBut_L11 {p : Program} {l : Launch} {e : Env} {s : State} {m : MethodId} {args : Array Value} {below : List Frame} {meth : Method} {c : Code} {G : GG} {sh : Sh} {xs : List va_E} {Q : State → Prop} (C : Cx p s m c args meth G RX8 cX8_allBut 4 (some .int)) (o0 : Nat) (h0 : isM sh o0) (x1 : Int32) (M : Mm) (y2 : Int32) (hcont : KW p l e rm_X8_allBut s m args below meth c G 4 Q sh xs 0 0 M 43 [(2, .int y2)] []) : ∀ (n : Nat) (x2 : Int32) (x3 : Int32), f_X8_allBut_L11 o0 x1 M n x2 x3 = some y2 → KW p l e rm_X8_allBut s m args below meth c G 4 Q sh xs 0 0 M 11 [(0, rA G o0), (1, .int x1), (2, .int x2), (3, .int x3)] [] := by
  intro n
  induction n with
  | zero =>
    intro x2 x3 h
    cases h
  | succ n ih =>
    intro x2 x3 h
    unfold f_X8_allBut_L11 at h
    refine k_iload_n C (pc2 := 12) (dkAt dkX8_allBut 9 (q := (11, .iload_n 3, 1)) rfl) rfl rfl 3 rfl ?_
    refine k_aload_n C (pc2 := 13) (dkAt dkX8_allBut 10 (q := (12, .aload_n 0, 1)) rfl) rfl rfl 0 rfl ?_
    refine kf_X8_82 C (pc2 := 16) (o := o0) (o2 := 0) h0.1 (dkAt dkX8_allBut 11 (q := (13, .getfield 82, 3)) rfl) rfl ?_
    refine k_icmp_ge C (tgt := 43) (pc2 := 19) (dkAt dkX8_allBut 12 (q := (16, .if_icmp .ge 27, 3)) rfl) (by decide) rfl h (fun h => ?_) (fun h => ?_)
    · refine k_lv [2] (lv2 := [(2, .int x2)]) rfl ?_
      cases h
      exact hcont
    · refine k_iload_n C (pc2 := 20) (dkAt dkX8_allBut 13 (q := (19, .iload_n 2, 1)) rfl) rfl rfl 2 rfl ?_
      refine k_iload_n C (pc2 := 21) (dkAt dkX8_allBut 14 (q := (20, .iload_n 3, 1)) rfl) rfl rfl 3 rfl ?_
      refine k_iload_n C (pc2 := 22) (dkAt dkX8_allBut 15 (q := (21, .iload_n 1, 1)) rfl) rfl rfl 1 rfl ?_
      refine k_icmp_ne C (tgt := 29) (pc2 := 25) (dkAt dkX8_allBut 16 (q := (22, .if_icmp .ne 7, 3)) rfl) (by decide) rfl h (fun h => ?_) (fun h => ?_)
      · refine k_aload_n C (pc2 := 30) (dkAt dkX8_allBut 19 (q := (29, .aload_n 0, 1)) rfl) rfl rfl 0 rfl ?_
        refine kf_X8_50 C (pc2 := 33) (o := o0) (o2 := o0 + 20) h0.1 rfl (dkAt dkX8_allBut 20 (q := (30, .getfield 50, 3)) rfl) rfl ?_
        refine k_iload_n C (pc2 := 34) (dkAt dkX8_allBut 21 (q := (33, .iload_n 3, 1)) rfl) rfl rfl 3 rfl ?_
        refine k_iald C (pc2 := 35) (o := o0 + 20) (nA := 8) (isM_can h0) (dkAt dkX8_allBut 22 (q := (34, .iaload, 1)) rfl) rfl h (fun h => ?_)
        refine k_iand C (pc2 := 36) (dkAt dkX8_allBut 23 (q := (35, .iand, 1)) rfl) rfl ?_
        refine kb_istore_n C (pc2 := 37) (dkAt dkX8_allBut 24 (q := (36, .istore_n 2, 1)) rfl) rfl rfl (by decide) (lv2 := fun v2 => [(2, .int v2), (0, rA G o0), (1, .int x1), (3, .int x3)]) (fun _ => rfl) h (fun v2 h => ?_)
        refine kb_iinc C (pc2 := 40) (dkAt dkX8_allBut 25 (q := (37, .iinc 3 1, 3)) rfl) rfl (j := 3) rfl (v := x3 + 1) rfl (by decide) (lv2 := fun v3 => [(3, .int v3), (2, .int v2), (0, rA G o0), (1, .int x1)]) (fun _ => rfl) h (fun v3 h => ?_)
        refine k_goto C (tgt := 11) (dkAt dkX8_allBut 26 (q := (40, .goto (-29), 3)) rfl) (by decide) ?_
        refine k_lv [2, 3, 1, 0] (lv2 := [(0, rA G o0), (1, .int x1), (2, .int v2), (3, .int v3)]) rfl ?_
        exact ih v2 v3 h
      · refine k_iload_n C (pc2 := 26) (dkAt dkX8_allBut 17 (q := (25, .iload_n 2, 1)) rfl) rfl rfl 2 rfl ?_
        refine k_goto C (tgt := 35) (dkAt dkX8_allBut 18 (q := (26, .goto 9, 3)) rfl) (by decide) ?_
        refine k_iand C (pc2 := 36) (dkAt dkX8_allBut 23 (q := (35, .iand, 1)) rfl) rfl ?_
        refine kb_istore_n C (pc2 := 37) (dkAt dkX8_allBut 24 (q := (36, .istore_n 2, 1)) rfl) rfl rfl (by decide) (lv2 := fun v4 => [(2, .int v4), (0, rA G o0), (1, .int x1), (3, .int x3)]) (fun _ => rfl) h (fun v4 h => ?_)
        refine kb_iinc C (pc2 := 40) (dkAt dkX8_allBut 25 (q := (37, .iinc 3 1, 3)) rfl) rfl (j := 3) rfl (v := x3 + 1) rfl (by decide) (lv2 := fun v5 => [(3, .int v5), (2, .int v4), (0, rA G o0), (1, .int x1)]) (fun _ => rfl) h (fun v5 h => ?_)
        refine k_goto C (tgt := 11) (dkAt dkX8_allBut 26 (q := (40, .goto (-29), 3)) rfl) (by decide) ?_
        refine k_lv [2, 3, 1, 0] (lv2 := [(0, rA G o0), (1, .int x1), (2, .int v4), (3, .int v5)]) rfl ?_
        exact ih v4 v5 h
set_option maxRecDepth 100000 in
set_option maxHeartbeats 4000000 in
theorem ct_X8_allBut (l : Launch) (G : GG) (sh : Sh) (xs : List va_E) (o0 : Nat) (h0 : isM sh o0) (x1 : Int32) (M : Mm) (r : Int32) (h : f_X8_allBut o0 x1 M = some r) : Ct l yX8_allBut cX8_allBut 4 (some .int) rm_X8_allBut G [rA G o0, .int x1] sh M xs (some (.int r)) sh M xs 0 0 := by
  refine ct_of (by decide) (Nat.le_of_ble_eq_true rfl) ?_
  intro p e s m args below meth c hnm C
  refine k_lv [0, 1] (lv2 := [(0, rA G o0), (1, .int x1)]) rfl ?_
  unfold f_X8_allBut at h
  refine k_iconst C (pc2 := 1) (dkAt dkX8_allBut 0 (q := (0, .iconst 1, 1)) rfl) rfl (v := 1) rfl ?_
  refine k_aload_n C (pc2 := 2) (dkAt dkX8_allBut 1 (q := (1, .aload_n 0, 1)) rfl) rfl rfl 0 rfl ?_
  refine kf_X8_37 C (pc2 := 5) (o := o0) (o2 := 0) h0.1 (dkAt dkX8_allBut 2 (q := (2, .getfield 37, 3)) rfl) rfl ?_
  refine k_ishl C (pc2 := 6) (dkAt dkX8_allBut 3 (q := (5, .ishl, 1)) rfl) rfl ?_
  refine k_iconst C (pc2 := 7) (dkAt dkX8_allBut 4 (q := (6, .iconst 1, 1)) rfl) rfl (v := 1) rfl ?_
  refine k_isub C (pc2 := 8) (dkAt dkX8_allBut 5 (q := (7, .isub, 1)) rfl) rfl ?_
  refine kb_istore_n C (pc2 := 9) (dkAt dkX8_allBut 6 (q := (8, .istore_n 2, 1)) rfl) rfl rfl (by decide) (lv2 := fun v1 => [(2, .int v1), (0, rA G o0), (1, .int x1)]) (fun _ => rfl) h (fun v1 h => ?_)
  refine k_iconst C (pc2 := 10) (dkAt dkX8_allBut 7 (q := (9, .iconst 0, 1)) rfl) rfl (v := 0) rfl ?_
  refine k_istore_n C (pc2 := 11) (dkAt dkX8_allBut 8 (q := (10, .istore_n 3, 1)) rfl) rfl rfl (by decide) (lv2 := [(3, .int 0), (2, .int v1), (0, rA G o0), (1, .int x1)]) rfl ?_
  refine k_lv [2, 3, 1, 0] (lv2 := [(0, rA G o0), (1, .int x1), (2, .int v1), (3, .int 0)]) rfl ?_
  obtain ⟨v8, e7, h⟩ := ob_inv h
  refine kl_X8_allBut_L11 C o0 h0 x1 M v8 ?_ 1000 v1 0 e7
  refine k_iload_n C (pc2 := 44) (dkAt dkX8_allBut 27 (q := (43, .iload_n 2, 1)) rfl) rfl rfl 0 rfl ?_
  exact k_iret C (dkAt dkX8_allBut 28 (q := (44, .ireturn, 1)) rfl) (Option.some.inj h) rfl rfl rfl
set_option maxRecDepth 100000 in
set_option maxHeartbeats 4000000 in
theorem ct_X8_all (l : Launch) (G : GG) (sh : Sh) (xs : List va_E) (o0 : Nat) (h0 : isM sh o0) (M : Mm) (r : Int32) (h : f_X8_all o0 M = some r) : Ct l yX8_all cX8_all 1 (some .int) rm_X8_all G [rA G o0] sh M xs (some (.int r)) sh M xs 0 0 := by
  refine ct_of (by decide) (Nat.le_of_ble_eq_true rfl) ?_
  intro p e s m args below meth c hnm C
  refine k_lv [0] (lv2 := [(0, rA G o0)]) rfl ?_
  unfold f_X8_all at h
  refine k_aload_n C (pc2 := 1) (dkAt dkX8_all 0 (q := (0, .aload_n 0, 1)) rfl) rfl rfl 0 rfl ?_
  refine k_iconst C (pc2 := 2) (dkAt dkX8_all 1 (q := (1, .iconst (-1), 1)) rfl) rfl (v := (-1)) rfl ?_
  obtain ⟨q1, e2, h⟩ := ob_inv h
  refine kc_V C (As := [.int (-1)]) (st2 := [.int q1]) (ct_X8_allBut l G sh xs o0 h0 (-1) M q1 e2) (cl_X8_266 (hts_of C) ⟨Nat.le_of_ble_eq_true rfl, Nat.le_of_ble_eq_true rfl⟩ rfl rfl) h0.1 rfl rfl rfl rfl rfl (Nat.le_of_ble_eq_true rfl) (dkAt dkX8_all 2 (q := (2, .invokevirtual 266, 3)) rfl) ⟨Nat.zero_le _, Nat.zero_le _⟩ (pc2 := 5) rfl rfl ?_
  exact k_iret C (dkAt dkX8_all 3 (q := (5, .ireturn, 1)) rfl) (Option.some.inj h) rfl rfl rfl
set_option maxRecDepth 100000 in
set_option maxHeartbeats 4000000 in
theorem kl_X8_held_L37 {p : Program} {l : Launch} {e : Env} {s : State} {m : MethodId} {args : Array Value} {below : List Frame} {meth : Method} {c : Code} {G : GG} {sh : Sh} {xs : List va_E} {Q : State → Prop} (C : Cx p s m c args meth G RX8 cX8_held 6 (some .int)) (o0 : Nat) (h0 : isM sh o0) (x1 : Int32) (x2 : Int32) (x3 : Int32) (M : Mm) (y4 : Int32) (hcont : KW p l e rm_X8_held s m args below meth c G 6 Q sh xs 0 0 M 85 [(4, .int y4)] []) : ∀ (n : Nat) (x4 : Int32) (x5 : Int32), f_X8_held_L37 o0 x1 x2 x3 M n x4 x5 = some y4 → KW p l e rm_X8_held s m args below meth c G 6 Q sh xs 0 0 M 37 [(0, rA G o0), (1, .int x1), (2, .int x2), (3, .int x3), (4, .int x4), (5, .int x5)] [] := by
  intro n
  induction n with
  | zero =>
    intro x4 x5 h
    cases h
  | succ n ih =>
    intro x4 x5 h
    unfold f_X8_held_L37 at h
    refine k_iload C (pc2 := 39) (dkAt dkX8_held 22 (q := (37, .iload 5, 2)) rfl) rfl 5 rfl ?_
    refine k_aload_n C (pc2 := 40) (dkAt dkX8_held 23 (q := (39, .aload_n 0, 1)) rfl) rfl rfl 0 rfl ?_
    refine kf_X8_37 C (pc2 := 43) (o := o0) (o2 := 0) h0.1 (dkAt dkX8_held 24 (q := (40, .getfield 37, 3)) rfl) rfl ?_
    refine k_icmp_ge C (tgt := 85) (pc2 := 46) (dkAt dkX8_held 25 (q := (43, .if_icmp .ge 42, 3)) rfl) (by decide) rfl h (fun h => ?_) (fun h => ?_)
    · refine k_lv [4] (lv2 := [(4, .int x4)]) rfl ?_
      cases h
      exact hcont
    · refine k_iload C (pc2 := 48) (dkAt dkX8_held 26 (q := (46, .iload 4, 2)) rfl) rfl 4 rfl ?_
      refine k_aload_n C (pc2 := 49) (dkAt dkX8_held 27 (q := (48, .aload_n 0, 1)) rfl) rfl rfl 0 rfl ?_
      refine kf_X8_67 C (pc2 := 52) (o := o0) (o2 := o0 + 24) h0.1 rfl (dkAt dkX8_held 28 (q := (49, .getfield 67, 3)) rfl) rfl ?_
      refine k_iload_n C (pc2 := 53) (dkAt dkX8_held 29 (q := (52, .iload_n 1, 1)) rfl) rfl rfl 1 rfl ?_
      refine k_aa13 C (pc2 := 54) (o := o0 + 24) (o2 := o0 + 25 + x1.toNatClampNeg) (nA := 8) (isM_ticks h0) rfl (dkAt dkX8_held 30 (q := (53, .aaload, 1)) rfl) rfl h (fun h hl10 => ?_)
      refine k_iload C (pc2 := 56) (dkAt dkX8_held 31 (q := (54, .iload 5, 2)) rfl) rfl 5 rfl ?_
      refine k_iald C (pc2 := 57) (o := o0 + 25 + x1.toNatClampNeg) (nA := 14) (isM_ticksI h0 _ hl10) (dkAt dkX8_held 32 (q := (56, .iaload, 1)) rfl) rfl h (fun h => ?_)
      refine k_iconst C (pc2 := 58) (dkAt dkX8_held 33 (q := (57, .iconst 2, 1)) rfl) rfl (v := 2) rfl ?_
      refine k_icmp_ne C (tgt := 75) (pc2 := 61) (dkAt dkX8_held 34 (q := (58, .if_icmp .ne 17, 3)) rfl) (by decide) rfl h (fun h => ?_) (fun h => ?_)
      · refine k_iconst C (pc2 := 76) (dkAt dkX8_held 42 (q := (75, .iconst 0, 1)) rfl) rfl (v := 0) rfl ?_
        refine k_iadd C (pc2 := 77) (dkAt dkX8_held 43 (q := (76, .iadd, 1)) rfl) rfl ?_
        refine kb_istore C (pc2 := 79) (dkAt dkX8_held 44 (q := (77, .istore 4, 2)) rfl) rfl (by decide) (lv2 := fun v11 => [(4, .int v11), (0, rA G o0), (1, .int x1), (2, .int x2), (3, .int x3), (5, .int x5)]) (fun _ => rfl) h (fun v11 h => ?_)
        refine kb_iinc C (pc2 := 82) (dkAt dkX8_held 45 (q := (79, .iinc 5 1, 3)) rfl) rfl (j := 5) rfl (v := x5 + 1) rfl (by decide) (lv2 := fun v12 => [(5, .int v12), (4, .int v11), (0, rA G o0), (1, .int x1), (2, .int x2), (3, .int x3)]) (fun _ => rfl) h (fun v12 h => ?_)
        refine k_goto C (tgt := 37) (dkAt dkX8_held 46 (q := (82, .goto (-45), 3)) rfl) (by decide) ?_
        refine k_lv [2, 3, 4, 5, 1, 0] (lv2 := [(0, rA G o0), (1, .int x1), (2, .int x2), (3, .int x3), (4, .int v11), (5, .int v12)]) rfl ?_
        exact ih v11 v12 h
      · refine k_iload_n C (pc2 := 62) (dkAt dkX8_held 35 (q := (61, .iload_n 2, 1)) rfl) rfl rfl 2 rfl ?_
        refine k_if_eq C (tgt := 71) (pc2 := 65) (dkAt dkX8_held 36 (q := (62, .ifCond .eq 9, 3)) rfl) (by decide) rfl h (fun h => ?_) (fun h => ?_)
        · refine k_iconst C (pc2 := 72) (dkAt dkX8_held 40 (q := (71, .iconst 1, 1)) rfl) rfl (v := 1) rfl ?_
          refine k_goto C (tgt := 76) (dkAt dkX8_held 41 (q := (72, .goto 4, 3)) rfl) (by decide) ?_
          refine k_iadd C (pc2 := 77) (dkAt dkX8_held 43 (q := (76, .iadd, 1)) rfl) rfl ?_
          refine kb_istore C (pc2 := 79) (dkAt dkX8_held 44 (q := (77, .istore 4, 2)) rfl) rfl (by decide) (lv2 := fun v13 => [(4, .int v13), (0, rA G o0), (1, .int x1), (2, .int x2), (3, .int x3), (5, .int x5)]) (fun _ => rfl) h (fun v13 h => ?_)
          refine kb_iinc C (pc2 := 82) (dkAt dkX8_held 45 (q := (79, .iinc 5 1, 3)) rfl) rfl (j := 5) rfl (v := x5 + 1) rfl (by decide) (lv2 := fun v14 => [(5, .int v14), (4, .int v13), (0, rA G o0), (1, .int x1), (2, .int x2), (3, .int x3)]) (fun _ => rfl) h (fun v14 h => ?_)
          refine k_goto C (tgt := 37) (dkAt dkX8_held 46 (q := (82, .goto (-45), 3)) rfl) (by decide) ?_
          refine k_lv [2, 3, 4, 5, 1, 0] (lv2 := [(0, rA G o0), (1, .int x1), (2, .int x2), (3, .int x3), (4, .int v13), (5, .int v14)]) rfl ?_
          exact ih v13 v14 h
        · refine k_iload C (pc2 := 67) (dkAt dkX8_held 37 (q := (65, .iload 5, 2)) rfl) rfl 5 rfl ?_
          refine k_iload_n C (pc2 := 68) (dkAt dkX8_held 38 (q := (67, .iload_n 3, 1)) rfl) rfl rfl 3 rfl ?_
          refine k_icmp_eq C (tgt := 75) (pc2 := 71) (dkAt dkX8_held 39 (q := (68, .if_icmp .eq 7, 3)) rfl) (by decide) rfl h (fun h => ?_) (fun h => ?_)
          · refine k_iconst C (pc2 := 76) (dkAt dkX8_held 42 (q := (75, .iconst 0, 1)) rfl) rfl (v := 0) rfl ?_
            refine k_iadd C (pc2 := 77) (dkAt dkX8_held 43 (q := (76, .iadd, 1)) rfl) rfl ?_
            refine kb_istore C (pc2 := 79) (dkAt dkX8_held 44 (q := (77, .istore 4, 2)) rfl) rfl (by decide) (lv2 := fun v15 => [(4, .int v15), (0, rA G o0), (1, .int x1), (2, .int x2), (3, .int x3), (5, .int x5)]) (fun _ => rfl) h (fun v15 h => ?_)
            refine kb_iinc C (pc2 := 82) (dkAt dkX8_held 45 (q := (79, .iinc 5 1, 3)) rfl) rfl (j := 5) rfl (v := x5 + 1) rfl (by decide) (lv2 := fun v16 => [(5, .int v16), (4, .int v15), (0, rA G o0), (1, .int x1), (2, .int x2), (3, .int x3)]) (fun _ => rfl) h (fun v16 h => ?_)
            refine k_goto C (tgt := 37) (dkAt dkX8_held 46 (q := (82, .goto (-45), 3)) rfl) (by decide) ?_
            refine k_lv [2, 3, 4, 5, 1, 0] (lv2 := [(0, rA G o0), (1, .int x1), (2, .int x2), (3, .int x3), (4, .int v15), (5, .int v16)]) rfl ?_
            exact ih v15 v16 h
          · refine k_iconst C (pc2 := 72) (dkAt dkX8_held 40 (q := (71, .iconst 1, 1)) rfl) rfl (v := 1) rfl ?_
            refine k_goto C (tgt := 76) (dkAt dkX8_held 41 (q := (72, .goto 4, 3)) rfl) (by decide) ?_
            refine k_iadd C (pc2 := 77) (dkAt dkX8_held 43 (q := (76, .iadd, 1)) rfl) rfl ?_
            refine kb_istore C (pc2 := 79) (dkAt dkX8_held 44 (q := (77, .istore 4, 2)) rfl) rfl (by decide) (lv2 := fun v17 => [(4, .int v17), (0, rA G o0), (1, .int x1), (2, .int x2), (3, .int x3), (5, .int x5)]) (fun _ => rfl) h (fun v17 h => ?_)
            refine kb_iinc C (pc2 := 82) (dkAt dkX8_held 45 (q := (79, .iinc 5 1, 3)) rfl) rfl (j := 5) rfl (v := x5 + 1) rfl (by decide) (lv2 := fun v18 => [(5, .int v18), (4, .int v17), (0, rA G o0), (1, .int x1), (2, .int x2), (3, .int x3)]) (fun _ => rfl) h (fun v18 h => ?_)
            refine k_goto C (tgt := 37) (dkAt dkX8_held 46 (q := (82, .goto (-45), 3)) rfl) (by decide) ?_
            refine k_lv [2, 3, 4, 5, 1, 0] (lv2 := [(0, rA G o0), (1, .int x1), (2, .int x2), (3, .int x3), (4, .int v17), (5, .int v18)]) rfl ?_
            exact ih v17 v18 h
set_option maxRecDepth 100000 in
set_option maxHeartbeats 4000000 in
theorem ct_X8_held (l : Launch) (G : GG) (sh : Sh) (xs : List va_E) (o0 : Nat) (h0 : isM sh o0) (x1 : Int32) (x2 : Int32) (M : Mm) (r : Mm × Int32) (h : f_X8_held o0 x1 x2 M = some r) : Ct l yX8_held cX8_held 6 (some .int) rm_X8_held G [rA G o0, .int x1, .int x2] sh M xs (some (.int r.2)) sh r.1 xs 0 0 := by
  refine ct_of (by decide) (Nat.le_of_ble_eq_true rfl) ?_
  intro p e s m args below meth c hnm C
  refine k_lv [0, 1, 2] (lv2 := [(0, rA G o0), (1, .int x1), (2, .int x2)]) rfl ?_
  unfold f_X8_held at h
  refine k_aload_n C (pc2 := 1) (dkAt dkX8_held 0 (q := (0, .aload_n 0, 1)) rfl) rfl rfl 0 rfl ?_
  refine k_iload_n C (pc2 := 2) (dkAt dkX8_held 1 (q := (1, .iload_n 1, 1)) rfl) rfl rfl 1 rfl ?_
  obtain ⟨q1, e2, h⟩ := ob_inv h
  refine kc_V C (As := [.int x1]) (st2 := [.int q1]) (ct_X8_isOne l G sh xs o0 h0 x1 M q1 e2) (cl_X8_108 (hts_of C) ⟨Nat.le_of_ble_eq_true rfl, Nat.le_of_ble_eq_true rfl⟩ rfl rfl) h0.1 rfl rfl rfl rfl rfl (Nat.le_of_ble_eq_true rfl) (dkAt dkX8_held 2 (q := (2, .invokevirtual 108, 3)) rfl) ⟨Nat.zero_le _, Nat.zero_le _⟩ (pc2 := 5) rfl rfl ?_
  refine k_if_eq C (tgt := 18) (pc2 := 8) (dkAt dkX8_held 3 (q := (5, .ifCond .eq 13, 3)) rfl) (by decide) rfl h (fun h => ?_) (fun h => ?_)
  · refine k_aload_n C (pc2 := 19) (dkAt dkX8_held 10 (q := (18, .aload_n 0, 1)) rfl) rfl rfl 0 rfl ?_
    refine k_bipush C (pc2 := 21) (dkAt dkX8_held 11 (q := (19, .bipush (-2), 2)) rfl) rfl (v := (-2)) rfl ?_
    obtain ⟨q3, e4, h⟩ := ob_inv h
    refine kc_V C (As := [.int (-2)]) (st2 := [.int q3.2]) (ct_X8_refuse l G sh xs o0 h0 (-2) M q3 e4) (cl_X8_97 (hts_of C) ⟨Nat.le_of_ble_eq_true rfl, Nat.le_of_ble_eq_true rfl⟩ rfl rfl) h0.1 rfl rfl rfl rfl rfl (Nat.le_of_ble_eq_true rfl) (dkAt dkX8_held 12 (q := (21, .invokevirtual 97, 3)) rfl) ⟨Nat.zero_le _, Nat.zero_le _⟩ (pc2 := 24) rfl rfl ?_
    exact k_iret C (dkAt dkX8_held 13 (q := (24, .ireturn, 1)) rfl) (pe2 (Option.some.inj h)) rfl (pe1 (Option.some.inj h)) rfl
  · refine k_iload_n C (pc2 := 9) (dkAt dkX8_held 4 (q := (8, .iload_n 2, 1)) rfl) rfl rfl 2 rfl ?_
    refine k_i2l C (pc2 := 10) (dkAt dkX8_held 5 (q := (9, .i2l, 1)) rfl) rfl ?_
    refine k_lconst C (pc2 := 11) (dkAt dkX8_held 6 (q := (10, .lconst 0, 1)) rfl) rfl (v := 0) rfl ?_
    refine k_lconst C (pc2 := 12) (dkAt dkX8_held 7 (q := (11, .lconst 1, 1)) rfl) rfl (v := 1) rfl ?_
    obtain ⟨q5, e6, h⟩ := ob_inv h
    refine kc_S C (As := [.long x2.toInt64, .long 0, .long 1]) (st2 := [.int q5]) (ct_X8_in l G sh xs x2.toInt64 0 1 M q5 e6) (cl_X8_85 (hts_of C) ⟨Nat.le_of_ble_eq_true rfl, Nat.le_of_ble_eq_true rfl⟩ rfl rfl) rfl rfl (Nat.le_of_ble_eq_true rfl) (dkAt dkX8_held 8 (q := (12, .invokestatic 85, 3)) rfl) ⟨Nat.zero_le _, Nat.zero_le _⟩ (pc2 := 15) rfl rfl ?_
    refine k_if_ne C (tgt := 25) (pc2 := 18) (dkAt dkX8_held 9 (q := (15, .ifCond .ne 10, 3)) rfl) (by decide) rfl h (fun h => ?_) (fun h => ?_)
    · refine k_aload_n C (pc2 := 26) (dkAt dkX8_held 14 (q := (25, .aload_n 0, 1)) rfl) rfl rfl 0 rfl ?_
      refine k_iconst C (pc2 := 27) (dkAt dkX8_held 15 (q := (26, .iconst 0, 1)) rfl) rfl (v := 0) rfl ?_
      obtain ⟨q7, e8, h⟩ := ob_inv h
      refine kc_V C (As := [.int 0]) (st2 := [.int q7.2]) (ct_X8_bestDay l G sh xs o0 h0 0 M q7 e8) (cl_X8_259 (hts_of C) ⟨Nat.le_of_ble_eq_true rfl, Nat.le_of_ble_eq_true rfl⟩ rfl rfl) h0.1 rfl rfl rfl rfl rfl (Nat.le_of_ble_eq_true rfl) (dkAt dkX8_held 16 (q := (27, .invokevirtual 259, 3)) rfl) ⟨Nat.zero_le _, Nat.zero_le _⟩ (pc2 := 30) rfl rfl ?_
      refine kb_istore_n C (pc2 := 31) (dkAt dkX8_held 17 (q := (30, .istore_n 3, 1)) rfl) rfl rfl (by decide) (lv2 := fun v9 => [(3, .int v9), (0, rA G o0), (1, .int x1), (2, .int x2)]) (fun _ => rfl) h (fun v9 h => ?_)
      refine k_iconst C (pc2 := 32) (dkAt dkX8_held 18 (q := (31, .iconst 0, 1)) rfl) rfl (v := 0) rfl ?_
      refine k_istore C (pc2 := 34) (dkAt dkX8_held 19 (q := (32, .istore 4, 2)) rfl) rfl (by decide) (lv2 := [(4, .int 0), (3, .int v9), (0, rA G o0), (1, .int x1), (2, .int x2)]) rfl ?_
      refine k_iconst C (pc2 := 35) (dkAt dkX8_held 20 (q := (34, .iconst 0, 1)) rfl) rfl (v := 0) rfl ?_
      refine k_istore C (pc2 := 37) (dkAt dkX8_held 21 (q := (35, .istore 5, 2)) rfl) rfl (by decide) (lv2 := [(5, .int 0), (4, .int 0), (3, .int v9), (0, rA G o0), (1, .int x1), (2, .int x2)]) rfl ?_
      refine k_lv [3, 4, 5, 2, 1, 0] (lv2 := [(0, rA G o0), (1, .int x1), (2, .int x2), (3, .int v9), (4, .int 0), (5, .int 0)]) rfl ?_
      obtain ⟨v21, e20, h⟩ := ob_inv h
      refine kl_X8_held_L37 C o0 h0 x1 x2 v9 q7.1 v21 ?_ 1000 0 0 e20
      refine k_iload C (pc2 := 87) (dkAt dkX8_held 47 (q := (85, .iload 4, 2)) rfl) rfl 0 rfl ?_
      exact k_iret C (dkAt dkX8_held 48 (q := (87, .ireturn, 1)) rfl) (pe2 (Option.some.inj h)) rfl (pe1 (Option.some.inj h)) rfl
    · refine k_aload_n C (pc2 := 19) (dkAt dkX8_held 10 (q := (18, .aload_n 0, 1)) rfl) rfl rfl 0 rfl ?_
      refine k_bipush C (pc2 := 21) (dkAt dkX8_held 11 (q := (19, .bipush (-2), 2)) rfl) rfl (v := (-2)) rfl ?_
      obtain ⟨q22, e23, h⟩ := ob_inv h
      refine kc_V C (As := [.int (-2)]) (st2 := [.int q22.2]) (ct_X8_refuse l G sh xs o0 h0 (-2) M q22 e23) (cl_X8_97 (hts_of C) ⟨Nat.le_of_ble_eq_true rfl, Nat.le_of_ble_eq_true rfl⟩ rfl rfl) h0.1 rfl rfl rfl rfl rfl (Nat.le_of_ble_eq_true rfl) (dkAt dkX8_held 12 (q := (21, .invokevirtual 97, 3)) rfl) ⟨Nat.zero_le _, Nat.zero_le _⟩ (pc2 := 24) rfl rfl ?_
      exact k_iret C (dkAt dkX8_held 13 (q := (24, .ireturn, 1)) rfl) (pe2 (Option.some.inj h)) rfl (pe1 (Option.some.inj h)) rfl
set_option maxRecDepth 100000 in
set_option maxHeartbeats 4000000 in
theorem kl_X8_yesDays_L4 {p : Program} {l : Launch} {e : Env} {s : State} {m : MethodId} {args : Array Value} {below : List Frame} {meth : Method} {c : Code} {G : GG} {sh : Sh} {xs : List va_E} {Q : State → Prop} (C : Cx p s m c args meth G RX8 cX8_yesDays 4 (some .int)) (o0 : Nat) (h0 : isM sh o0) (x1 : Int32) (M : Mm) (y2 : Int32) (hcont : KW p l e rm_X8_yesDays s m args below meth c G 4 Q sh xs 0 0 M 40 [(2, .int y2)] []) : ∀ (n : Nat) (x2 : Int32) (x3 : Int32), f_X8_yesDays_L4 o0 x1 M n x2 x3 = some y2 → KW p l e rm_X8_yesDays s m args below meth c G 4 Q sh xs 0 0 M 4 [(0, rA G o0), (1, .int x1), (2, .int x2), (3, .int x3)] [] := by
  intro n
  induction n with
  | zero =>
    intro x2 x3 h
    cases h
  | succ n ih =>
    intro x2 x3 h
    unfold f_X8_yesDays_L4 at h
    refine k_iload_n C (pc2 := 5) (dkAt dkX8_yesDays 4 (q := (4, .iload_n 3, 1)) rfl) rfl rfl 3 rfl ?_
    refine k_aload_n C (pc2 := 6) (dkAt dkX8_yesDays 5 (q := (5, .aload_n 0, 1)) rfl) rfl rfl 0 rfl ?_
    refine kf_X8_37 C (pc2 := 9) (o := o0) (o2 := 0) h0.1 (dkAt dkX8_yesDays 6 (q := (6, .getfield 37, 3)) rfl) rfl ?_
    refine k_icmp_ge C (tgt := 40) (pc2 := 12) (dkAt dkX8_yesDays 7 (q := (9, .if_icmp .ge 31, 3)) rfl) (by decide) rfl h (fun h => ?_) (fun h => ?_)
    · refine k_lv [2] (lv2 := [(2, .int x2)]) rfl ?_
      cases h
      exact hcont
    · refine k_iload_n C (pc2 := 13) (dkAt dkX8_yesDays 8 (q := (12, .iload_n 2, 1)) rfl) rfl rfl 2 rfl ?_
      refine k_aload_n C (pc2 := 14) (dkAt dkX8_yesDays 9 (q := (13, .aload_n 0, 1)) rfl) rfl rfl 0 rfl ?_
      refine kf_X8_67 C (pc2 := 17) (o := o0) (o2 := o0 + 24) h0.1 rfl (dkAt dkX8_yesDays 10 (q := (14, .getfield 67, 3)) rfl) rfl ?_
      refine k_iload_n C (pc2 := 18) (dkAt dkX8_yesDays 11 (q := (17, .iload_n 1, 1)) rfl) rfl rfl 1 rfl ?_
      refine k_aa13 C (pc2 := 19) (o := o0 + 24) (o2 := o0 + 25 + x1.toNatClampNeg) (nA := 8) (isM_ticks h0) rfl (dkAt dkX8_yesDays 12 (q := (18, .aaload, 1)) rfl) rfl h (fun h hl1 => ?_)
      refine k_iload_n C (pc2 := 20) (dkAt dkX8_yesDays 13 (q := (19, .iload_n 3, 1)) rfl) rfl rfl 3 rfl ?_
      refine k_iald C (pc2 := 21) (o := o0 + 25 + x1.toNatClampNeg) (nA := 14) (isM_ticksI h0 _ hl1) (dkAt dkX8_yesDays 14 (q := (20, .iaload, 1)) rfl) rfl h (fun h => ?_)
      refine k_iconst C (pc2 := 22) (dkAt dkX8_yesDays 15 (q := (21, .iconst 2, 1)) rfl) rfl (v := 2) rfl ?_
      refine k_icmp_ne C (tgt := 31) (pc2 := 25) (dkAt dkX8_yesDays 16 (q := (22, .if_icmp .ne 9, 3)) rfl) (by decide) rfl h (fun h => ?_) (fun h => ?_)
      · refine k_iconst C (pc2 := 32) (dkAt dkX8_yesDays 21 (q := (31, .iconst 0, 1)) rfl) rfl (v := 0) rfl ?_
        refine k_ior C (pc2 := 33) (dkAt dkX8_yesDays 22 (q := (32, .ior, 1)) rfl) rfl ?_
        refine kb_istore_n C (pc2 := 34) (dkAt dkX8_yesDays 23 (q := (33, .istore_n 2, 1)) rfl) rfl rfl (by decide) (lv2 := fun v2 => [(2, .int v2), (0, rA G o0), (1, .int x1), (3, .int x3)]) (fun _ => rfl) h (fun v2 h => ?_)
        refine kb_iinc C (pc2 := 37) (dkAt dkX8_yesDays 24 (q := (34, .iinc 3 1, 3)) rfl) rfl (j := 3) rfl (v := x3 + 1) rfl (by decide) (lv2 := fun v3 => [(3, .int v3), (2, .int v2), (0, rA G o0), (1, .int x1)]) (fun _ => rfl) h (fun v3 h => ?_)
        refine k_goto C (tgt := 4) (dkAt dkX8_yesDays 25 (q := (37, .goto (-33), 3)) rfl) (by decide) ?_
        refine k_lv [2, 3, 1, 0] (lv2 := [(0, rA G o0), (1, .int x1), (2, .int v2), (3, .int v3)]) rfl ?_
        exact ih v2 v3 h
      · refine k_iconst C (pc2 := 26) (dkAt dkX8_yesDays 17 (q := (25, .iconst 1, 1)) rfl) rfl (v := 1) rfl ?_
        refine k_iload_n C (pc2 := 27) (dkAt dkX8_yesDays 18 (q := (26, .iload_n 3, 1)) rfl) rfl rfl 3 rfl ?_
        refine k_ishl C (pc2 := 28) (dkAt dkX8_yesDays 19 (q := (27, .ishl, 1)) rfl) rfl ?_
        refine k_goto C (tgt := 32) (dkAt dkX8_yesDays 20 (q := (28, .goto 4, 3)) rfl) (by decide) ?_
        refine k_ior C (pc2 := 33) (dkAt dkX8_yesDays 22 (q := (32, .ior, 1)) rfl) rfl ?_
        refine kb_istore_n C (pc2 := 34) (dkAt dkX8_yesDays 23 (q := (33, .istore_n 2, 1)) rfl) rfl rfl (by decide) (lv2 := fun v4 => [(2, .int v4), (0, rA G o0), (1, .int x1), (3, .int x3)]) (fun _ => rfl) h (fun v4 h => ?_)
        refine kb_iinc C (pc2 := 37) (dkAt dkX8_yesDays 24 (q := (34, .iinc 3 1, 3)) rfl) rfl (j := 3) rfl (v := x3 + 1) rfl (by decide) (lv2 := fun v5 => [(3, .int v5), (2, .int v4), (0, rA G o0), (1, .int x1)]) (fun _ => rfl) h (fun v5 h => ?_)
        refine k_goto C (tgt := 4) (dkAt dkX8_yesDays 25 (q := (37, .goto (-33), 3)) rfl) (by decide) ?_
        refine k_lv [2, 3, 1, 0] (lv2 := [(0, rA G o0), (1, .int x1), (2, .int v4), (3, .int v5)]) rfl ?_
        exact ih v4 v5 h
set_option maxRecDepth 100000 in
set_option maxHeartbeats 4000000 in
theorem ct_X8_yesDays (l : Launch) (G : GG) (sh : Sh) (xs : List va_E) (o0 : Nat) (h0 : isM sh o0) (x1 : Int32) (M : Mm) (r : Int32) (h : f_X8_yesDays o0 x1 M = some r) : Ct l yX8_yesDays cX8_yesDays 4 (some .int) rm_X8_yesDays G [rA G o0, .int x1] sh M xs (some (.int r)) sh M xs 0 0 := by
  refine ct_of (by decide) (Nat.le_of_ble_eq_true rfl) ?_
  intro p e s m args below meth c hnm C
  refine k_lv [0, 1] (lv2 := [(0, rA G o0), (1, .int x1)]) rfl ?_
  unfold f_X8_yesDays at h
  refine k_iconst C (pc2 := 1) (dkAt dkX8_yesDays 0 (q := (0, .iconst 0, 1)) rfl) rfl (v := 0) rfl ?_
  refine k_istore_n C (pc2 := 2) (dkAt dkX8_yesDays 1 (q := (1, .istore_n 2, 1)) rfl) rfl rfl (by decide) (lv2 := [(2, .int 0), (0, rA G o0), (1, .int x1)]) rfl ?_
  refine k_iconst C (pc2 := 3) (dkAt dkX8_yesDays 2 (q := (2, .iconst 0, 1)) rfl) rfl (v := 0) rfl ?_
  refine k_istore_n C (pc2 := 4) (dkAt dkX8_yesDays 3 (q := (3, .istore_n 3, 1)) rfl) rfl rfl (by decide) (lv2 := [(3, .int 0), (2, .int 0), (0, rA G o0), (1, .int x1)]) rfl ?_
  refine k_lv [2, 3, 1, 0] (lv2 := [(0, rA G o0), (1, .int x1), (2, .int 0), (3, .int 0)]) rfl ?_
  obtain ⟨v8, e7, h⟩ := ob_inv h
  refine kl_X8_yesDays_L4 C o0 h0 x1 M v8 ?_ 1000 0 0 e7
  refine k_iload_n C (pc2 := 41) (dkAt dkX8_yesDays 26 (q := (40, .iload_n 2, 1)) rfl) rfl rfl 0 rfl ?_
  exact k_iret C (dkAt dkX8_yesDays 27 (q := (41, .ireturn, 1)) rfl) (Option.some.inj h) rfl rfl rfl
set_option maxRecDepth 100000 in
set_option maxHeartbeats 4000000 in
theorem kl_X8_quiet_L19 {p : Program} {l : Launch} {e : Env} {s : State} {m : MethodId} {args : Array Value} {below : List Frame} {meth : Method} {c : Code} {G : GG} {sh : Sh} {xs : List va_E} {Q : State → Prop} (C : Cx p s m c args meth G RX8 cX8_quiet 3 (some .int)) (o0 : Nat) (h0 : isM sh o0) (M : Mm) (y1 : Int32) (hcont : KW p l e rm_X8_quiet s m args below meth c G 3 Q sh xs 0 0 M 43 [(1, .int y1)] []) : ∀ (n : Nat) (x1 : Int32) (x2 : Int32), f_X8_quiet_L19 o0 M n x1 x2 = some y1 → KW p l e rm_X8_quiet s m args below meth c G 3 Q sh xs 0 0 M 19 [(0, rA G o0), (1, .int x1), (2, .int x2)] [] := by
  intro n
  induction n with
  | zero =>
    intro x1 x2 h
    cases h
  | succ n ih =>
    intro x1 x2 h
    unfold f_X8_quiet_L19 at h
    refine k_iload_n C (pc2 := 20) (dkAt dkX8_quiet 13 (q := (19, .iload_n 2, 1)) rfl) rfl rfl 2 rfl ?_
    refine k_aload_n C (pc2 := 21) (dkAt dkX8_quiet 14 (q := (20, .aload_n 0, 1)) rfl) rfl rfl 0 rfl ?_
    refine kf_X8_82 C (pc2 := 24) (o := o0) (o2 := 0) h0.1 (dkAt dkX8_quiet 15 (q := (21, .getfield 82, 3)) rfl) rfl ?_
    refine k_icmp_ge C (tgt := 43) (pc2 := 27) (dkAt dkX8_quiet 16 (q := (24, .if_icmp .ge 19, 3)) rfl) (by decide) rfl h (fun h => ?_) (fun h => ?_)
    · refine k_lv [1] (lv2 := [(1, .int x1)]) rfl ?_
      cases h
      exact hcont
    · refine k_iload_n C (pc2 := 28) (dkAt dkX8_quiet 17 (q := (27, .iload_n 1, 1)) rfl) rfl rfl 1 rfl ?_
      refine k_aload_n C (pc2 := 29) (dkAt dkX8_quiet 18 (q := (28, .aload_n 0, 1)) rfl) rfl rfl 0 rfl ?_
      refine k_iload_n C (pc2 := 30) (dkAt dkX8_quiet 19 (q := (29, .iload_n 2, 1)) rfl) rfl rfl 2 rfl ?_
      obtain ⟨q4, e5, h⟩ := ob_inv h
      refine kc_V C (As := [.int x2]) (st2 := [.int q4, .int x1]) (ct_X8_yesDays l G sh xs o0 h0 x2 M q4 e5) (cl_X8_269 (hts_of C) ⟨Nat.le_of_ble_eq_true rfl, Nat.le_of_ble_eq_true rfl⟩ rfl rfl) h0.1 rfl rfl rfl rfl rfl (Nat.le_of_ble_eq_true rfl) (dkAt dkX8_quiet 20 (q := (30, .invokevirtual 269, 3)) rfl) ⟨Nat.zero_le _, Nat.zero_le _⟩ (pc2 := 33) rfl rfl ?_
      refine k_iconst C (pc2 := 34) (dkAt dkX8_quiet 21 (q := (33, .iconst (-1), 1)) rfl) rfl (v := (-1)) rfl ?_
      refine k_ixor C (pc2 := 35) (dkAt dkX8_quiet 22 (q := (34, .ixor, 1)) rfl) rfl ?_
      refine k_iand C (pc2 := 36) (dkAt dkX8_quiet 23 (q := (35, .iand, 1)) rfl) rfl ?_
      refine kb_istore_n C (pc2 := 37) (dkAt dkX8_quiet 24 (q := (36, .istore_n 1, 1)) rfl) rfl rfl (by decide) (lv2 := fun v6 => [(1, .int v6), (0, rA G o0), (2, .int x2)]) (fun _ => rfl) h (fun v6 h => ?_)
      refine kb_iinc C (pc2 := 40) (dkAt dkX8_quiet 25 (q := (37, .iinc 2 1, 3)) rfl) rfl (j := 2) rfl (v := x2 + 1) rfl (by decide) (lv2 := fun v7 => [(2, .int v7), (1, .int v6), (0, rA G o0)]) (fun _ => rfl) h (fun v7 h => ?_)
      refine k_goto C (tgt := 19) (dkAt dkX8_quiet 26 (q := (40, .goto (-21), 3)) rfl) (by decide) ?_
      refine k_lv [2, 1, 0] (lv2 := [(0, rA G o0), (1, .int v6), (2, .int v7)]) rfl ?_
      exact ih v6 v7 h
set_option maxRecDepth 100000 in
set_option maxHeartbeats 4000000 in
theorem ct_X8_quiet (l : Launch) (G : GG) (sh : Sh) (xs : List va_E) (o0 : Nat) (h0 : isM sh o0) (M : Mm) (r : Mm × Int32) (h : f_X8_quiet o0 M = some r) : Ct l yX8_quiet cX8_quiet 3 (some .int) rm_X8_quiet G [rA G o0] sh M xs (some (.int r.2)) sh r.1 xs 0 0 := by
  refine ct_of (by decide) (Nat.le_of_ble_eq_true rfl) ?_
  intro p e s m args below meth c hnm C
  refine k_lv [0] (lv2 := [(0, rA G o0)]) rfl ?_
  unfold f_X8_quiet at h
  refine k_aload_n C (pc2 := 1) (dkAt dkX8_quiet 0 (q := (0, .aload_n 0, 1)) rfl) rfl rfl 0 rfl ?_
  refine k_aload_n C (pc2 := 2) (dkAt dkX8_quiet 1 (q := (1, .aload_n 0, 1)) rfl) rfl rfl 0 rfl ?_
  refine kf_X8_82 C (pc2 := 5) (o := o0) (o2 := 0) h0.1 (dkAt dkX8_quiet 2 (q := (2, .getfield 82, 3)) rfl) rfl ?_
  obtain ⟨q1, e2, h⟩ := ob_inv h
  refine kc_V C (As := [.int (M.1 o0 10)]) (st2 := []) (ct_X8_findTicks l G sh xs o0 h0 (M.1 o0 10) M q1 e2) (cl_X8_253 (hts_of C) ⟨Nat.le_of_ble_eq_true rfl, Nat.le_of_ble_eq_true rfl⟩ rfl rfl) h0.1 rfl rfl rfl rfl rfl (Nat.le_of_ble_eq_true rfl) (dkAt dkX8_quiet 3 (q := (5, .invokevirtual 253, 3)) rfl) ⟨Nat.zero_le _, Nat.zero_le _⟩ (pc2 := 8) rfl rfl ?_
  refine k_iconst C (pc2 := 9) (dkAt dkX8_quiet 4 (q := (8, .iconst 1, 1)) rfl) rfl (v := 1) rfl ?_
  refine k_aload_n C (pc2 := 10) (dkAt dkX8_quiet 5 (q := (9, .aload_n 0, 1)) rfl) rfl rfl 0 rfl ?_
  refine kf_X8_37 C (pc2 := 13) (o := o0) (o2 := 0) h0.1 (dkAt dkX8_quiet 6 (q := (10, .getfield 37, 3)) rfl) rfl ?_
  refine k_ishl C (pc2 := 14) (dkAt dkX8_quiet 7 (q := (13, .ishl, 1)) rfl) rfl ?_
  refine k_iconst C (pc2 := 15) (dkAt dkX8_quiet 8 (q := (14, .iconst 1, 1)) rfl) rfl (v := 1) rfl ?_
  refine k_isub C (pc2 := 16) (dkAt dkX8_quiet 9 (q := (15, .isub, 1)) rfl) rfl ?_
  refine kb_istore_n C (pc2 := 17) (dkAt dkX8_quiet 10 (q := (16, .istore_n 1, 1)) rfl) rfl rfl (by decide) (lv2 := fun v3 => [(1, .int v3), (0, rA G o0)]) (fun _ => rfl) h (fun v3 h => ?_)
  refine k_iconst C (pc2 := 18) (dkAt dkX8_quiet 11 (q := (17, .iconst 0, 1)) rfl) rfl (v := 0) rfl ?_
  refine k_istore_n C (pc2 := 19) (dkAt dkX8_quiet 12 (q := (18, .istore_n 2, 1)) rfl) rfl rfl (by decide) (lv2 := [(2, .int 0), (1, .int v3), (0, rA G o0)]) rfl ?_
  refine k_lv [2, 1, 0] (lv2 := [(0, rA G o0), (1, .int v3), (2, .int 0)]) rfl ?_
  obtain ⟨v10, e9, h⟩ := ob_inv h
  refine kl_X8_quiet_L19 C o0 h0 q1 v10 ?_ 1000 v3 0 e9
  refine k_iload_n C (pc2 := 44) (dkAt dkX8_quiet 27 (q := (43, .iload_n 1, 1)) rfl) rfl rfl 0 rfl ?_
  exact k_iret C (dkAt dkX8_quiet 28 (q := (44, .ireturn, 1)) rfl) (pe2 (Option.some.inj h)) rfl (pe1 (Option.some.inj h)) rfl
set_option maxRecDepth 100000 in
set_option maxHeartbeats 4000000 in
theorem ct_X8_agree (l : Launch) (G : GG) (sh : Sh) (xs : List va_E) (o0 : Nat) (h0 : isM sh o0) (x1 : Int32) (x2 : Int32) (M : Mm) (r : Mm × Int32) (h : f_X8_agree o0 x1 x2 M = some r) : Ct l yX8_agree cX8_agree 3 (some .int) rm_X8_agree G [rA G o0, .int x1, .int x2] sh M xs (some (.int r.2)) sh r.1 xs 0 0 := by
  refine ct_of (by decide) (Nat.le_of_ble_eq_true rfl) ?_
  intro p e s m args below meth c hnm C
  refine k_lv [0, 1, 2] (lv2 := [(0, rA G o0), (1, .int x1), (2, .int x2)]) rfl ?_
  unfold f_X8_agree at h
  refine k_aload_n C (pc2 := 1) (dkAt dkX8_agree 0 (q := (0, .aload_n 0, 1)) rfl) rfl rfl 0 rfl ?_
  refine k_iload_n C (pc2 := 2) (dkAt dkX8_agree 1 (q := (1, .iload_n 1, 1)) rfl) rfl rfl 1 rfl ?_
  obtain ⟨q1, e2, h⟩ := ob_inv h
  refine kc_V C (As := [.int x1]) (st2 := [.int q1]) (ct_X8_isOne l G sh xs o0 h0 x1 M q1 e2) (cl_X8_108 (hts_of C) ⟨Nat.le_of_ble_eq_true rfl, Nat.le_of_ble_eq_true rfl⟩ rfl rfl) h0.1 rfl rfl rfl rfl rfl (Nat.le_of_ble_eq_true rfl) (dkAt dkX8_agree 2 (q := (2, .invokevirtual 108, 3)) rfl) ⟨Nat.zero_le _, Nat.zero_le _⟩ (pc2 := 5) rfl rfl ?_
  refine k_if_eq C (tgt := 21) (pc2 := 8) (dkAt dkX8_agree 3 (q := (5, .ifCond .eq 16, 3)) rfl) (by decide) rfl h (fun h => ?_) (fun h => ?_)
  · refine k_aload_n C (pc2 := 22) (dkAt dkX8_agree 11 (q := (21, .aload_n 0, 1)) rfl) rfl rfl 0 rfl ?_
    refine k_bipush C (pc2 := 24) (dkAt dkX8_agree 12 (q := (22, .bipush (-2), 2)) rfl) rfl (v := (-2)) rfl ?_
    obtain ⟨q3, e4, h⟩ := ob_inv h
    refine kc_V C (As := [.int (-2)]) (st2 := [.int q3.2]) (ct_X8_refuse l G sh xs o0 h0 (-2) M q3 e4) (cl_X8_97 (hts_of C) ⟨Nat.le_of_ble_eq_true rfl, Nat.le_of_ble_eq_true rfl⟩ rfl rfl) h0.1 rfl rfl rfl rfl rfl (Nat.le_of_ble_eq_true rfl) (dkAt dkX8_agree 13 (q := (24, .invokevirtual 97, 3)) rfl) ⟨Nat.zero_le _, Nat.zero_le _⟩ (pc2 := 27) rfl rfl ?_
    exact k_iret C (dkAt dkX8_agree 14 (q := (27, .ireturn, 1)) rfl) (pe2 (Option.some.inj h)) rfl (pe1 (Option.some.inj h)) rfl
  · refine k_aload_n C (pc2 := 9) (dkAt dkX8_agree 4 (q := (8, .aload_n 0, 1)) rfl) rfl rfl 0 rfl ?_
    refine k_iload_n C (pc2 := 10) (dkAt dkX8_agree 5 (q := (9, .iload_n 2, 1)) rfl) rfl rfl 2 rfl ?_
    obtain ⟨q5, e6, h⟩ := ob_inv h
    refine kc_V C (As := [.int x2]) (st2 := [.int q5]) (ct_X8_isOne l G sh xs o0 h0 x2 M q5 e6) (cl_X8_108 (hts_of C) ⟨Nat.le_of_ble_eq_true rfl, Nat.le_of_ble_eq_true rfl⟩ rfl rfl) h0.1 rfl rfl rfl rfl rfl (Nat.le_of_ble_eq_true rfl) (dkAt dkX8_agree 6 (q := (10, .invokevirtual 108, 3)) rfl) ⟨Nat.zero_le _, Nat.zero_le _⟩ (pc2 := 13) rfl rfl ?_
    refine k_if_eq C (tgt := 21) (pc2 := 16) (dkAt dkX8_agree 7 (q := (13, .ifCond .eq 8, 3)) rfl) (by decide) rfl h (fun h => ?_) (fun h => ?_)
    · refine k_aload_n C (pc2 := 22) (dkAt dkX8_agree 11 (q := (21, .aload_n 0, 1)) rfl) rfl rfl 0 rfl ?_
      refine k_bipush C (pc2 := 24) (dkAt dkX8_agree 12 (q := (22, .bipush (-2), 2)) rfl) rfl (v := (-2)) rfl ?_
      obtain ⟨q7, e8, h⟩ := ob_inv h
      refine kc_V C (As := [.int (-2)]) (st2 := [.int q7.2]) (ct_X8_refuse l G sh xs o0 h0 (-2) M q7 e8) (cl_X8_97 (hts_of C) ⟨Nat.le_of_ble_eq_true rfl, Nat.le_of_ble_eq_true rfl⟩ rfl rfl) h0.1 rfl rfl rfl rfl rfl (Nat.le_of_ble_eq_true rfl) (dkAt dkX8_agree 13 (q := (24, .invokevirtual 97, 3)) rfl) ⟨Nat.zero_le _, Nat.zero_le _⟩ (pc2 := 27) rfl rfl ?_
      exact k_iret C (dkAt dkX8_agree 14 (q := (27, .ireturn, 1)) rfl) (pe2 (Option.some.inj h)) rfl (pe1 (Option.some.inj h)) rfl
    · refine k_iload_n C (pc2 := 17) (dkAt dkX8_agree 8 (q := (16, .iload_n 1, 1)) rfl) rfl rfl 1 rfl ?_
      refine k_iload_n C (pc2 := 18) (dkAt dkX8_agree 9 (q := (17, .iload_n 2, 1)) rfl) rfl rfl 2 rfl ?_
      refine k_icmp_ne C (tgt := 28) (pc2 := 21) (dkAt dkX8_agree 10 (q := (18, .if_icmp .ne 10, 3)) rfl) (by decide) rfl h (fun h => ?_) (fun h => ?_)
      · refine k_aload_n C (pc2 := 29) (dkAt dkX8_agree 15 (q := (28, .aload_n 0, 1)) rfl) rfl rfl 0 rfl ?_
        refine k_aload_n C (pc2 := 30) (dkAt dkX8_agree 16 (q := (29, .aload_n 0, 1)) rfl) rfl rfl 0 rfl ?_
        refine kf_X8_82 C (pc2 := 33) (o := o0) (o2 := 0) h0.1 (dkAt dkX8_agree 17 (q := (30, .getfield 82, 3)) rfl) rfl ?_
        obtain ⟨q9, e10, h⟩ := ob_inv h
        refine kc_V C (As := [.int (M.1 o0 10)]) (st2 := []) (ct_X8_findTicks l G sh xs o0 h0 (M.1 o0 10) M q9 e10) (cl_X8_253 (hts_of C) ⟨Nat.le_of_ble_eq_true rfl, Nat.le_of_ble_eq_true rfl⟩ rfl rfl) h0.1 rfl rfl rfl rfl rfl (Nat.le_of_ble_eq_true rfl) (dkAt dkX8_agree 18 (q := (33, .invokevirtual 253, 3)) rfl) ⟨Nat.zero_le _, Nat.zero_le _⟩ (pc2 := 36) rfl rfl ?_
        refine k_aload_n C (pc2 := 37) (dkAt dkX8_agree 19 (q := (36, .aload_n 0, 1)) rfl) rfl rfl 0 rfl ?_
        refine k_iload_n C (pc2 := 38) (dkAt dkX8_agree 20 (q := (37, .iload_n 1, 1)) rfl) rfl rfl 1 rfl ?_
        obtain ⟨q11, e12, h⟩ := ob_inv h
        refine kc_V C (As := [.int x1]) (st2 := [.int q11]) (ct_X8_yesDays l G sh xs o0 h0 x1 q9 q11 e12) (cl_X8_269 (hts_of C) ⟨Nat.le_of_ble_eq_true rfl, Nat.le_of_ble_eq_true rfl⟩ rfl rfl) h0.1 rfl rfl rfl rfl rfl (Nat.le_of_ble_eq_true rfl) (dkAt dkX8_agree 21 (q := (38, .invokevirtual 269, 3)) rfl) ⟨Nat.zero_le _, Nat.zero_le _⟩ (pc2 := 41) rfl rfl ?_
        refine k_aload_n C (pc2 := 42) (dkAt dkX8_agree 22 (q := (41, .aload_n 0, 1)) rfl) rfl rfl 0 rfl ?_
        refine k_iload_n C (pc2 := 43) (dkAt dkX8_agree 23 (q := (42, .iload_n 2, 1)) rfl) rfl rfl 2 rfl ?_
        obtain ⟨q13, e14, h⟩ := ob_inv h
        refine kc_V C (As := [.int x2]) (st2 := [.int q13, .int q11]) (ct_X8_yesDays l G sh xs o0 h0 x2 q9 q13 e14) (cl_X8_269 (hts_of C) ⟨Nat.le_of_ble_eq_true rfl, Nat.le_of_ble_eq_true rfl⟩ rfl rfl) h0.1 rfl rfl rfl rfl rfl (Nat.le_of_ble_eq_true rfl) (dkAt dkX8_agree 24 (q := (43, .invokevirtual 269, 3)) rfl) ⟨Nat.zero_le _, Nat.zero_le _⟩ (pc2 := 46) rfl rfl ?_
        refine k_iand C (pc2 := 47) (dkAt dkX8_agree 25 (q := (46, .iand, 1)) rfl) rfl ?_
        exact k_iret C (dkAt dkX8_agree 26 (q := (47, .ireturn, 1)) rfl) (pe2 (Option.some.inj h)) rfl (pe1 (Option.some.inj h)) rfl
      · refine k_aload_n C (pc2 := 22) (dkAt dkX8_agree 11 (q := (21, .aload_n 0, 1)) rfl) rfl rfl 0 rfl ?_
        refine k_bipush C (pc2 := 24) (dkAt dkX8_agree 12 (q := (22, .bipush (-2), 2)) rfl) rfl (v := (-2)) rfl ?_
        obtain ⟨q15, e16, h⟩ := ob_inv h
        refine kc_V C (As := [.int (-2)]) (st2 := [.int q15.2]) (ct_X8_refuse l G sh xs o0 h0 (-2) M q15 e16) (cl_X8_97 (hts_of C) ⟨Nat.le_of_ble_eq_true rfl, Nat.le_of_ble_eq_true rfl⟩ rfl rfl) h0.1 rfl rfl rfl rfl rfl (Nat.le_of_ble_eq_true rfl) (dkAt dkX8_agree 13 (q := (24, .invokevirtual 97, 3)) rfl) ⟨Nat.zero_le _, Nat.zero_le _⟩ (pc2 := 27) rfl rfl ?_
        exact k_iret C (dkAt dkX8_agree 14 (q := (27, .ireturn, 1)) rfl) (pe2 (Option.some.inj h)) rfl (pe1 (Option.some.inj h)) rfl
set_option maxRecDepth 100000 in
set_option maxHeartbeats 4000000 in
theorem kl_X8_votes_L41 {p : Program} {l : Launch} {e : Env} {s : State} {m : MethodId} {args : Array Value} {below : List Frame} {meth : Method} {c : Code} {G : GG} {sh : Sh} {xs : List va_E} {Q : State → Prop} (C : Cx p s m c args meth G RX8 cX8_votes 5 (some .int)) (o0 : Nat) (h0 : isM sh o0) (x1 : Int32) (x2 : Int32) (M : Mm) (y3 : Int32) (hcont : KW p l e rm_X8_votes s m args below meth c G 5 Q sh xs 0 0 M 77 [(3, .int y3)] []) : ∀ (n : Nat) (x3 : Int32) (x4 : Int32), f_X8_votes_L41 o0 x1 x2 M n x3 x4 = some y3 → KW p l e rm_X8_votes s m args below meth c G 5 Q sh xs 0 0 M 41 [(0, rA G o0), (1, .int x1), (2, .int x2), (3, .int x3), (4, .int x4)] [] := by
  intro n
  induction n with
  | zero =>
    intro x3 x4 h
    cases h
  | succ n ih =>
    intro x3 x4 h
    unfold f_X8_votes_L41 at h
    refine k_iload C (pc2 := 43) (dkAt dkX8_votes 23 (q := (41, .iload 4, 2)) rfl) rfl 4 rfl ?_
    refine k_aload_n C (pc2 := 44) (dkAt dkX8_votes 24 (q := (43, .aload_n 0, 1)) rfl) rfl rfl 0 rfl ?_
    refine kf_X8_82 C (pc2 := 47) (o := o0) (o2 := 0) h0.1 (dkAt dkX8_votes 25 (q := (44, .getfield 82, 3)) rfl) rfl ?_
    refine k_icmp_ge C (tgt := 77) (pc2 := 50) (dkAt dkX8_votes 26 (q := (47, .if_icmp .ge 30, 3)) rfl) (by decide) rfl h (fun h => ?_) (fun h => ?_)
    · refine k_lv [3] (lv2 := [(3, .int x3)]) rfl ?_
      cases h
      exact hcont
    · refine k_iload_n C (pc2 := 51) (dkAt dkX8_votes 27 (q := (50, .iload_n 3, 1)) rfl) rfl rfl 3 rfl ?_
      refine k_aload_n C (pc2 := 52) (dkAt dkX8_votes 28 (q := (51, .aload_n 0, 1)) rfl) rfl rfl 0 rfl ?_
      refine kf_X8_67 C (pc2 := 55) (o := o0) (o2 := o0 + 24) h0.1 rfl (dkAt dkX8_votes 29 (q := (52, .getfield 67, 3)) rfl) rfl ?_
      refine k_iload C (pc2 := 57) (dkAt dkX8_votes 30 (q := (55, .iload 4, 2)) rfl) rfl 4 rfl ?_
      refine k_aa13 C (pc2 := 58) (o := o0 + 24) (o2 := o0 + 25 + x4.toNatClampNeg) (nA := 8) (isM_ticks h0) rfl (dkAt dkX8_votes 31 (q := (57, .aaload, 1)) rfl) rfl h (fun h hl9 => ?_)
      refine k_iload_n C (pc2 := 59) (dkAt dkX8_votes 32 (q := (58, .iload_n 1, 1)) rfl) rfl rfl 1 rfl ?_
      refine k_iald C (pc2 := 60) (o := o0 + 25 + x4.toNatClampNeg) (nA := 14) (isM_ticksI h0 _ hl9) (dkAt dkX8_votes 33 (q := (59, .iaload, 1)) rfl) rfl h (fun h => ?_)
      refine k_iload_n C (pc2 := 61) (dkAt dkX8_votes 34 (q := (60, .iload_n 2, 1)) rfl) rfl rfl 2 rfl ?_
      refine k_icmp_ne C (tgt := 68) (pc2 := 64) (dkAt dkX8_votes 35 (q := (61, .if_icmp .ne 7, 3)) rfl) (by decide) rfl h (fun h => ?_) (fun h => ?_)
      · refine k_iconst C (pc2 := 69) (dkAt dkX8_votes 38 (q := (68, .iconst 0, 1)) rfl) rfl (v := 0) rfl ?_
        refine k_iadd C (pc2 := 70) (dkAt dkX8_votes 39 (q := (69, .iadd, 1)) rfl) rfl ?_
        refine kb_istore_n C (pc2 := 71) (dkAt dkX8_votes 40 (q := (70, .istore_n 3, 1)) rfl) rfl rfl (by decide) (lv2 := fun v10 => [(3, .int v10), (0, rA G o0), (1, .int x1), (2, .int x2), (4, .int x4)]) (fun _ => rfl) h (fun v10 h => ?_)
        refine kb_iinc C (pc2 := 74) (dkAt dkX8_votes 41 (q := (71, .iinc 4 1, 3)) rfl) rfl (j := 4) rfl (v := x4 + 1) rfl (by decide) (lv2 := fun v11 => [(4, .int v11), (3, .int v10), (0, rA G o0), (1, .int x1), (2, .int x2)]) (fun _ => rfl) h (fun v11 h => ?_)
        refine k_goto C (tgt := 41) (dkAt dkX8_votes 42 (q := (74, .goto (-33), 3)) rfl) (by decide) ?_
        refine k_lv [2, 3, 4, 1, 0] (lv2 := [(0, rA G o0), (1, .int x1), (2, .int x2), (3, .int v10), (4, .int v11)]) rfl ?_
        exact ih v10 v11 h
      · refine k_iconst C (pc2 := 65) (dkAt dkX8_votes 36 (q := (64, .iconst 1, 1)) rfl) rfl (v := 1) rfl ?_
        refine k_goto C (tgt := 69) (dkAt dkX8_votes 37 (q := (65, .goto 4, 3)) rfl) (by decide) ?_
        refine k_iadd C (pc2 := 70) (dkAt dkX8_votes 39 (q := (69, .iadd, 1)) rfl) rfl ?_
        refine kb_istore_n C (pc2 := 71) (dkAt dkX8_votes 40 (q := (70, .istore_n 3, 1)) rfl) rfl rfl (by decide) (lv2 := fun v12 => [(3, .int v12), (0, rA G o0), (1, .int x1), (2, .int x2), (4, .int x4)]) (fun _ => rfl) h (fun v12 h => ?_)
        refine kb_iinc C (pc2 := 74) (dkAt dkX8_votes 41 (q := (71, .iinc 4 1, 3)) rfl) rfl (j := 4) rfl (v := x4 + 1) rfl (by decide) (lv2 := fun v13 => [(4, .int v13), (3, .int v12), (0, rA G o0), (1, .int x1), (2, .int x2)]) (fun _ => rfl) h (fun v13 h => ?_)
        refine k_goto C (tgt := 41) (dkAt dkX8_votes 42 (q := (74, .goto (-33), 3)) rfl) (by decide) ?_
        refine k_lv [2, 3, 4, 1, 0] (lv2 := [(0, rA G o0), (1, .int x1), (2, .int x2), (3, .int v12), (4, .int v13)]) rfl ?_
        exact ih v12 v13 h
set_option maxRecDepth 100000 in
set_option maxHeartbeats 4000000 in
theorem ct_X8_votes (l : Launch) (G : GG) (sh : Sh) (xs : List va_E) (o0 : Nat) (h0 : isM sh o0) (x1 : Int32) (x2 : Int32) (M : Mm) (r : Mm × Int32) (h : f_X8_votes o0 x1 x2 M = some r) : Ct l yX8_votes cX8_votes 5 (some .int) rm_X8_votes G [rA G o0, .int x1, .int x2] sh M xs (some (.int r.2)) sh r.1 xs 0 0 := by
  refine ct_of (by decide) (Nat.le_of_ble_eq_true rfl) ?_
  intro p e s m args below meth c hnm C
  refine k_lv [0, 1, 2] (lv2 := [(0, rA G o0), (1, .int x1), (2, .int x2)]) rfl ?_
  unfold f_X8_votes at h
  refine k_aload_n C (pc2 := 1) (dkAt dkX8_votes 0 (q := (0, .aload_n 0, 1)) rfl) rfl rfl 0 rfl ?_
  refine k_iload_n C (pc2 := 2) (dkAt dkX8_votes 1 (q := (1, .iload_n 1, 1)) rfl) rfl rfl 1 rfl ?_
  refine k_i2l C (pc2 := 3) (dkAt dkX8_votes 2 (q := (2, .i2l, 1)) rfl) rfl ?_
  obtain ⟨q1, e2, h⟩ := ob_inv h
  refine kc_V C (As := [.long x1.toInt64]) (st2 := [.int q1]) (ct_X8_isDay l G sh xs o0 h0 x1.toInt64 M q1 e2) (cl_X8_135 (hts_of C) ⟨Nat.le_of_ble_eq_true rfl, Nat.le_of_ble_eq_true rfl⟩ rfl rfl) h0.1 rfl rfl rfl rfl rfl (Nat.le_of_ble_eq_true rfl) (dkAt dkX8_votes 3 (q := (3, .invokevirtual 135, 3)) rfl) ⟨Nat.zero_le _, Nat.zero_le _⟩ (pc2 := 6) rfl rfl ?_
  refine k_if_eq C (tgt := 21) (pc2 := 9) (dkAt dkX8_votes 4 (q := (6, .ifCond .eq 15, 3)) rfl) (by decide) rfl h (fun h => ?_) (fun h => ?_)
  · refine k_aload_n C (pc2 := 22) (dkAt dkX8_votes 11 (q := (21, .aload_n 0, 1)) rfl) rfl rfl 0 rfl ?_
    refine k_bipush C (pc2 := 24) (dkAt dkX8_votes 12 (q := (22, .bipush (-2), 2)) rfl) rfl (v := (-2)) rfl ?_
    obtain ⟨q3, e4, h⟩ := ob_inv h
    refine kc_V C (As := [.int (-2)]) (st2 := [.int q3.2]) (ct_X8_refuse l G sh xs o0 h0 (-2) M q3 e4) (cl_X8_97 (hts_of C) ⟨Nat.le_of_ble_eq_true rfl, Nat.le_of_ble_eq_true rfl⟩ rfl rfl) h0.1 rfl rfl rfl rfl rfl (Nat.le_of_ble_eq_true rfl) (dkAt dkX8_votes 13 (q := (24, .invokevirtual 97, 3)) rfl) ⟨Nat.zero_le _, Nat.zero_le _⟩ (pc2 := 27) rfl rfl ?_
    exact k_iret C (dkAt dkX8_votes 14 (q := (27, .ireturn, 1)) rfl) (pe2 (Option.some.inj h)) rfl (pe1 (Option.some.inj h)) rfl
  · refine k_iload_n C (pc2 := 10) (dkAt dkX8_votes 5 (q := (9, .iload_n 2, 1)) rfl) rfl rfl 2 rfl ?_
    refine k_i2l C (pc2 := 11) (dkAt dkX8_votes 6 (q := (10, .i2l, 1)) rfl) rfl ?_
    refine k_lconst C (pc2 := 12) (dkAt dkX8_votes 7 (q := (11, .lconst 0, 1)) rfl) rfl (v := 0) rfl ?_
    refine k_ldc2 C (pc2 := 15) (dkAt dkX8_votes 8 (q := (12, .ldc2_w 272, 3)) rfl) rfl (v := 2) tL_X8_272 ?_
    obtain ⟨q5, e6, h⟩ := ob_inv h
    refine kc_S C (As := [.long x2.toInt64, .long 0, .long 2]) (st2 := [.int q5]) (ct_X8_in l G sh xs x2.toInt64 0 2 M q5 e6) (cl_X8_85 (hts_of C) ⟨Nat.le_of_ble_eq_true rfl, Nat.le_of_ble_eq_true rfl⟩ rfl rfl) rfl rfl (Nat.le_of_ble_eq_true rfl) (dkAt dkX8_votes 9 (q := (15, .invokestatic 85, 3)) rfl) ⟨Nat.zero_le _, Nat.zero_le _⟩ (pc2 := 18) rfl rfl ?_
    refine k_if_ne C (tgt := 28) (pc2 := 21) (dkAt dkX8_votes 10 (q := (18, .ifCond .ne 10, 3)) rfl) (by decide) rfl h (fun h => ?_) (fun h => ?_)
    · refine k_aload_n C (pc2 := 29) (dkAt dkX8_votes 15 (q := (28, .aload_n 0, 1)) rfl) rfl rfl 0 rfl ?_
      refine k_aload_n C (pc2 := 30) (dkAt dkX8_votes 16 (q := (29, .aload_n 0, 1)) rfl) rfl rfl 0 rfl ?_
      refine kf_X8_82 C (pc2 := 33) (o := o0) (o2 := 0) h0.1 (dkAt dkX8_votes 17 (q := (30, .getfield 82, 3)) rfl) rfl ?_
      obtain ⟨q7, e8, h⟩ := ob_inv h
      refine kc_V C (As := [.int (M.1 o0 10)]) (st2 := []) (ct_X8_findTicks l G sh xs o0 h0 (M.1 o0 10) M q7 e8) (cl_X8_253 (hts_of C) ⟨Nat.le_of_ble_eq_true rfl, Nat.le_of_ble_eq_true rfl⟩ rfl rfl) h0.1 rfl rfl rfl rfl rfl (Nat.le_of_ble_eq_true rfl) (dkAt dkX8_votes 18 (q := (33, .invokevirtual 253, 3)) rfl) ⟨Nat.zero_le _, Nat.zero_le _⟩ (pc2 := 36) rfl rfl ?_
      refine k_iconst C (pc2 := 37) (dkAt dkX8_votes 19 (q := (36, .iconst 0, 1)) rfl) rfl (v := 0) rfl ?_
      refine k_istore_n C (pc2 := 38) (dkAt dkX8_votes 20 (q := (37, .istore_n 3, 1)) rfl) rfl rfl (by decide) (lv2 := [(3, .int 0), (0, rA G o0), (1, .int x1), (2, .int x2)]) rfl ?_
      refine k_iconst C (pc2 := 39) (dkAt dkX8_votes 21 (q := (38, .iconst 0, 1)) rfl) rfl (v := 0) rfl ?_
      refine k_istore C (pc2 := 41) (dkAt dkX8_votes 22 (q := (39, .istore 4, 2)) rfl) rfl (by decide) (lv2 := [(4, .int 0), (3, .int 0), (0, rA G o0), (1, .int x1), (2, .int x2)]) rfl ?_
      refine k_lv [2, 3, 4, 1, 0] (lv2 := [(0, rA G o0), (1, .int x1), (2, .int x2), (3, .int 0), (4, .int 0)]) rfl ?_
      obtain ⟨v16, e15, h⟩ := ob_inv h
      refine kl_X8_votes_L41 C o0 h0 x1 x2 q7 v16 ?_ 1000 0 0 e15
      refine k_iload_n C (pc2 := 78) (dkAt dkX8_votes 43 (q := (77, .iload_n 3, 1)) rfl) rfl rfl 0 rfl ?_
      exact k_iret C (dkAt dkX8_votes 44 (q := (78, .ireturn, 1)) rfl) (pe2 (Option.some.inj h)) rfl (pe1 (Option.some.inj h)) rfl
    · refine k_aload_n C (pc2 := 22) (dkAt dkX8_votes 11 (q := (21, .aload_n 0, 1)) rfl) rfl rfl 0 rfl ?_
      refine k_bipush C (pc2 := 24) (dkAt dkX8_votes 12 (q := (22, .bipush (-2), 2)) rfl) rfl (v := (-2)) rfl ?_
      obtain ⟨q17, e18, h⟩ := ob_inv h
      refine kc_V C (As := [.int (-2)]) (st2 := [.int q17.2]) (ct_X8_refuse l G sh xs o0 h0 (-2) M q17 e18) (cl_X8_97 (hts_of C) ⟨Nat.le_of_ble_eq_true rfl, Nat.le_of_ble_eq_true rfl⟩ rfl rfl) h0.1 rfl rfl rfl rfl rfl (Nat.le_of_ble_eq_true rfl) (dkAt dkX8_votes 13 (q := (24, .invokevirtual 97, 3)) rfl) ⟨Nat.zero_le _, Nat.zero_le _⟩ (pc2 := 27) rfl rfl ?_
      exact k_iret C (dkAt dkX8_votes 14 (q := (27, .ireturn, 1)) rfl) (pe2 (Option.some.inj h)) rfl (pe1 (Option.some.inj h)) rfl
set_option maxRecDepth 100000 in
set_option maxHeartbeats 4000000 in
theorem kl_X8_order_L42 {p : Program} {l : Launch} {e : Env} {s : State} {m : MethodId} {args : Array Value} {below : List Frame} {meth : Method} {c : Code} {G : GG} {sh : Sh} {xs : List va_E} {Q : State → Prop} (C : Cx p s m c args meth G RX8 cX8_order 7 (some .int)) (o0 : Nat) (h0 : isM sh o0) (x1 : Int32) (x2 : Int32) (x4 : Int32) (M : Mm) (y3 : Int32) (hcont : KW p l e rm_X8_order s m args below meth c G 7 Q sh xs 0 0 M 104 [(0, rA G o0), (1, .int x1), (2, .int x2), (3, .int y3), (4, .int x4)] []) : ∀ (n : Nat) (x3 : Int32) (x5 : Int32), f_X8_order_L42 o0 x1 x2 x4 M n x3 x5 = some y3 → KW p l e rm_X8_order s m args below meth c G 7 Q sh xs 0 0 M 42 [(0, rA G o0), (1, .int x1), (2, .int x2), (3, .int x3), (4, .int x4), (5, .int x5)] [] := by
  intro n
  induction n with
  | zero =>
    intro x3 x5 h
    cases h
  | succ n ih =>
    intro x3 x5 h
    unfold f_X8_order_L42 at h
    refine k_iload C (pc2 := 44) (dkAt dkX8_order 26 (q := (42, .iload 5, 2)) rfl) rfl 5 rfl ?_
    refine k_aload_n C (pc2 := 45) (dkAt dkX8_order 27 (q := (44, .aload_n 0, 1)) rfl) rfl rfl 0 rfl ?_
    refine kf_X8_37 C (pc2 := 48) (o := o0) (o2 := 0) h0.1 (dkAt dkX8_order 28 (q := (45, .getfield 37, 3)) rfl) rfl ?_
    refine k_icmp_ge C (tgt := 104) (pc2 := 51) (dkAt dkX8_order 29 (q := (48, .if_icmp .ge 56, 3)) rfl) (by decide) rfl h (fun h => ?_) (fun h => ?_)
    · refine k_lv [0, 1, 2, 3, 4] (lv2 := [(0, rA G o0), (1, .int x1), (2, .int x2), (3, .int x3), (4, .int x4)]) rfl ?_
      cases h
      exact hcont
    · refine k_iload_n C (pc2 := 52) (dkAt dkX8_order 30 (q := (51, .iload_n 2, 1)) rfl) rfl rfl 2 rfl ?_
      refine k_iload C (pc2 := 54) (dkAt dkX8_order 31 (q := (52, .iload 5, 2)) rfl) rfl 5 rfl ?_
      refine k_ishr C (pc2 := 55) (dkAt dkX8_order 32 (q := (54, .ishr, 1)) rfl) rfl ?_
      refine k_iconst C (pc2 := 56) (dkAt dkX8_order 33 (q := (55, .iconst 1, 1)) rfl) rfl (v := 1) rfl ?_
      refine k_iand C (pc2 := 57) (dkAt dkX8_order 34 (q := (56, .iand, 1)) rfl) rfl ?_
      refine k_if_ne C (tgt := 64) (pc2 := 60) (dkAt dkX8_order 35 (q := (57, .ifCond .ne 7, 3)) rfl) (by decide) rfl h (fun h => ?_) (fun h => ?_)
      · refine k_iconst C (pc2 := 65) (dkAt dkX8_order 38 (q := (64, .iconst 0, 1)) rfl) rfl (v := 0) rfl ?_
        refine k_istore C (pc2 := 67) (dkAt dkX8_order 39 (q := (65, .istore 6, 2)) rfl) rfl (by decide) (lv2 := [(6, .int 0), (0, rA G o0), (1, .int x1), (2, .int x2), (3, .int x3), (4, .int x4), (5, .int x5)]) rfl ?_
        refine k_iload C (pc2 := 69) (dkAt dkX8_order 40 (q := (67, .iload 6, 2)) rfl) rfl 0 rfl ?_
        refine k_if_eq C (tgt := 96) (pc2 := 72) (dkAt dkX8_order 41 (q := (69, .ifCond .eq 27, 3)) rfl) (by decide) rfl h (fun h => ?_) (fun h => ?_)
        · refine k_iload_n C (pc2 := 97) (dkAt dkX8_order 54 (q := (96, .iload_n 3, 1)) rfl) rfl rfl 4 rfl ?_
          refine k_istore_n C (pc2 := 98) (dkAt dkX8_order 55 (q := (97, .istore_n 3, 1)) rfl) rfl rfl (by decide) (lv2 := [(3, .int x3), (6, .int 0), (0, rA G o0), (1, .int x1), (2, .int x2), (4, .int x4), (5, .int x5)]) rfl ?_
          refine kb_iinc C (pc2 := 101) (dkAt dkX8_order 56 (q := (98, .iinc 5 1, 3)) rfl) rfl (j := 6) rfl (v := x5 + 1) rfl (by decide) (lv2 := fun v5 => [(5, .int v5), (3, .int x3), (6, .int 0), (0, rA G o0), (1, .int x1), (2, .int x2), (4, .int x4)]) (fun _ => rfl) h (fun v5 h => ?_)
          refine k_goto C (tgt := 42) (dkAt dkX8_order 57 (q := (101, .goto (-59), 3)) rfl) (by decide) ?_
          refine k_lv [3, 4, 5, 1, 6, 0] (lv2 := [(0, rA G o0), (1, .int x1), (2, .int x2), (3, .int x3), (4, .int x4), (5, .int v5)]) rfl ?_
          exact ih x3 v5 h
        · refine k_iload_n C (pc2 := 73) (dkAt dkX8_order 42 (q := (72, .iload_n 3, 1)) rfl) rfl rfl 4 rfl ?_
          refine k_iconst C (pc2 := 74) (dkAt dkX8_order 43 (q := (73, .iconst (-1), 1)) rfl) rfl (v := (-1)) rfl ?_
          refine k_icmp_eq C (tgt := 91) (pc2 := 77) (dkAt dkX8_order 44 (q := (74, .if_icmp .eq 17, 3)) rfl) (by decide) rfl h (fun h => ?_) (fun h => ?_)
          · refine k_iload C (pc2 := 93) (dkAt dkX8_order 52 (q := (91, .iload 5, 2)) rfl) rfl 6 rfl ?_
            refine k_goto C (tgt := 97) (dkAt dkX8_order 53 (q := (93, .goto 4, 3)) rfl) (by decide) ?_
            refine k_istore_n C (pc2 := 98) (dkAt dkX8_order 55 (q := (97, .istore_n 3, 1)) rfl) rfl rfl (by decide) (lv2 := [(3, .int x5), (6, .int 0), (0, rA G o0), (1, .int x1), (2, .int x2), (4, .int x4), (5, .int x5)]) rfl ?_
            refine kb_iinc C (pc2 := 101) (dkAt dkX8_order 56 (q := (98, .iinc 5 1, 3)) rfl) rfl (j := 6) rfl (v := x5 + 1) rfl (by decide) (lv2 := fun v6 => [(5, .int v6), (3, .int x5), (6, .int 0), (0, rA G o0), (1, .int x1), (2, .int x2), (4, .int x4)]) (fun _ => rfl) h (fun v6 h => ?_)
            refine k_goto C (tgt := 42) (dkAt dkX8_order 57 (q := (101, .goto (-59), 3)) rfl) (by decide) ?_
            refine k_lv [3, 4, 5, 1, 6, 0] (lv2 := [(0, rA G o0), (1, .int x1), (2, .int x2), (3, .int x5), (4, .int x4), (5, .int v6)]) rfl ?_
            exact ih x5 v6 h
          · refine k_aload_n C (pc2 := 78) (dkAt dkX8_order 45 (q := (77, .aload_n 0, 1)) rfl) rfl rfl 1 rfl ?_
            refine k_iload C (pc2 := 80) (dkAt dkX8_order 46 (q := (78, .iload 5, 2)) rfl) rfl 6 rfl ?_
            obtain ⟨q7, e8, h⟩ := ob_inv h
            refine kc_V C (As := [.int x5]) (st2 := [.int q7]) (ct_X8_countOf l G sh xs o0 h0 x5 M q7 e8) (cl_X8_256 (hts_of C) ⟨Nat.le_of_ble_eq_true rfl, Nat.le_of_ble_eq_true rfl⟩ rfl rfl) h0.1 rfl rfl rfl rfl rfl (Nat.le_of_ble_eq_true rfl) (dkAt dkX8_order 47 (q := (80, .invokevirtual 256, 3)) rfl) ⟨Nat.zero_le _, Nat.zero_le _⟩ (pc2 := 83) rfl rfl ?_
            refine k_aload_n C (pc2 := 84) (dkAt dkX8_order 48 (q := (83, .aload_n 0, 1)) rfl) rfl rfl 1 rfl ?_
            refine k_iload_n C (pc2 := 85) (dkAt dkX8_order 49 (q := (84, .iload_n 3, 1)) rfl) rfl rfl 4 rfl ?_
            obtain ⟨q9, e10, h⟩ := ob_inv h
            refine kc_V C (As := [.int x3]) (st2 := [.int q9, .int q7]) (ct_X8_countOf l G sh xs o0 h0 x3 M q9 e10) (cl_X8_256 (hts_of C) ⟨Nat.le_of_ble_eq_true rfl, Nat.le_of_ble_eq_true rfl⟩ rfl rfl) h0.1 rfl rfl rfl rfl rfl (Nat.le_of_ble_eq_true rfl) (dkAt dkX8_order 50 (q := (85, .invokevirtual 256, 3)) rfl) ⟨Nat.zero_le _, Nat.zero_le _⟩ (pc2 := 88) rfl rfl ?_
            refine k_icmp_le C (tgt := 96) (pc2 := 91) (dkAt dkX8_order 51 (q := (88, .if_icmp .le 8, 3)) rfl) (by decide) rfl h (fun h => ?_) (fun h => ?_)
            · refine k_iload_n C (pc2 := 97) (dkAt dkX8_order 54 (q := (96, .iload_n 3, 1)) rfl) rfl rfl 4 rfl ?_
              refine k_istore_n C (pc2 := 98) (dkAt dkX8_order 55 (q := (97, .istore_n 3, 1)) rfl) rfl rfl (by decide) (lv2 := [(3, .int x3), (6, .int 0), (0, rA G o0), (1, .int x1), (2, .int x2), (4, .int x4), (5, .int x5)]) rfl ?_
              refine kb_iinc C (pc2 := 101) (dkAt dkX8_order 56 (q := (98, .iinc 5 1, 3)) rfl) rfl (j := 6) rfl (v := x5 + 1) rfl (by decide) (lv2 := fun v11 => [(5, .int v11), (3, .int x3), (6, .int 0), (0, rA G o0), (1, .int x1), (2, .int x2), (4, .int x4)]) (fun _ => rfl) h (fun v11 h => ?_)
              refine k_goto C (tgt := 42) (dkAt dkX8_order 57 (q := (101, .goto (-59), 3)) rfl) (by decide) ?_
              refine k_lv [3, 4, 5, 1, 6, 0] (lv2 := [(0, rA G o0), (1, .int x1), (2, .int x2), (3, .int x3), (4, .int x4), (5, .int v11)]) rfl ?_
              exact ih x3 v11 h
            · refine k_iload C (pc2 := 93) (dkAt dkX8_order 52 (q := (91, .iload 5, 2)) rfl) rfl 6 rfl ?_
              refine k_goto C (tgt := 97) (dkAt dkX8_order 53 (q := (93, .goto 4, 3)) rfl) (by decide) ?_
              refine k_istore_n C (pc2 := 98) (dkAt dkX8_order 55 (q := (97, .istore_n 3, 1)) rfl) rfl rfl (by decide) (lv2 := [(3, .int x5), (6, .int 0), (0, rA G o0), (1, .int x1), (2, .int x2), (4, .int x4), (5, .int x5)]) rfl ?_
              refine kb_iinc C (pc2 := 101) (dkAt dkX8_order 56 (q := (98, .iinc 5 1, 3)) rfl) rfl (j := 6) rfl (v := x5 + 1) rfl (by decide) (lv2 := fun v12 => [(5, .int v12), (3, .int x5), (6, .int 0), (0, rA G o0), (1, .int x1), (2, .int x2), (4, .int x4)]) (fun _ => rfl) h (fun v12 h => ?_)
              refine k_goto C (tgt := 42) (dkAt dkX8_order 57 (q := (101, .goto (-59), 3)) rfl) (by decide) ?_
              refine k_lv [3, 4, 5, 1, 6, 0] (lv2 := [(0, rA G o0), (1, .int x1), (2, .int x2), (3, .int x5), (4, .int x4), (5, .int v12)]) rfl ?_
              exact ih x5 v12 h
      · refine k_iconst C (pc2 := 61) (dkAt dkX8_order 36 (q := (60, .iconst 1, 1)) rfl) rfl (v := 1) rfl ?_
        refine k_goto C (tgt := 65) (dkAt dkX8_order 37 (q := (61, .goto 4, 3)) rfl) (by decide) ?_
        refine k_istore C (pc2 := 67) (dkAt dkX8_order 39 (q := (65, .istore 6, 2)) rfl) rfl (by decide) (lv2 := [(6, .int 1), (0, rA G o0), (1, .int x1), (2, .int x2), (3, .int x3), (4, .int x4), (5, .int x5)]) rfl ?_
        refine k_iload C (pc2 := 69) (dkAt dkX8_order 40 (q := (67, .iload 6, 2)) rfl) rfl 0 rfl ?_
        refine k_if_eq C (tgt := 96) (pc2 := 72) (dkAt dkX8_order 41 (q := (69, .ifCond .eq 27, 3)) rfl) (by decide) rfl h (fun h => ?_) (fun h => ?_)
        · refine k_iload_n C (pc2 := 97) (dkAt dkX8_order 54 (q := (96, .iload_n 3, 1)) rfl) rfl rfl 4 rfl ?_
          refine k_istore_n C (pc2 := 98) (dkAt dkX8_order 55 (q := (97, .istore_n 3, 1)) rfl) rfl rfl (by decide) (lv2 := [(3, .int x3), (6, .int 1), (0, rA G o0), (1, .int x1), (2, .int x2), (4, .int x4), (5, .int x5)]) rfl ?_
          refine kb_iinc C (pc2 := 101) (dkAt dkX8_order 56 (q := (98, .iinc 5 1, 3)) rfl) rfl (j := 6) rfl (v := x5 + 1) rfl (by decide) (lv2 := fun v13 => [(5, .int v13), (3, .int x3), (6, .int 1), (0, rA G o0), (1, .int x1), (2, .int x2), (4, .int x4)]) (fun _ => rfl) h (fun v13 h => ?_)
          refine k_goto C (tgt := 42) (dkAt dkX8_order 57 (q := (101, .goto (-59), 3)) rfl) (by decide) ?_
          refine k_lv [3, 4, 5, 1, 6, 0] (lv2 := [(0, rA G o0), (1, .int x1), (2, .int x2), (3, .int x3), (4, .int x4), (5, .int v13)]) rfl ?_
          exact ih x3 v13 h
        · refine k_iload_n C (pc2 := 73) (dkAt dkX8_order 42 (q := (72, .iload_n 3, 1)) rfl) rfl rfl 4 rfl ?_
          refine k_iconst C (pc2 := 74) (dkAt dkX8_order 43 (q := (73, .iconst (-1), 1)) rfl) rfl (v := (-1)) rfl ?_
          refine k_icmp_eq C (tgt := 91) (pc2 := 77) (dkAt dkX8_order 44 (q := (74, .if_icmp .eq 17, 3)) rfl) (by decide) rfl h (fun h => ?_) (fun h => ?_)
          · refine k_iload C (pc2 := 93) (dkAt dkX8_order 52 (q := (91, .iload 5, 2)) rfl) rfl 6 rfl ?_
            refine k_goto C (tgt := 97) (dkAt dkX8_order 53 (q := (93, .goto 4, 3)) rfl) (by decide) ?_
            refine k_istore_n C (pc2 := 98) (dkAt dkX8_order 55 (q := (97, .istore_n 3, 1)) rfl) rfl rfl (by decide) (lv2 := [(3, .int x5), (6, .int 1), (0, rA G o0), (1, .int x1), (2, .int x2), (4, .int x4), (5, .int x5)]) rfl ?_
            refine kb_iinc C (pc2 := 101) (dkAt dkX8_order 56 (q := (98, .iinc 5 1, 3)) rfl) rfl (j := 6) rfl (v := x5 + 1) rfl (by decide) (lv2 := fun v14 => [(5, .int v14), (3, .int x5), (6, .int 1), (0, rA G o0), (1, .int x1), (2, .int x2), (4, .int x4)]) (fun _ => rfl) h (fun v14 h => ?_)
            refine k_goto C (tgt := 42) (dkAt dkX8_order 57 (q := (101, .goto (-59), 3)) rfl) (by decide) ?_
            refine k_lv [3, 4, 5, 1, 6, 0] (lv2 := [(0, rA G o0), (1, .int x1), (2, .int x2), (3, .int x5), (4, .int x4), (5, .int v14)]) rfl ?_
            exact ih x5 v14 h
          · refine k_aload_n C (pc2 := 78) (dkAt dkX8_order 45 (q := (77, .aload_n 0, 1)) rfl) rfl rfl 1 rfl ?_
            refine k_iload C (pc2 := 80) (dkAt dkX8_order 46 (q := (78, .iload 5, 2)) rfl) rfl 6 rfl ?_
            obtain ⟨q15, e16, h⟩ := ob_inv h
            refine kc_V C (As := [.int x5]) (st2 := [.int q15]) (ct_X8_countOf l G sh xs o0 h0 x5 M q15 e16) (cl_X8_256 (hts_of C) ⟨Nat.le_of_ble_eq_true rfl, Nat.le_of_ble_eq_true rfl⟩ rfl rfl) h0.1 rfl rfl rfl rfl rfl (Nat.le_of_ble_eq_true rfl) (dkAt dkX8_order 47 (q := (80, .invokevirtual 256, 3)) rfl) ⟨Nat.zero_le _, Nat.zero_le _⟩ (pc2 := 83) rfl rfl ?_
            refine k_aload_n C (pc2 := 84) (dkAt dkX8_order 48 (q := (83, .aload_n 0, 1)) rfl) rfl rfl 1 rfl ?_
            refine k_iload_n C (pc2 := 85) (dkAt dkX8_order 49 (q := (84, .iload_n 3, 1)) rfl) rfl rfl 4 rfl ?_
            obtain ⟨q17, e18, h⟩ := ob_inv h
            refine kc_V C (As := [.int x3]) (st2 := [.int q17, .int q15]) (ct_X8_countOf l G sh xs o0 h0 x3 M q17 e18) (cl_X8_256 (hts_of C) ⟨Nat.le_of_ble_eq_true rfl, Nat.le_of_ble_eq_true rfl⟩ rfl rfl) h0.1 rfl rfl rfl rfl rfl (Nat.le_of_ble_eq_true rfl) (dkAt dkX8_order 50 (q := (85, .invokevirtual 256, 3)) rfl) ⟨Nat.zero_le _, Nat.zero_le _⟩ (pc2 := 88) rfl rfl ?_
            refine k_icmp_le C (tgt := 96) (pc2 := 91) (dkAt dkX8_order 51 (q := (88, .if_icmp .le 8, 3)) rfl) (by decide) rfl h (fun h => ?_) (fun h => ?_)
            · refine k_iload_n C (pc2 := 97) (dkAt dkX8_order 54 (q := (96, .iload_n 3, 1)) rfl) rfl rfl 4 rfl ?_
              refine k_istore_n C (pc2 := 98) (dkAt dkX8_order 55 (q := (97, .istore_n 3, 1)) rfl) rfl rfl (by decide) (lv2 := [(3, .int x3), (6, .int 1), (0, rA G o0), (1, .int x1), (2, .int x2), (4, .int x4), (5, .int x5)]) rfl ?_
              refine kb_iinc C (pc2 := 101) (dkAt dkX8_order 56 (q := (98, .iinc 5 1, 3)) rfl) rfl (j := 6) rfl (v := x5 + 1) rfl (by decide) (lv2 := fun v19 => [(5, .int v19), (3, .int x3), (6, .int 1), (0, rA G o0), (1, .int x1), (2, .int x2), (4, .int x4)]) (fun _ => rfl) h (fun v19 h => ?_)
              refine k_goto C (tgt := 42) (dkAt dkX8_order 57 (q := (101, .goto (-59), 3)) rfl) (by decide) ?_
              refine k_lv [3, 4, 5, 1, 6, 0] (lv2 := [(0, rA G o0), (1, .int x1), (2, .int x2), (3, .int x3), (4, .int x4), (5, .int v19)]) rfl ?_
              exact ih x3 v19 h
            · refine k_iload C (pc2 := 93) (dkAt dkX8_order 52 (q := (91, .iload 5, 2)) rfl) rfl 6 rfl ?_
              refine k_goto C (tgt := 97) (dkAt dkX8_order 53 (q := (93, .goto 4, 3)) rfl) (by decide) ?_
              refine k_istore_n C (pc2 := 98) (dkAt dkX8_order 55 (q := (97, .istore_n 3, 1)) rfl) rfl rfl (by decide) (lv2 := [(3, .int x5), (6, .int 1), (0, rA G o0), (1, .int x1), (2, .int x2), (4, .int x4), (5, .int x5)]) rfl ?_
              refine kb_iinc C (pc2 := 101) (dkAt dkX8_order 56 (q := (98, .iinc 5 1, 3)) rfl) rfl (j := 6) rfl (v := x5 + 1) rfl (by decide) (lv2 := fun v20 => [(5, .int v20), (3, .int x5), (6, .int 1), (0, rA G o0), (1, .int x1), (2, .int x2), (4, .int x4)]) (fun _ => rfl) h (fun v20 h => ?_)
              refine k_goto C (tgt := 42) (dkAt dkX8_order 57 (q := (101, .goto (-59), 3)) rfl) (by decide) ?_
              refine k_lv [3, 4, 5, 1, 6, 0] (lv2 := [(0, rA G o0), (1, .int x1), (2, .int x2), (3, .int x5), (4, .int x4), (5, .int v20)]) rfl ?_
              exact ih x5 v20 h
set_option maxRecDepth 100000 in
set_option maxHeartbeats 4000000 in
theorem kl_X8_order_L31 {p : Program} {l : Launch} {e : Env} {s : State} {m : MethodId} {args : Array Value} {below : List Frame} {meth : Method} {c : Code} {G : GG} {sh : Sh} {xs : List va_E} {Q : State → Prop} (C : Cx p s m c args meth G RX8 cX8_order 7 (some .int)) (o0 : Nat) (h0 : isM sh o0) (x1 : Int32) (M : Mm) (y3 : Int32) (hcont : KW p l e rm_X8_order s m args below meth c G 7 Q sh xs 0 0 M 116 [(3, .int y3)] []) : ∀ (n : Nat) (x2 : Int32) (x3 : Int32) (x4 : Int32), f_X8_order_L31 o0 x1 M n x2 x3 x4 = some y3 → KW p l e rm_X8_order s m args below meth c G 7 Q sh xs 0 0 M 31 [(0, rA G o0), (1, .int x1), (2, .int x2), (3, .int x3), (4, .int x4)] [] := by
  intro n
  induction n with
  | zero =>
    intro x2 x3 x4 h
    cases h
  | succ n ih =>
    intro x2 x3 x4 h
    unfold f_X8_order_L31 at h
    refine k_iload C (pc2 := 33) (dkAt dkX8_order 19 (q := (31, .iload 4, 2)) rfl) rfl 4 rfl ?_
    refine k_iload_n C (pc2 := 34) (dkAt dkX8_order 20 (q := (33, .iload_n 1, 1)) rfl) rfl rfl 1 rfl ?_
    refine k_icmp_gt C (tgt := 116) (pc2 := 37) (dkAt dkX8_order 21 (q := (34, .if_icmp .gt 82, 3)) rfl) (by decide) rfl h (fun h => ?_) (fun h => ?_)
    · refine k_lv [3] (lv2 := [(3, .int x3)]) rfl ?_
      cases h
      exact hcont
    · refine k_iconst C (pc2 := 38) (dkAt dkX8_order 22 (q := (37, .iconst (-1), 1)) rfl) rfl (v := (-1)) rfl ?_
      refine k_istore_n C (pc2 := 39) (dkAt dkX8_order 23 (q := (38, .istore_n 3, 1)) rfl) rfl rfl (by decide) (lv2 := [(3, .int (-1)), (0, rA G o0), (1, .int x1), (2, .int x2), (4, .int x4)]) rfl ?_
      refine k_iconst C (pc2 := 40) (dkAt dkX8_order 24 (q := (39, .iconst 0, 1)) rfl) rfl (v := 0) rfl ?_
      refine k_istore C (pc2 := 42) (dkAt dkX8_order 25 (q := (40, .istore 5, 2)) rfl) rfl (by decide) (lv2 := [(5, .int 0), (3, .int (-1)), (0, rA G o0), (1, .int x1), (2, .int x2), (4, .int x4)]) rfl ?_
      refine k_lv [2, 3, 4, 1, 5, 0] (lv2 := [(0, rA G o0), (1, .int x1), (2, .int x2), (3, .int (-1)), (4, .int x4), (5, .int 0)]) rfl ?_
      obtain ⟨v23, e22, h⟩ := ob_inv h
      refine kl_X8_order_L42 C o0 h0 x1 x2 x4 M v23 ?_ 1000 (-1) 0 e22
      refine k_iload_n C (pc2 := 105) (dkAt dkX8_order 58 (q := (104, .iload_n 2, 1)) rfl) rfl rfl 2 rfl ?_
      refine k_iconst C (pc2 := 106) (dkAt dkX8_order 59 (q := (105, .iconst 1, 1)) rfl) rfl (v := 1) rfl ?_
      refine k_iload_n C (pc2 := 107) (dkAt dkX8_order 60 (q := (106, .iload_n 3, 1)) rfl) rfl rfl 3 rfl ?_
      refine k_ishl C (pc2 := 108) (dkAt dkX8_order 61 (q := (107, .ishl, 1)) rfl) rfl ?_
      refine k_ior C (pc2 := 109) (dkAt dkX8_order 62 (q := (108, .ior, 1)) rfl) rfl ?_
      refine kb_istore_n C (pc2 := 110) (dkAt dkX8_order 63 (q := (109, .istore_n 2, 1)) rfl) rfl rfl (by decide) (lv2 := fun v24 => [(2, .int v24), (0, rA G o0), (1, .int x1), (3, .int v23), (4, .int x4)]) (fun _ => rfl) h (fun v24 h => ?_)
      refine kb_iinc C (pc2 := 113) (dkAt dkX8_order 64 (q := (110, .iinc 4 1, 3)) rfl) rfl (j := 4) rfl (v := x4 + 1) rfl (by decide) (lv2 := fun v25 => [(4, .int v25), (2, .int v24), (0, rA G o0), (1, .int x1), (3, .int v23)]) (fun _ => rfl) h (fun v25 h => ?_)
      refine k_goto C (tgt := 31) (dkAt dkX8_order 65 (q := (113, .goto (-82), 3)) rfl) (by decide) ?_
      refine k_lv [2, 3, 1, 4, 0] (lv2 := [(0, rA G o0), (1, .int x1), (2, .int v24), (3, .int v23), (4, .int v25)]) rfl ?_
      exact ih v24 v23 v25 h
set_option maxRecDepth 100000 in
set_option maxHeartbeats 4000000 in
theorem ct_X8_order (l : Launch) (G : GG) (sh : Sh) (xs : List va_E) (o0 : Nat) (h0 : isM sh o0) (x1 : Int32) (M : Mm) (r : Mm × Int32) (h : f_X8_order o0 x1 M = some r) : Ct l yX8_order cX8_order 7 (some .int) rm_X8_order G [rA G o0, .int x1] sh M xs (some (.int r.2)) sh r.1 xs 0 0 := by
  refine ct_of (by decide) (Nat.le_of_ble_eq_true rfl) ?_
  intro p e s m args below meth c hnm C
  refine k_lv [0, 1] (lv2 := [(0, rA G o0), (1, .int x1)]) rfl ?_
  unfold f_X8_order at h
  refine k_aload_n C (pc2 := 1) (dkAt dkX8_order 0 (q := (0, .aload_n 0, 1)) rfl) rfl rfl 0 rfl ?_
  refine k_iload_n C (pc2 := 2) (dkAt dkX8_order 1 (q := (1, .iload_n 1, 1)) rfl) rfl rfl 1 rfl ?_
  refine k_i2l C (pc2 := 3) (dkAt dkX8_order 2 (q := (2, .i2l, 1)) rfl) rfl ?_
  obtain ⟨q1, e2, h⟩ := ob_inv h
  refine kc_V C (As := [.long x1.toInt64]) (st2 := [.int q1]) (ct_X8_isDay l G sh xs o0 h0 x1.toInt64 M q1 e2) (cl_X8_135 (hts_of C) ⟨Nat.le_of_ble_eq_true rfl, Nat.le_of_ble_eq_true rfl⟩ rfl rfl) h0.1 rfl rfl rfl rfl rfl (Nat.le_of_ble_eq_true rfl) (dkAt dkX8_order 3 (q := (3, .invokevirtual 135, 3)) rfl) ⟨Nat.zero_le _, Nat.zero_le _⟩ (pc2 := 6) rfl rfl ?_
  refine k_if_ne C (tgt := 16) (pc2 := 9) (dkAt dkX8_order 4 (q := (6, .ifCond .ne 10, 3)) rfl) (by decide) rfl h (fun h => ?_) (fun h => ?_)
  · refine k_aload_n C (pc2 := 17) (dkAt dkX8_order 9 (q := (16, .aload_n 0, 1)) rfl) rfl rfl 0 rfl ?_
    refine k_aload_n C (pc2 := 18) (dkAt dkX8_order 10 (q := (17, .aload_n 0, 1)) rfl) rfl rfl 0 rfl ?_
    refine kf_X8_82 C (pc2 := 21) (o := o0) (o2 := 0) h0.1 (dkAt dkX8_order 11 (q := (18, .getfield 82, 3)) rfl) rfl ?_
    obtain ⟨q3, e4, h⟩ := ob_inv h
    refine kc_V C (As := [.int (M.1 o0 10)]) (st2 := []) (ct_X8_findTicks l G sh xs o0 h0 (M.1 o0 10) M q3 e4) (cl_X8_253 (hts_of C) ⟨Nat.le_of_ble_eq_true rfl, Nat.le_of_ble_eq_true rfl⟩ rfl rfl) h0.1 rfl rfl rfl rfl rfl (Nat.le_of_ble_eq_true rfl) (dkAt dkX8_order 12 (q := (21, .invokevirtual 253, 3)) rfl) ⟨Nat.zero_le _, Nat.zero_le _⟩ (pc2 := 24) rfl rfl ?_
    refine k_iconst C (pc2 := 25) (dkAt dkX8_order 13 (q := (24, .iconst 0, 1)) rfl) rfl (v := 0) rfl ?_
    refine k_istore_n C (pc2 := 26) (dkAt dkX8_order 14 (q := (25, .istore_n 2, 1)) rfl) rfl rfl (by decide) (lv2 := [(2, .int 0), (0, rA G o0), (1, .int x1)]) rfl ?_
    refine k_iconst C (pc2 := 27) (dkAt dkX8_order 15 (q := (26, .iconst (-1), 1)) rfl) rfl (v := (-1)) rfl ?_
    refine k_istore_n C (pc2 := 28) (dkAt dkX8_order 16 (q := (27, .istore_n 3, 1)) rfl) rfl rfl (by decide) (lv2 := [(3, .int (-1)), (2, .int 0), (0, rA G o0), (1, .int x1)]) rfl ?_
    refine k_iconst C (pc2 := 29) (dkAt dkX8_order 17 (q := (28, .iconst 0, 1)) rfl) rfl (v := 0) rfl ?_
    refine k_istore C (pc2 := 31) (dkAt dkX8_order 18 (q := (29, .istore 4, 2)) rfl) rfl (by decide) (lv2 := [(4, .int 0), (3, .int (-1)), (2, .int 0), (0, rA G o0), (1, .int x1)]) rfl ?_
    refine k_lv [3, 4, 2, 1, 0] (lv2 := [(0, rA G o0), (1, .int x1), (2, .int 0), (3, .int (-1)), (4, .int 0)]) rfl ?_
    obtain ⟨v28, e27, h⟩ := ob_inv h
    refine kl_X8_order_L31 C o0 h0 x1 q3 v28 ?_ 1000 0 (-1) 0 e27
    refine k_iload_n C (pc2 := 117) (dkAt dkX8_order 66 (q := (116, .iload_n 3, 1)) rfl) rfl rfl 0 rfl ?_
    exact k_iret C (dkAt dkX8_order 67 (q := (117, .ireturn, 1)) rfl) (pe2 (Option.some.inj h)) rfl (pe1 (Option.some.inj h)) rfl
  · refine k_aload_n C (pc2 := 10) (dkAt dkX8_order 5 (q := (9, .aload_n 0, 1)) rfl) rfl rfl 0 rfl ?_
    refine k_bipush C (pc2 := 12) (dkAt dkX8_order 6 (q := (10, .bipush (-2), 2)) rfl) rfl (v := (-2)) rfl ?_
    obtain ⟨q29, e30, h⟩ := ob_inv h
    refine kc_V C (As := [.int (-2)]) (st2 := [.int q29.2]) (ct_X8_refuse l G sh xs o0 h0 (-2) M q29 e30) (cl_X8_97 (hts_of C) ⟨Nat.le_of_ble_eq_true rfl, Nat.le_of_ble_eq_true rfl⟩ rfl rfl) h0.1 rfl rfl rfl rfl rfl (Nat.le_of_ble_eq_true rfl) (dkAt dkX8_order 7 (q := (12, .invokevirtual 97, 3)) rfl) ⟨Nat.zero_le _, Nat.zero_le _⟩ (pc2 := 15) rfl rfl ?_
    exact k_iret C (dkAt dkX8_order 8 (q := (15, .ireturn, 1)) rfl) (pe2 (Option.some.inj h)) rfl (pe1 (Option.some.inj h)) rfl
set_option maxRecDepth 100000 in
set_option maxHeartbeats 4000000 in
theorem kl_X8_without_L27 {p : Program} {l : Launch} {e : Env} {s : State} {m : MethodId} {args : Array Value} {below : List Frame} {meth : Method} {c : Code} {G : GG} {sh : Sh} {xs : List va_E} {Q : State → Prop} (C : Cx p s m c args meth G RX8 cX8_without 4 (some .int)) (o0 : Nat) (h0 : isM sh o0) (x1 : Int32) (M : Mm) (y2 : Int32) (hcont : KW p l e rm_X8_without s m args below meth c G 4 Q sh xs 0 0 M 78 [(2, .int y2)] []) : ∀ (n : Nat) (x2 : Int32) (x3 : Int32), f_X8_without_L27 o0 x1 M n x2 x3 = some y2 → KW p l e rm_X8_without s m args below meth c G 4 Q sh xs 0 0 M 27 [(0, rA G o0), (1, .int x1), (2, .int x2), (3, .int x3)] [] := by
  intro n
  induction n with
  | zero =>
    intro x2 x3 h
    cases h
  | succ n ih =>
    intro x2 x3 h
    unfold f_X8_without_L27 at h
    refine k_iload_n C (pc2 := 28) (dkAt dkX8_without 16 (q := (27, .iload_n 3, 1)) rfl) rfl rfl 3 rfl ?_
    refine k_aload_n C (pc2 := 29) (dkAt dkX8_without 17 (q := (28, .aload_n 0, 1)) rfl) rfl rfl 0 rfl ?_
    refine kf_X8_37 C (pc2 := 32) (o := o0) (o2 := 0) h0.1 (dkAt dkX8_without 18 (q := (29, .getfield 37, 3)) rfl) rfl ?_
    refine k_icmp_ge C (tgt := 78) (pc2 := 35) (dkAt dkX8_without 19 (q := (32, .if_icmp .ge 46, 3)) rfl) (by decide) rfl h (fun h => ?_) (fun h => ?_)
    · refine k_lv [2] (lv2 := [(2, .int x2)]) rfl ?_
      cases h
      exact hcont
    · refine k_aload_n C (pc2 := 36) (dkAt dkX8_without 20 (q := (35, .aload_n 0, 1)) rfl) rfl rfl 0 rfl ?_
      refine k_iload_n C (pc2 := 37) (dkAt dkX8_without 21 (q := (36, .iload_n 3, 1)) rfl) rfl rfl 3 rfl ?_
      obtain ⟨q5, e6, h⟩ := ob_inv h
      refine kc_V C (As := [.int x3]) (st2 := [.int q5]) (ct_X8_countOf l G sh xs o0 h0 x3 M q5 e6) (cl_X8_256 (hts_of C) ⟨Nat.le_of_ble_eq_true rfl, Nat.le_of_ble_eq_true rfl⟩ rfl rfl) h0.1 rfl rfl rfl rfl rfl (Nat.le_of_ble_eq_true rfl) (dkAt dkX8_without 22 (q := (37, .invokevirtual 256, 3)) rfl) ⟨Nat.zero_le _, Nat.zero_le _⟩ (pc2 := 40) rfl rfl ?_
      refine k_aload_n C (pc2 := 41) (dkAt dkX8_without 23 (q := (40, .aload_n 0, 1)) rfl) rfl rfl 0 rfl ?_
      refine kf_X8_67 C (pc2 := 44) (o := o0) (o2 := o0 + 24) h0.1 rfl (dkAt dkX8_without 24 (q := (41, .getfield 67, 3)) rfl) rfl ?_
      refine k_iload_n C (pc2 := 45) (dkAt dkX8_without 25 (q := (44, .iload_n 1, 1)) rfl) rfl rfl 1 rfl ?_
      refine k_aa13 C (pc2 := 46) (o := o0 + 24) (o2 := o0 + 25 + x1.toNatClampNeg) (nA := 8) (isM_ticks h0) rfl (dkAt dkX8_without 26 (q := (45, .aaload, 1)) rfl) rfl h (fun h hl7 => ?_)
      refine k_iload_n C (pc2 := 47) (dkAt dkX8_without 27 (q := (46, .iload_n 3, 1)) rfl) rfl rfl 3 rfl ?_
      refine k_iald C (pc2 := 48) (o := o0 + 25 + x1.toNatClampNeg) (nA := 14) (isM_ticksI h0 _ hl7) (dkAt dkX8_without 28 (q := (47, .iaload, 1)) rfl) rfl h (fun h => ?_)
      refine k_isub C (pc2 := 49) (dkAt dkX8_without 29 (q := (48, .isub, 1)) rfl) rfl ?_
      refine k_aload_n C (pc2 := 50) (dkAt dkX8_without 30 (q := (49, .aload_n 0, 1)) rfl) rfl rfl 0 rfl ?_
      refine k_iload_n C (pc2 := 51) (dkAt dkX8_without 31 (q := (50, .iload_n 2, 1)) rfl) rfl rfl 2 rfl ?_
      obtain ⟨q8, e9, h⟩ := ob_inv h
      refine kc_V C (As := [.int x2]) (st2 := [.int q8, .int (q5 - (M.1 (o0 + 25 + x1.toNatClampNeg) x3.toNatClampNeg))]) (ct_X8_countOf l G sh xs o0 h0 x2 M q8 e9) (cl_X8_256 (hts_of C) ⟨Nat.le_of_ble_eq_true rfl, Nat.le_of_ble_eq_true rfl⟩ rfl rfl) h0.1 rfl rfl rfl rfl rfl (Nat.le_of_ble_eq_true rfl) (dkAt dkX8_without 32 (q := (51, .invokevirtual 256, 3)) rfl) ⟨Nat.zero_le _, Nat.zero_le _⟩ (pc2 := 54) rfl rfl ?_
      refine k_aload_n C (pc2 := 55) (dkAt dkX8_without 33 (q := (54, .aload_n 0, 1)) rfl) rfl rfl 0 rfl ?_
      refine kf_X8_67 C (pc2 := 58) (o := o0) (o2 := o0 + 24) h0.1 rfl (dkAt dkX8_without 34 (q := (55, .getfield 67, 3)) rfl) rfl ?_
      refine k_iload_n C (pc2 := 59) (dkAt dkX8_without 35 (q := (58, .iload_n 1, 1)) rfl) rfl rfl 1 rfl ?_
      refine k_aa13 C (pc2 := 60) (o := o0 + 24) (o2 := o0 + 25 + x1.toNatClampNeg) (nA := 8) (isM_ticks h0) rfl (dkAt dkX8_without 36 (q := (59, .aaload, 1)) rfl) rfl h (fun h hl10 => ?_)
      refine k_iload_n C (pc2 := 61) (dkAt dkX8_without 37 (q := (60, .iload_n 2, 1)) rfl) rfl rfl 2 rfl ?_
      refine k_iald C (pc2 := 62) (o := o0 + 25 + x1.toNatClampNeg) (nA := 14) (isM_ticksI h0 _ hl10) (dkAt dkX8_without 38 (q := (61, .iaload, 1)) rfl) rfl h (fun h => ?_)
      refine k_isub C (pc2 := 63) (dkAt dkX8_without 39 (q := (62, .isub, 1)) rfl) rfl ?_
      refine k_icmp_le C (tgt := 70) (pc2 := 66) (dkAt dkX8_without 40 (q := (63, .if_icmp .le 7, 3)) rfl) (by decide) rfl h (fun h => ?_) (fun h => ?_)
      · refine k_iload_n C (pc2 := 71) (dkAt dkX8_without 43 (q := (70, .iload_n 2, 1)) rfl) rfl rfl 2 rfl ?_
        refine k_istore_n C (pc2 := 72) (dkAt dkX8_without 44 (q := (71, .istore_n 2, 1)) rfl) rfl rfl (by decide) (lv2 := [(2, .int x2), (0, rA G o0), (1, .int x1), (3, .int x3)]) rfl ?_
        refine kb_iinc C (pc2 := 75) (dkAt dkX8_without 45 (q := (72, .iinc 3 1, 3)) rfl) rfl (j := 3) rfl (v := x3 + 1) rfl (by decide) (lv2 := fun v11 => [(3, .int v11), (2, .int x2), (0, rA G o0), (1, .int x1)]) (fun _ => rfl) h (fun v11 h => ?_)
        refine k_goto C (tgt := 27) (dkAt dkX8_without 46 (q := (75, .goto (-48), 3)) rfl) (by decide) ?_
        refine k_lv [2, 3, 1, 0] (lv2 := [(0, rA G o0), (1, .int x1), (2, .int x2), (3, .int v11)]) rfl ?_
        exact ih x2 v11 h
      · refine k_iload_n C (pc2 := 67) (dkAt dkX8_without 41 (q := (66, .iload_n 3, 1)) rfl) rfl rfl 3 rfl ?_
        refine k_goto C (tgt := 71) (dkAt dkX8_without 42 (q := (67, .goto 4, 3)) rfl) (by decide) ?_
        refine k_istore_n C (pc2 := 72) (dkAt dkX8_without 44 (q := (71, .istore_n 2, 1)) rfl) rfl rfl (by decide) (lv2 := [(2, .int x3), (0, rA G o0), (1, .int x1), (3, .int x3)]) rfl ?_
        refine kb_iinc C (pc2 := 75) (dkAt dkX8_without 45 (q := (72, .iinc 3 1, 3)) rfl) rfl (j := 3) rfl (v := x3 + 1) rfl (by decide) (lv2 := fun v12 => [(3, .int v12), (2, .int x3), (0, rA G o0), (1, .int x1)]) (fun _ => rfl) h (fun v12 h => ?_)
        refine k_goto C (tgt := 27) (dkAt dkX8_without 46 (q := (75, .goto (-48), 3)) rfl) (by decide) ?_
        refine k_lv [2, 3, 1, 0] (lv2 := [(0, rA G o0), (1, .int x1), (2, .int x3), (3, .int v12)]) rfl ?_
        exact ih x3 v12 h
set_option maxRecDepth 100000 in
set_option maxHeartbeats 4000000 in
theorem ct_X8_without (l : Launch) (G : GG) (sh : Sh) (xs : List va_E) (o0 : Nat) (h0 : isM sh o0) (x1 : Int32) (M : Mm) (r : Mm × Int32) (h : f_X8_without o0 x1 M = some r) : Ct l yX8_without cX8_without 4 (some .int) rm_X8_without G [rA G o0, .int x1] sh M xs (some (.int r.2)) sh r.1 xs 0 0 := by
  refine ct_of (by decide) (Nat.le_of_ble_eq_true rfl) ?_
  intro p e s m args below meth c hnm C
  refine k_lv [0, 1] (lv2 := [(0, rA G o0), (1, .int x1)]) rfl ?_
  unfold f_X8_without at h
  refine k_aload_n C (pc2 := 1) (dkAt dkX8_without 0 (q := (0, .aload_n 0, 1)) rfl) rfl rfl 0 rfl ?_
  refine k_iload_n C (pc2 := 2) (dkAt dkX8_without 1 (q := (1, .iload_n 1, 1)) rfl) rfl rfl 1 rfl ?_
  obtain ⟨q1, e2, h⟩ := ob_inv h
  refine kc_V C (As := [.int x1]) (st2 := [.int q1]) (ct_X8_isOne l G sh xs o0 h0 x1 M q1 e2) (cl_X8_108 (hts_of C) ⟨Nat.le_of_ble_eq_true rfl, Nat.le_of_ble_eq_true rfl⟩ rfl rfl) h0.1 rfl rfl rfl rfl rfl (Nat.le_of_ble_eq_true rfl) (dkAt dkX8_without 2 (q := (2, .invokevirtual 108, 3)) rfl) ⟨Nat.zero_le _, Nat.zero_le _⟩ (pc2 := 5) rfl rfl ?_
  refine k_if_ne C (tgt := 15) (pc2 := 8) (dkAt dkX8_without 3 (q := (5, .ifCond .ne 10, 3)) rfl) (by decide) rfl h (fun h => ?_) (fun h => ?_)
  · refine k_aload_n C (pc2 := 16) (dkAt dkX8_without 8 (q := (15, .aload_n 0, 1)) rfl) rfl rfl 0 rfl ?_
    refine k_aload_n C (pc2 := 17) (dkAt dkX8_without 9 (q := (16, .aload_n 0, 1)) rfl) rfl rfl 0 rfl ?_
    refine kf_X8_82 C (pc2 := 20) (o := o0) (o2 := 0) h0.1 (dkAt dkX8_without 10 (q := (17, .getfield 82, 3)) rfl) rfl ?_
    obtain ⟨q3, e4, h⟩ := ob_inv h
    refine kc_V C (As := [.int (M.1 o0 10)]) (st2 := []) (ct_X8_findTicks l G sh xs o0 h0 (M.1 o0 10) M q3 e4) (cl_X8_253 (hts_of C) ⟨Nat.le_of_ble_eq_true rfl, Nat.le_of_ble_eq_true rfl⟩ rfl rfl) h0.1 rfl rfl rfl rfl rfl (Nat.le_of_ble_eq_true rfl) (dkAt dkX8_without 11 (q := (20, .invokevirtual 253, 3)) rfl) ⟨Nat.zero_le _, Nat.zero_le _⟩ (pc2 := 23) rfl rfl ?_
    refine k_iconst C (pc2 := 24) (dkAt dkX8_without 12 (q := (23, .iconst 0, 1)) rfl) rfl (v := 0) rfl ?_
    refine k_istore_n C (pc2 := 25) (dkAt dkX8_without 13 (q := (24, .istore_n 2, 1)) rfl) rfl rfl (by decide) (lv2 := [(2, .int 0), (0, rA G o0), (1, .int x1)]) rfl ?_
    refine k_iconst C (pc2 := 26) (dkAt dkX8_without 14 (q := (25, .iconst 1, 1)) rfl) rfl (v := 1) rfl ?_
    refine k_istore_n C (pc2 := 27) (dkAt dkX8_without 15 (q := (26, .istore_n 3, 1)) rfl) rfl rfl (by decide) (lv2 := [(3, .int 1), (2, .int 0), (0, rA G o0), (1, .int x1)]) rfl ?_
    refine k_lv [2, 3, 1, 0] (lv2 := [(0, rA G o0), (1, .int x1), (2, .int 0), (3, .int 1)]) rfl ?_
    obtain ⟨v15, e14, h⟩ := ob_inv h
    refine kl_X8_without_L27 C o0 h0 x1 q3 v15 ?_ 1000 0 1 e14
    refine k_iload_n C (pc2 := 79) (dkAt dkX8_without 47 (q := (78, .iload_n 2, 1)) rfl) rfl rfl 0 rfl ?_
    exact k_iret C (dkAt dkX8_without 48 (q := (79, .ireturn, 1)) rfl) (pe2 (Option.some.inj h)) rfl (pe1 (Option.some.inj h)) rfl
  · refine k_aload_n C (pc2 := 9) (dkAt dkX8_without 4 (q := (8, .aload_n 0, 1)) rfl) rfl rfl 0 rfl ?_
    refine k_bipush C (pc2 := 11) (dkAt dkX8_without 5 (q := (9, .bipush (-2), 2)) rfl) rfl (v := (-2)) rfl ?_
    obtain ⟨q16, e17, h⟩ := ob_inv h
    refine kc_V C (As := [.int (-2)]) (st2 := [.int q16.2]) (ct_X8_refuse l G sh xs o0 h0 (-2) M q16 e17) (cl_X8_97 (hts_of C) ⟨Nat.le_of_ble_eq_true rfl, Nat.le_of_ble_eq_true rfl⟩ rfl rfl) h0.1 rfl rfl rfl rfl rfl (Nat.le_of_ble_eq_true rfl) (dkAt dkX8_without 6 (q := (11, .invokevirtual 97, 3)) rfl) ⟨Nat.zero_le _, Nat.zero_le _⟩ (pc2 := 14) rfl rfl ?_
    exact k_iret C (dkAt dkX8_without 7 (q := (14, .ireturn, 1)) rfl) (pe2 (Option.some.inj h)) rfl (pe1 (Option.some.inj h)) rfl
set_option maxRecDepth 100000 in
set_option maxHeartbeats 4000000 in
theorem kl_X8_reachOf_L4 {p : Program} {l : Launch} {e : Env} {s : State} {m : MethodId} {args : Array Value} {below : List Frame} {meth : Method} {c : Code} {G : GG} {sh : Sh} {xs : List va_E} {Q : State → Prop} (C : Cx p s m c args meth G RX8 cX8_reachOf 4 (some .int)) (o0 : Nat) (h0 : isM sh o0) (x1 : Int32) (M : Mm) (y2 : Int32) (hcont : KW p l e rm_X8_reachOf s m args below meth c G 4 Q sh xs 0 0 M 47 [(2, .int y2)] []) : ∀ (n : Nat) (x2 : Int32) (x3 : Int32), f_X8_reachOf_L4 o0 x1 M n x2 x3 = some y2 → KW p l e rm_X8_reachOf s m args below meth c G 4 Q sh xs 0 0 M 4 [(0, rA G o0), (1, .int x1), (2, .int x2), (3, .int x3)] [] := by
  intro n
  induction n with
  | zero =>
    intro x2 x3 h
    cases h
  | succ n ih =>
    intro x2 x3 h
    unfold f_X8_reachOf_L4 at h
    refine k_iload_n C (pc2 := 5) (dkAt dkX8_reachOf 4 (q := (4, .iload_n 3, 1)) rfl) rfl rfl 3 rfl ?_
    refine k_aload_n C (pc2 := 6) (dkAt dkX8_reachOf 5 (q := (5, .aload_n 0, 1)) rfl) rfl rfl 0 rfl ?_
    refine kf_X8_82 C (pc2 := 9) (o := o0) (o2 := 0) h0.1 (dkAt dkX8_reachOf 6 (q := (6, .getfield 82, 3)) rfl) rfl ?_
    refine k_icmp_ge C (tgt := 47) (pc2 := 12) (dkAt dkX8_reachOf 7 (q := (9, .if_icmp .ge 38, 3)) rfl) (by decide) rfl h (fun h => ?_) (fun h => ?_)
    · refine k_lv [2] (lv2 := [(2, .int x2)]) rfl ?_
      cases h
      exact hcont
    · refine k_iload_n C (pc2 := 13) (dkAt dkX8_reachOf 8 (q := (12, .iload_n 2, 1)) rfl) rfl rfl 2 rfl ?_
      refine k_iload_n C (pc2 := 14) (dkAt dkX8_reachOf 9 (q := (13, .iload_n 3, 1)) rfl) rfl rfl 3 rfl ?_
      refine k_iload_n C (pc2 := 15) (dkAt dkX8_reachOf 10 (q := (14, .iload_n 1, 1)) rfl) rfl rfl 1 rfl ?_
      refine k_icmp_eq C (tgt := 38) (pc2 := 18) (dkAt dkX8_reachOf 11 (q := (15, .if_icmp .eq 23, 3)) rfl) (by decide) rfl h (fun h => ?_) (fun h => ?_)
      · refine k_iconst C (pc2 := 39) (dkAt dkX8_reachOf 24 (q := (38, .iconst 0, 1)) rfl) rfl (v := 0) rfl ?_
        refine k_iadd C (pc2 := 40) (dkAt dkX8_reachOf 25 (q := (39, .iadd, 1)) rfl) rfl ?_
        refine kb_istore_n C (pc2 := 41) (dkAt dkX8_reachOf 26 (q := (40, .istore_n 2, 1)) rfl) rfl rfl (by decide) (lv2 := fun v1 => [(2, .int v1), (0, rA G o0), (1, .int x1), (3, .int x3)]) (fun _ => rfl) h (fun v1 h => ?_)
        refine kb_iinc C (pc2 := 44) (dkAt dkX8_reachOf 27 (q := (41, .iinc 3 1, 3)) rfl) rfl (j := 3) rfl (v := x3 + 1) rfl (by decide) (lv2 := fun v2 => [(3, .int v2), (2, .int v1), (0, rA G o0), (1, .int x1)]) (fun _ => rfl) h (fun v2 h => ?_)
        refine k_goto C (tgt := 4) (dkAt dkX8_reachOf 28 (q := (44, .goto (-40), 3)) rfl) (by decide) ?_
        refine k_lv [2, 3, 1, 0] (lv2 := [(0, rA G o0), (1, .int x1), (2, .int v1), (3, .int v2)]) rfl ?_
        exact ih v1 v2 h
      · refine k_aload_n C (pc2 := 19) (dkAt dkX8_reachOf 12 (q := (18, .aload_n 0, 1)) rfl) rfl rfl 0 rfl ?_
        refine kf_X8_50 C (pc2 := 22) (o := o0) (o2 := o0 + 20) h0.1 rfl (dkAt dkX8_reachOf 13 (q := (19, .getfield 50, 3)) rfl) rfl ?_
        refine k_iload_n C (pc2 := 23) (dkAt dkX8_reachOf 14 (q := (22, .iload_n 1, 1)) rfl) rfl rfl 1 rfl ?_
        refine k_iald C (pc2 := 24) (o := o0 + 20) (nA := 8) (isM_can h0) (dkAt dkX8_reachOf 15 (q := (23, .iaload, 1)) rfl) rfl h (fun h => ?_)
        refine k_aload_n C (pc2 := 25) (dkAt dkX8_reachOf 16 (q := (24, .aload_n 0, 1)) rfl) rfl rfl 0 rfl ?_
        refine kf_X8_50 C (pc2 := 28) (o := o0) (o2 := o0 + 20) h0.1 rfl (dkAt dkX8_reachOf 17 (q := (25, .getfield 50, 3)) rfl) rfl ?_
        refine k_iload_n C (pc2 := 29) (dkAt dkX8_reachOf 18 (q := (28, .iload_n 3, 1)) rfl) rfl rfl 3 rfl ?_
        refine k_iald C (pc2 := 30) (o := o0 + 20) (nA := 8) (isM_can h0) (dkAt dkX8_reachOf 19 (q := (29, .iaload, 1)) rfl) rfl h (fun h => ?_)
        refine k_iand C (pc2 := 31) (dkAt dkX8_reachOf 20 (q := (30, .iand, 1)) rfl) rfl ?_
        refine k_if_eq C (tgt := 38) (pc2 := 34) (dkAt dkX8_reachOf 21 (q := (31, .ifCond .eq 7, 3)) rfl) (by decide) rfl h (fun h => ?_) (fun h => ?_)
        · refine k_iconst C (pc2 := 39) (dkAt dkX8_reachOf 24 (q := (38, .iconst 0, 1)) rfl) rfl (v := 0) rfl ?_
          refine k_iadd C (pc2 := 40) (dkAt dkX8_reachOf 25 (q := (39, .iadd, 1)) rfl) rfl ?_
          refine kb_istore_n C (pc2 := 41) (dkAt dkX8_reachOf 26 (q := (40, .istore_n 2, 1)) rfl) rfl rfl (by decide) (lv2 := fun v3 => [(2, .int v3), (0, rA G o0), (1, .int x1), (3, .int x3)]) (fun _ => rfl) h (fun v3 h => ?_)
          refine kb_iinc C (pc2 := 44) (dkAt dkX8_reachOf 27 (q := (41, .iinc 3 1, 3)) rfl) rfl (j := 3) rfl (v := x3 + 1) rfl (by decide) (lv2 := fun v4 => [(3, .int v4), (2, .int v3), (0, rA G o0), (1, .int x1)]) (fun _ => rfl) h (fun v4 h => ?_)
          refine k_goto C (tgt := 4) (dkAt dkX8_reachOf 28 (q := (44, .goto (-40), 3)) rfl) (by decide) ?_
          refine k_lv [2, 3, 1, 0] (lv2 := [(0, rA G o0), (1, .int x1), (2, .int v3), (3, .int v4)]) rfl ?_
          exact ih v3 v4 h
        · refine k_iconst C (pc2 := 35) (dkAt dkX8_reachOf 22 (q := (34, .iconst 1, 1)) rfl) rfl (v := 1) rfl ?_
          refine k_goto C (tgt := 39) (dkAt dkX8_reachOf 23 (q := (35, .goto 4, 3)) rfl) (by decide) ?_
          refine k_iadd C (pc2 := 40) (dkAt dkX8_reachOf 25 (q := (39, .iadd, 1)) rfl) rfl ?_
          refine kb_istore_n C (pc2 := 41) (dkAt dkX8_reachOf 26 (q := (40, .istore_n 2, 1)) rfl) rfl rfl (by decide) (lv2 := fun v5 => [(2, .int v5), (0, rA G o0), (1, .int x1), (3, .int x3)]) (fun _ => rfl) h (fun v5 h => ?_)
          refine kb_iinc C (pc2 := 44) (dkAt dkX8_reachOf 27 (q := (41, .iinc 3 1, 3)) rfl) rfl (j := 3) rfl (v := x3 + 1) rfl (by decide) (lv2 := fun v6 => [(3, .int v6), (2, .int v5), (0, rA G o0), (1, .int x1)]) (fun _ => rfl) h (fun v6 h => ?_)
          refine k_goto C (tgt := 4) (dkAt dkX8_reachOf 28 (q := (44, .goto (-40), 3)) rfl) (by decide) ?_
          refine k_lv [2, 3, 1, 0] (lv2 := [(0, rA G o0), (1, .int x1), (2, .int v5), (3, .int v6)]) rfl ?_
          exact ih v5 v6 h
set_option maxRecDepth 100000 in
set_option maxHeartbeats 4000000 in
theorem ct_X8_reachOf (l : Launch) (G : GG) (sh : Sh) (xs : List va_E) (o0 : Nat) (h0 : isM sh o0) (x1 : Int32) (M : Mm) (r : Int32) (h : f_X8_reachOf o0 x1 M = some r) : Ct l yX8_reachOf cX8_reachOf 4 (some .int) rm_X8_reachOf G [rA G o0, .int x1] sh M xs (some (.int r)) sh M xs 0 0 := by
  refine ct_of (by decide) (Nat.le_of_ble_eq_true rfl) ?_
  intro p e s m args below meth c hnm C
  refine k_lv [0, 1] (lv2 := [(0, rA G o0), (1, .int x1)]) rfl ?_
  unfold f_X8_reachOf at h
  refine k_iconst C (pc2 := 1) (dkAt dkX8_reachOf 0 (q := (0, .iconst 0, 1)) rfl) rfl (v := 0) rfl ?_
  refine k_istore_n C (pc2 := 2) (dkAt dkX8_reachOf 1 (q := (1, .istore_n 2, 1)) rfl) rfl rfl (by decide) (lv2 := [(2, .int 0), (0, rA G o0), (1, .int x1)]) rfl ?_
  refine k_iconst C (pc2 := 3) (dkAt dkX8_reachOf 2 (q := (2, .iconst 0, 1)) rfl) rfl (v := 0) rfl ?_
  refine k_istore_n C (pc2 := 4) (dkAt dkX8_reachOf 3 (q := (3, .istore_n 3, 1)) rfl) rfl rfl (by decide) (lv2 := [(3, .int 0), (2, .int 0), (0, rA G o0), (1, .int x1)]) rfl ?_
  refine k_lv [2, 3, 1, 0] (lv2 := [(0, rA G o0), (1, .int x1), (2, .int 0), (3, .int 0)]) rfl ?_
  obtain ⟨v9, e8, h⟩ := ob_inv h
  refine kl_X8_reachOf_L4 C o0 h0 x1 M v9 ?_ 1000 0 0 e8
  refine k_iload_n C (pc2 := 48) (dkAt dkX8_reachOf 29 (q := (47, .iload_n 2, 1)) rfl) rfl rfl 0 rfl ?_
  exact k_iret C (dkAt dkX8_reachOf 30 (q := (48, .ireturn, 1)) rfl) (Option.some.inj h) rfl rfl rfl
set_option maxRecDepth 100000 in
set_option maxHeartbeats 4000000 in
theorem kl_X8_alone_L4 {p : Program} {l : Launch} {e : Env} {s : State} {m : MethodId} {args : Array Value} {below : List Frame} {meth : Method} {c : Code} {G : GG} {sh : Sh} {xs : List va_E} {Q : State → Prop} (C : Cx p s m c args meth G RX8 cX8_alone 3 (some .int)) (o0 : Nat) (h0 : isM sh o0) (M : Mm) (y1 : Int32) (hcont : KW p l e rm_X8_alone s m args below meth c G 3 Q sh xs 0 0 M 36 [(1, .int y1)] []) : ∀ (n : Nat) (x1 : Int32) (x2 : Int32), f_X8_alone_L4 o0 M n x1 x2 = some y1 → KW p l e rm_X8_alone s m args below meth c G 3 Q sh xs 0 0 M 4 [(0, rA G o0), (1, .int x1), (2, .int x2)] [] := by
  intro n
  induction n with
  | zero =>
    intro x1 x2 h
    cases h
  | succ n ih =>
    intro x1 x2 h
    unfold f_X8_alone_L4 at h
    refine k_iload_n C (pc2 := 5) (dkAt dkX8_alone 4 (q := (4, .iload_n 2, 1)) rfl) rfl rfl 2 rfl ?_
    refine k_aload_n C (pc2 := 6) (dkAt dkX8_alone 5 (q := (5, .aload_n 0, 1)) rfl) rfl rfl 0 rfl ?_
    refine kf_X8_82 C (pc2 := 9) (o := o0) (o2 := 0) h0.1 (dkAt dkX8_alone 6 (q := (6, .getfield 82, 3)) rfl) rfl ?_
    refine k_icmp_ge C (tgt := 36) (pc2 := 12) (dkAt dkX8_alone 7 (q := (9, .if_icmp .ge 27, 3)) rfl) (by decide) rfl h (fun h => ?_) (fun h => ?_)
    · refine k_lv [1] (lv2 := [(1, .int x1)]) rfl ?_
      cases h
      exact hcont
    · refine k_iload_n C (pc2 := 13) (dkAt dkX8_alone 8 (q := (12, .iload_n 1, 1)) rfl) rfl rfl 1 rfl ?_
      refine k_aload_n C (pc2 := 14) (dkAt dkX8_alone 9 (q := (13, .aload_n 0, 1)) rfl) rfl rfl 0 rfl ?_
      refine k_iload_n C (pc2 := 15) (dkAt dkX8_alone 10 (q := (14, .iload_n 2, 1)) rfl) rfl rfl 2 rfl ?_
      obtain ⟨q1, e2, h⟩ := ob_inv h
      refine kc_V C (As := [.int x2]) (st2 := [.int q1, .int x1]) (ct_X8_reachOf l G sh xs o0 h0 x2 M q1 e2) (cl_X8_274 (hts_of C) ⟨Nat.le_of_ble_eq_true rfl, Nat.le_of_ble_eq_true rfl⟩ rfl rfl) h0.1 rfl rfl rfl rfl rfl (Nat.le_of_ble_eq_true rfl) (dkAt dkX8_alone 11 (q := (15, .invokevirtual 274, 3)) rfl) ⟨Nat.zero_le _, Nat.zero_le _⟩ (pc2 := 18) rfl rfl ?_
      refine k_if_ne C (tgt := 27) (pc2 := 21) (dkAt dkX8_alone 12 (q := (18, .ifCond .ne 9, 3)) rfl) (by decide) rfl h (fun h => ?_) (fun h => ?_)
      · refine k_iconst C (pc2 := 28) (dkAt dkX8_alone 17 (q := (27, .iconst 0, 1)) rfl) rfl (v := 0) rfl ?_
        refine k_ior C (pc2 := 29) (dkAt dkX8_alone 18 (q := (28, .ior, 1)) rfl) rfl ?_
        refine kb_istore_n C (pc2 := 30) (dkAt dkX8_alone 19 (q := (29, .istore_n 1, 1)) rfl) rfl rfl (by decide) (lv2 := fun v3 => [(1, .int v3), (0, rA G o0), (2, .int x2)]) (fun _ => rfl) h (fun v3 h => ?_)
        refine kb_iinc C (pc2 := 33) (dkAt dkX8_alone 20 (q := (30, .iinc 2 1, 3)) rfl) rfl (j := 2) rfl (v := x2 + 1) rfl (by decide) (lv2 := fun v4 => [(2, .int v4), (1, .int v3), (0, rA G o0)]) (fun _ => rfl) h (fun v4 h => ?_)
        refine k_goto C (tgt := 4) (dkAt dkX8_alone 21 (q := (33, .goto (-29), 3)) rfl) (by decide) ?_
        refine k_lv [2, 1, 0] (lv2 := [(0, rA G o0), (1, .int v3), (2, .int v4)]) rfl ?_
        exact ih v3 v4 h
      · refine k_iconst C (pc2 := 22) (dkAt dkX8_alone 13 (q := (21, .iconst 1, 1)) rfl) rfl (v := 1) rfl ?_
        refine k_iload_n C (pc2 := 23) (dkAt dkX8_alone 14 (q := (22, .iload_n 2, 1)) rfl) rfl rfl 2 rfl ?_
        refine k_ishl C (pc2 := 24) (dkAt dkX8_alone 15 (q := (23, .ishl, 1)) rfl) rfl ?_
        refine k_goto C (tgt := 28) (dkAt dkX8_alone 16 (q := (24, .goto 4, 3)) rfl) (by decide) ?_
        refine k_ior C (pc2 := 29) (dkAt dkX8_alone 18 (q := (28, .ior, 1)) rfl) rfl ?_
        refine kb_istore_n C (pc2 := 30) (dkAt dkX8_alone 19 (q := (29, .istore_n 1, 1)) rfl) rfl rfl (by decide) (lv2 := fun v5 => [(1, .int v5), (0, rA G o0), (2, .int x2)]) (fun _ => rfl) h (fun v5 h => ?_)
        refine kb_iinc C (pc2 := 33) (dkAt dkX8_alone 20 (q := (30, .iinc 2 1, 3)) rfl) rfl (j := 2) rfl (v := x2 + 1) rfl (by decide) (lv2 := fun v6 => [(2, .int v6), (1, .int v5), (0, rA G o0)]) (fun _ => rfl) h (fun v6 h => ?_)
        refine k_goto C (tgt := 4) (dkAt dkX8_alone 21 (q := (33, .goto (-29), 3)) rfl) (by decide) ?_
        refine k_lv [2, 1, 0] (lv2 := [(0, rA G o0), (1, .int v5), (2, .int v6)]) rfl ?_
        exact ih v5 v6 h
set_option maxRecDepth 100000 in
set_option maxHeartbeats 4000000 in
theorem ct_X8_alone (l : Launch) (G : GG) (sh : Sh) (xs : List va_E) (o0 : Nat) (h0 : isM sh o0) (M : Mm) (r : Int32) (h : f_X8_alone o0 M = some r) : Ct l yX8_alone cX8_alone 3 (some .int) rm_X8_alone G [rA G o0] sh M xs (some (.int r)) sh M xs 0 0 := by
  refine ct_of (by decide) (Nat.le_of_ble_eq_true rfl) ?_
  intro p e s m args below meth c hnm C
  refine k_lv [0] (lv2 := [(0, rA G o0)]) rfl ?_
  unfold f_X8_alone at h
  refine k_iconst C (pc2 := 1) (dkAt dkX8_alone 0 (q := (0, .iconst 0, 1)) rfl) rfl (v := 0) rfl ?_
  refine k_istore_n C (pc2 := 2) (dkAt dkX8_alone 1 (q := (1, .istore_n 1, 1)) rfl) rfl rfl (by decide) (lv2 := [(1, .int 0), (0, rA G o0)]) rfl ?_
  refine k_iconst C (pc2 := 3) (dkAt dkX8_alone 2 (q := (2, .iconst 0, 1)) rfl) rfl (v := 0) rfl ?_
  refine k_istore_n C (pc2 := 4) (dkAt dkX8_alone 3 (q := (3, .istore_n 2, 1)) rfl) rfl rfl (by decide) (lv2 := [(2, .int 0), (1, .int 0), (0, rA G o0)]) rfl ?_
  refine k_lv [2, 1, 0] (lv2 := [(0, rA G o0), (1, .int 0), (2, .int 0)]) rfl ?_
  obtain ⟨v9, e8, h⟩ := ob_inv h
  refine kl_X8_alone_L4 C o0 h0 M v9 ?_ 1000 0 0 e8
  refine k_iload_n C (pc2 := 37) (dkAt dkX8_alone 22 (q := (36, .iload_n 1, 1)) rfl) rfl rfl 0 rfl ?_
  exact k_iret C (dkAt dkX8_alone 23 (q := (37, .ireturn, 1)) rfl) (Option.some.inj h) rfl rfl rfl
set_option maxRecDepth 100000 in
set_option maxHeartbeats 4000000 in
theorem ct_X8_reach (l : Launch) (G : GG) (sh : Sh) (xs : List va_E) (o0 : Nat) (h0 : isM sh o0) (x1 : Int32) (M : Mm) (r : Mm × Int32) (h : f_X8_reach o0 x1 M = some r) : Ct l yX8_reach cX8_reach 2 (some .int) rm_X8_reach G [rA G o0, .int x1] sh M xs (some (.int r.2)) sh r.1 xs 0 0 := by
  refine ct_of (by decide) (Nat.le_of_ble_eq_true rfl) ?_
  intro p e s m args below meth c hnm C
  refine k_lv [0, 1] (lv2 := [(0, rA G o0), (1, .int x1)]) rfl ?_
  unfold f_X8_reach at h
  refine k_aload_n C (pc2 := 1) (dkAt dkX8_reach 0 (q := (0, .aload_n 0, 1)) rfl) rfl rfl 0 rfl ?_
  refine k_iload_n C (pc2 := 2) (dkAt dkX8_reach 1 (q := (1, .iload_n 1, 1)) rfl) rfl rfl 1 rfl ?_
  obtain ⟨q1, e2, h⟩ := ob_inv h
  refine kc_V C (As := [.int x1]) (st2 := [.int q1]) (ct_X8_isOne l G sh xs o0 h0 x1 M q1 e2) (cl_X8_108 (hts_of C) ⟨Nat.le_of_ble_eq_true rfl, Nat.le_of_ble_eq_true rfl⟩ rfl rfl) h0.1 rfl rfl rfl rfl rfl (Nat.le_of_ble_eq_true rfl) (dkAt dkX8_reach 2 (q := (2, .invokevirtual 108, 3)) rfl) ⟨Nat.zero_le _, Nat.zero_le _⟩ (pc2 := 5) rfl rfl ?_
  refine k_if_eq C (tgt := 16) (pc2 := 8) (dkAt dkX8_reach 3 (q := (5, .ifCond .eq 11, 3)) rfl) (by decide) rfl h (fun h => ?_) (fun h => ?_)
  · refine k_aload_n C (pc2 := 17) (dkAt dkX8_reach 8 (q := (16, .aload_n 0, 1)) rfl) rfl rfl 0 rfl ?_
    refine k_bipush C (pc2 := 19) (dkAt dkX8_reach 9 (q := (17, .bipush (-2), 2)) rfl) rfl (v := (-2)) rfl ?_
    obtain ⟨q3, e4, h⟩ := ob_inv h
    refine kc_V C (As := [.int (-2)]) (st2 := [.int q3.2]) (ct_X8_refuse l G sh xs o0 h0 (-2) M q3 e4) (cl_X8_97 (hts_of C) ⟨Nat.le_of_ble_eq_true rfl, Nat.le_of_ble_eq_true rfl⟩ rfl rfl) h0.1 rfl rfl rfl rfl rfl (Nat.le_of_ble_eq_true rfl) (dkAt dkX8_reach 10 (q := (19, .invokevirtual 97, 3)) rfl) ⟨Nat.zero_le _, Nat.zero_le _⟩ (pc2 := 22) rfl rfl ?_
    exact k_iret C (dkAt dkX8_reach 11 (q := (22, .ireturn, 1)) rfl) (pe2 (Option.some.inj h)) rfl (pe1 (Option.some.inj h)) rfl
  · refine k_aload_n C (pc2 := 9) (dkAt dkX8_reach 4 (q := (8, .aload_n 0, 1)) rfl) rfl rfl 0 rfl ?_
    refine k_iload_n C (pc2 := 10) (dkAt dkX8_reach 5 (q := (9, .iload_n 1, 1)) rfl) rfl rfl 1 rfl ?_
    obtain ⟨q5, e6, h⟩ := ob_inv h
    refine kc_V C (As := [.int x1]) (st2 := [.int q5]) (ct_X8_reachOf l G sh xs o0 h0 x1 M q5 e6) (cl_X8_274 (hts_of C) ⟨Nat.le_of_ble_eq_true rfl, Nat.le_of_ble_eq_true rfl⟩ rfl rfl) h0.1 rfl rfl rfl rfl rfl (Nat.le_of_ble_eq_true rfl) (dkAt dkX8_reach 6 (q := (10, .invokevirtual 274, 3)) rfl) ⟨Nat.zero_le _, Nat.zero_le _⟩ (pc2 := 13) rfl rfl ?_
    refine k_goto C (tgt := 22) (dkAt dkX8_reach 7 (q := (13, .goto 9, 3)) rfl) (by decide) ?_
    exact k_iret C (dkAt dkX8_reach 11 (q := (22, .ireturn, 1)) rfl) (pe2 (Option.some.inj h)) rfl (pe1 (Option.some.inj h)) rfl
