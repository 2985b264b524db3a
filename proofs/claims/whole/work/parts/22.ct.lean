set_option maxRecDepth 100000 in
set_option maxHeartbeats 4000000 in
theorem ct_X4_lowestBits (l : Launch) (G : GG) (sh : Sh) (xs : List va_E) (o0 : Nat) (h0 : isSh sh o0) (x1 : Int64) (M : Mm) (r : Int64) (h : f_X4_lowestBits o0 x1 M = some r) : Ct l yX4_lowestBits cX4_lowestBits 3 (some .long) rm_X4_lowestBits G [rA G o0, .long x1] sh M xs (some (.long r)) sh M xs 0 0 := by
  refine ct_of (by decide) (Nat.le_of_ble_eq_true rfl) ?_
  intro p e s m args below meth c hnm C
  refine k_lv [0, 1] (lv2 := [(0, rA G o0), (1, .long x1)]) rfl ?_
  unfold f_X4_lowestBits at h
  refine k_aload_n C (pc2 := 1) (dkAt dkX4_lowestBits 0 (q := (0, .aload_n 0, 1)) rfl) rfl rfl 0 rfl ?_
  refine kf_X4_9 C (pc2 := 4) (o := o0) (o2 := 0) h0.1 (dkAt dkX4_lowestBits 1 (q := (1, .getfield 9, 3)) rfl) rfl ?_
  by_cases q1 : (M.1 o0 0) = 0
  · rw [if_pos q1] at h
    refine k_swc C (tgt := 36) (off := 32) (dkAt dkX4_lowestBits 2 (q := (4, .tableswitch 48 0 3 #[32, 37, 42, 46], 32)) rfl) q1 (by decide) (by decide) ?_
    refine k_lload_n C (pc2 := 37) (dkAt dkX4_lowestBits 3 (q := (36, .lload_n 1, 1)) rfl) rfl rfl 1 rfl ?_
    refine k_l2i C (pc2 := 38) (dkAt dkX4_lowestBits 4 (q := (37, .l2i, 1)) rfl) rfl ?_
    refine k_i2b C (pc2 := 39) (dkAt dkX4_lowestBits 5 (q := (38, .i2b, 1)) rfl) rfl ?_
    refine k_i2l C (pc2 := 40) (dkAt dkX4_lowestBits 6 (q := (39, .i2l, 1)) rfl) rfl ?_
    exact k_lret C (dkAt dkX4_lowestBits 7 (q := (40, .lreturn, 1)) rfl) (Option.some.inj h) rfl rfl rfl
  rw [if_neg q1] at h
  by_cases q2 : (M.1 o0 0) = 1
  · rw [if_pos q2] at h
    refine k_swc C (tgt := 41) (off := 37) (dkAt dkX4_lowestBits 2 (q := (4, .tableswitch 48 0 3 #[32, 37, 42, 46], 32)) rfl) q2 (by decide) (by decide) ?_
    refine k_lload_n C (pc2 := 42) (dkAt dkX4_lowestBits 8 (q := (41, .lload_n 1, 1)) rfl) rfl rfl 1 rfl ?_
    refine k_l2i C (pc2 := 43) (dkAt dkX4_lowestBits 9 (q := (42, .l2i, 1)) rfl) rfl ?_
    refine k_i2s C (pc2 := 44) (dkAt dkX4_lowestBits 10 (q := (43, .i2s, 1)) rfl) rfl ?_
    refine k_i2l C (pc2 := 45) (dkAt dkX4_lowestBits 11 (q := (44, .i2l, 1)) rfl) rfl ?_
    exact k_lret C (dkAt dkX4_lowestBits 12 (q := (45, .lreturn, 1)) rfl) (Option.some.inj h) rfl rfl rfl
  rw [if_neg q2] at h
  by_cases q3 : (M.1 o0 0) = 2
  · rw [if_pos q3] at h
    refine k_swc C (tgt := 46) (off := 42) (dkAt dkX4_lowestBits 2 (q := (4, .tableswitch 48 0 3 #[32, 37, 42, 46], 32)) rfl) q3 (by decide) (by decide) ?_
    refine k_lload_n C (pc2 := 47) (dkAt dkX4_lowestBits 13 (q := (46, .lload_n 1, 1)) rfl) rfl rfl 1 rfl ?_
    refine k_l2i C (pc2 := 48) (dkAt dkX4_lowestBits 14 (q := (47, .l2i, 1)) rfl) rfl ?_
    refine k_i2l C (pc2 := 49) (dkAt dkX4_lowestBits 15 (q := (48, .i2l, 1)) rfl) rfl ?_
    exact k_lret C (dkAt dkX4_lowestBits 16 (q := (49, .lreturn, 1)) rfl) (Option.some.inj h) rfl rfl rfl
  rw [if_neg q3] at h
  by_cases q4 : (M.1 o0 0) = 3
  · rw [if_pos q4] at h
    refine k_swc C (tgt := 50) (off := 46) (dkAt dkX4_lowestBits 2 (q := (4, .tableswitch 48 0 3 #[32, 37, 42, 46], 32)) rfl) q4 (by decide) (by decide) ?_
    refine k_lload_n C (pc2 := 51) (dkAt dkX4_lowestBits 17 (q := (50, .lload_n 1, 1)) rfl) rfl rfl 1 rfl ?_
    exact k_lret C (dkAt dkX4_lowestBits 18 (q := (51, .lreturn, 1)) rfl) (Option.some.inj h) rfl rfl rfl
  rw [if_neg q4] at h
  have zq1 := ne_toInt q1
  have zq2 := ne_toInt q2
  have zq3 := ne_toInt q3
  have zq4 := ne_toInt q4
  refine k_swOut C (tgt := 52) (dkAt dkX4_lowestBits 2 (q := (4, .tableswitch 48 0 3 #[32, 37, 42, 46], 32)) rfl) (by have w0 : (0 : Int32).toInt = 0 := (by decide); have w1 : (1 : Int32).toInt = 1 := (by decide); have w2 : (2 : Int32).toInt = 2 := (by decide); have w3 : (3 : Int32).toInt = 3 := (by decide); rw [w0] at zq1; rw [w1] at zq2; rw [w2] at zq3; rw [w3] at zq4; omega) (by decide) ?_
  refine k_lload_n C (pc2 := 53) (dkAt dkX4_lowestBits 19 (q := (52, .lload_n 1, 1)) rfl) rfl rfl 1 rfl ?_
  refine k_lconst C (pc2 := 54) (dkAt dkX4_lowestBits 20 (q := (53, .lconst 0, 1)) rfl) rfl (v := 0) rfl ?_
  refine k_lcmp C (pc2 := 55) (dkAt dkX4_lowestBits 21 (q := (54, .lcmp, 1)) rfl) rfl ?_
  refine k_if_eq C (tgt := 62) (pc2 := 58) (dkAt dkX4_lowestBits 22 (q := (55, .ifCond .eq 7, 3)) rfl) (by decide) rfl h (fun h => ?_) (fun h => ?_)
  · refine k_lconst C (pc2 := 63) (dkAt dkX4_lowestBits 25 (q := (62, .lconst 0, 1)) rfl) rfl (v := 0) rfl ?_
    exact k_lret C (dkAt dkX4_lowestBits 26 (q := (63, .lreturn, 1)) rfl) (Option.some.inj h) rfl rfl rfl
  · refine k_lconst C (pc2 := 59) (dkAt dkX4_lowestBits 23 (q := (58, .lconst 1, 1)) rfl) rfl (v := 1) rfl ?_
    refine k_goto C (tgt := 63) (dkAt dkX4_lowestBits 24 (q := (59, .goto 4, 3)) rfl) (by decide) ?_
    exact k_lret C (dkAt dkX4_lowestBits 26 (q := (63, .lreturn, 1)) rfl) (Option.some.inj h) rfl rfl rfl
set_option maxRecDepth 100000 in
set_option maxHeartbeats 4000000 in
theorem ct_X4_put (l : Launch) (G : GG) (sh : Sh) (xs : List va_E) (o0 : Nat) (h0 : isSh sh o0) (x1 : Int32) (x2 : Int64) (M : Mm) (r : Mm) (h : f_X4_put o0 x1 x2 M = some r) : Ct l yX4_put cX4_put 4 none rm_X4_put G [rA G o0, .int x1, .long x2] sh M xs none sh r xs 0 0 := by
  refine ct_of (by decide) (Nat.le_of_ble_eq_true rfl) ?_
  intro p e s m args below meth c hnm C
  refine k_lv [0, 1, 2] (lv2 := [(0, rA G o0), (1, .int x1), (2, .long x2)]) rfl ?_
  unfold f_X4_put at h
  refine k_iload_n C (pc2 := 1) (dkAt dkX4_put 0 (q := (0, .iload_n 1, 1)) rfl) rfl rfl 1 rfl ?_
  refine k_iconst C (pc2 := 2) (dkAt dkX4_put 1 (q := (1, .iconst 0, 1)) rfl) rfl (v := 0) rfl ?_
  refine k_aload_n C (pc2 := 3) (dkAt dkX4_put 2 (q := (2, .aload_n 0, 1)) rfl) rfl rfl 0 rfl ?_
  refine kf_X4_27 C (pc2 := 6) (o := o0) (o2 := 0) h0.1 (dkAt dkX4_put 3 (q := (3, .getfield 27, 3)) rfl) rfl ?_
  refine k_iconst C (pc2 := 7) (dkAt dkX4_put 4 (q := (6, .iconst 1, 1)) rfl) rfl (v := 1) rfl ?_
  refine k_isub C (pc2 := 8) (dkAt dkX4_put 5 (q := (7, .isub, 1)) rfl) rfl ?_
  obtain ⟨q1, e2, h⟩ := ob_inv h
  refine kc_SN C (As := [.int x1, .int 0, .int ((M.1 o0 1) - 1)]) (st2 := [.int q1]) (ct_X7_within l G sh xs x1 0 ((M.1 o0 1) - 1) M q1 e2) (cl_X4_19 (hts_of C) C.2.2.2.2.1 ⟨Nat.le_of_ble_eq_true rfl, Nat.le_of_ble_eq_true rfl⟩ rfl rfl) rfl rfl (Nat.le_of_ble_eq_true rfl) (dkAt dkX4_put 6 (q := (8, .invokestatic 19, 3)) rfl) ⟨Nat.zero_le _, Nat.zero_le _⟩ (pc2 := 11) rfl rfl ?_
  refine k_if_eq C (tgt := 25) (pc2 := 14) (dkAt dkX4_put 7 (q := (11, .ifCond .eq 14, 3)) rfl) (by decide) rfl h (fun h => ?_) (fun h => ?_)
  · exact k_vret C (dkAt dkX4_put 15 (q := (25, .return_, 1)) rfl) rfl (Option.some.inj h) rfl
  · refine k_aload_n C (pc2 := 15) (dkAt dkX4_put 8 (q := (14, .aload_n 0, 1)) rfl) rfl rfl 0 rfl ?_
    refine kf_X4_15 C (pc2 := 18) (o := o0) (o2 := o0 + 1) h0.1 rfl (dkAt dkX4_put 9 (q := (15, .getfield 15, 3)) rfl) rfl ?_
    refine k_iload_n C (pc2 := 19) (dkAt dkX4_put 10 (q := (18, .iload_n 1, 1)) rfl) rfl rfl 1 rfl ?_
    refine k_aload_n C (pc2 := 20) (dkAt dkX4_put 11 (q := (19, .aload_n 0, 1)) rfl) rfl rfl 0 rfl ?_
    refine k_lload_n C (pc2 := 21) (dkAt dkX4_put 12 (q := (20, .lload_n 2, 1)) rfl) rfl rfl 2 rfl ?_
    obtain ⟨q3, e4, h⟩ := ob_inv h
    refine kc_V C (As := [.long x2]) (st2 := [.long q3, .int x1, rA G (o0 + 1)]) (ct_X4_lowestBits l G sh xs o0 h0 x2 M q3 e4) (cl_X4_36 (hts_of C) ⟨Nat.le_of_ble_eq_true rfl, Nat.le_of_ble_eq_true rfl⟩ rfl rfl) h0.1 rfl rfl rfl rfl rfl (Nat.le_of_ble_eq_true rfl) (dkAt dkX4_put 13 (q := (21, .invokevirtual 36, 3)) rfl) ⟨Nat.zero_le _, Nat.zero_le _⟩ (pc2 := 24) rfl rfl ?_
    refine k_last C (pc2 := 25) (o := o0 + 1) (nA := 40) h0.2 (dkAt dkX4_put 14 (q := (24, .lastore, 1)) rfl) rfl h (fun M5 h => ?_)
    exact k_vret C (dkAt dkX4_put 15 (q := (25, .return_, 1)) rfl) rfl (Option.some.inj h) rfl
set_option maxRecDepth 100000 in
set_option maxHeartbeats 4000000 in
theorem kl_X4_daysNotFree_L5 {p : Program} {l : Launch} {e : Env} {s : State} {m : MethodId} {args : Array Value} {below : List Frame} {meth : Method} {c : Code} {G : GG} {sh : Sh} {xs : List va_E} {Q : State → Prop} (C : Cx p s m c args meth G RX4 cX4_daysNotFree 5 (some .int)) (o0 : Nat) (h0 : isSh sh o0) (o1 : Nat) (h1 : isP sh o1) (x2 : Int32) (M : Mm) (y3 : Int32) (hcont : KW p l e rm_X4_daysNotFree s m args below meth c G 5 Q sh xs 0 0 M 39 [(3, .int y3)] []) : ∀ (n : Nat) (x3 : Int32) (x4 : Int32), f_X4_daysNotFree_L5 o0 o1 x2 M n x3 x4 = some y3 → KW p l e rm_X4_daysNotFree s m args below meth c G 5 Q sh xs 0 0 M 5 [(0, rA G o0), (1, rA G o1), (2, .int x2), (3, .int x3), (4, .int x4)] [] := by
  intro n
  induction n with
  | zero =>
    intro x3 x4 h
    cases h
  | succ n ih =>
    intro x3 x4 h
    unfold f_X4_daysNotFree_L5 at h
    refine k_iload C (pc2 := 7) (dkAt dkX4_daysNotFree 4 (q := (5, .iload 4, 2)) rfl) rfl 4 rfl ?_
    refine k_iload_n C (pc2 := 8) (dkAt dkX4_daysNotFree 5 (q := (7, .iload_n 2, 1)) rfl) rfl rfl 2 rfl ?_
    refine k_icmp_ge C (tgt := 39) (pc2 := 11) (dkAt dkX4_daysNotFree 6 (q := (8, .if_icmp .ge 31, 3)) rfl) (by decide) rfl h (fun h => ?_) (fun h => ?_)
    · refine k_lv [3] (lv2 := [(3, .int x3)]) rfl ?_
      cases h
      exact hcont
    · refine k_iload_n C (pc2 := 12) (dkAt dkX4_daysNotFree 7 (q := (11, .iload_n 3, 1)) rfl) rfl rfl 3 rfl ?_
      refine k_aload_n C (pc2 := 13) (dkAt dkX4_daysNotFree 8 (q := (12, .aload_n 1, 1)) rfl) rfl rfl 1 rfl ?_
      refine k_aload_n C (pc2 := 14) (dkAt dkX4_daysNotFree 9 (q := (13, .aload_n 0, 1)) rfl) rfl rfl 0 rfl ?_
      refine k_iload C (pc2 := 16) (dkAt dkX4_daysNotFree 10 (q := (14, .iload 4, 2)) rfl) rfl 4 rfl ?_
      obtain ⟨q1, e2, h⟩ := ob_inv h
      refine kc_V C (As := [.int x4]) (st2 := [.long q1, rA G o1, .int x3]) (ct_X4_elementAt l G sh xs o0 h0 x4 M q1 e2) (cl_X4_40 (hts_of C) ⟨Nat.le_of_ble_eq_true rfl, Nat.le_of_ble_eq_true rfl⟩ rfl rfl) h0.1 rfl rfl rfl rfl rfl (Nat.le_of_ble_eq_true rfl) (dkAt dkX4_daysNotFree 11 (q := (16, .invokevirtual 40, 3)) rfl) ⟨Nat.zero_le _, Nat.zero_le _⟩ (pc2 := 19) rfl rfl ?_
      refine k_l2i C (pc2 := 20) (dkAt dkX4_daysNotFree 12 (q := (19, .l2i, 1)) rfl) rfl ?_
      obtain ⟨q3, e4, h⟩ := ob_inv h
      refine kc_V C (As := [.int q1.toInt32]) (st2 := [.int q3, .int x3]) (ct_X2_isFree l G sh xs o1 h1 q1.toInt32 M q3 e4) (cl_X4_44 (hts_of C) ⟨Nat.le_of_ble_eq_true rfl, Nat.le_of_ble_eq_true rfl⟩ rfl rfl) h1 rfl rfl rfl rfl rfl (Nat.le_of_ble_eq_true rfl) (dkAt dkX4_daysNotFree 13 (q := (20, .invokevirtual 44, 3)) rfl) ⟨Nat.zero_le _, Nat.zero_le _⟩ (pc2 := 23) rfl rfl ?_
      refine k_if_eq C (tgt := 30) (pc2 := 26) (dkAt dkX4_daysNotFree 14 (q := (23, .ifCond .eq 7, 3)) rfl) (by decide) rfl h (fun h => ?_) (fun h => ?_)
      · refine k_iconst C (pc2 := 31) (dkAt dkX4_daysNotFree 17 (q := (30, .iconst 1, 1)) rfl) rfl (v := 1) rfl ?_
        refine k_iadd C (pc2 := 32) (dkAt dkX4_daysNotFree 18 (q := (31, .iadd, 1)) rfl) rfl ?_
        refine kb_istore_n C (pc2 := 33) (dkAt dkX4_daysNotFree 19 (q := (32, .istore_n 3, 1)) rfl) rfl rfl (by decide) (lv2 := fun v5 => [(3, .int v5), (0, rA G o0), (1, rA G o1), (2, .int x2), (4, .int x4)]) (fun _ => rfl) h (fun v5 h => ?_)
        refine kb_iinc C (pc2 := 36) (dkAt dkX4_daysNotFree 20 (q := (33, .iinc 4 1, 3)) rfl) rfl (j := 4) rfl (v := x4 + 1) rfl (by decide) (lv2 := fun v6 => [(4, .int v6), (3, .int v5), (0, rA G o0), (1, rA G o1), (2, .int x2)]) (fun _ => rfl) h (fun v6 h => ?_)
        refine k_goto C (tgt := 5) (dkAt dkX4_daysNotFree 21 (q := (36, .goto (-31), 3)) rfl) (by decide) ?_
        refine k_lv [2, 3, 4, 1, 0] (lv2 := [(0, rA G o0), (1, rA G o1), (2, .int x2), (3, .int v5), (4, .int v6)]) rfl ?_
        exact ih v5 v6 h
      · refine k_iconst C (pc2 := 27) (dkAt dkX4_daysNotFree 15 (q := (26, .iconst 0, 1)) rfl) rfl (v := 0) rfl ?_
        refine k_goto C (tgt := 31) (dkAt dkX4_daysNotFree 16 (q := (27, .goto 4, 3)) rfl) (by decide) ?_
        refine k_iadd C (pc2 := 32) (dkAt dkX4_daysNotFree 18 (q := (31, .iadd, 1)) rfl) rfl ?_
        refine kb_istore_n C (pc2 := 33) (dkAt dkX4_daysNotFree 19 (q := (32, .istore_n 3, 1)) rfl) rfl rfl (by decide) (lv2 := fun v7 => [(3, .int v7), (0, rA G o0), (1, rA G o1), (2, .int x2), (4, .int x4)]) (fun _ => rfl) h (fun v7 h => ?_)
        refine kb_iinc C (pc2 := 36) (dkAt dkX4_daysNotFree 20 (q := (33, .iinc 4 1, 3)) rfl) rfl (j := 4) rfl (v := x4 + 1) rfl (by decide) (lv2 := fun v8 => [(4, .int v8), (3, .int v7), (0, rA G o0), (1, rA G o1), (2, .int x2)]) (fun _ => rfl) h (fun v8 h => ?_)
        refine k_goto C (tgt := 5) (dkAt dkX4_daysNotFree 21 (q := (36, .goto (-31), 3)) rfl) (by decide) ?_
        refine k_lv [2, 3, 4, 1, 0] (lv2 := [(0, rA G o0), (1, rA G o1), (2, .int x2), (3, .int v7), (4, .int v8)]) rfl ?_
        exact ih v7 v8 h
set_option maxRecDepth 100000 in
set_option maxHeartbeats 4000000 in
theorem ct_X4_daysNotFree (l : Launch) (G : GG) (sh : Sh) (xs : List va_E) (o0 : Nat) (h0 : isSh sh o0) (o1 : Nat) (h1 : isP sh o1) (x2 : Int32) (M : Mm) (r : Int32) (h : f_X4_daysNotFree o0 o1 x2 M = some r) : Ct l yX4_daysNotFree cX4_daysNotFree 5 (some .int) rm_X4_daysNotFree G [rA G o0, rA G o1, .int x2] sh M xs (some (.int r)) sh M xs 0 0 := by
  refine ct_of (by decide) (Nat.le_of_ble_eq_true rfl) ?_
  intro p e s m args below meth c hnm C
  refine k_lv [0, 1, 2] (lv2 := [(0, rA G o0), (1, rA G o1), (2, .int x2)]) rfl ?_
  unfold f_X4_daysNotFree at h
  refine k_iconst C (pc2 := 1) (dkAt dkX4_daysNotFree 0 (q := (0, .iconst 0, 1)) rfl) rfl (v := 0) rfl ?_
  refine k_istore_n C (pc2 := 2) (dkAt dkX4_daysNotFree 1 (q := (1, .istore_n 3, 1)) rfl) rfl rfl (by decide) (lv2 := [(3, .int 0), (0, rA G o0), (1, rA G o1), (2, .int x2)]) rfl ?_
  refine k_iconst C (pc2 := 3) (dkAt dkX4_daysNotFree 2 (q := (2, .iconst 0, 1)) rfl) rfl (v := 0) rfl ?_
  refine k_istore C (pc2 := 5) (dkAt dkX4_daysNotFree 3 (q := (3, .istore 4, 2)) rfl) rfl (by decide) (lv2 := [(4, .int 0), (3, .int 0), (0, rA G o0), (1, rA G o1), (2, .int x2)]) rfl ?_
  refine k_lv [2, 3, 4, 1, 0] (lv2 := [(0, rA G o0), (1, rA G o1), (2, .int x2), (3, .int 0), (4, .int 0)]) rfl ?_
  obtain ⟨v11, e10, h⟩ := ob_inv h
  refine kl_X4_daysNotFree_L5 C o0 h0 o1 h1 x2 M v11 ?_ 1000 0 0 e10
  refine k_iload_n C (pc2 := 40) (dkAt dkX4_daysNotFree 22 (q := (39, .iload_n 3, 1)) rfl) rfl rfl 0 rfl ?_
  exact k_iret C (dkAt dkX4_daysNotFree 23 (q := (40, .ireturn, 1)) rfl) (Option.some.inj h) rfl rfl rfl
set_option maxRecDepth 100000 in
set_option maxHeartbeats 4000000 in
theorem ct_X5_takes (l : Launch) (G : GG) (sh : Sh) (xs : List va_E) (o0 : Nat) (h0 : isTp sh o0) (x1 : Int32) (M : Mm) (r : Mm × Int32) (h : f_X5_takes o0 x1 M = some r) : Ct l yX5_takes cX5_takes 2 (some .boolean) rm_X5_takes G [rA G o0, .int x1] sh M xs (some (.int r.2)) sh r.1 xs 0 0 := by
  refine ct_of (by decide) (Nat.le_of_ble_eq_true rfl) ?_
  intro p e s m args below meth c hnm C
  refine k_lv [0, 1] (lv2 := [(0, rA G o0), (1, .int x1)]) rfl ?_
  unfold f_X5_takes at h
  refine k_aload_n C (pc2 := 1) (dkAt dkX5_takes 0 (q := (0, .aload_n 0, 1)) rfl) rfl rfl 0 rfl ?_
  refine kf_X5_15 C (pc2 := 4) (o := o0) (o2 := 0) h0.1 (dkAt dkX5_takes 1 (q := (1, .getfield 15, 3)) rfl) rfl ?_
  refine k_sipush C (pc2 := 7) (dkAt dkX5_takes 2 (q := (4, .sipush 250, 3)) rfl) rfl (v := 250) rfl ?_
  refine k_icmp_lt C (tgt := 12) (pc2 := 10) (dkAt dkX5_takes 3 (q := (7, .if_icmp .lt 5, 3)) rfl) (by decide) rfl h (fun h => ?_) (fun h => ?_)
  · refine k_aload_n C (pc2 := 13) (dkAt dkX5_takes 6 (q := (12, .aload_n 0, 1)) rfl) rfl rfl 0 rfl ?_
    refine kf_X5_9 C (pc2 := 16) (o := o0) (o2 := o0 + 1) h0.1 rfl (dkAt dkX5_takes 7 (q := (13, .getfield 9, 3)) rfl) rfl ?_
    refine k_aload_n C (pc2 := 17) (dkAt dkX5_takes 8 (q := (16, .aload_n 0, 1)) rfl) rfl rfl 0 rfl ?_
    refine kf_X5_15 C (pc2 := 20) (o := o0) (o2 := 0) h0.1 (dkAt dkX5_takes 9 (q := (17, .getfield 15, 3)) rfl) rfl ?_
    refine k_iload_n C (pc2 := 21) (dkAt dkX5_takes 10 (q := (20, .iload_n 1, 1)) rfl) rfl rfl 1 rfl ?_
    refine k_iast C (pc2 := 22) (o := o0 + 1) (nA := 250) h0.2 (dkAt dkX5_takes 11 (q := (21, .iastore, 1)) rfl) rfl h (fun M1 h => ?_)
    refine k_aload_n C (pc2 := 23) (dkAt dkX5_takes 12 (q := (22, .aload_n 0, 1)) rfl) rfl rfl 0 rfl ?_
    refine k_dup C (pc2 := 24) (dkAt dkX5_takes 13 (q := (23, .dup, 1)) rfl) rfl rfl ?_
    refine kf_X5_15 C (pc2 := 27) (o := o0) (o2 := 0) h0.1 (dkAt dkX5_takes 14 (q := (24, .getfield 15, 3)) rfl) rfl ?_
    refine k_iconst C (pc2 := 28) (dkAt dkX5_takes 15 (q := (27, .iconst 1, 1)) rfl) rfl (v := 1) rfl ?_
    refine k_iadd C (pc2 := 29) (dkAt dkX5_takes 16 (q := (28, .iadd, 1)) rfl) rfl ?_
    refine kp_X5_15 C (pc2 := 32) (o := o0) h0.1 (dkAt dkX5_takes 17 (q := (29, .putfield 15, 3)) rfl) rfl h (fun M2 h => ?_)
    refine k_iconst C (pc2 := 33) (dkAt dkX5_takes 18 (q := (32, .iconst 1, 1)) rfl) rfl (v := 1) rfl ?_
    exact k_zret C (dkAt dkX5_takes 19 (q := (33, .ireturn, 1)) rfl) rfl (pe2 (Option.some.inj h)) rfl (pe1 (Option.some.inj h)) rfl
  · refine k_iconst C (pc2 := 11) (dkAt dkX5_takes 4 (q := (10, .iconst 0, 1)) rfl) rfl (v := 0) rfl ?_
    exact k_zret C (dkAt dkX5_takes 5 (q := (11, .ireturn, 1)) rfl) rfl (pe2 (Option.some.inj h)) rfl (pe1 (Option.some.inj h)) rfl
set_option maxRecDepth 100000 in
set_option maxHeartbeats 4000000 in
theorem kl_X6_dayOfMost_L4 {p : Program} {l : Launch} {e : Env} {s : State} {m : MethodId} {args : Array Value} {below : List Frame} {meth : Method} {c : Code} {G : GG} {sh : Sh} {xs : List va_E} {Q : State → Prop} (C : Cx p s m c args meth G RX6 cX6_dayOfMost 4 (some .int)) (o0 : Nat) (h0 : isTk sh o0) (o1 : Nat) (h1 : sh[o1]? = some (9, 14)) (M : Mm) (y2 : Int32) (hcont : KW p l e rm_X6_dayOfMost s m args below meth c G 4 Q sh xs 0 0 M 29 [(2, .int y2)] []) : ∀ (n : Nat) (x2 : Int32) (x3 : Int32), f_X6_dayOfMost_L4 o0 o1 M n x2 x3 = some y2 → KW p l e rm_X6_dayOfMost s m args below meth c G 4 Q sh xs 0 0 M 4 [(0, rA G o0), (1, rA G o1), (2, .int x2), (3, .int x3)] [] := by
  intro n
  induction n with
  | zero =>
    intro x2 x3 h
    cases h
  | succ n ih =>
    intro x2 x3 h
    unfold f_X6_dayOfMost_L4 at h
    refine k_iload_n C (pc2 := 5) (dkAt dkX6_dayOfMost 4 (q := (4, .iload_n 3, 1)) rfl) rfl rfl 3 rfl ?_
    refine k_aload_n C (pc2 := 6) (dkAt dkX6_dayOfMost 5 (q := (5, .aload_n 0, 1)) rfl) rfl rfl 0 rfl ?_
    refine kf_X6_36 C (pc2 := 9) (o := o0) (o2 := 0) h0.1 (dkAt dkX6_dayOfMost 6 (q := (6, .getfield 36, 3)) rfl) rfl ?_
    refine k_icmp_ge C (tgt := 29) (pc2 := 12) (dkAt dkX6_dayOfMost 7 (q := (9, .if_icmp .ge 20, 3)) rfl) (by decide) rfl h (fun h => ?_) (fun h => ?_)
    · refine k_lv [2] (lv2 := [(2, .int x2)]) rfl ?_
      cases h
      exact hcont
    · refine k_aload_n C (pc2 := 13) (dkAt dkX6_dayOfMost 8 (q := (12, .aload_n 1, 1)) rfl) rfl rfl 1 rfl ?_
      refine k_iload_n C (pc2 := 14) (dkAt dkX6_dayOfMost 9 (q := (13, .iload_n 3, 1)) rfl) rfl rfl 3 rfl ?_
      refine k_iald C (pc2 := 15) (o := o1) (nA := 14) h1 (dkAt dkX6_dayOfMost 10 (q := (14, .iaload, 1)) rfl) rfl h (fun h => ?_)
      refine k_aload_n C (pc2 := 16) (dkAt dkX6_dayOfMost 11 (q := (15, .aload_n 1, 1)) rfl) rfl rfl 1 rfl ?_
      refine k_iload_n C (pc2 := 17) (dkAt dkX6_dayOfMost 12 (q := (16, .iload_n 2, 1)) rfl) rfl rfl 2 rfl ?_
      refine k_iald C (pc2 := 18) (o := o1) (nA := 14) h1 (dkAt dkX6_dayOfMost 13 (q := (17, .iaload, 1)) rfl) rfl h (fun h => ?_)
      refine k_icmp_le C (tgt := 23) (pc2 := 21) (dkAt dkX6_dayOfMost 14 (q := (18, .if_icmp .le 5, 3)) rfl) (by decide) rfl h (fun h => ?_) (fun h => ?_)
      · refine kb_iinc C (pc2 := 26) (dkAt dkX6_dayOfMost 17 (q := (23, .iinc 3 1, 3)) rfl) rfl (j := 3) rfl (v := x3 + 1) rfl (by decide) (lv2 := fun v1 => [(3, .int v1), (0, rA G o0), (1, rA G o1), (2, .int x2)]) (fun _ => rfl) h (fun v1 h => ?_)
        refine k_goto C (tgt := 4) (dkAt dkX6_dayOfMost 18 (q := (26, .goto (-22), 3)) rfl) (by decide) ?_
        refine k_lv [1, 2, 3, 0] (lv2 := [(0, rA G o0), (1, rA G o1), (2, .int x2), (3, .int v1)]) rfl ?_
        exact ih x2 v1 h
      · refine k_iload_n C (pc2 := 22) (dkAt dkX6_dayOfMost 15 (q := (21, .iload_n 3, 1)) rfl) rfl rfl 3 rfl ?_
        refine k_istore_n C (pc2 := 23) (dkAt dkX6_dayOfMost 16 (q := (22, .istore_n 2, 1)) rfl) rfl rfl (by decide) (lv2 := [(2, .int x3), (0, rA G o0), (1, rA G o1), (3, .int x3)]) rfl ?_
        refine kb_iinc C (pc2 := 26) (dkAt dkX6_dayOfMost 17 (q := (23, .iinc 3 1, 3)) rfl) rfl (j := 3) rfl (v := x3 + 1) rfl (by decide) (lv2 := fun v2 => [(3, .int v2), (2, .int x3), (0, rA G o0), (1, rA G o1)]) (fun _ => rfl) h (fun v2 h => ?_)
        refine k_goto C (tgt := 4) (dkAt dkX6_dayOfMost 18 (q := (26, .goto (-22), 3)) rfl) (by decide) ?_
        refine k_lv [2, 3, 1, 0] (lv2 := [(0, rA G o0), (1, rA G o1), (2, .int x3), (3, .int v2)]) rfl ?_
        exact ih x3 v2 h
set_option maxRecDepth 100000 in
set_option maxHeartbeats 4000000 in
theorem ct_X6_dayOfMost (l : Launch) (G : GG) (sh : Sh) (xs : List va_E) (o0 : Nat) (h0 : isTk sh o0) (o1 : Nat) (h1 : sh[o1]? = some (9, 14)) (M : Mm) (r : Int32) (h : f_X6_dayOfMost o0 o1 M = some r) : Ct l yX6_dayOfMost cX6_dayOfMost 4 (some .int) rm_X6_dayOfMost G [rA G o0, rA G o1] sh M xs (some (.int r)) sh M xs 0 0 := by
  refine ct_of (by decide) (Nat.le_of_ble_eq_true rfl) ?_
  intro p e s m args below meth c hnm C
  refine k_lv [0, 1] (lv2 := [(0, rA G o0), (1, rA G o1)]) rfl ?_
  unfold f_X6_dayOfMost at h
  refine k_iconst C (pc2 := 1) (dkAt dkX6_dayOfMost 0 (q := (0, .iconst 0, 1)) rfl) rfl (v := 0) rfl ?_
  refine k_istore_n C (pc2 := 2) (dkAt dkX6_dayOfMost 1 (q := (1, .istore_n 2, 1)) rfl) rfl rfl (by decide) (lv2 := [(2, .int 0), (0, rA G o0), (1, rA G o1)]) rfl ?_
  refine k_iconst C (pc2 := 3) (dkAt dkX6_dayOfMost 2 (q := (2, .iconst 1, 1)) rfl) rfl (v := 1) rfl ?_
  refine k_istore_n C (pc2 := 4) (dkAt dkX6_dayOfMost 3 (q := (3, .istore_n 3, 1)) rfl) rfl rfl (by decide) (lv2 := [(3, .int 1), (2, .int 0), (0, rA G o0), (1, rA G o1)]) rfl ?_
  refine k_lv [2, 3, 1, 0] (lv2 := [(0, rA G o0), (1, rA G o1), (2, .int 0), (3, .int 1)]) rfl ?_
  obtain ⟨v5, e4, h⟩ := ob_inv h
  refine kl_X6_dayOfMost_L4 C o0 h0 o1 h1 M v5 ?_ 1000 0 1 e4
  refine k_iload_n C (pc2 := 30) (dkAt dkX6_dayOfMost 19 (q := (29, .iload_n 2, 1)) rfl) rfl rfl 0 rfl ?_
  exact k_iret C (dkAt dkX6_dayOfMost 20 (q := (30, .ireturn, 1)) rfl) (Option.some.inj h) rfl rfl rfl
set_option maxRecDepth 100000 in
set_option maxHeartbeats 4000000 in
theorem kl_X6_tickAll_L12 {p : Program} {l : Launch} {e : Env} {s : State} {m : MethodId} {args : Array Value} {below : List Frame} {meth : Method} {c : Code} {G : GG} {sh : Sh} {xs : List va_E} {Q : State → Prop} (C : Cx p s m c args meth G RX6 cX6_tickAll 6 none) (o0 : Nat) (h0 : isTk sh o0) (o1 : Nat) (h1 : isP sh o1) (o2 : Nat) (h2 : sh[o2]? = some (9, 14)) (x3 : Int32) (M2 : Mm) (hcont : KW p l e rm_X6_tickAll s m args below meth c G 6 Q sh xs 0 0 M2 96 [] []) : ∀ (n : Nat) (x4 : Int32) (M : Mm), f_X6_tickAll_L12 o0 o1 o2 x3 n x4 M = some M2 → KW p l e rm_X6_tickAll s m args below meth c G 6 Q sh xs 0 0 M 12 [(0, rA G o0), (1, rA G o1), (2, rA G o2), (3, .int x3), (4, .int x4)] [] := by
  intro n
  induction n with
  | zero =>
    intro x4 M h
    cases h
  | succ n ih =>
    intro x4 M h
    unfold f_X6_tickAll_L12 at h
    refine k_iload C (pc2 := 14) (dkAt dkX6_tickAll 7 (q := (12, .iload 4, 2)) rfl) rfl 4 rfl ?_
    refine k_aload_n C (pc2 := 15) (dkAt dkX6_tickAll 8 (q := (14, .aload_n 0, 1)) rfl) rfl rfl 0 rfl ?_
    refine kf_X6_36 C (pc2 := 18) (o := o0) (o2 := 0) h0.1 (dkAt dkX6_tickAll 9 (q := (15, .getfield 36, 3)) rfl) rfl ?_
    refine k_icmp_ge C (tgt := 96) (pc2 := 21) (dkAt dkX6_tickAll 10 (q := (18, .if_icmp .ge 78, 3)) rfl) (by decide) rfl h (fun h => ?_) (fun h => ?_)
    · refine k_lv [] (lv2 := []) rfl ?_
      cases h
      exact hcont
    · refine k_aload_n C (pc2 := 22) (dkAt dkX6_tickAll 11 (q := (21, .aload_n 1, 1)) rfl) rfl rfl 1 rfl ?_
      refine k_aload_n C (pc2 := 23) (dkAt dkX6_tickAll 12 (q := (22, .aload_n 1, 1)) rfl) rfl rfl 1 rfl ?_
      refine kf_X6_55 C (pc2 := 26) (o := o1) (o2 := 0) h1 (dkAt dkX6_tickAll 13 (q := (23, .getfield 55, 3)) rfl) rfl ?_
      refine k_iload C (pc2 := 28) (dkAt dkX6_tickAll 14 (q := (26, .iload 4, 2)) rfl) rfl 4 rfl ?_
      refine k_aload_n C (pc2 := 29) (dkAt dkX6_tickAll 15 (q := (28, .aload_n 0, 1)) rfl) rfl rfl 0 rfl ?_
      refine kf_X6_20 C (pc2 := 32) (o := o0) (o2 := o0 + 11) h0.1 rfl (dkAt dkX6_tickAll 16 (q := (29, .getfield 20, 3)) rfl) rfl ?_
      refine k_iload C (pc2 := 34) (dkAt dkX6_tickAll 17 (q := (32, .iload 4, 2)) rfl) rfl 4 rfl ?_
      refine k_iald C (pc2 := 35) (o := o0 + 11) (nA := 14) h0.2.2.2.2 (dkAt dkX6_tickAll 18 (q := (34, .iaload, 1)) rfl) rfl h (fun h => ?_)
      refine k_iload C (pc2 := 37) (dkAt dkX6_tickAll 19 (q := (35, .iload 4, 2)) rfl) rfl 4 rfl ?_
      refine k_iload_n C (pc2 := 38) (dkAt dkX6_tickAll 20 (q := (37, .iload_n 3, 1)) rfl) rfl rfl 3 rfl ?_
      refine k_icmp_ne C (tgt := 45) (pc2 := 41) (dkAt dkX6_tickAll 21 (q := (38, .if_icmp .ne 7, 3)) rfl) (by decide) rfl h (fun h => ?_) (fun h => ?_)
      · refine k_iconst C (pc2 := 46) (dkAt dkX6_tickAll 24 (q := (45, .iconst 0, 1)) rfl) rfl (v := 0) rfl ?_
        obtain ⟨q3, e4, h⟩ := ob_inv h
        refine kc_V C (As := [.int (M.1 o1 0), .int x4, .int (M.1 (o0 + 11) x4.toNatClampNeg), .int 0]) (st2 := [.int q3]) (ct_X2_tickAs l G sh xs o1 h1 (M.1 o1 0) x4 (M.1 (o0 + 11) x4.toNatClampNeg) 0 M q3 e4) (cl_X6_60 (hts_of C) ⟨Nat.le_of_ble_eq_true rfl, Nat.le_of_ble_eq_true rfl⟩ rfl rfl) h1 rfl rfl rfl rfl rfl (Nat.le_of_ble_eq_true rfl) (dkAt dkX6_tickAll 25 (q := (46, .invokevirtual 60, 3)) rfl) ⟨Nat.zero_le _, Nat.zero_le _⟩ (pc2 := 49) rfl rfl ?_
        refine k_istore C (pc2 := 51) (dkAt dkX6_tickAll 26 (q := (49, .istore 5, 2)) rfl) rfl (by decide) (lv2 := [(5, .int q3), (0, rA G o0), (1, rA G o1), (2, rA G o2), (3, .int x3), (4, .int x4)]) rfl ?_
        refine k_aload_n C (pc2 := 52) (dkAt dkX6_tickAll 27 (q := (51, .aload_n 2, 1)) rfl) rfl rfl 3 rfl ?_
        refine k_iload C (pc2 := 54) (dkAt dkX6_tickAll 28 (q := (52, .iload 4, 2)) rfl) rfl 5 rfl ?_
        refine k_iload C (pc2 := 56) (dkAt dkX6_tickAll 29 (q := (54, .iload 5, 2)) rfl) rfl 0 rfl ?_
        refine k_iast C (pc2 := 57) (o := o2) (nA := 14) h2 (dkAt dkX6_tickAll 30 (q := (56, .iastore, 1)) rfl) rfl h (fun M5 h => ?_)
        refine k_aload_n C (pc2 := 58) (dkAt dkX6_tickAll 31 (q := (57, .aload_n 0, 1)) rfl) rfl rfl 1 rfl ?_
        refine kf_X6_16 C (pc2 := 61) (o := o0) (o2 := o0 + 10) h0.1 rfl (dkAt dkX6_tickAll 32 (q := (58, .getfield 16, 3)) rfl) rfl ?_
        refine k_iload C (pc2 := 63) (dkAt dkX6_tickAll 33 (q := (61, .iload 4, 2)) rfl) rfl 5 rfl ?_
        refine k_dup2 C (pc2 := 64) (dkAt dkX6_tickAll 34 (q := (63, .dup2, 1)) rfl) rfl rfl rfl ?_
        refine k_iald C (pc2 := 65) (o := o0 + 10) (nA := 14) h0.2.2.2.1 (dkAt dkX6_tickAll 35 (q := (64, .iaload, 1)) rfl) rfl h (fun h => ?_)
        refine k_iload C (pc2 := 67) (dkAt dkX6_tickAll 36 (q := (65, .iload 5, 2)) rfl) rfl 0 rfl ?_
        refine k_iadd C (pc2 := 68) (dkAt dkX6_tickAll 37 (q := (67, .iadd, 1)) rfl) rfl ?_
        refine k_iast C (pc2 := 69) (o := o0 + 10) (nA := 14) h0.2.2.2.1 (dkAt dkX6_tickAll 38 (q := (68, .iastore, 1)) rfl) rfl h (fun M6 h => ?_)
        refine k_aload_n C (pc2 := 70) (dkAt dkX6_tickAll 39 (q := (69, .aload_n 0, 1)) rfl) rfl rfl 1 rfl ?_
        refine kf_X6_20 C (pc2 := 73) (o := o0) (o2 := o0 + 11) h0.1 rfl (dkAt dkX6_tickAll 40 (q := (70, .getfield 20, 3)) rfl) rfl ?_
        refine k_iload C (pc2 := 75) (dkAt dkX6_tickAll 41 (q := (73, .iload 4, 2)) rfl) rfl 5 rfl ?_
        refine k_dup2 C (pc2 := 76) (dkAt dkX6_tickAll 42 (q := (75, .dup2, 1)) rfl) rfl rfl rfl ?_
        refine k_iald C (pc2 := 77) (o := o0 + 11) (nA := 14) h0.2.2.2.2 (dkAt dkX6_tickAll 43 (q := (76, .iaload, 1)) rfl) rfl h (fun h => ?_)
        refine k_iload C (pc2 := 79) (dkAt dkX6_tickAll 44 (q := (77, .iload 5, 2)) rfl) rfl 0 rfl ?_
        refine k_iconst C (pc2 := 80) (dkAt dkX6_tickAll 45 (q := (79, .iconst 2, 1)) rfl) rfl (v := 2) rfl ?_
        refine k_icmp_ne C (tgt := 87) (pc2 := 83) (dkAt dkX6_tickAll 46 (q := (80, .if_icmp .ne 7, 3)) rfl) (by decide) rfl h (fun h => ?_) (fun h => ?_)
        · refine k_iconst C (pc2 := 88) (dkAt dkX6_tickAll 49 (q := (87, .iconst 0, 1)) rfl) rfl (v := 0) rfl ?_
          refine k_iadd C (pc2 := 89) (dkAt dkX6_tickAll 50 (q := (88, .iadd, 1)) rfl) rfl ?_
          refine k_iast C (pc2 := 90) (o := o0 + 11) (nA := 14) h0.2.2.2.2 (dkAt dkX6_tickAll 51 (q := (89, .iastore, 1)) rfl) rfl h (fun M7 h => ?_)
          refine kb_iinc C (pc2 := 93) (dkAt dkX6_tickAll 52 (q := (90, .iinc 4 1, 3)) rfl) rfl (j := 5) rfl (v := x4 + 1) rfl (by decide) (lv2 := fun v8 => [(4, .int v8), (5, .int q3), (0, rA G o0), (1, rA G o1), (2, rA G o2), (3, .int x3)]) (fun _ => rfl) h (fun v8 h => ?_)
          refine k_goto C (tgt := 12) (dkAt dkX6_tickAll 53 (q := (93, .goto (-81), 3)) rfl) (by decide) ?_
          refine k_lv [2, 3, 4, 5, 0] (lv2 := [(0, rA G o0), (1, rA G o1), (2, rA G o2), (3, .int x3), (4, .int v8)]) rfl ?_
          exact ih v8 M7 h
        · refine k_iconst C (pc2 := 84) (dkAt dkX6_tickAll 47 (q := (83, .iconst 1, 1)) rfl) rfl (v := 1) rfl ?_
          refine k_goto C (tgt := 88) (dkAt dkX6_tickAll 48 (q := (84, .goto 4, 3)) rfl) (by decide) ?_
          refine k_iadd C (pc2 := 89) (dkAt dkX6_tickAll 50 (q := (88, .iadd, 1)) rfl) rfl ?_
          refine k_iast C (pc2 := 90) (o := o0 + 11) (nA := 14) h0.2.2.2.2 (dkAt dkX6_tickAll 51 (q := (89, .iastore, 1)) rfl) rfl h (fun M9 h => ?_)
          refine kb_iinc C (pc2 := 93) (dkAt dkX6_tickAll 52 (q := (90, .iinc 4 1, 3)) rfl) rfl (j := 5) rfl (v := x4 + 1) rfl (by decide) (lv2 := fun v10 => [(4, .int v10), (5, .int q3), (0, rA G o0), (1, rA G o1), (2, rA G o2), (3, .int x3)]) (fun _ => rfl) h (fun v10 h => ?_)
          refine k_goto C (tgt := 12) (dkAt dkX6_tickAll 53 (q := (93, .goto (-81), 3)) rfl) (by decide) ?_
          refine k_lv [2, 3, 4, 5, 0] (lv2 := [(0, rA G o0), (1, rA G o1), (2, rA G o2), (3, .int x3), (4, .int v10)]) rfl ?_
          exact ih v10 M9 h
      · refine k_iconst C (pc2 := 42) (dkAt dkX6_tickAll 22 (q := (41, .iconst 1, 1)) rfl) rfl (v := 1) rfl ?_
        refine k_goto C (tgt := 46) (dkAt dkX6_tickAll 23 (q := (42, .goto 4, 3)) rfl) (by decide) ?_
        obtain ⟨q11, e12, h⟩ := ob_inv h
        refine kc_V C (As := [.int (M.1 o1 0), .int x4, .int (M.1 (o0 + 11) x4.toNatClampNeg), .int 1]) (st2 := [.int q11]) (ct_X2_tickAs l G sh xs o1 h1 (M.1 o1 0) x4 (M.1 (o0 + 11) x4.toNatClampNeg) 1 M q11 e12) (cl_X6_60 (hts_of C) ⟨Nat.le_of_ble_eq_true rfl, Nat.le_of_ble_eq_true rfl⟩ rfl rfl) h1 rfl rfl rfl rfl rfl (Nat.le_of_ble_eq_true rfl) (dkAt dkX6_tickAll 25 (q := (46, .invokevirtual 60, 3)) rfl) ⟨Nat.zero_le _, Nat.zero_le _⟩ (pc2 := 49) rfl rfl ?_
        refine k_istore C (pc2 := 51) (dkAt dkX6_tickAll 26 (q := (49, .istore 5, 2)) rfl) rfl (by decide) (lv2 := [(5, .int q11), (0, rA G o0), (1, rA G o1), (2, rA G o2), (3, .int x3), (4, .int x4)]) rfl ?_
        refine k_aload_n C (pc2 := 52) (dkAt dkX6_tickAll 27 (q := (51, .aload_n 2, 1)) rfl) rfl rfl 3 rfl ?_
        refine k_iload C (pc2 := 54) (dkAt dkX6_tickAll 28 (q := (52, .iload 4, 2)) rfl) rfl 5 rfl ?_
        refine k_iload C (pc2 := 56) (dkAt dkX6_tickAll 29 (q := (54, .iload 5, 2)) rfl) rfl 0 rfl ?_
        refine k_iast C (pc2 := 57) (o := o2) (nA := 14) h2 (dkAt dkX6_tickAll 30 (q := (56, .iastore, 1)) rfl) rfl h (fun M13 h => ?_)
        refine k_aload_n C (pc2 := 58) (dkAt dkX6_tickAll 31 (q := (57, .aload_n 0, 1)) rfl) rfl rfl 1 rfl ?_
        refine kf_X6_16 C (pc2 := 61) (o := o0) (o2 := o0 + 10) h0.1 rfl (dkAt dkX6_tickAll 32 (q := (58, .getfield 16, 3)) rfl) rfl ?_
        refine k_iload C (pc2 := 63) (dkAt dkX6_tickAll 33 (q := (61, .iload 4, 2)) rfl) rfl 5 rfl ?_
        refine k_dup2 C (pc2 := 64) (dkAt dkX6_tickAll 34 (q := (63, .dup2, 1)) rfl) rfl rfl rfl ?_
        refine k_iald C (pc2 := 65) (o := o0 + 10) (nA := 14) h0.2.2.2.1 (dkAt dkX6_tickAll 35 (q := (64, .iaload, 1)) rfl) rfl h (fun h => ?_)
        refine k_iload C (pc2 := 67) (dkAt dkX6_tickAll 36 (q := (65, .iload 5, 2)) rfl) rfl 0 rfl ?_
        refine k_iadd C (pc2 := 68) (dkAt dkX6_tickAll 37 (q := (67, .iadd, 1)) rfl) rfl ?_
        refine k_iast C (pc2 := 69) (o := o0 + 10) (nA := 14) h0.2.2.2.1 (dkAt dkX6_tickAll 38 (q := (68, .iastore, 1)) rfl) rfl h (fun M14 h => ?_)
        refine k_aload_n C (pc2 := 70) (dkAt dkX6_tickAll 39 (q := (69, .aload_n 0, 1)) rfl) rfl rfl 1 rfl ?_
        refine kf_X6_20 C (pc2 := 73) (o := o0) (o2 := o0 + 11) h0.1 rfl (dkAt dkX6_tickAll 40 (q := (70, .getfield 20, 3)) rfl) rfl ?_
        refine k_iload C (pc2 := 75) (dkAt dkX6_tickAll 41 (q := (73, .iload 4, 2)) rfl) rfl 5 rfl ?_
        refine k_dup2 C (pc2 := 76) (dkAt dkX6_tickAll 42 (q := (75, .dup2, 1)) rfl) rfl rfl rfl ?_
        refine k_iald C (pc2 := 77) (o := o0 + 11) (nA := 14) h0.2.2.2.2 (dkAt dkX6_tickAll 43 (q := (76, .iaload, 1)) rfl) rfl h (fun h => ?_)
        refine k_iload C (pc2 := 79) (dkAt dkX6_tickAll 44 (q := (77, .iload 5, 2)) rfl) rfl 0 rfl ?_
        refine k_iconst C (pc2 := 80) (dkAt dkX6_tickAll 45 (q := (79, .iconst 2, 1)) rfl) rfl (v := 2) rfl ?_
        refine k_icmp_ne C (tgt := 87) (pc2 := 83) (dkAt dkX6_tickAll 46 (q := (80, .if_icmp .ne 7, 3)) rfl) (by decide) rfl h (fun h => ?_) (fun h => ?_)
        · refine k_iconst C (pc2 := 88) (dkAt dkX6_tickAll 49 (q := (87, .iconst 0, 1)) rfl) rfl (v := 0) rfl ?_
          refine k_iadd C (pc2 := 89) (dkAt dkX6_tickAll 50 (q := (88, .iadd, 1)) rfl) rfl ?_
          refine k_iast C (pc2 := 90) (o := o0 + 11) (nA := 14) h0.2.2.2.2 (dkAt dkX6_tickAll 51 (q := (89, .iastore, 1)) rfl) rfl h (fun M15 h => ?_)
          refine kb_iinc C (pc2 := 93) (dkAt dkX6_tickAll 52 (q := (90, .iinc 4 1, 3)) rfl) rfl (j := 5) rfl (v := x4 + 1) rfl (by decide) (lv2 := fun v16 => [(4, .int v16), (5, .int q11), (0, rA G o0), (1, rA G o1), (2, rA G o2), (3, .int x3)]) (fun _ => rfl) h (fun v16 h => ?_)
          refine k_goto C (tgt := 12) (dkAt dkX6_tickAll 53 (q := (93, .goto (-81), 3)) rfl) (by decide) ?_
          refine k_lv [2, 3, 4, 5, 0] (lv2 := [(0, rA G o0), (1, rA G o1), (2, rA G o2), (3, .int x3), (4, .int v16)]) rfl ?_
          exact ih v16 M15 h
        · refine k_iconst C (pc2 := 84) (dkAt dkX6_tickAll 47 (q := (83, .iconst 1, 1)) rfl) rfl (v := 1) rfl ?_
          refine k_goto C (tgt := 88) (dkAt dkX6_tickAll 48 (q := (84, .goto 4, 3)) rfl) (by decide) ?_
          refine k_iadd C (pc2 := 89) (dkAt dkX6_tickAll 50 (q := (88, .iadd, 1)) rfl) rfl ?_
          refine k_iast C (pc2 := 90) (o := o0 + 11) (nA := 14) h0.2.2.2.2 (dkAt dkX6_tickAll 51 (q := (89, .iastore, 1)) rfl) rfl h (fun M17 h => ?_)
          refine kb_iinc C (pc2 := 93) (dkAt dkX6_tickAll 52 (q := (90, .iinc 4 1, 3)) rfl) rfl (j := 5) rfl (v := x4 + 1) rfl (by decide) (lv2 := fun v18 => [(4, .int v18), (5, .int q11), (0, rA G o0), (1, rA G o1), (2, rA G o2), (3, .int x3)]) (fun _ => rfl) h (fun v18 h => ?_)
          refine k_goto C (tgt := 12) (dkAt dkX6_tickAll 53 (q := (93, .goto (-81), 3)) rfl) (by decide) ?_
          refine k_lv [2, 3, 4, 5, 0] (lv2 := [(0, rA G o0), (1, rA G o1), (2, rA G o2), (3, .int x3), (4, .int v18)]) rfl ?_
          exact ih v18 M17 h
set_option maxRecDepth 100000 in
set_option maxHeartbeats 4000000 in
theorem ct_X6_tickAll (l : Launch) (G : GG) (sh : Sh) (xs : List va_E) (o0 : Nat) (h0 : isTk sh o0) (o1 : Nat) (h1 : isP sh o1) (o2 : Nat) (h2 : sh[o2]? = some (9, 14)) (M : Mm) (r : Mm) (h : f_X6_tickAll o0 o1 o2 M = some r) : Ct l yX6_tickAll cX6_tickAll 6 none rm_X6_tickAll G [rA G o0, rA G o1, rA G o2] sh M xs none sh r xs 0 0 := by
  refine ct_of (by decide) (Nat.le_of_ble_eq_true rfl) ?_
  intro p e s m args below meth c hnm C
  refine k_lv [0, 1, 2] (lv2 := [(0, rA G o0), (1, rA G o1), (2, rA G o2)]) rfl ?_
  unfold f_X6_tickAll at h
  refine k_aload_n C (pc2 := 1) (dkAt dkX6_tickAll 0 (q := (0, .aload_n 0, 1)) rfl) rfl rfl 0 rfl ?_
  refine k_aload_n C (pc2 := 2) (dkAt dkX6_tickAll 1 (q := (1, .aload_n 0, 1)) rfl) rfl rfl 0 rfl ?_
  refine kf_X6_20 C (pc2 := 5) (o := o0) (o2 := o0 + 11) h0.1 rfl (dkAt dkX6_tickAll 2 (q := (2, .getfield 20, 3)) rfl) rfl ?_
  obtain ⟨q1, e2, h⟩ := ob_inv h
  refine kc_V C (As := [rA G (o0 + 11)]) (st2 := [.int q1]) (ct_X6_dayOfMost l G sh xs o0 h0 (o0 + 11) h0.2.2.2.2 M q1 e2) (cl_X6_51 (hts_of C) ⟨Nat.le_of_ble_eq_true rfl, Nat.le_of_ble_eq_true rfl⟩ rfl rfl) h0.1 rfl rfl rfl rfl rfl (Nat.le_of_ble_eq_true rfl) (dkAt dkX6_tickAll 3 (q := (5, .invokevirtual 51, 3)) rfl) ⟨Nat.zero_le _, Nat.zero_le _⟩ (pc2 := 8) rfl rfl ?_
  refine k_istore_n C (pc2 := 9) (dkAt dkX6_tickAll 4 (q := (8, .istore_n 3, 1)) rfl) rfl rfl (by decide) (lv2 := [(3, .int q1), (0, rA G o0), (1, rA G o1), (2, rA G o2)]) rfl ?_
  refine k_iconst C (pc2 := 10) (dkAt dkX6_tickAll 5 (q := (9, .iconst 0, 1)) rfl) rfl (v := 0) rfl ?_
  refine k_istore C (pc2 := 12) (dkAt dkX6_tickAll 6 (q := (10, .istore 4, 2)) rfl) rfl (by decide) (lv2 := [(4, .int 0), (3, .int q1), (0, rA G o0), (1, rA G o1), (2, rA G o2)]) rfl ?_
  refine k_lv [2, 3, 4, 1, 0] (lv2 := [(0, rA G o0), (1, rA G o1), (2, rA G o2), (3, .int q1), (4, .int 0)]) rfl ?_
  obtain ⟨M21, e20, h⟩ := ob_inv h
  refine kl_X6_tickAll_L12 C o0 h0 o1 h1 o2 h2 q1 M21 ?_ 1000 0 M e20
  exact k_vret C (dkAt dkX6_tickAll 54 (q := (96, .return_, 1)) rfl) rfl (Option.some.inj h) rfl
set_option maxRecDepth 100000 in
set_option maxHeartbeats 4000000 in
theorem kl_J7_fill_53178_L5 {p : Program} {l : Launch} {e : Env} {s : State} {m : MethodId} {args : Array Value} {below : List Frame} {meth : Method} {c : Code} {G : GG} {sh : Sh} {xs : List va_E} {Q : State → Prop} (C : Cx p s m c args meth G RJ7 cJ7_fill_53178 4 none) (nA : Nat) (o0 : Nat) (h0 : sh[o0]? = some (9, nA)) (x1 : Int32) (x3 : Int32) (M2 : Mm) (hcont : KW p l e rm_J7_fill_53178 s m args below meth c G 4 Q sh xs 0 0 M2 20 [] []) : ∀ (n : Nat) (x2 : Int32) (M : Mm), f_J7_fill_53178_L5 nA o0 x1 x3 n x2 M = some M2 → KW p l e rm_J7_fill_53178 s m args below meth c G 4 Q sh xs 0 0 M 5 [(0, rA G o0), (1, .int x1), (2, .int x2), (3, .int x3)] [] := by
  intro n
  induction n with
  | zero =>
    intro x2 M h
    cases h
  | succ n ih =>
    intro x2 M h
    unfold f_J7_fill_53178_L5 at h
    refine k_iload_n C (pc2 := 6) (dkAt dkJ7_fill_53178 5 (q := (5, .iload_n 2, 1)) rfl) rfl rfl 2 rfl ?_
    refine k_iload_n C (pc2 := 7) (dkAt dkJ7_fill_53178 6 (q := (6, .iload_n 3, 1)) rfl) rfl rfl 3 rfl ?_
    refine k_icmp_ge C (tgt := 20) (pc2 := 10) (dkAt dkJ7_fill_53178 7 (q := (7, .if_icmp .ge 13, 3)) rfl) (by decide) rfl h (fun h => ?_) (fun h => ?_)
    · refine k_lv [] (lv2 := []) rfl ?_
      cases h
      exact hcont
    · refine k_aload_n C (pc2 := 11) (dkAt dkJ7_fill_53178 8 (q := (10, .aload_n 0, 1)) rfl) rfl rfl 0 rfl ?_
      refine k_iload_n C (pc2 := 12) (dkAt dkJ7_fill_53178 9 (q := (11, .iload_n 2, 1)) rfl) rfl rfl 2 rfl ?_
      refine k_iload_n C (pc2 := 13) (dkAt dkJ7_fill_53178 10 (q := (12, .iload_n 1, 1)) rfl) rfl rfl 1 rfl ?_
      refine k_iast C (pc2 := 14) (o := o0) (nA := nA) h0 (dkAt dkJ7_fill_53178 11 (q := (13, .iastore, 1)) rfl) rfl h (fun M2 h => ?_)
      refine kb_iinc C (pc2 := 17) (dkAt dkJ7_fill_53178 12 (q := (14, .iinc 2 1, 3)) rfl) rfl (j := 2) rfl (v := x2 + 1) rfl (by decide) (lv2 := fun v3 => [(2, .int v3), (0, rA G o0), (1, .int x1), (3, .int x3)]) (fun _ => rfl) h (fun v3 h => ?_)
      refine k_goto C (tgt := 5) (dkAt dkJ7_fill_53178 13 (q := (17, .goto (-12), 3)) rfl) (by decide) ?_
      refine k_lv [1, 2, 0, 3] (lv2 := [(0, rA G o0), (1, .int x1), (2, .int v3), (3, .int x3)]) rfl ?_
      exact ih v3 M2 h
set_option maxRecDepth 100000 in
set_option maxHeartbeats 4000000 in
theorem ct_J7_fill_53178 (l : Launch) (G : GG) (sh : Sh) (xs : List va_E) (nA : Nat) (o0 : Nat) (h0 : sh[o0]? = some (9, nA)) (x1 : Int32) (M : Mm) (r : Mm) (h : f_J7_fill_53178 nA o0 x1 M = some r) : Ct l yJ7_fill_53178 cJ7_fill_53178 4 none rm_J7_fill_53178 G [rA G o0, .int x1] sh M xs none sh r xs 0 0 := by
  refine ct_of (by decide) (Nat.le_of_ble_eq_true rfl) ?_
  intro p e s m args below meth c hnm C
  refine k_lv [0, 1] (lv2 := [(0, rA G o0), (1, .int x1)]) rfl ?_
  unfold f_J7_fill_53178 at h
  refine k_iconst C (pc2 := 1) (dkAt dkJ7_fill_53178 0 (q := (0, .iconst 0, 1)) rfl) rfl (v := 0) rfl ?_
  refine k_istore_n C (pc2 := 2) (dkAt dkJ7_fill_53178 1 (q := (1, .istore_n 2, 1)) rfl) rfl rfl (by decide) (lv2 := [(2, .int 0), (0, rA G o0), (1, .int x1)]) rfl ?_
  refine k_aload_n C (pc2 := 3) (dkAt dkJ7_fill_53178 2 (q := (2, .aload_n 0, 1)) rfl) rfl rfl 1 rfl ?_
  refine k_alen_i C (pc2 := 4) (o := o0) (nA := nA) h0 (v := Int32.ofNat nA) rfl (dkAt dkJ7_fill_53178 3 (q := (3, .arraylength, 1)) rfl) rfl ?_
  refine kb_istore_n C (pc2 := 5) (dkAt dkJ7_fill_53178 4 (q := (4, .istore_n 3, 1)) rfl) rfl rfl (by decide) (lv2 := fun v1 => [(3, .int v1), (2, .int 0), (0, rA G o0), (1, .int x1)]) (fun _ => rfl) h (fun v1 h => ?_)
  refine k_lv [2, 3, 1, 0] (lv2 := [(0, rA G o0), (1, .int x1), (2, .int 0), (3, .int v1)]) rfl ?_
  obtain ⟨M6, e5, h⟩ := ob_inv h
  refine kl_J7_fill_53178_L5 C nA o0 h0 x1 v1 M6 ?_ 1000 0 M e5
  exact k_vret C (dkAt dkJ7_fill_53178 14 (q := (20, .return_, 1)) rfl) rfl (Option.some.inj h) rfl
set_option maxRecDepth 100000 in
set_option maxHeartbeats 4000000 in
theorem kl_X6_reckonAheadOf_L26 {p : Program} {l : Launch} {e : Env} {s : State} {m : MethodId} {args : Array Value} {below : List Frame} {meth : Method} {c : Code} {G : GG} {sh : Sh} {xs : List va_E} {Q : State → Prop} (C : Cx p s m c args meth G RX6 cX6_reckonAheadOf 4 none) (o0 : Nat) (h0 : isTk sh o0) (o1 : Nat) (h1 : isC sh o1) (x2 : Int32) (M2 : Mm) (hcont : KW p l e rm_X6_reckonAheadOf s m args below meth c G 4 Q sh xs 0 0 M2 53 [] []) : ∀ (n : Nat) (x3 : Int32) (M : Mm), f_X6_reckonAheadOf_L26 o0 o1 x2 n x3 M = some M2 → KW p l e rm_X6_reckonAheadOf s m args below meth c G 4 Q sh xs 0 0 M 26 [(0, rA G o0), (1, rA G o1), (2, .int x2), (3, .int x3)] [] := by
  intro n
  induction n with
  | zero =>
    intro x3 M h
    cases h
  | succ n ih =>
    intro x3 M h
    unfold f_X6_reckonAheadOf_L26 at h
    refine k_iload_n C (pc2 := 27) (dkAt dkX6_reckonAheadOf 14 (q := (26, .iload_n 3, 1)) rfl) rfl rfl 3 rfl ?_
    refine k_iload_n C (pc2 := 28) (dkAt dkX6_reckonAheadOf 15 (q := (27, .iload_n 2, 1)) rfl) rfl rfl 2 rfl ?_
    refine k_icmp_ge C (tgt := 53) (pc2 := 31) (dkAt dkX6_reckonAheadOf 16 (q := (28, .if_icmp .ge 25, 3)) rfl) (by decide) rfl h (fun h => ?_) (fun h => ?_)
    · refine k_lv [] (lv2 := []) rfl ?_
      cases h
      exact hcont
    · refine k_aload_n C (pc2 := 32) (dkAt dkX6_reckonAheadOf 17 (q := (31, .aload_n 0, 1)) rfl) rfl rfl 0 rfl ?_
      refine k_aload_n C (pc2 := 33) (dkAt dkX6_reckonAheadOf 18 (q := (32, .aload_n 1, 1)) rfl) rfl rfl 1 rfl ?_
      refine kf_X6_43 C (pc2 := 36) (o := o1) (o2 := o1 + 1) h1.1 rfl (dkAt dkX6_reckonAheadOf 19 (q := (33, .getfield 43, 3)) rfl) rfl ?_
      refine k_iload_n C (pc2 := 37) (dkAt dkX6_reckonAheadOf 20 (q := (36, .iload_n 3, 1)) rfl) rfl rfl 3 rfl ?_
      refine k_aa11 C (pc2 := 38) (o := o1 + 1) (o2 := o1 + 2 + x3.toNatClampNeg) (nA := 8) h1.2.1 rfl (dkAt dkX6_reckonAheadOf 21 (q := (37, .aaload, 1)) rfl) rfl h (fun h hl6 => ?_)
      refine k_aload_n C (pc2 := 39) (dkAt dkX6_reckonAheadOf 22 (q := (38, .aload_n 0, 1)) rfl) rfl rfl 0 rfl ?_
      refine kf_X6_11 C (pc2 := 42) (o := o0) (o2 := o0 + 1) h0.1 rfl (dkAt dkX6_reckonAheadOf 23 (q := (39, .getfield 11, 3)) rfl) rfl ?_
      refine k_iload_n C (pc2 := 43) (dkAt dkX6_reckonAheadOf 24 (q := (42, .iload_n 3, 1)) rfl) rfl rfl 3 rfl ?_
      refine k_aa13 C (pc2 := 44) (o := o0 + 1) (o2 := o0 + 2 + x3.toNatClampNeg) (nA := 8) h0.2.1 rfl (dkAt dkX6_reckonAheadOf 25 (q := (43, .aaload, 1)) rfl) rfl h (fun h hl7 => ?_)
      obtain ⟨q8, e9, h⟩ := ob_inv h
      refine kc_V C (As := [rA G (o1 + 2 + x3.toNatClampNeg), rA G (o0 + 2 + x3.toNatClampNeg)]) (st2 := []) (ct_X6_tickAll l G sh xs o0 h0 (o1 + 2 + x3.toNatClampNeg) (h1.2.2 _ hl6) (o0 + 2 + x3.toNatClampNeg) (h0.2.2.1 _ hl7) M q8 e9) (cl_X6_47 (hts_of C) ⟨Nat.le_of_ble_eq_true rfl, Nat.le_of_ble_eq_true rfl⟩ rfl rfl) h0.1 rfl rfl rfl rfl rfl (Nat.le_of_ble_eq_true rfl) (dkAt dkX6_reckonAheadOf 26 (q := (44, .invokevirtual 47, 3)) rfl) ⟨Nat.zero_le _, Nat.zero_le _⟩ (pc2 := 47) rfl rfl ?_
      refine kb_iinc C (pc2 := 50) (dkAt dkX6_reckonAheadOf 27 (q := (47, .iinc 3 1, 3)) rfl) rfl (j := 3) rfl (v := x3 + 1) rfl (by decide) (lv2 := fun v10 => [(3, .int v10), (0, rA G o0), (1, rA G o1), (2, .int x2)]) (fun _ => rfl) h (fun v10 h => ?_)
      refine k_goto C (tgt := 26) (dkAt dkX6_reckonAheadOf 28 (q := (50, .goto (-24), 3)) rfl) (by decide) ?_
      refine k_lv [1, 2, 3, 0] (lv2 := [(0, rA G o0), (1, rA G o1), (2, .int x2), (3, .int v10)]) rfl ?_
      exact ih v10 q8 h
set_option maxRecDepth 100000 in
set_option maxHeartbeats 4000000 in
theorem ct_X6_reckonAheadOf (l : Launch) (G : GG) (sh : Sh) (xs : List va_E) (o0 : Nat) (h0 : isTk sh o0) (o1 : Nat) (h1 : isC sh o1) (x2 : Int32) (M : Mm) (r : Mm) (h : f_X6_reckonAheadOf o0 o1 x2 M = some r) : Ct l yX6_reckonAheadOf cX6_reckonAheadOf 4 none rm_X6_reckonAheadOf G [rA G o0, rA G o1, .int x2] sh M xs none sh r xs 0 0 := by
  refine ct_of (by decide) (Nat.le_of_ble_eq_true rfl) ?_
  intro p e s m args below meth c hnm C
  refine k_lv [0, 1, 2] (lv2 := [(0, rA G o0), (1, rA G o1), (2, .int x2)]) rfl ?_
  unfold f_X6_reckonAheadOf at h
  refine k_aload_n C (pc2 := 1) (dkAt dkX6_reckonAheadOf 0 (q := (0, .aload_n 0, 1)) rfl) rfl rfl 0 rfl ?_
  refine k_aload_n C (pc2 := 2) (dkAt dkX6_reckonAheadOf 1 (q := (1, .aload_n 1, 1)) rfl) rfl rfl 1 rfl ?_
  refine kf_X6_33 C (pc2 := 5) (o := o1) (o2 := 0) h1.1 (dkAt dkX6_reckonAheadOf 2 (q := (2, .getfield 33, 3)) rfl) rfl ?_
  refine kp_X6_36 C (pc2 := 8) (o := o0) h0.1 (dkAt dkX6_reckonAheadOf 3 (q := (5, .putfield 36, 3)) rfl) rfl h (fun M1 h => ?_)
  refine k_aload_n C (pc2 := 9) (dkAt dkX6_reckonAheadOf 4 (q := (8, .aload_n 0, 1)) rfl) rfl rfl 0 rfl ?_
  refine kf_X6_16 C (pc2 := 12) (o := o0) (o2 := o0 + 10) h0.1 rfl (dkAt dkX6_reckonAheadOf 5 (q := (9, .getfield 16, 3)) rfl) rfl ?_
  refine k_iconst C (pc2 := 13) (dkAt dkX6_reckonAheadOf 6 (q := (12, .iconst 0, 1)) rfl) rfl (v := 0) rfl ?_
  obtain ⟨q2, e3, h⟩ := ob_inv h
  refine kc_S C (As := [rA G (o0 + 10), .int 0]) (st2 := []) (ct_J7_fill_53178 l G sh xs 14 (o0 + 10) h0.2.2.2.1 0 M1 q2 e3) (cl_X6_37 (hts_of C) ⟨Nat.le_of_ble_eq_true rfl, Nat.le_of_ble_eq_true rfl⟩ rfl rfl) rfl rfl (Nat.le_of_ble_eq_true rfl) (dkAt dkX6_reckonAheadOf 7 (q := (13, .invokestatic 37, 3)) rfl) ⟨Nat.zero_le _, Nat.zero_le _⟩ (pc2 := 16) rfl rfl ?_
  refine k_aload_n C (pc2 := 17) (dkAt dkX6_reckonAheadOf 8 (q := (16, .aload_n 0, 1)) rfl) rfl rfl 0 rfl ?_
  refine kf_X6_20 C (pc2 := 20) (o := o0) (o2 := o0 + 11) h0.1 rfl (dkAt dkX6_reckonAheadOf 9 (q := (17, .getfield 20, 3)) rfl) rfl ?_
  refine k_iconst C (pc2 := 21) (dkAt dkX6_reckonAheadOf 10 (q := (20, .iconst 0, 1)) rfl) rfl (v := 0) rfl ?_
  obtain ⟨q4, e5, h⟩ := ob_inv h
  refine kc_S C (As := [rA G (o0 + 11), .int 0]) (st2 := []) (ct_J7_fill_53178 l G sh xs 14 (o0 + 11) h0.2.2.2.2 0 q2 q4 e5) (cl_X6_37 (hts_of C) ⟨Nat.le_of_ble_eq_true rfl, Nat.le_of_ble_eq_true rfl⟩ rfl rfl) rfl rfl (Nat.le_of_ble_eq_true rfl) (dkAt dkX6_reckonAheadOf 11 (q := (21, .invokestatic 37, 3)) rfl) ⟨Nat.zero_le _, Nat.zero_le _⟩ (pc2 := 24) rfl rfl ?_
  refine k_iconst C (pc2 := 25) (dkAt dkX6_reckonAheadOf 12 (q := (24, .iconst 0, 1)) rfl) rfl (v := 0) rfl ?_
  refine k_istore_n C (pc2 := 26) (dkAt dkX6_reckonAheadOf 13 (q := (25, .istore_n 3, 1)) rfl) rfl rfl (by decide) (lv2 := [(3, .int 0), (0, rA G o0), (1, rA G o1), (2, .int x2)]) rfl ?_
  refine k_lv [1, 2, 3, 0] (lv2 := [(0, rA G o0), (1, rA G o1), (2, .int x2), (3, .int 0)]) rfl ?_
  obtain ⟨M13, e12, h⟩ := ob_inv h
  refine kl_X6_reckonAheadOf_L26 C o0 h0 o1 h1 x2 M13 ?_ 1000 0 q4 e12
  exact k_vret C (dkAt dkX6_reckonAheadOf 29 (q := (53, .return_, 1)) rfl) rfl (Option.some.inj h) rfl
set_option maxRecDepth 100000 in
set_option maxHeartbeats 4000000 in
theorem ct_X6_reckon (l : Launch) (G : GG) (sh : Sh) (xs : List va_E) (o0 : Nat) (h0 : isTk sh o0) (o1 : Nat) (h1 : isC sh o1) (M : Mm) (r : Mm) (h : f_X6_reckon o0 o1 M = some r) : Ct l yX6_reckon cX6_reckon 2 none rm_X6_reckon G [rA G o0, rA G o1] sh M xs none sh r xs 0 0 := by
  refine ct_of (by decide) (Nat.le_of_ble_eq_true rfl) ?_
  intro p e s m args below meth c hnm C
  refine k_lv [0, 1] (lv2 := [(0, rA G o0), (1, rA G o1)]) rfl ?_
  unfold f_X6_reckon at h
  refine k_aload_n C (pc2 := 1) (dkAt dkX6_reckon 0 (q := (0, .aload_n 0, 1)) rfl) rfl rfl 0 rfl ?_
  refine k_aload_n C (pc2 := 2) (dkAt dkX6_reckon 1 (q := (1, .aload_n 1, 1)) rfl) rfl rfl 1 rfl ?_
  refine k_aload_n C (pc2 := 3) (dkAt dkX6_reckon 2 (q := (2, .aload_n 1, 1)) rfl) rfl rfl 1 rfl ?_
  refine kf_X6_23 C (pc2 := 6) (o := o1) (o2 := 0) h1.1 (dkAt dkX6_reckon 3 (q := (3, .getfield 23, 3)) rfl) rfl ?_
  obtain ⟨q1, e2, h⟩ := ob_inv h
  refine kc_V C (As := [rA G o1, .int (M.1 o1 1)]) (st2 := []) (ct_X6_reckonAheadOf l G sh xs o0 h0 o1 h1 (M.1 o1 1) M q1 e2) (cl_X6_29 (hts_of C) ⟨Nat.le_of_ble_eq_true rfl, Nat.le_of_ble_eq_true rfl⟩ rfl rfl) h0.1 rfl rfl rfl rfl rfl (Nat.le_of_ble_eq_true rfl) (dkAt dkX6_reckon 4 (q := (6, .invokevirtual 29, 3)) rfl) ⟨Nat.zero_le _, Nat.zero_le _⟩ (pc2 := 9) rfl rfl ?_
  exact k_vret C (dkAt dkX6_reckon 5 (q := (9, .return_, 1)) rfl) rfl (Option.some.inj h) rfl
set_option maxRecDepth 100000 in
set_option maxHeartbeats 4000000 in
theorem kl_X6_ticksSo_L13 {p : Program} {l : Launch} {e : Env} {s : State} {m : MethodId} {args : Array Value} {below : List Frame} {meth : Method} {c : Code} {G : GG} {sh : Sh} {xs : List va_E} (C : Cx p s m c args meth G RX6 cX6_ticksSo 7 (some .boolean)) (o0 : Nat) (h0 : isTk sh o0) (o1 : Nat) (h1 : isC sh o1) (o2 : Nat) (h2 : isP sh o2) (x3 : Int32) (o4 : Nat) (h4 : isSh sh o4) (x5 : Int32) (M : Mm) (r : Int32) (t : (Unit) ⊕ (Int32)) (hcont : t = Sum.inl () → KW p l e rm_X6_ticksSo s m args below meth c G 7 (MQ below (QO G (some (.int r)) sh M xs) args s 0 0 (gA G)) sh xs 0 0 M 68 [] []) (hres : ∀ z, t = Sum.inr z → z = r) : ∀ (n : Nat) (x6 : Int32), f_X6_ticksSo_L13 o0 o1 o2 x3 o4 x5 M n x6 = some t → KW p l e rm_X6_ticksSo s m args below meth c G 7 (MQ below (QO G (some (.int r)) sh M xs) args s 0 0 (gA G)) sh xs 0 0 M 13 [(0, rA G o0), (1, rA G o1), (2, rA G o2), (3, .int x3), (4, rA G o4), (5, .int x5), (6, .int x6)] [] := by
  intro n
  induction n with
  | zero =>
    intro x6 h
    cases h
  | succ n ih =>
    intro x6 h
    unfold f_X6_ticksSo_L13 at h
    refine k_iload C (pc2 := 15) (dkAt dkX6_ticksSo 7 (q := (13, .iload 6, 2)) rfl) rfl 6 rfl ?_
    refine k_aload_n C (pc2 := 16) (dkAt dkX6_ticksSo 8 (q := (15, .aload_n 1, 1)) rfl) rfl rfl 1 rfl ?_
    refine kf_X6_33 C (pc2 := 19) (o := o1) (o2 := 0) h1.1 (dkAt dkX6_ticksSo 9 (q := (16, .getfield 33, 3)) rfl) rfl ?_
    refine k_icmp_ge C (tgt := 68) (pc2 := 22) (dkAt dkX6_ticksSo 10 (q := (19, .if_icmp .ge 49, 3)) rfl) (by decide) rfl h (fun h => ?_) (fun h => ?_)
    · refine k_lv [] (lv2 := []) rfl ?_
      exact hcont (Option.some.inj h).symm
    · refine k_aload_n C (pc2 := 23) (dkAt dkX6_ticksSo 11 (q := (22, .aload_n 2, 1)) rfl) rfl rfl 2 rfl ?_
      refine k_iload_n C (pc2 := 24) (dkAt dkX6_ticksSo 12 (q := (23, .iload_n 3, 1)) rfl) rfl rfl 3 rfl ?_
      refine k_iload C (pc2 := 26) (dkAt dkX6_ticksSo 13 (q := (24, .iload 6, 2)) rfl) rfl 6 rfl ?_
      refine k_aload_n C (pc2 := 27) (dkAt dkX6_ticksSo 14 (q := (26, .aload_n 0, 1)) rfl) rfl rfl 0 rfl ?_
      refine kf_X6_20 C (pc2 := 30) (o := o0) (o2 := o0 + 11) h0.1 rfl (dkAt dkX6_ticksSo 15 (q := (27, .getfield 20, 3)) rfl) rfl ?_
      refine k_iload C (pc2 := 32) (dkAt dkX6_ticksSo 16 (q := (30, .iload 6, 2)) rfl) rfl 6 rfl ?_
      refine k_iald C (pc2 := 33) (o := o0 + 11) (nA := 14) h0.2.2.2.2 (dkAt dkX6_ticksSo 17 (q := (32, .iaload, 1)) rfl) rfl h (fun h => ?_)
      refine k_iload C (pc2 := 35) (dkAt dkX6_ticksSo 18 (q := (33, .iload 6, 2)) rfl) rfl 6 rfl ?_
      refine k_iload C (pc2 := 37) (dkAt dkX6_ticksSo 19 (q := (35, .iload 5, 2)) rfl) rfl 5 rfl ?_
      refine k_icmp_ne C (tgt := 44) (pc2 := 40) (dkAt dkX6_ticksSo 20 (q := (37, .if_icmp .ne 7, 3)) rfl) (by decide) rfl h (fun h => ?_) (fun h => ?_)
      · refine k_iconst C (pc2 := 45) (dkAt dkX6_ticksSo 23 (q := (44, .iconst 0, 1)) rfl) rfl (v := 0) rfl ?_
        obtain ⟨q3, e4, h⟩ := ob_inv h
        refine kc_V C (As := [.int x3, .int x6, .int (M.1 (o0 + 11) x6.toNatClampNeg), .int 0]) (st2 := [.int q3]) (ct_X2_tickAs l G sh xs o2 h2 x3 x6 (M.1 (o0 + 11) x6.toNatClampNeg) 0 M q3 e4) (cl_X6_60 (hts_of C) ⟨Nat.le_of_ble_eq_true rfl, Nat.le_of_ble_eq_true rfl⟩ rfl rfl) h2 rfl rfl rfl rfl rfl (Nat.le_of_ble_eq_true rfl) (dkAt dkX6_ticksSo 24 (q := (45, .invokevirtual 60, 3)) rfl) ⟨Nat.zero_le _, Nat.zero_le _⟩ (pc2 := 48) rfl rfl ?_
        refine k_i2l C (pc2 := 49) (dkAt dkX6_ticksSo 25 (q := (48, .i2l, 1)) rfl) rfl ?_
        refine k_aload C (pc2 := 51) (dkAt dkX6_ticksSo 26 (q := (49, .aload 4, 2)) rfl) rfl 4 rfl ?_
        refine k_iload C (pc2 := 53) (dkAt dkX6_ticksSo 27 (q := (51, .iload 6, 2)) rfl) rfl 6 rfl ?_
        obtain ⟨q5, e6, h⟩ := ob_inv h
        refine kc_V C (As := [.int x6]) (st2 := [.long q5, .long q3.toInt64]) (ct_X4_elementAt l G sh xs o4 h4 x6 M q5 e6) (cl_X6_64 (hts_of C) ⟨Nat.le_of_ble_eq_true rfl, Nat.le_of_ble_eq_true rfl⟩ rfl rfl) h4.1 rfl rfl rfl rfl rfl (Nat.le_of_ble_eq_true rfl) (dkAt dkX6_ticksSo 28 (q := (53, .invokevirtual 64, 3)) rfl) ⟨Nat.zero_le _, Nat.zero_le _⟩ (pc2 := 56) rfl rfl ?_
        refine k_lcmp C (pc2 := 57) (dkAt dkX6_ticksSo 29 (q := (56, .lcmp, 1)) rfl) rfl ?_
        refine k_if_eq C (tgt := 62) (pc2 := 60) (dkAt dkX6_ticksSo 30 (q := (57, .ifCond .eq 5, 3)) rfl) (by decide) rfl h (fun h => ?_) (fun h => ?_)
        · refine kb_iinc C (pc2 := 65) (dkAt dkX6_ticksSo 33 (q := (62, .iinc 6 1, 3)) rfl) rfl (j := 6) rfl (v := x6 + 1) rfl (by decide) (lv2 := fun v7 => [(6, .int v7), (0, rA G o0), (1, rA G o1), (2, rA G o2), (3, .int x3), (4, rA G o4), (5, .int x5)]) (fun _ => rfl) h (fun v7 h => ?_)
          refine k_goto C (tgt := 13) (dkAt dkX6_ticksSo 34 (q := (65, .goto (-52), 3)) rfl) (by decide) ?_
          refine k_lv [1, 2, 3, 4, 5, 6, 0] (lv2 := [(0, rA G o0), (1, rA G o1), (2, rA G o2), (3, .int x3), (4, rA G o4), (5, .int x5), (6, .int v7)]) rfl ?_
          exact ih v7 h
        · refine k_iconst C (pc2 := 61) (dkAt dkX6_ticksSo 31 (q := (60, .iconst 0, 1)) rfl) rfl (v := 0) rfl ?_
          exact k_zret C (dkAt dkX6_ticksSo 32 (q := (61, .ireturn, 1)) rfl) rfl (hres _ (Option.some.inj h).symm) rfl rfl rfl
      · refine k_iconst C (pc2 := 41) (dkAt dkX6_ticksSo 21 (q := (40, .iconst 1, 1)) rfl) rfl (v := 1) rfl ?_
        refine k_goto C (tgt := 45) (dkAt dkX6_ticksSo 22 (q := (41, .goto 4, 3)) rfl) (by decide) ?_
        obtain ⟨q8, e9, h⟩ := ob_inv h
        refine kc_V C (As := [.int x3, .int x6, .int (M.1 (o0 + 11) x6.toNatClampNeg), .int 1]) (st2 := [.int q8]) (ct_X2_tickAs l G sh xs o2 h2 x3 x6 (M.1 (o0 + 11) x6.toNatClampNeg) 1 M q8 e9) (cl_X6_60 (hts_of C) ⟨Nat.le_of_ble_eq_true rfl, Nat.le_of_ble_eq_true rfl⟩ rfl rfl) h2 rfl rfl rfl rfl rfl (Nat.le_of_ble_eq_true rfl) (dkAt dkX6_ticksSo 24 (q := (45, .invokevirtual 60, 3)) rfl) ⟨Nat.zero_le _, Nat.zero_le _⟩ (pc2 := 48) rfl rfl ?_
        refine k_i2l C (pc2 := 49) (dkAt dkX6_ticksSo 25 (q := (48, .i2l, 1)) rfl) rfl ?_
        refine k_aload C (pc2 := 51) (dkAt dkX6_ticksSo 26 (q := (49, .aload 4, 2)) rfl) rfl 4 rfl ?_
        refine k_iload C (pc2 := 53) (dkAt dkX6_ticksSo 27 (q := (51, .iload 6, 2)) rfl) rfl 6 rfl ?_
        obtain ⟨q10, e11, h⟩ := ob_inv h
        refine kc_V C (As := [.int x6]) (st2 := [.long q10, .long q8.toInt64]) (ct_X4_elementAt l G sh xs o4 h4 x6 M q10 e11) (cl_X6_64 (hts_of C) ⟨Nat.le_of_ble_eq_true rfl, Nat.le_of_ble_eq_true rfl⟩ rfl rfl) h4.1 rfl rfl rfl rfl rfl (Nat.le_of_ble_eq_true rfl) (dkAt dkX6_ticksSo 28 (q := (53, .invokevirtual 64, 3)) rfl) ⟨Nat.zero_le _, Nat.zero_le _⟩ (pc2 := 56) rfl rfl ?_
        refine k_lcmp C (pc2 := 57) (dkAt dkX6_ticksSo 29 (q := (56, .lcmp, 1)) rfl) rfl ?_
        refine k_if_eq C (tgt := 62) (pc2 := 60) (dkAt dkX6_ticksSo 30 (q := (57, .ifCond .eq 5, 3)) rfl) (by decide) rfl h (fun h => ?_) (fun h => ?_)
        · refine kb_iinc C (pc2 := 65) (dkAt dkX6_ticksSo 33 (q := (62, .iinc 6 1, 3)) rfl) rfl (j := 6) rfl (v := x6 + 1) rfl (by decide) (lv2 := fun v12 => [(6, .int v12), (0, rA G o0), (1, rA G o1), (2, rA G o2), (3, .int x3), (4, rA G o4), (5, .int x5)]) (fun _ => rfl) h (fun v12 h => ?_)
          refine k_goto C (tgt := 13) (dkAt dkX6_ticksSo 34 (q := (65, .goto (-52), 3)) rfl) (by decide) ?_
          refine k_lv [1, 2, 3, 4, 5, 6, 0] (lv2 := [(0, rA G o0), (1, rA G o1), (2, rA G o2), (3, .int x3), (4, rA G o4), (5, .int x5), (6, .int v12)]) rfl ?_
          exact ih v12 h
        · refine k_iconst C (pc2 := 61) (dkAt dkX6_ticksSo 31 (q := (60, .iconst 0, 1)) rfl) rfl (v := 0) rfl ?_
          exact k_zret C (dkAt dkX6_ticksSo 32 (q := (61, .ireturn, 1)) rfl) rfl (hres _ (Option.some.inj h).symm) rfl rfl rfl
set_option maxRecDepth 100000 in
set_option maxHeartbeats 4000000 in
theorem ct_X6_ticksSo (l : Launch) (G : GG) (sh : Sh) (xs : List va_E) (o0 : Nat) (h0 : isTk sh o0) (o1 : Nat) (h1 : isC sh o1) (o2 : Nat) (h2 : isP sh o2) (x3 : Int32) (o4 : Nat) (h4 : isSh sh o4) (M : Mm) (r : Int32) (h : f_X6_ticksSo o0 o1 o2 x3 o4 M = some r) : Ct l yX6_ticksSo cX6_ticksSo 7 (some .boolean) rm_X6_ticksSo G [rA G o0, rA G o1, rA G o2, .int x3, rA G o4] sh M xs (some (.int r)) sh M xs 0 0 := by
  refine ct_of (by decide) (Nat.le_of_ble_eq_true rfl) ?_
  intro p e s m args below meth c hnm C
  refine k_lv [0, 1, 2, 3, 4] (lv2 := [(0, rA G o0), (1, rA G o1), (2, rA G o2), (3, .int x3), (4, rA G o4)]) rfl ?_
  unfold f_X6_ticksSo at h
  refine k_aload_n C (pc2 := 1) (dkAt dkX6_ticksSo 0 (q := (0, .aload_n 0, 1)) rfl) rfl rfl 0 rfl ?_
  refine k_aload_n C (pc2 := 2) (dkAt dkX6_ticksSo 1 (q := (1, .aload_n 0, 1)) rfl) rfl rfl 0 rfl ?_
  refine kf_X6_20 C (pc2 := 5) (o := o0) (o2 := o0 + 11) h0.1 rfl (dkAt dkX6_ticksSo 2 (q := (2, .getfield 20, 3)) rfl) rfl ?_
  obtain ⟨q1, e2, h⟩ := ob_inv h
  refine kc_V C (As := [rA G (o0 + 11)]) (st2 := [.int q1]) (ct_X6_dayOfMost l G sh xs o0 h0 (o0 + 11) h0.2.2.2.2 M q1 e2) (cl_X6_51 (hts_of C) ⟨Nat.le_of_ble_eq_true rfl, Nat.le_of_ble_eq_true rfl⟩ rfl rfl) h0.1 rfl rfl rfl rfl rfl (Nat.le_of_ble_eq_true rfl) (dkAt dkX6_ticksSo 3 (q := (5, .invokevirtual 51, 3)) rfl) ⟨Nat.zero_le _, Nat.zero_le _⟩ (pc2 := 8) rfl rfl ?_
  refine k_istore C (pc2 := 10) (dkAt dkX6_ticksSo 4 (q := (8, .istore 5, 2)) rfl) rfl (by decide) (lv2 := [(5, .int q1), (0, rA G o0), (1, rA G o1), (2, rA G o2), (3, .int x3), (4, rA G o4)]) rfl ?_
  refine k_iconst C (pc2 := 11) (dkAt dkX6_ticksSo 5 (q := (10, .iconst 0, 1)) rfl) rfl (v := 0) rfl ?_
  refine k_istore C (pc2 := 13) (dkAt dkX6_ticksSo 6 (q := (11, .istore 6, 2)) rfl) rfl (by decide) (lv2 := [(6, .int 0), (5, .int q1), (0, rA G o0), (1, rA G o1), (2, rA G o2), (3, .int x3), (4, rA G o4)]) rfl ?_
  refine k_lv [2, 3, 4, 5, 6, 1, 0] (lv2 := [(0, rA G o0), (1, rA G o1), (2, rA G o2), (3, .int x3), (4, rA G o4), (5, .int q1), (6, .int 0)]) rfl ?_
  obtain ⟨t13, e14, hA, hB⟩ := obS_inv h
  refine kl_X6_ticksSo_L13 C o0 h0 o1 h1 o2 h2 x3 o4 h4 q1 M r t13 ?_ ?_ 1000 0 e14
  · intro et
    have h := hA _ et
    refine k_iconst C (pc2 := 69) (dkAt dkX6_ticksSo 35 (q := (68, .iconst 1, 1)) rfl) rfl (v := 1) rfl ?_
    exact k_zret C (dkAt dkX6_ticksSo 36 (q := (69, .ireturn, 1)) rfl) rfl (Option.some.inj h) rfl rfl rfl
  · intro z et
    have h := hB _ et
    exact Option.some.inj h
set_option maxRecDepth 100000 in
set_option maxHeartbeats 4000000 in
theorem kl_X6_leaveOut_L2 {p : Program} {l : Launch} {e : Env} {s : State} {m : MethodId} {args : Array Value} {below : List Frame} {meth : Method} {c : Code} {G : GG} {sh : Sh} {xs : List va_E} {Q : State → Prop} (C : Cx p s m c args meth G RX6 cX6_leaveOut 3 none) (o0 : Nat) (h0 : isTk sh o0) (x1 : Int32) (M2 : Mm) (hcont : KW p l e rm_X6_leaveOut s m args below meth c G 3 Q sh xs 0 0 M2 33 [] []) : ∀ (n : Nat) (x2 : Int32) (M : Mm), f_X6_leaveOut_L2 o0 x1 n x2 M = some M2 → KW p l e rm_X6_leaveOut s m args below meth c G 3 Q sh xs 0 0 M 2 [(0, rA G o0), (1, .int x1), (2, .int x2)] [] := by
  intro n
  induction n with
  | zero =>
    intro x2 M h
    cases h
  | succ n ih =>
    intro x2 M h
    unfold f_X6_leaveOut_L2 at h
    refine k_iload_n C (pc2 := 3) (dkAt dkX6_leaveOut 2 (q := (2, .iload_n 2, 1)) rfl) rfl rfl 2 rfl ?_
    refine k_aload_n C (pc2 := 4) (dkAt dkX6_leaveOut 3 (q := (3, .aload_n 0, 1)) rfl) rfl rfl 0 rfl ?_
    refine kf_X6_36 C (pc2 := 7) (o := o0) (o2 := 0) h0.1 (dkAt dkX6_leaveOut 4 (q := (4, .getfield 36, 3)) rfl) rfl ?_
    refine k_icmp_ge C (tgt := 33) (pc2 := 10) (dkAt dkX6_leaveOut 5 (q := (7, .if_icmp .ge 26, 3)) rfl) (by decide) rfl h (fun h => ?_) (fun h => ?_)
    · refine k_lv [] (lv2 := []) rfl ?_
      cases h
      exact hcont
    · refine k_aload_n C (pc2 := 11) (dkAt dkX6_leaveOut 6 (q := (10, .aload_n 0, 1)) rfl) rfl rfl 0 rfl ?_
      refine kf_X6_16 C (pc2 := 14) (o := o0) (o2 := o0 + 10) h0.1 rfl (dkAt dkX6_leaveOut 7 (q := (11, .getfield 16, 3)) rfl) rfl ?_
      refine k_iload_n C (pc2 := 15) (dkAt dkX6_leaveOut 8 (q := (14, .iload_n 2, 1)) rfl) rfl rfl 2 rfl ?_
      refine k_dup2 C (pc2 := 16) (dkAt dkX6_leaveOut 9 (q := (15, .dup2, 1)) rfl) rfl rfl rfl ?_
      refine k_iald C (pc2 := 17) (o := o0 + 10) (nA := 14) h0.2.2.2.1 (dkAt dkX6_leaveOut 10 (q := (16, .iaload, 1)) rfl) rfl h (fun h => ?_)
      refine k_aload_n C (pc2 := 18) (dkAt dkX6_leaveOut 11 (q := (17, .aload_n 0, 1)) rfl) rfl rfl 0 rfl ?_
      refine kf_X6_11 C (pc2 := 21) (o := o0) (o2 := o0 + 1) h0.1 rfl (dkAt dkX6_leaveOut 12 (q := (18, .getfield 11, 3)) rfl) rfl ?_
      refine k_iload_n C (pc2 := 22) (dkAt dkX6_leaveOut 13 (q := (21, .iload_n 1, 1)) rfl) rfl rfl 1 rfl ?_
      refine k_aa13 C (pc2 := 23) (o := o0 + 1) (o2 := o0 + 2 + x1.toNatClampNeg) (nA := 8) h0.2.1 rfl (dkAt dkX6_leaveOut 14 (q := (22, .aaload, 1)) rfl) rfl h (fun h hl1 => ?_)
      refine k_iload_n C (pc2 := 24) (dkAt dkX6_leaveOut 15 (q := (23, .iload_n 2, 1)) rfl) rfl rfl 2 rfl ?_
      refine k_iald C (pc2 := 25) (o := o0 + 2 + x1.toNatClampNeg) (nA := 14) (h0.2.2.1 _ hl1) (dkAt dkX6_leaveOut 16 (q := (24, .iaload, 1)) rfl) rfl h (fun h => ?_)
      refine k_isub C (pc2 := 26) (dkAt dkX6_leaveOut 17 (q := (25, .isub, 1)) rfl) rfl ?_
      refine k_iast C (pc2 := 27) (o := o0 + 10) (nA := 14) h0.2.2.2.1 (dkAt dkX6_leaveOut 18 (q := (26, .iastore, 1)) rfl) rfl h (fun M2 h => ?_)
      refine kb_iinc C (pc2 := 30) (dkAt dkX6_leaveOut 19 (q := (27, .iinc 2 1, 3)) rfl) rfl (j := 2) rfl (v := x2 + 1) rfl (by decide) (lv2 := fun v3 => [(2, .int v3), (0, rA G o0), (1, .int x1)]) (fun _ => rfl) h (fun v3 h => ?_)
      refine k_goto C (tgt := 2) (dkAt dkX6_leaveOut 20 (q := (30, .goto (-28), 3)) rfl) (by decide) ?_
      refine k_lv [1, 2, 0] (lv2 := [(0, rA G o0), (1, .int x1), (2, .int v3)]) rfl ?_
      exact ih v3 M2 h
set_option maxRecDepth 100000 in
set_option maxHeartbeats 4000000 in
theorem ct_X6_leaveOut (l : Launch) (G : GG) (sh : Sh) (xs : List va_E) (o0 : Nat) (h0 : isTk sh o0) (x1 : Int32) (M : Mm) (r : Mm) (h : f_X6_leaveOut o0 x1 M = some r) : Ct l yX6_leaveOut cX6_leaveOut 3 none rm_X6_leaveOut G [rA G o0, .int x1] sh M xs none sh r xs 0 0 := by
  refine ct_of (by decide) (Nat.le_of_ble_eq_true rfl) ?_
  intro p e s m args below meth c hnm C
  refine k_lv [0, 1] (lv2 := [(0, rA G o0), (1, .int x1)]) rfl ?_
  unfold f_X6_leaveOut at h
  refine k_iconst C (pc2 := 1) (dkAt dkX6_leaveOut 0 (q := (0, .iconst 0, 1)) rfl) rfl (v := 0) rfl ?_
  refine k_istore_n C (pc2 := 2) (dkAt dkX6_leaveOut 1 (q := (1, .istore_n 2, 1)) rfl) rfl rfl (by decide) (lv2 := [(2, .int 0), (0, rA G o0), (1, .int x1)]) rfl ?_
  refine k_lv [1, 2, 0] (lv2 := [(0, rA G o0), (1, .int x1), (2, .int 0)]) rfl ?_
  obtain ⟨M6, e5, h⟩ := ob_inv h
  refine kl_X6_leaveOut_L2 C o0 h0 x1 M6 ?_ 1000 0 M e5
  exact k_vret C (dkAt dkX6_leaveOut 21 (q := (33, .return_, 1)) rfl) rfl (Option.some.inj h) rfl
set_option maxRecDepth 100000 in
set_option maxHeartbeats 4000000 in
theorem kl_X6_daysWithYes_L4 {p : Program} {l : Launch} {e : Env} {s : State} {m : MethodId} {args : Array Value} {below : List Frame} {meth : Method} {c : Code} {G : GG} {sh : Sh} {xs : List va_E} {Q : State → Prop} (C : Cx p s m c args meth G RX6 cX6_daysWithYes 4 (some .int)) (o0 : Nat) (h0 : isTk sh o0) (x1 : Int32) (M : Mm) (y2 : Int32) (hcont : KW p l e rm_X6_daysWithYes s m args below meth c G 4 Q sh xs 0 0 M 36 [(2, .int y2)] []) : ∀ (n : Nat) (x2 : Int32) (x3 : Int32), f_X6_daysWithYes_L4 o0 x1 M n x2 x3 = some y2 → KW p l e rm_X6_daysWithYes s m args below meth c G 4 Q sh xs 0 0 M 4 [(0, rA G o0), (1, .int x1), (2, .int x2), (3, .int x3)] [] := by
  intro n
  induction n with
  | zero =>
    intro x2 x3 h
    cases h
  | succ n ih =>
    intro x2 x3 h
    unfold f_X6_daysWithYes_L4 at h
    refine k_iload_n C (pc2 := 5) (dkAt dkX6_daysWithYes 4 (q := (4, .iload_n 3, 1)) rfl) rfl rfl 3 rfl ?_
    refine k_aload_n C (pc2 := 6) (dkAt dkX6_daysWithYes 5 (q := (5, .aload_n 0, 1)) rfl) rfl rfl 0 rfl ?_
    refine kf_X6_36 C (pc2 := 9) (o := o0) (o2 := 0) h0.1 (dkAt dkX6_daysWithYes 6 (q := (6, .getfield 36, 3)) rfl) rfl ?_
    refine k_icmp_ge C (tgt := 36) (pc2 := 12) (dkAt dkX6_daysWithYes 7 (q := (9, .if_icmp .ge 27, 3)) rfl) (by decide) rfl h (fun h => ?_) (fun h => ?_)
    · refine k_lv [2] (lv2 := [(2, .int x2)]) rfl ?_
      cases h
      exact hcont
    · refine k_aload_n C (pc2 := 13) (dkAt dkX6_daysWithYes 8 (q := (12, .aload_n 0, 1)) rfl) rfl rfl 0 rfl ?_
      refine kf_X6_11 C (pc2 := 16) (o := o0) (o2 := o0 + 1) h0.1 rfl (dkAt dkX6_daysWithYes 9 (q := (13, .getfield 11, 3)) rfl) rfl ?_
      refine k_iload_n C (pc2 := 17) (dkAt dkX6_daysWithYes 10 (q := (16, .iload_n 1, 1)) rfl) rfl rfl 1 rfl ?_
      refine k_aa13 C (pc2 := 18) (o := o0 + 1) (o2 := o0 + 2 + x1.toNatClampNeg) (nA := 8) h0.2.1 rfl (dkAt dkX6_daysWithYes 11 (q := (17, .aaload, 1)) rfl) rfl h (fun h hl1 => ?_)
      refine k_iload_n C (pc2 := 19) (dkAt dkX6_daysWithYes 12 (q := (18, .iload_n 3, 1)) rfl) rfl rfl 3 rfl ?_
      refine k_iald C (pc2 := 20) (o := o0 + 2 + x1.toNatClampNeg) (nA := 14) (h0.2.2.1 _ hl1) (dkAt dkX6_daysWithYes 13 (q := (19, .iaload, 1)) rfl) rfl h (fun h => ?_)
      refine k_iconst C (pc2 := 21) (dkAt dkX6_daysWithYes 14 (q := (20, .iconst 2, 1)) rfl) rfl (v := 2) rfl ?_
      refine k_icmp_ne C (tgt := 30) (pc2 := 24) (dkAt dkX6_daysWithYes 15 (q := (21, .if_icmp .ne 9, 3)) rfl) (by decide) rfl h (fun h => ?_) (fun h => ?_)
      · refine kb_iinc C (pc2 := 33) (dkAt dkX6_daysWithYes 22 (q := (30, .iinc 3 1, 3)) rfl) rfl (j := 3) rfl (v := x3 + 1) rfl (by decide) (lv2 := fun v2 => [(3, .int v2), (0, rA G o0), (1, .int x1), (2, .int x2)]) (fun _ => rfl) h (fun v2 h => ?_)
        refine k_goto C (tgt := 4) (dkAt dkX6_daysWithYes 23 (q := (33, .goto (-29), 3)) rfl) (by decide) ?_
        refine k_lv [1, 2, 3, 0] (lv2 := [(0, rA G o0), (1, .int x1), (2, .int x2), (3, .int v2)]) rfl ?_
        exact ih x2 v2 h
      · refine k_iload_n C (pc2 := 25) (dkAt dkX6_daysWithYes 16 (q := (24, .iload_n 2, 1)) rfl) rfl rfl 2 rfl ?_
        refine k_iconst C (pc2 := 26) (dkAt dkX6_daysWithYes 17 (q := (25, .iconst 1, 1)) rfl) rfl (v := 1) rfl ?_
        refine k_iload_n C (pc2 := 27) (dkAt dkX6_daysWithYes 18 (q := (26, .iload_n 3, 1)) rfl) rfl rfl 3 rfl ?_
        refine k_ishl C (pc2 := 28) (dkAt dkX6_daysWithYes 19 (q := (27, .ishl, 1)) rfl) rfl ?_
        refine k_ior C (pc2 := 29) (dkAt dkX6_daysWithYes 20 (q := (28, .ior, 1)) rfl) rfl ?_
        refine kb_istore_n C (pc2 := 30) (dkAt dkX6_daysWithYes 21 (q := (29, .istore_n 2, 1)) rfl) rfl rfl (by decide) (lv2 := fun v3 => [(2, .int v3), (0, rA G o0), (1, .int x1), (3, .int x3)]) (fun _ => rfl) h (fun v3 h => ?_)
        refine kb_iinc C (pc2 := 33) (dkAt dkX6_daysWithYes 22 (q := (30, .iinc 3 1, 3)) rfl) rfl (j := 3) rfl (v := x3 + 1) rfl (by decide) (lv2 := fun v4 => [(3, .int v4), (2, .int v3), (0, rA G o0), (1, .int x1)]) (fun _ => rfl) h (fun v4 h => ?_)
        refine k_goto C (tgt := 4) (dkAt dkX6_daysWithYes 23 (q := (33, .goto (-29), 3)) rfl) (by decide) ?_
        refine k_lv [2, 3, 1, 0] (lv2 := [(0, rA G o0), (1, .int x1), (2, .int v3), (3, .int v4)]) rfl ?_
        exact ih v3 v4 h
set_option maxRecDepth 100000 in
set_option maxHeartbeats 4000000 in
theorem ct_X6_daysWithYes (l : Launch) (G : GG) (sh : Sh) (xs : List va_E) (o0 : Nat) (h0 : isTk sh o0) (x1 : Int32) (M : Mm) (r : Int32) (h : f_X6_daysWithYes o0 x1 M = some r) : Ct l yX6_daysWithYes cX6_daysWithYes 4 (some .int) rm_X6_daysWithYes G [rA G o0, .int x1] sh M xs (some (.int r)) sh M xs 0 0 := by
  refine ct_of (by decide) (Nat.le_of_ble_eq_true rfl) ?_
  intro p e s m args below meth c hnm C
  refine k_lv [0, 1] (lv2 := [(0, rA G o0), (1, .int x1)]) rfl ?_
  unfold f_X6_daysWithYes at h
  refine k_iconst C (pc2 := 1) (dkAt dkX6_daysWithYes 0 (q := (0, .iconst 0, 1)) rfl) rfl (v := 0) rfl ?_
  refine k_istore_n C (pc2 := 2) (dkAt dkX6_daysWithYes 1 (q := (1, .istore_n 2, 1)) rfl) rfl rfl (by decide) (lv2 := [(2, .int 0), (0, rA G o0), (1, .int x1)]) rfl ?_
  refine k_iconst C (pc2 := 3) (dkAt dkX6_daysWithYes 2 (q := (2, .iconst 0, 1)) rfl) rfl (v := 0) rfl ?_
  refine k_istore_n C (pc2 := 4) (dkAt dkX6_daysWithYes 3 (q := (3, .istore_n 3, 1)) rfl) rfl rfl (by decide) (lv2 := [(3, .int 0), (2, .int 0), (0, rA G o0), (1, .int x1)]) rfl ?_
  refine k_lv [2, 3, 1, 0] (lv2 := [(0, rA G o0), (1, .int x1), (2, .int 0), (3, .int 0)]) rfl ?_
  obtain ⟨v7, e6, h⟩ := ob_inv h
  refine kl_X6_daysWithYes_L4 C o0 h0 x1 M v7 ?_ 1000 0 0 e6
  refine k_iload_n C (pc2 := 37) (dkAt dkX6_daysWithYes 24 (q := (36, .iload_n 2, 1)) rfl) rfl rfl 0 rfl ?_
  exact k_iret C (dkAt dkX6_daysWithYes 25 (q := (37, .ireturn, 1)) rfl) (Option.some.inj h) rfl rfl rfl
set_option maxRecDepth 100000 in
set_option maxHeartbeats 4000000 in
theorem ct_X6_bestOfAll (l : Launch) (G : GG) (sh : Sh) (xs : List va_E) (o0 : Nat) (h0 : isTk sh o0) (M : Mm) (r : Int32) (h : f_X6_bestOfAll o0 M = some r) : Ct l yX6_bestOfAll cX6_bestOfAll 1 (some .int) rm_X6_bestOfAll G [rA G o0] sh M xs (some (.int r)) sh M xs 0 0 := by
  refine ct_of (by decide) (Nat.le_of_ble_eq_true rfl) ?_
  intro p e s m args below meth c hnm C
  refine k_lv [0] (lv2 := [(0, rA G o0)]) rfl ?_
  unfold f_X6_bestOfAll at h
  refine k_aload_n C (pc2 := 1) (dkAt dkX6_bestOfAll 0 (q := (0, .aload_n 0, 1)) rfl) rfl rfl 0 rfl ?_
  refine k_aload_n C (pc2 := 2) (dkAt dkX6_bestOfAll 1 (q := (1, .aload_n 0, 1)) rfl) rfl rfl 0 rfl ?_
  refine kf_X6_16 C (pc2 := 5) (o := o0) (o2 := o0 + 10) h0.1 rfl (dkAt dkX6_bestOfAll 2 (q := (2, .getfield 16, 3)) rfl) rfl ?_
  obtain ⟨q1, e2, h⟩ := ob_inv h
  refine kc_V C (As := [rA G (o0 + 10)]) (st2 := [.int q1]) (ct_X6_dayOfMost l G sh xs o0 h0 (o0 + 10) h0.2.2.2.1 M q1 e2) (cl_X6_51 (hts_of C) ⟨Nat.le_of_ble_eq_true rfl, Nat.le_of_ble_eq_true rfl⟩ rfl rfl) h0.1 rfl rfl rfl rfl rfl (Nat.le_of_ble_eq_true rfl) (dkAt dkX6_bestOfAll 3 (q := (5, .invokevirtual 51, 3)) rfl) ⟨Nat.zero_le _, Nat.zero_le _⟩ (pc2 := 8) rfl rfl ?_
  exact k_iret C (dkAt dkX6_bestOfAll 4 (q := (8, .ireturn, 1)) rfl) (Option.some.inj h) rfl rfl rfl
set_option maxRecDepth 100000 in
set_option maxHeartbeats 4000000 in
theorem kl_X6_bestAmong_L4 {p : Program} {l : Launch} {e : Env} {s : State} {m : MethodId} {args : Array Value} {below : List Frame} {meth : Method} {c : Code} {G : GG} {sh : Sh} {xs : List va_E} {Q : State → Prop} (C : Cx p s m c args meth G RX6 cX6_bestAmong 4 (some .int)) (o0 : Nat) (h0 : isTk sh o0) (x1 : Int32) (M : Mm) (y2 : Int32) (hcont : KW p l e rm_X6_bestAmong s m args below meth c G 4 Q sh xs 0 0 M 48 [(2, .int y2)] []) : ∀ (n : Nat) (x2 : Int32) (x3 : Int32), f_X6_bestAmong_L4 o0 x1 M n x2 x3 = some y2 → KW p l e rm_X6_bestAmong s m args below meth c G 4 Q sh xs 0 0 M 4 [(0, rA G o0), (1, .int x1), (2, .int x2), (3, .int x3)] [] := by
  intro n
  induction n with
  | zero =>
    intro x2 x3 h
    cases h
  | succ n ih =>
    intro x2 x3 h
    unfold f_X6_bestAmong_L4 at h
    refine k_iload_n C (pc2 := 5) (dkAt dkX6_bestAmong 4 (q := (4, .iload_n 3, 1)) rfl) rfl rfl 3 rfl ?_
    refine k_aload_n C (pc2 := 6) (dkAt dkX6_bestAmong 5 (q := (5, .aload_n 0, 1)) rfl) rfl rfl 0 rfl ?_
    refine kf_X6_36 C (pc2 := 9) (o := o0) (o2 := 0) h0.1 (dkAt dkX6_bestAmong 6 (q := (6, .getfield 36, 3)) rfl) rfl ?_
    refine k_icmp_ge C (tgt := 48) (pc2 := 12) (dkAt dkX6_bestAmong 7 (q := (9, .if_icmp .ge 39, 3)) rfl) (by decide) rfl h (fun h => ?_) (fun h => ?_)
    · refine k_lv [2] (lv2 := [(2, .int x2)]) rfl ?_
      cases h
      exact hcont
    · refine k_iload_n C (pc2 := 13) (dkAt dkX6_bestAmong 8 (q := (12, .iload_n 1, 1)) rfl) rfl rfl 1 rfl ?_
      refine k_iload_n C (pc2 := 14) (dkAt dkX6_bestAmong 9 (q := (13, .iload_n 3, 1)) rfl) rfl rfl 3 rfl ?_
      obtain ⟨q1, e2, h⟩ := ob_inv h
      refine kc_SN C (As := [.int x1, .int x3]) (st2 := [.int q1]) (ct_X7_hasBit l G sh xs x1 x3 M q1 e2) (cl_X6_70 (hts_of C) C.2.2.2.2.1 ⟨Nat.le_of_ble_eq_true rfl, Nat.le_of_ble_eq_true rfl⟩ rfl rfl) rfl rfl (Nat.le_of_ble_eq_true rfl) (dkAt dkX6_bestAmong 10 (q := (14, .invokestatic 70, 3)) rfl) ⟨Nat.zero_le _, Nat.zero_le _⟩ (pc2 := 17) rfl rfl ?_
      refine k_if_eq C (tgt := 42) (pc2 := 20) (dkAt dkX6_bestAmong 11 (q := (17, .ifCond .eq 25, 3)) rfl) (by decide) rfl h (fun h => ?_) (fun h => ?_)
      · refine kb_iinc C (pc2 := 45) (dkAt dkX6_bestAmong 26 (q := (42, .iinc 3 1, 3)) rfl) rfl (j := 3) rfl (v := x3 + 1) rfl (by decide) (lv2 := fun v3 => [(3, .int v3), (0, rA G o0), (1, .int x1), (2, .int x2)]) (fun _ => rfl) h (fun v3 h => ?_)
        refine k_goto C (tgt := 4) (dkAt dkX6_bestAmong 27 (q := (45, .goto (-41), 3)) rfl) (by decide) ?_
        refine k_lv [1, 2, 3, 0] (lv2 := [(0, rA G o0), (1, .int x1), (2, .int x2), (3, .int v3)]) rfl ?_
        exact ih x2 v3 h
      · refine k_iload_n C (pc2 := 21) (dkAt dkX6_bestAmong 12 (q := (20, .iload_n 2, 1)) rfl) rfl rfl 2 rfl ?_
        refine k_iconst C (pc2 := 22) (dkAt dkX6_bestAmong 13 (q := (21, .iconst (-1), 1)) rfl) rfl (v := (-1)) rfl ?_
        refine k_icmp_eq C (tgt := 40) (pc2 := 25) (dkAt dkX6_bestAmong 14 (q := (22, .if_icmp .eq 18, 3)) rfl) (by decide) rfl h (fun h => ?_) (fun h => ?_)
        · refine k_iload_n C (pc2 := 41) (dkAt dkX6_bestAmong 24 (q := (40, .iload_n 3, 1)) rfl) rfl rfl 3 rfl ?_
          refine k_istore_n C (pc2 := 42) (dkAt dkX6_bestAmong 25 (q := (41, .istore_n 2, 1)) rfl) rfl rfl (by decide) (lv2 := [(2, .int x3), (0, rA G o0), (1, .int x1), (3, .int x3)]) rfl ?_
          refine kb_iinc C (pc2 := 45) (dkAt dkX6_bestAmong 26 (q := (42, .iinc 3 1, 3)) rfl) rfl (j := 3) rfl (v := x3 + 1) rfl (by decide) (lv2 := fun v4 => [(3, .int v4), (2, .int x3), (0, rA G o0), (1, .int x1)]) (fun _ => rfl) h (fun v4 h => ?_)
          refine k_goto C (tgt := 4) (dkAt dkX6_bestAmong 27 (q := (45, .goto (-41), 3)) rfl) (by decide) ?_
          refine k_lv [2, 3, 1, 0] (lv2 := [(0, rA G o0), (1, .int x1), (2, .int x3), (3, .int v4)]) rfl ?_
          exact ih x3 v4 h
        · refine k_aload_n C (pc2 := 26) (dkAt dkX6_bestAmong 15 (q := (25, .aload_n 0, 1)) rfl) rfl rfl 0 rfl ?_
          refine kf_X6_16 C (pc2 := 29) (o := o0) (o2 := o0 + 10) h0.1 rfl (dkAt dkX6_bestAmong 16 (q := (26, .getfield 16, 3)) rfl) rfl ?_
          refine k_iload_n C (pc2 := 30) (dkAt dkX6_bestAmong 17 (q := (29, .iload_n 3, 1)) rfl) rfl rfl 3 rfl ?_
          refine k_iald C (pc2 := 31) (o := o0 + 10) (nA := 14) h0.2.2.2.1 (dkAt dkX6_bestAmong 18 (q := (30, .iaload, 1)) rfl) rfl h (fun h => ?_)
          refine k_aload_n C (pc2 := 32) (dkAt dkX6_bestAmong 19 (q := (31, .aload_n 0, 1)) rfl) rfl rfl 0 rfl ?_
          refine kf_X6_16 C (pc2 := 35) (o := o0) (o2 := o0 + 10) h0.1 rfl (dkAt dkX6_bestAmong 20 (q := (32, .getfield 16, 3)) rfl) rfl ?_
          refine k_iload_n C (pc2 := 36) (dkAt dkX6_bestAmong 21 (q := (35, .iload_n 2, 1)) rfl) rfl rfl 2 rfl ?_
          refine k_iald C (pc2 := 37) (o := o0 + 10) (nA := 14) h0.2.2.2.1 (dkAt dkX6_bestAmong 22 (q := (36, .iaload, 1)) rfl) rfl h (fun h => ?_)
          refine k_icmp_le C (tgt := 42) (pc2 := 40) (dkAt dkX6_bestAmong 23 (q := (37, .if_icmp .le 5, 3)) rfl) (by decide) rfl h (fun h => ?_) (fun h => ?_)
          · refine kb_iinc C (pc2 := 45) (dkAt dkX6_bestAmong 26 (q := (42, .iinc 3 1, 3)) rfl) rfl (j := 3) rfl (v := x3 + 1) rfl (by decide) (lv2 := fun v5 => [(3, .int v5), (0, rA G o0), (1, .int x1), (2, .int x2)]) (fun _ => rfl) h (fun v5 h => ?_)
            refine k_goto C (tgt := 4) (dkAt dkX6_bestAmong 27 (q := (45, .goto (-41), 3)) rfl) (by decide) ?_
            refine k_lv [1, 2, 3, 0] (lv2 := [(0, rA G o0), (1, .int x1), (2, .int x2), (3, .int v5)]) rfl ?_
            exact ih x2 v5 h
          · refine k_iload_n C (pc2 := 41) (dkAt dkX6_bestAmong 24 (q := (40, .iload_n 3, 1)) rfl) rfl rfl 3 rfl ?_
            refine k_istore_n C (pc2 := 42) (dkAt dkX6_bestAmong 25 (q := (41, .istore_n 2, 1)) rfl) rfl rfl (by decide) (lv2 := [(2, .int x3), (0, rA G o0), (1, .int x1), (3, .int x3)]) rfl ?_
            refine kb_iinc C (pc2 := 45) (dkAt dkX6_bestAmong 26 (q := (42, .iinc 3 1, 3)) rfl) rfl (j := 3) rfl (v := x3 + 1) rfl (by decide) (lv2 := fun v6 => [(3, .int v6), (2, .int x3), (0, rA G o0), (1, .int x1)]) (fun _ => rfl) h (fun v6 h => ?_)
            refine k_goto C (tgt := 4) (dkAt dkX6_bestAmong 27 (q := (45, .goto (-41), 3)) rfl) (by decide) ?_
            refine k_lv [2, 3, 1, 0] (lv2 := [(0, rA G o0), (1, .int x1), (2, .int x3), (3, .int v6)]) rfl ?_
            exact ih x3 v6 h
set_option maxRecDepth 100000 in
set_option maxHeartbeats 4000000 in
theorem ct_X6_bestAmong (l : Launch) (G : GG) (sh : Sh) (xs : List va_E) (o0 : Nat) (h0 : isTk sh o0) (x1 : Int32) (M : Mm) (r : Int32) (h : f_X6_bestAmong o0 x1 M = some r) : Ct l yX6_bestAmong cX6_bestAmong 4 (some .int) rm_X6_bestAmong G [rA G o0, .int x1] sh M xs (some (.int r)) sh M xs 0 0 := by
  refine ct_of (by decide) (Nat.le_of_ble_eq_true rfl) ?_
  intro p e s m args below meth c hnm C
  refine k_lv [0, 1] (lv2 := [(0, rA G o0), (1, .int x1)]) rfl ?_
  unfold f_X6_bestAmong at h
  refine k_iconst C (pc2 := 1) (dkAt dkX6_bestAmong 0 (q := (0, .iconst (-1), 1)) rfl) rfl (v := (-1)) rfl ?_
  refine k_istore_n C (pc2 := 2) (dkAt dkX6_bestAmong 1 (q := (1, .istore_n 2, 1)) rfl) rfl rfl (by decide) (lv2 := [(2, .int (-1)), (0, rA G o0), (1, .int x1)]) rfl ?_
  refine k_iconst C (pc2 := 3) (dkAt dkX6_bestAmong 2 (q := (2, .iconst 0, 1)) rfl) rfl (v := 0) rfl ?_
  refine k_istore_n C (pc2 := 4) (dkAt dkX6_bestAmong 3 (q := (3, .istore_n 3, 1)) rfl) rfl rfl (by decide) (lv2 := [(3, .int 0), (2, .int (-1)), (0, rA G o0), (1, .int x1)]) rfl ?_
  refine k_lv [2, 3, 1, 0] (lv2 := [(0, rA G o0), (1, .int x1), (2, .int (-1)), (3, .int 0)]) rfl ?_
  obtain ⟨v9, e8, h⟩ := ob_inv h
  refine kl_X6_bestAmong_L4 C o0 h0 x1 M v9 ?_ 1000 (-1) 0 e8
  refine k_iload_n C (pc2 := 49) (dkAt dkX6_bestAmong 28 (q := (48, .iload_n 2, 1)) rfl) rfl rfl 0 rfl ?_
  exact k_iret C (dkAt dkX6_bestAmong 29 (q := (49, .ireturn, 1)) rfl) (Option.some.inj h) rfl rfl rfl
set_option maxRecDepth 100000 in
set_option maxHeartbeats 4000000 in
theorem kl_X6_howManyBefore_L4 {p : Program} {l : Launch} {e : Env} {s : State} {m : MethodId} {args : Array Value} {below : List Frame} {meth : Method} {c : Code} {G : GG} {sh : Sh} {xs : List va_E} {Q : State → Prop} (C : Cx p s m c args meth G RX6 cX6_howManyBefore 4 (some .int)) (o0 : Nat) (h0 : isTk sh o0) (x1 : Int32) (M : Mm) (y2 : Int32) (hcont : KW p l e rm_X6_howManyBefore s m args below meth c G 4 Q sh xs 0 0 M 56 [(2, .int y2)] []) : ∀ (n : Nat) (x2 : Int32) (x3 : Int32), f_X6_howManyBefore_L4 o0 x1 M n x2 x3 = some y2 → KW p l e rm_X6_howManyBefore s m args below meth c G 4 Q sh xs 0 0 M 4 [(0, rA G o0), (1, .int x1), (2, .int x2), (3, .int x3)] [] := by
  intro n
  induction n with
  | zero =>
    intro x2 x3 h
    cases h
  | succ n ih =>
    intro x2 x3 h
    unfold f_X6_howManyBefore_L4 at h
    refine k_iload_n C (pc2 := 5) (dkAt dkX6_howManyBefore 4 (q := (4, .iload_n 3, 1)) rfl) rfl rfl 3 rfl ?_
    refine k_aload_n C (pc2 := 6) (dkAt dkX6_howManyBefore 5 (q := (5, .aload_n 0, 1)) rfl) rfl rfl 0 rfl ?_
    refine kf_X6_36 C (pc2 := 9) (o := o0) (o2 := 0) h0.1 (dkAt dkX6_howManyBefore 6 (q := (6, .getfield 36, 3)) rfl) rfl ?_
    refine k_icmp_ge C (tgt := 56) (pc2 := 12) (dkAt dkX6_howManyBefore 7 (q := (9, .if_icmp .ge 47, 3)) rfl) (by decide) rfl h (fun h => ?_) (fun h => ?_)
    · refine k_lv [2] (lv2 := [(2, .int x2)]) rfl ?_
      cases h
      exact hcont
    · refine k_aload_n C (pc2 := 13) (dkAt dkX6_howManyBefore 8 (q := (12, .aload_n 0, 1)) rfl) rfl rfl 0 rfl ?_
      refine kf_X6_16 C (pc2 := 16) (o := o0) (o2 := o0 + 10) h0.1 rfl (dkAt dkX6_howManyBefore 9 (q := (13, .getfield 16, 3)) rfl) rfl ?_
      refine k_iload_n C (pc2 := 17) (dkAt dkX6_howManyBefore 10 (q := (16, .iload_n 3, 1)) rfl) rfl rfl 3 rfl ?_
      refine k_iald C (pc2 := 18) (o := o0 + 10) (nA := 14) h0.2.2.2.1 (dkAt dkX6_howManyBefore 11 (q := (17, .iaload, 1)) rfl) rfl h (fun h => ?_)
      refine k_aload_n C (pc2 := 19) (dkAt dkX6_howManyBefore 12 (q := (18, .aload_n 0, 1)) rfl) rfl rfl 0 rfl ?_
      refine kf_X6_16 C (pc2 := 22) (o := o0) (o2 := o0 + 10) h0.1 rfl (dkAt dkX6_howManyBefore 13 (q := (19, .getfield 16, 3)) rfl) rfl ?_
      refine k_iload_n C (pc2 := 23) (dkAt dkX6_howManyBefore 14 (q := (22, .iload_n 1, 1)) rfl) rfl rfl 1 rfl ?_
      refine k_iald C (pc2 := 24) (o := o0 + 10) (nA := 14) h0.2.2.2.1 (dkAt dkX6_howManyBefore 15 (q := (23, .iaload, 1)) rfl) rfl h (fun h => ?_)
      refine k_icmp_gt C (tgt := 47) (pc2 := 27) (dkAt dkX6_howManyBefore 16 (q := (24, .if_icmp .gt 23, 3)) rfl) (by decide) rfl h (fun h => ?_) (fun h => ?_)
      · refine kb_iinc C (pc2 := 50) (dkAt dkX6_howManyBefore 29 (q := (47, .iinc 2 1, 3)) rfl) rfl (j := 2) rfl (v := x2 + 1) rfl (by decide) (lv2 := fun v1 => [(2, .int v1), (0, rA G o0), (1, .int x1), (3, .int x3)]) (fun _ => rfl) h (fun v1 h => ?_)
        refine kb_iinc C (pc2 := 53) (dkAt dkX6_howManyBefore 30 (q := (50, .iinc 3 1, 3)) rfl) rfl (j := 3) rfl (v := x3 + 1) rfl (by decide) (lv2 := fun v2 => [(3, .int v2), (2, .int v1), (0, rA G o0), (1, .int x1)]) (fun _ => rfl) h (fun v2 h => ?_)
        refine k_goto C (tgt := 4) (dkAt dkX6_howManyBefore 31 (q := (53, .goto (-49), 3)) rfl) (by decide) ?_
        refine k_lv [2, 3, 1, 0] (lv2 := [(0, rA G o0), (1, .int x1), (2, .int v1), (3, .int v2)]) rfl ?_
        exact ih v1 v2 h
      · refine k_aload_n C (pc2 := 28) (dkAt dkX6_howManyBefore 17 (q := (27, .aload_n 0, 1)) rfl) rfl rfl 0 rfl ?_
        refine kf_X6_16 C (pc2 := 31) (o := o0) (o2 := o0 + 10) h0.1 rfl (dkAt dkX6_howManyBefore 18 (q := (28, .getfield 16, 3)) rfl) rfl ?_
        refine k_iload_n C (pc2 := 32) (dkAt dkX6_howManyBefore 19 (q := (31, .iload_n 3, 1)) rfl) rfl rfl 3 rfl ?_
        refine k_iald C (pc2 := 33) (o := o0 + 10) (nA := 14) h0.2.2.2.1 (dkAt dkX6_howManyBefore 20 (q := (32, .iaload, 1)) rfl) rfl h (fun h => ?_)
        refine k_aload_n C (pc2 := 34) (dkAt dkX6_howManyBefore 21 (q := (33, .aload_n 0, 1)) rfl) rfl rfl 0 rfl ?_
        refine kf_X6_16 C (pc2 := 37) (o := o0) (o2 := o0 + 10) h0.1 rfl (dkAt dkX6_howManyBefore 22 (q := (34, .getfield 16, 3)) rfl) rfl ?_
        refine k_iload_n C (pc2 := 38) (dkAt dkX6_howManyBefore 23 (q := (37, .iload_n 1, 1)) rfl) rfl rfl 1 rfl ?_
        refine k_iald C (pc2 := 39) (o := o0 + 10) (nA := 14) h0.2.2.2.1 (dkAt dkX6_howManyBefore 24 (q := (38, .iaload, 1)) rfl) rfl h (fun h => ?_)
        refine k_icmp_ne C (tgt := 50) (pc2 := 42) (dkAt dkX6_howManyBefore 25 (q := (39, .if_icmp .ne 11, 3)) rfl) (by decide) rfl h (fun h => ?_) (fun h => ?_)
        · refine kb_iinc C (pc2 := 53) (dkAt dkX6_howManyBefore 30 (q := (50, .iinc 3 1, 3)) rfl) rfl (j := 3) rfl (v := x3 + 1) rfl (by decide) (lv2 := fun v3 => [(3, .int v3), (0, rA G o0), (1, .int x1), (2, .int x2)]) (fun _ => rfl) h (fun v3 h => ?_)
          refine k_goto C (tgt := 4) (dkAt dkX6_howManyBefore 31 (q := (53, .goto (-49), 3)) rfl) (by decide) ?_
          refine k_lv [1, 2, 3, 0] (lv2 := [(0, rA G o0), (1, .int x1), (2, .int x2), (3, .int v3)]) rfl ?_
          exact ih x2 v3 h
        · refine k_iload_n C (pc2 := 43) (dkAt dkX6_howManyBefore 26 (q := (42, .iload_n 3, 1)) rfl) rfl rfl 3 rfl ?_
          refine k_iload_n C (pc2 := 44) (dkAt dkX6_howManyBefore 27 (q := (43, .iload_n 1, 1)) rfl) rfl rfl 1 rfl ?_
          refine k_icmp_ge C (tgt := 50) (pc2 := 47) (dkAt dkX6_howManyBefore 28 (q := (44, .if_icmp .ge 6, 3)) rfl) (by decide) rfl h (fun h => ?_) (fun h => ?_)
          · refine kb_iinc C (pc2 := 53) (dkAt dkX6_howManyBefore 30 (q := (50, .iinc 3 1, 3)) rfl) rfl (j := 3) rfl (v := x3 + 1) rfl (by decide) (lv2 := fun v4 => [(3, .int v4), (0, rA G o0), (1, .int x1), (2, .int x2)]) (fun _ => rfl) h (fun v4 h => ?_)
            refine k_goto C (tgt := 4) (dkAt dkX6_howManyBefore 31 (q := (53, .goto (-49), 3)) rfl) (by decide) ?_
            refine k_lv [1, 2, 3, 0] (lv2 := [(0, rA G o0), (1, .int x1), (2, .int x2), (3, .int v4)]) rfl ?_
            exact ih x2 v4 h
          · refine kb_iinc C (pc2 := 50) (dkAt dkX6_howManyBefore 29 (q := (47, .iinc 2 1, 3)) rfl) rfl (j := 2) rfl (v := x2 + 1) rfl (by decide) (lv2 := fun v5 => [(2, .int v5), (0, rA G o0), (1, .int x1), (3, .int x3)]) (fun _ => rfl) h (fun v5 h => ?_)
            refine kb_iinc C (pc2 := 53) (dkAt dkX6_howManyBefore 30 (q := (50, .iinc 3 1, 3)) rfl) rfl (j := 3) rfl (v := x3 + 1) rfl (by decide) (lv2 := fun v6 => [(3, .int v6), (2, .int v5), (0, rA G o0), (1, .int x1)]) (fun _ => rfl) h (fun v6 h => ?_)
            refine k_goto C (tgt := 4) (dkAt dkX6_howManyBefore 31 (q := (53, .goto (-49), 3)) rfl) (by decide) ?_
            refine k_lv [2, 3, 1, 0] (lv2 := [(0, rA G o0), (1, .int x1), (2, .int v5), (3, .int v6)]) rfl ?_
            exact ih v5 v6 h
set_option maxRecDepth 100000 in
set_option maxHeartbeats 4000000 in
theorem ct_X6_howManyBefore (l : Launch) (G : GG) (sh : Sh) (xs : List va_E) (o0 : Nat) (h0 : isTk sh o0) (x1 : Int32) (M : Mm) (r : Int32) (h : f_X6_howManyBefore o0 x1 M = some r) : Ct l yX6_howManyBefore cX6_howManyBefore 4 (some .int) rm_X6_howManyBefore G [rA G o0, .int x1] sh M xs (some (.int r)) sh M xs 0 0 := by
  refine ct_of (by decide) (Nat.le_of_ble_eq_true rfl) ?_
  intro p e s m args below meth c hnm C
  refine k_lv [0, 1] (lv2 := [(0, rA G o0), (1, .int x1)]) rfl ?_
  unfold f_X6_howManyBefore at h
  refine k_iconst C (pc2 := 1) (dkAt dkX6_howManyBefore 0 (q := (0, .iconst 0, 1)) rfl) rfl (v := 0) rfl ?_
  refine k_istore_n C (pc2 := 2) (dkAt dkX6_howManyBefore 1 (q := (1, .istore_n 2, 1)) rfl) rfl rfl (by decide) (lv2 := [(2, .int 0), (0, rA G o0), (1, .int x1)]) rfl ?_
  refine k_iconst C (pc2 := 3) (dkAt dkX6_howManyBefore 2 (q := (2, .iconst 0, 1)) rfl) rfl (v := 0) rfl ?_
  refine k_istore_n C (pc2 := 4) (dkAt dkX6_howManyBefore 3 (q := (3, .istore_n 3, 1)) rfl) rfl rfl (by decide) (lv2 := [(3, .int 0), (2, .int 0), (0, rA G o0), (1, .int x1)]) rfl ?_
  refine k_lv [2, 3, 1, 0] (lv2 := [(0, rA G o0), (1, .int x1), (2, .int 0), (3, .int 0)]) rfl ?_
  obtain ⟨v9, e8, h⟩ := ob_inv h
  refine kl_X6_howManyBefore_L4 C o0 h0 x1 M v9 ?_ 1000 0 0 e8
  refine k_iload_n C (pc2 := 57) (dkAt dkX6_howManyBefore 32 (q := (56, .iload_n 2, 1)) rfl) rfl rfl 0 rfl ?_
  exact k_iret C (dkAt dkX6_howManyBefore 33 (q := (57, .ireturn, 1)) rfl) (Option.some.inj h) rfl rfl rfl
set_option maxRecDepth 100000 in
set_option maxHeartbeats 4000000 in
theorem kl_X6_dayAtPlace_L2 {p : Program} {l : Launch} {e : Env} {s : State} {m : MethodId} {args : Array Value} {below : List Frame} {meth : Method} {c : Code} {G : GG} {sh : Sh} {xs : List va_E} (C : Cx p s m c args meth G RX6 cX6_dayAtPlace 3 (some .int)) (o0 : Nat) (h0 : isTk sh o0) (x1 : Int32) (M : Mm) (r : Int32) (t : (Unit) ⊕ (Int32)) (hcont : t = Sum.inl () → KW p l e rm_X6_dayAtPlace s m args below meth c G 3 (MQ below (QO G (some (.int r)) sh M xs) args s 0 0 (gA G)) sh xs 0 0 M 27 [] []) (hres : ∀ z, t = Sum.inr z → z = r) : ∀ (n : Nat) (x2 : Int32), f_X6_dayAtPlace_L2 o0 x1 M n x2 = some t → KW p l e rm_X6_dayAtPlace s m args below meth c G 3 (MQ below (QO G (some (.int r)) sh M xs) args s 0 0 (gA G)) sh xs 0 0 M 2 [(0, rA G o0), (1, .int x1), (2, .int x2)] [] := by
  intro n
  induction n with
  | zero =>
    intro x2 h
    cases h
  | succ n ih =>
    intro x2 h
    unfold f_X6_dayAtPlace_L2 at h
    refine k_iload_n C (pc2 := 3) (dkAt dkX6_dayAtPlace 2 (q := (2, .iload_n 2, 1)) rfl) rfl rfl 2 rfl ?_
    refine k_aload_n C (pc2 := 4) (dkAt dkX6_dayAtPlace 3 (q := (3, .aload_n 0, 1)) rfl) rfl rfl 0 rfl ?_
    refine kf_X6_36 C (pc2 := 7) (o := o0) (o2 := 0) h0.1 (dkAt dkX6_dayAtPlace 4 (q := (4, .getfield 36, 3)) rfl) rfl ?_
    refine k_icmp_ge C (tgt := 27) (pc2 := 10) (dkAt dkX6_dayAtPlace 5 (q := (7, .if_icmp .ge 20, 3)) rfl) (by decide) rfl h (fun h => ?_) (fun h => ?_)
    · refine k_lv [] (lv2 := []) rfl ?_
      exact hcont (Option.some.inj h).symm
    · refine k_aload_n C (pc2 := 11) (dkAt dkX6_dayAtPlace 6 (q := (10, .aload_n 0, 1)) rfl) rfl rfl 0 rfl ?_
      refine k_iload_n C (pc2 := 12) (dkAt dkX6_dayAtPlace 7 (q := (11, .iload_n 2, 1)) rfl) rfl rfl 2 rfl ?_
      obtain ⟨q1, e2, h⟩ := ob_inv h
      refine kc_V C (As := [.int x2]) (st2 := [.int q1]) (ct_X6_howManyBefore l G sh xs o0 h0 x2 M q1 e2) (cl_X6_74 (hts_of C) ⟨Nat.le_of_ble_eq_true rfl, Nat.le_of_ble_eq_true rfl⟩ rfl rfl) h0.1 rfl rfl rfl rfl rfl (Nat.le_of_ble_eq_true rfl) (dkAt dkX6_dayAtPlace 8 (q := (12, .invokevirtual 74, 3)) rfl) ⟨Nat.zero_le _, Nat.zero_le _⟩ (pc2 := 15) rfl rfl ?_
      refine k_iload_n C (pc2 := 16) (dkAt dkX6_dayAtPlace 9 (q := (15, .iload_n 1, 1)) rfl) rfl rfl 1 rfl ?_
      refine k_icmp_ne C (tgt := 21) (pc2 := 19) (dkAt dkX6_dayAtPlace 10 (q := (16, .if_icmp .ne 5, 3)) rfl) (by decide) rfl h (fun h => ?_) (fun h => ?_)
      · refine kb_iinc C (pc2 := 24) (dkAt dkX6_dayAtPlace 13 (q := (21, .iinc 2 1, 3)) rfl) rfl (j := 2) rfl (v := x2 + 1) rfl (by decide) (lv2 := fun v3 => [(2, .int v3), (0, rA G o0), (1, .int x1)]) (fun _ => rfl) h (fun v3 h => ?_)
        refine k_goto C (tgt := 2) (dkAt dkX6_dayAtPlace 14 (q := (24, .goto (-22), 3)) rfl) (by decide) ?_
        refine k_lv [1, 2, 0] (lv2 := [(0, rA G o0), (1, .int x1), (2, .int v3)]) rfl ?_
        exact ih v3 h
      · refine k_iload_n C (pc2 := 20) (dkAt dkX6_dayAtPlace 11 (q := (19, .iload_n 2, 1)) rfl) rfl rfl 2 rfl ?_
        exact k_iret C (dkAt dkX6_dayAtPlace 12 (q := (20, .ireturn, 1)) rfl) (hres _ (Option.some.inj h).symm) rfl rfl rfl
set_option maxRecDepth 100000 in
set_option maxHeartbeats 4000000 in
theorem ct_X6_dayAtPlace (l : Launch) (G : GG) (sh : Sh) (xs : List va_E) (o0 : Nat) (h0 : isTk sh o0) (x1 : Int32) (M : Mm) (r : Int32) (h : f_X6_dayAtPlace o0 x1 M = some r) : Ct l yX6_dayAtPlace cX6_dayAtPlace 3 (some .int) rm_X6_dayAtPlace G [rA G o0, .int x1] sh M xs (some (.int r)) sh M xs 0 0 := by
  refine ct_of (by decide) (Nat.le_of_ble_eq_true rfl) ?_
  intro p e s m args below meth c hnm C
  refine k_lv [0, 1] (lv2 := [(0, rA G o0), (1, .int x1)]) rfl ?_
  unfold f_X6_dayAtPlace at h
  refine k_iconst C (pc2 := 1) (dkAt dkX6_dayAtPlace 0 (q := (0, .iconst 0, 1)) rfl) rfl (v := 0) rfl ?_
  refine k_istore_n C (pc2 := 2) (dkAt dkX6_dayAtPlace 1 (q := (1, .istore_n 2, 1)) rfl) rfl rfl (by decide) (lv2 := [(2, .int 0), (0, rA G o0), (1, .int x1)]) rfl ?_
  refine k_lv [1, 2, 0] (lv2 := [(0, rA G o0), (1, .int x1), (2, .int 0)]) rfl ?_
  obtain ⟨t4, e5, hA, hB⟩ := obS_inv h
  refine kl_X6_dayAtPlace_L2 C o0 h0 x1 M r t4 ?_ ?_ 1000 0 e5
  · intro et
    have h := hA _ et
    refine k_iconst C (pc2 := 28) (dkAt dkX6_dayAtPlace 15 (q := (27, .iconst (-1), 1)) rfl) rfl (v := (-1)) rfl ?_
    exact k_iret C (dkAt dkX6_dayAtPlace 16 (q := (28, .ireturn, 1)) rfl) (Option.some.inj h) rfl rfl rfl
  · intro z et
    have h := hB _ et
    exact Option.some.inj h
set_option maxRecDepth 100000 in
set_option maxHeartbeats 4000000 in
theorem ct_X7_isShelf (l : Launch) (G : GG) (sh : Sh) (xs : List va_E) (x0 : Int32) (M : Mm) (r : Int32) (h : f_X7_isShelf x0 = some r) : Ct l yX7_isShelf cX7_isShelf 1 (some .boolean) rm_X7_isShelf G [.int x0] sh M xs (some (.int r)) sh M xs 0 0 := by
  refine ct_of (by decide) (Nat.le_of_ble_eq_true rfl) ?_
  intro p e s m args below meth c hnm C
  refine k_lv [0] (lv2 := [(0, .int x0)]) rfl ?_
  unfold f_X7_isShelf at h
  refine k_iload_n C (pc2 := 1) (dkAt dkX7_isShelf 0 (q := (0, .iload_n 0, 1)) rfl) rfl rfl 0 rfl ?_
  refine k_iconst C (pc2 := 2) (dkAt dkX7_isShelf 1 (q := (1, .iconst 0, 1)) rfl) rfl (v := 0) rfl ?_
  refine k_bipush C (pc2 := 4) (dkAt dkX7_isShelf 2 (q := (2, .bipush 7, 2)) rfl) rfl (v := 7) rfl ?_
  obtain ⟨q1, e2, h⟩ := ob_inv h
  refine kc_S C (As := [.int x0, .int 0, .int 7]) (st2 := [.int q1]) (ct_X7_within l G sh xs x0 0 7 M q1 e2) (cl_X7_58 (hts_of C) ⟨Nat.le_of_ble_eq_true rfl, Nat.le_of_ble_eq_true rfl⟩ rfl rfl) rfl rfl (Nat.le_of_ble_eq_true rfl) (dkAt dkX7_isShelf 3 (q := (4, .invokestatic 58, 3)) rfl) ⟨Nat.zero_le _, Nat.zero_le _⟩ (pc2 := 7) rfl rfl ?_
  obtain ⟨hb, h⟩ := chb_inv h
  exact k_zret C (dkAt dkX7_isShelf 4 (q := (7, .ireturn, 1)) rfl) hb (Option.some.inj h) rfl rfl rfl
set_option maxRecDepth 100000 in
set_option maxHeartbeats 4000000 in
theorem ct_X7_refuse (l : Launch) (G : GG) (sh : Sh) (xs : List va_E) (hX : isX sh) (x1 : Int32) (M : Mm) (r : Mm × Int32) (h : f_X7_refuse x1 M = some r) : Ct l yX7_refuse cX7_refuse 3 (some .int) rm_X7_refuse G [rA G 0, .int x1] sh M xs (some (.int r.2)) sh r.1 xs 0 0 := by
  refine ct_of (by decide) (Nat.le_of_ble_eq_true rfl) ?_
  intro p e s m args below meth c hnm C
  refine k_lv [0, 1] (lv2 := [(0, rA G 0), (1, .int x1)]) rfl ?_
  unfold f_X7_refuse at h
  refine k_bipush C (pc2 := 2) (dkAt dkX7_refuse 0 (q := (0, .bipush (-2), 2)) rfl) rfl (v := (-2)) rfl ?_
  refine k_iload_n C (pc2 := 3) (dkAt dkX7_refuse 1 (q := (2, .iload_n 1, 1)) rfl) rfl rfl 1 rfl ?_
  refine k_isub C (pc2 := 4) (dkAt dkX7_refuse 2 (q := (3, .isub, 1)) rfl) rfl ?_
  refine kb_istore_n C (pc2 := 5) (dkAt dkX7_refuse 3 (q := (4, .istore_n 2, 1)) rfl) rfl rfl (by decide) (lv2 := fun v1 => [(2, .int v1), (0, rA G 0), (1, .int x1)]) (fun _ => rfl) h (fun v1 h => ?_)
  refine k_iload_n C (pc2 := 6) (dkAt dkX7_refuse 4 (q := (5, .iload_n 2, 1)) rfl) rfl rfl 0 rfl ?_
  refine k_iconst C (pc2 := 7) (dkAt dkX7_refuse 5 (q := (6, .iconst 0, 1)) rfl) rfl (v := 0) rfl ?_
  refine k_iconst C (pc2 := 8) (dkAt dkX7_refuse 6 (q := (7, .iconst 4, 1)) rfl) rfl (v := 4) rfl ?_
  obtain ⟨q2, e3, h⟩ := ob_inv h
  refine kc_S C (As := [.int v1, .int 0, .int 4]) (st2 := [.int q2]) (ct_X7_within l G sh xs v1 0 4 M q2 e3) (cl_X7_58 (hts_of C) ⟨Nat.le_of_ble_eq_true rfl, Nat.le_of_ble_eq_true rfl⟩ rfl rfl) rfl rfl (Nat.le_of_ble_eq_true rfl) (dkAt dkX7_refuse 7 (q := (8, .invokestatic 58, 3)) rfl) ⟨Nat.zero_le _, Nat.zero_le _⟩ (pc2 := 11) rfl rfl ?_
  refine k_if_eq C (tgt := 24) (pc2 := 14) (dkAt dkX7_refuse 8 (q := (11, .ifCond .eq 13, 3)) rfl) (by decide) rfl h (fun h => ?_) (fun h => ?_)
  · refine k_iload_n C (pc2 := 25) (dkAt dkX7_refuse 17 (q := (24, .iload_n 1, 1)) rfl) rfl rfl 2 rfl ?_
    exact k_iret C (dkAt dkX7_refuse 18 (q := (25, .ireturn, 1)) rfl) (pe2 (Option.some.inj h)) rfl (pe1 (Option.some.inj h)) rfl
  · refine k_aload_n C (pc2 := 15) (dkAt dkX7_refuse 9 (q := (14, .aload_n 0, 1)) rfl) rfl rfl 1 rfl ?_
    refine kf_X7_50 C (pc2 := 18) (o := 0) (o2 := 52) hX.1 rfl (dkAt dkX7_refuse 10 (q := (15, .getfield 50, 3)) rfl) rfl ?_
    refine k_iload_n C (pc2 := 19) (dkAt dkX7_refuse 11 (q := (18, .iload_n 2, 1)) rfl) rfl rfl 0 rfl ?_
    refine k_dup2 C (pc2 := 20) (dkAt dkX7_refuse 12 (q := (19, .dup2, 1)) rfl) rfl rfl rfl ?_
    refine k_iald C (pc2 := 21) (o := 52) (nA := 5) hX.2.2.2.2.2.2.2.2.1 (dkAt dkX7_refuse 13 (q := (20, .iaload, 1)) rfl) rfl h (fun h => ?_)
    refine k_iconst C (pc2 := 22) (dkAt dkX7_refuse 14 (q := (21, .iconst 1, 1)) rfl) rfl (v := 1) rfl ?_
    refine k_iadd C (pc2 := 23) (dkAt dkX7_refuse 15 (q := (22, .iadd, 1)) rfl) rfl ?_
    refine k_iast C (pc2 := 24) (o := 52) (nA := 5) hX.2.2.2.2.2.2.2.2.1 (dkAt dkX7_refuse 16 (q := (23, .iastore, 1)) rfl) rfl h (fun M4 h => ?_)
    refine k_iload_n C (pc2 := 25) (dkAt dkX7_refuse 17 (q := (24, .iload_n 1, 1)) rfl) rfl rfl 2 rfl ?_
    exact k_iret C (dkAt dkX7_refuse 18 (q := (25, .ireturn, 1)) rfl) (pe2 (Option.some.inj h)) rfl (pe1 (Option.some.inj h)) rfl
set_option maxRecDepth 100000 in
set_option maxHeartbeats 4000000 in
theorem ct_X7_row (l : Launch) (G : GG) (sh : Sh) (xs : List va_E) (hX : isX sh) (x1 : Int32) (x2 : Int32) (x3 : Int32) (M : Mm) (r : Mm × Int32) (h : f_X7_row x1 x2 x3 M = some r) : Ct l yX7_row cX7_row 4 (some .int) rm_X7_row G [rA G 0, .int x1, .int x2, .int x3] sh M xs (some (.int r.2)) sh r.1 xs 0 0 := by
  refine ct_of (by decide) (Nat.le_of_ble_eq_true rfl) ?_
  intro p e s m args below meth c hnm C
  refine k_lv [0, 1, 2, 3] (lv2 := [(0, rA G 0), (1, .int x1), (2, .int x2), (3, .int x3)]) rfl ?_
  unfold f_X7_row at h
  refine k_iload_n C (pc2 := 1) (dkAt dkX7_row 0 (q := (0, .iload_n 1, 1)) rfl) rfl rfl 1 rfl ?_
  obtain ⟨q1, e2, h⟩ := ob_inv h
  refine kc_S C (As := [.int x1]) (st2 := [.int q1]) (ct_X7_isShelf l G sh xs x1 M q1 e2) (cl_X7_54 (hts_of C) ⟨Nat.le_of_ble_eq_true rfl, Nat.le_of_ble_eq_true rfl⟩ rfl rfl) rfl rfl (Nat.le_of_ble_eq_true rfl) (dkAt dkX7_row 1 (q := (1, .invokestatic 54, 3)) rfl) ⟨Nat.zero_le _, Nat.zero_le _⟩ (pc2 := 4) rfl rfl ?_
  refine k_if_eq C (tgt := 26) (pc2 := 7) (dkAt dkX7_row 2 (q := (4, .ifCond .eq 22, 3)) rfl) (by decide) rfl h (fun h => ?_) (fun h => ?_)
  · refine k_aload_n C (pc2 := 27) (dkAt dkX7_row 13 (q := (26, .aload_n 0, 1)) rfl) rfl rfl 0 rfl ?_
    refine k_bipush C (pc2 := 29) (dkAt dkX7_row 14 (q := (27, .bipush (-2), 2)) rfl) rfl (v := (-2)) rfl ?_
    obtain ⟨q3, e4, h⟩ := ob_inv h
    refine kc_V C (As := [.int (-2)]) (st2 := [.int q3.2]) (ct_X7_refuse l G sh xs hX (-2) M q3 e4) (cl_X7_62 (hts_of C) ⟨Nat.le_of_ble_eq_true rfl, Nat.le_of_ble_eq_true rfl⟩ rfl rfl) hX.1 rfl rfl rfl rfl rfl (Nat.le_of_ble_eq_true rfl) (dkAt dkX7_row 15 (q := (29, .invokevirtual 62, 3)) rfl) ⟨Nat.zero_le _, Nat.zero_le _⟩ (pc2 := 32) rfl rfl ?_
    exact k_iret C (dkAt dkX7_row 16 (q := (32, .ireturn, 1)) rfl) (pe2 (Option.some.inj h)) rfl (pe1 (Option.some.inj h)) rfl
  · refine k_iload_n C (pc2 := 8) (dkAt dkX7_row 3 (q := (7, .iload_n 2, 1)) rfl) rfl rfl 2 rfl ?_
    refine k_iconst C (pc2 := 9) (dkAt dkX7_row 4 (q := (8, .iconst 0, 1)) rfl) rfl (v := 0) rfl ?_
    refine k_iconst C (pc2 := 10) (dkAt dkX7_row 5 (q := (9, .iconst 4, 1)) rfl) rfl (v := 4) rfl ?_
    obtain ⟨q5, e6, h⟩ := ob_inv h
    refine kc_S C (As := [.int x2, .int 0, .int 4]) (st2 := [.int q5]) (ct_X7_within l G sh xs x2 0 4 M q5 e6) (cl_X7_58 (hts_of C) ⟨Nat.le_of_ble_eq_true rfl, Nat.le_of_ble_eq_true rfl⟩ rfl rfl) rfl rfl (Nat.le_of_ble_eq_true rfl) (dkAt dkX7_row 6 (q := (10, .invokestatic 58, 3)) rfl) ⟨Nat.zero_le _, Nat.zero_le _⟩ (pc2 := 13) rfl rfl ?_
    refine k_if_eq C (tgt := 26) (pc2 := 16) (dkAt dkX7_row 7 (q := (13, .ifCond .eq 13, 3)) rfl) (by decide) rfl h (fun h => ?_) (fun h => ?_)
    · refine k_aload_n C (pc2 := 27) (dkAt dkX7_row 13 (q := (26, .aload_n 0, 1)) rfl) rfl rfl 0 rfl ?_
      refine k_bipush C (pc2 := 29) (dkAt dkX7_row 14 (q := (27, .bipush (-2), 2)) rfl) rfl (v := (-2)) rfl ?_
      obtain ⟨q7, e8, h⟩ := ob_inv h
      refine kc_V C (As := [.int (-2)]) (st2 := [.int q7.2]) (ct_X7_refuse l G sh xs hX (-2) M q7 e8) (cl_X7_62 (hts_of C) ⟨Nat.le_of_ble_eq_true rfl, Nat.le_of_ble_eq_true rfl⟩ rfl rfl) hX.1 rfl rfl rfl rfl rfl (Nat.le_of_ble_eq_true rfl) (dkAt dkX7_row 15 (q := (29, .invokevirtual 62, 3)) rfl) ⟨Nat.zero_le _, Nat.zero_le _⟩ (pc2 := 32) rfl rfl ?_
      exact k_iret C (dkAt dkX7_row 16 (q := (32, .ireturn, 1)) rfl) (pe2 (Option.some.inj h)) rfl (pe1 (Option.some.inj h)) rfl
    · refine k_iload_n C (pc2 := 17) (dkAt dkX7_row 8 (q := (16, .iload_n 3, 1)) rfl) rfl rfl 3 rfl ?_
      refine k_iconst C (pc2 := 18) (dkAt dkX7_row 9 (q := (17, .iconst 0, 1)) rfl) rfl (v := 0) rfl ?_
      refine k_bipush C (pc2 := 20) (dkAt dkX7_row 10 (q := (18, .bipush 40, 2)) rfl) rfl (v := 40) rfl ?_
      obtain ⟨q9, e10, h⟩ := ob_inv h
      refine kc_S C (As := [.int x3, .int 0, .int 40]) (st2 := [.int q9]) (ct_X7_within l G sh xs x3 0 40 M q9 e10) (cl_X7_58 (hts_of C) ⟨Nat.le_of_ble_eq_true rfl, Nat.le_of_ble_eq_true rfl⟩ rfl rfl) rfl rfl (Nat.le_of_ble_eq_true rfl) (dkAt dkX7_row 11 (q := (20, .invokestatic 58, 3)) rfl) ⟨Nat.zero_le _, Nat.zero_le _⟩ (pc2 := 23) rfl rfl ?_
      refine k_if_ne C (tgt := 33) (pc2 := 26) (dkAt dkX7_row 12 (q := (23, .ifCond .ne 10, 3)) rfl) (by decide) rfl h (fun h => ?_) (fun h => ?_)
      · refine k_aload_n C (pc2 := 34) (dkAt dkX7_row 17 (q := (33, .aload_n 0, 1)) rfl) rfl rfl 0 rfl ?_
        refine kf_X7_42 C (pc2 := 37) (o := 0) (o2 := 50) hX.1 rfl (dkAt dkX7_row 18 (q := (34, .getfield 42, 3)) rfl) rfl ?_
        refine k_iload_n C (pc2 := 38) (dkAt dkX7_row 19 (q := (37, .iload_n 1, 1)) rfl) rfl rfl 1 rfl ?_
        refine k_aa12 C (pc2 := 39) (o := 50) (o2 := 53 + 2 * x1.toNatClampNeg) (nA := 8) hX.2.2.2.2.2.2.1 rfl (dkAt dkX7_row 20 (q := (38, .aaload, 1)) rfl) rfl h (fun h hl11 => ?_)
        refine k_iload_n C (pc2 := 40) (dkAt dkX7_row 21 (q := (39, .iload_n 2, 1)) rfl) rfl rfl 2 rfl ?_
        refine k_iload_n C (pc2 := 41) (dkAt dkX7_row 22 (q := (40, .iload_n 3, 1)) rfl) rfl rfl 3 rfl ?_
        obtain ⟨q12, e13, h⟩ := ob_inv h
        refine kc_V C (As := [.int x2, .int x3]) (st2 := []) (ct_X4_holdRow l G sh xs (53 + 2 * x1.toNatClampNeg) (hX.2.2.2.2.2.2.2.2.2 _ hl11) x2 x3 M q12 e13) (cl_X7_66 (hts_of C) ⟨Nat.le_of_ble_eq_true rfl, Nat.le_of_ble_eq_true rfl⟩ rfl rfl) ((hX.2.2.2.2.2.2.2.2.2 _ hl11).1) rfl rfl rfl rfl rfl (Nat.le_of_ble_eq_true rfl) (dkAt dkX7_row 23 (q := (41, .invokevirtual 66, 3)) rfl) ⟨Nat.zero_le _, Nat.zero_le _⟩ (pc2 := 44) rfl rfl ?_
        refine k_iconst C (pc2 := 45) (dkAt dkX7_row 24 (q := (44, .iconst 1, 1)) rfl) rfl (v := 1) rfl ?_
        exact k_iret C (dkAt dkX7_row 25 (q := (45, .ireturn, 1)) rfl) (pe2 (Option.some.inj h)) rfl (pe1 (Option.some.inj h)) rfl
      · refine k_aload_n C (pc2 := 27) (dkAt dkX7_row 13 (q := (26, .aload_n 0, 1)) rfl) rfl rfl 0 rfl ?_
        refine k_bipush C (pc2 := 29) (dkAt dkX7_row 14 (q := (27, .bipush (-2), 2)) rfl) rfl (v := (-2)) rfl ?_
        obtain ⟨q14, e15, h⟩ := ob_inv h
        refine kc_V C (As := [.int (-2)]) (st2 := [.int q14.2]) (ct_X7_refuse l G sh xs hX (-2) M q14 e15) (cl_X7_62 (hts_of C) ⟨Nat.le_of_ble_eq_true rfl, Nat.le_of_ble_eq_true rfl⟩ rfl rfl) hX.1 rfl rfl rfl rfl rfl (Nat.le_of_ble_eq_true rfl) (dkAt dkX7_row 15 (q := (29, .invokevirtual 62, 3)) rfl) ⟨Nat.zero_le _, Nat.zero_le _⟩ (pc2 := 32) rfl rfl ?_
        exact k_iret C (dkAt dkX7_row 16 (q := (32, .ireturn, 1)) rfl) (pe2 (Option.some.inj h)) rfl (pe1 (Option.some.inj h)) rfl
set_option maxRecDepth 100000 in
set_option maxHeartbeats 4000000 in
theorem ct_X7_troubleOfRow (l : Launch) (G : GG) (sh : Sh) (xs : List va_E) (hX : isX sh) (x1 : Int32) (M : Mm) (r : Int32) (h : f_X7_troubleOfRow x1 M = some r) : Ct l yX7_troubleOfRow cX7_troubleOfRow 2 (some .int) rm_X7_troubleOfRow G [rA G 0, .int x1] sh M xs (some (.int r)) sh M xs 0 0 := by
  refine ct_of (by decide) (Nat.le_of_ble_eq_true rfl) ?_
  intro p e s m args below meth c hnm C
  refine k_lv [0, 1] (lv2 := [(0, rA G 0), (1, .int x1)]) rfl ?_
  unfold f_X7_troubleOfRow at h
  refine k_iload_n C (pc2 := 1) (dkAt dkX7_troubleOfRow 0 (q := (0, .iload_n 1, 1)) rfl) rfl rfl 1 rfl ?_
  obtain ⟨q1, e2, h⟩ := ob_inv h
  refine kc_S C (As := [.int x1]) (st2 := [.int q1]) (ct_X7_isShelf l G sh xs x1 M q1 e2) (cl_X7_54 (hts_of C) ⟨Nat.le_of_ble_eq_true rfl, Nat.le_of_ble_eq_true rfl⟩ rfl rfl) rfl rfl (Nat.le_of_ble_eq_true rfl) (dkAt dkX7_troubleOfRow 1 (q := (1, .invokestatic 54, 3)) rfl) ⟨Nat.zero_le _, Nat.zero_le _⟩ (pc2 := 4) rfl rfl ?_
  refine k_if_ne C (tgt := 10) (pc2 := 7) (dkAt dkX7_troubleOfRow 2 (q := (4, .ifCond .ne 6, 3)) rfl) (by decide) rfl h (fun h => ?_) (fun h => ?_)
  · refine k_aload_n C (pc2 := 11) (dkAt dkX7_troubleOfRow 5 (q := (10, .aload_n 0, 1)) rfl) rfl rfl 0 rfl ?_
    refine kf_X7_42 C (pc2 := 14) (o := 0) (o2 := 50) hX.1 rfl (dkAt dkX7_troubleOfRow 6 (q := (11, .getfield 42, 3)) rfl) rfl ?_
    refine k_iload_n C (pc2 := 15) (dkAt dkX7_troubleOfRow 7 (q := (14, .iload_n 1, 1)) rfl) rfl rfl 1 rfl ?_
    refine k_aa12 C (pc2 := 16) (o := 50) (o2 := 53 + 2 * x1.toNatClampNeg) (nA := 8) hX.2.2.2.2.2.2.1 rfl (dkAt dkX7_troubleOfRow 8 (q := (15, .aaload, 1)) rfl) rfl h (fun h hl3 => ?_)
    obtain ⟨q4, e5, h⟩ := ob_inv h
    refine kc_V C (As := []) (st2 := [.int q4]) (ct_X4_holdsPerson l G sh xs (53 + 2 * x1.toNatClampNeg) (hX.2.2.2.2.2.2.2.2.2 _ hl3) M q4 e5) (cl_X7_84 (hts_of C) ⟨Nat.le_of_ble_eq_true rfl, Nat.le_of_ble_eq_true rfl⟩ rfl rfl) ((hX.2.2.2.2.2.2.2.2.2 _ hl3).1) rfl rfl rfl rfl rfl (Nat.le_of_ble_eq_true rfl) (dkAt dkX7_troubleOfRow 9 (q := (16, .invokevirtual 84, 3)) rfl) ⟨Nat.zero_le _, Nat.zero_le _⟩ (pc2 := 19) rfl rfl ?_
    refine k_if_eq C (tgt := 25) (pc2 := 22) (dkAt dkX7_troubleOfRow 10 (q := (19, .ifCond .eq 6, 3)) rfl) (by decide) rfl h (fun h => ?_) (fun h => ?_)
    · refine k_aload_n C (pc2 := 26) (dkAt dkX7_troubleOfRow 13 (q := (25, .aload_n 0, 1)) rfl) rfl rfl 0 rfl ?_
      refine kf_X7_42 C (pc2 := 29) (o := 0) (o2 := 50) hX.1 rfl (dkAt dkX7_troubleOfRow 14 (q := (26, .getfield 42, 3)) rfl) rfl ?_
      refine k_iload_n C (pc2 := 30) (dkAt dkX7_troubleOfRow 15 (q := (29, .iload_n 1, 1)) rfl) rfl rfl 1 rfl ?_
      refine k_aa12 C (pc2 := 31) (o := 50) (o2 := 53 + 2 * x1.toNatClampNeg) (nA := 8) hX.2.2.2.2.2.2.1 rfl (dkAt dkX7_troubleOfRow 16 (q := (30, .aaload, 1)) rfl) rfl h (fun h hl6 => ?_)
      refine kf_X7_81 C (pc2 := 34) (o := 53 + 2 * x1.toNatClampNeg) (o2 := 0) ((hX.2.2.2.2.2.2.2.2.2 _ hl6).1) (dkAt dkX7_troubleOfRow 17 (q := (31, .getfield 81, 3)) rfl) rfl ?_
      refine k_iconst C (pc2 := 35) (dkAt dkX7_troubleOfRow 18 (q := (34, .iconst (-1), 1)) rfl) rfl (v := (-1)) rfl ?_
      refine k_icmp_ne C (tgt := 43) (pc2 := 38) (dkAt dkX7_troubleOfRow 19 (q := (35, .if_icmp .ne 8, 3)) rfl) (by decide) rfl h (fun h => ?_) (fun h => ?_)
      · refine k_iconst C (pc2 := 44) (dkAt dkX7_troubleOfRow 22 (q := (43, .iconst 0, 1)) rfl) rfl (v := 0) rfl ?_
        exact k_iret C (dkAt dkX7_troubleOfRow 23 (q := (44, .ireturn, 1)) rfl) (Option.some.inj h) rfl rfl rfl
      · refine k_bipush C (pc2 := 40) (dkAt dkX7_troubleOfRow 20 (q := (38, .bipush (-4), 2)) rfl) rfl (v := (-4)) rfl ?_
        refine k_goto C (tgt := 44) (dkAt dkX7_troubleOfRow 21 (q := (40, .goto 4, 3)) rfl) (by decide) ?_
        exact k_iret C (dkAt dkX7_troubleOfRow 23 (q := (44, .ireturn, 1)) rfl) (Option.some.inj h) rfl rfl rfl
    · refine k_bipush C (pc2 := 24) (dkAt dkX7_troubleOfRow 11 (q := (22, .bipush (-3), 2)) rfl) rfl (v := (-3)) rfl ?_
      exact k_iret C (dkAt dkX7_troubleOfRow 12 (q := (24, .ireturn, 1)) rfl) (Option.some.inj h) rfl rfl rfl
  · refine k_bipush C (pc2 := 9) (dkAt dkX7_troubleOfRow 3 (q := (7, .bipush (-2), 2)) rfl) rfl (v := (-2)) rfl ?_
    exact k_iret C (dkAt dkX7_troubleOfRow 4 (q := (9, .ireturn, 1)) rfl) (Option.some.inj h) rfl rfl rfl
set_option maxRecDepth 100000 in
set_option maxHeartbeats 4000000 in
theorem ct_X7_set (l : Launch) (G : GG) (sh : Sh) (xs : List va_E) (hX : isX sh) (x1 : Int32) (x2 : Int32) (x3 : Int64) (M : Mm) (r : Mm × Int32) (h : f_X7_set x1 x2 x3 M = some r) : Ct l yX7_set cX7_set 6 (some .int) rm_X7_set G [rA G 0, .int x1, .int x2, .long x3] sh M xs (some (.int r.2)) sh r.1 xs 0 0 := by
  refine ct_of (by decide) (Nat.le_of_ble_eq_true rfl) ?_
  intro p e s m args below meth c hnm C
  refine k_lv [0, 1, 2, 3] (lv2 := [(0, rA G 0), (1, .int x1), (2, .int x2), (3, .long x3)]) rfl ?_
  unfold f_X7_set at h
  refine k_aload_n C (pc2 := 1) (dkAt dkX7_set 0 (q := (0, .aload_n 0, 1)) rfl) rfl rfl 0 rfl ?_
  refine k_iload_n C (pc2 := 2) (dkAt dkX7_set 1 (q := (1, .iload_n 1, 1)) rfl) rfl rfl 1 rfl ?_
  obtain ⟨q1, e2, h⟩ := ob_inv h
  refine kc_V C (As := [.int x1]) (st2 := [.int q1]) (ct_X7_troubleOfRow l G sh xs hX x1 M q1 e2) (cl_X7_70 (hts_of C) ⟨Nat.le_of_ble_eq_true rfl, Nat.le_of_ble_eq_true rfl⟩ rfl rfl) hX.1 rfl rfl rfl rfl rfl (Nat.le_of_ble_eq_true rfl) (dkAt dkX7_set 2 (q := (2, .invokevirtual 70, 3)) rfl) ⟨Nat.zero_le _, Nat.zero_le _⟩ (pc2 := 5) rfl rfl ?_
  refine k_istore C (pc2 := 7) (dkAt dkX7_set 3 (q := (5, .istore 5, 2)) rfl) rfl (by decide) (lv2 := [(5, .int q1), (0, rA G 0), (1, .int x1), (2, .int x2), (3, .long x3)]) rfl ?_
  refine k_iload C (pc2 := 9) (dkAt dkX7_set 4 (q := (7, .iload 5, 2)) rfl) rfl 0 rfl ?_
  refine k_if_eq C (tgt := 19) (pc2 := 12) (dkAt dkX7_set 5 (q := (9, .ifCond .eq 10, 3)) rfl) (by decide) rfl h (fun h => ?_) (fun h => ?_)
  · refine k_iload_n C (pc2 := 20) (dkAt dkX7_set 10 (q := (19, .iload_n 2, 1)) rfl) rfl rfl 3 rfl ?_
    refine k_iconst C (pc2 := 21) (dkAt dkX7_set 11 (q := (20, .iconst 0, 1)) rfl) rfl (v := 0) rfl ?_
    refine k_aload_n C (pc2 := 22) (dkAt dkX7_set 12 (q := (21, .aload_n 0, 1)) rfl) rfl rfl 1 rfl ?_
    refine kf_X7_42 C (pc2 := 25) (o := 0) (o2 := 50) hX.1 rfl (dkAt dkX7_set 13 (q := (22, .getfield 42, 3)) rfl) rfl ?_
    refine k_iload_n C (pc2 := 26) (dkAt dkX7_set 14 (q := (25, .iload_n 1, 1)) rfl) rfl rfl 2 rfl ?_
    refine k_aa12 C (pc2 := 27) (o := 50) (o2 := 53 + 2 * x1.toNatClampNeg) (nA := 8) hX.2.2.2.2.2.2.1 rfl (dkAt dkX7_set 15 (q := (26, .aaload, 1)) rfl) rfl h (fun h hl3 => ?_)
    refine kf_X7_73 C (pc2 := 30) (o := 53 + 2 * x1.toNatClampNeg) (o2 := 0) ((hX.2.2.2.2.2.2.2.2.2 _ hl3).1) (dkAt dkX7_set 16 (q := (27, .getfield 73, 3)) rfl) rfl ?_
    refine k_iconst C (pc2 := 31) (dkAt dkX7_set 17 (q := (30, .iconst 1, 1)) rfl) rfl (v := 1) rfl ?_
    refine k_isub C (pc2 := 32) (dkAt dkX7_set 18 (q := (31, .isub, 1)) rfl) rfl ?_
    obtain ⟨q4, e5, h⟩ := ob_inv h
    refine kc_S C (As := [.int x2, .int 0, .int ((M.1 (53 + 2 * x1.toNatClampNeg) 1) - 1)]) (st2 := [.int q4]) (ct_X7_within l G sh xs x2 0 ((M.1 (53 + 2 * x1.toNatClampNeg) 1) - 1) M q4 e5) (cl_X7_58 (hts_of C) ⟨Nat.le_of_ble_eq_true rfl, Nat.le_of_ble_eq_true rfl⟩ rfl rfl) rfl rfl (Nat.le_of_ble_eq_true rfl) (dkAt dkX7_set 19 (q := (32, .invokestatic 58, 3)) rfl) ⟨Nat.zero_le _, Nat.zero_le _⟩ (pc2 := 35) rfl rfl ?_
    refine k_if_ne C (tgt := 45) (pc2 := 38) (dkAt dkX7_set 20 (q := (35, .ifCond .ne 10, 3)) rfl) (by decide) rfl h (fun h => ?_) (fun h => ?_)
    · refine k_aload_n C (pc2 := 46) (dkAt dkX7_set 25 (q := (45, .aload_n 0, 1)) rfl) rfl rfl 1 rfl ?_
      refine kf_X7_42 C (pc2 := 49) (o := 0) (o2 := 50) hX.1 rfl (dkAt dkX7_set 26 (q := (46, .getfield 42, 3)) rfl) rfl ?_
      refine k_iload_n C (pc2 := 50) (dkAt dkX7_set 27 (q := (49, .iload_n 1, 1)) rfl) rfl rfl 2 rfl ?_
      refine k_aa12 C (pc2 := 51) (o := 50) (o2 := 53 + 2 * x1.toNatClampNeg) (nA := 8) hX.2.2.2.2.2.2.1 rfl (dkAt dkX7_set 28 (q := (50, .aaload, 1)) rfl) rfl h (fun h hl6 => ?_)
      refine k_iload_n C (pc2 := 52) (dkAt dkX7_set 29 (q := (51, .iload_n 2, 1)) rfl) rfl rfl 3 rfl ?_
      refine k_lload_n C (pc2 := 53) (dkAt dkX7_set 30 (q := (52, .lload_n 3, 1)) rfl) rfl rfl 4 rfl ?_
      obtain ⟨q7, e8, h⟩ := ob_inv h
      refine kc_V C (As := [.int x2, .long x3]) (st2 := []) (ct_X4_put l G sh xs (53 + 2 * x1.toNatClampNeg) (hX.2.2.2.2.2.2.2.2.2 _ hl6) x2 x3 M q7 e8) (cl_X7_77 (hts_of C) ⟨Nat.le_of_ble_eq_true rfl, Nat.le_of_ble_eq_true rfl⟩ rfl rfl) ((hX.2.2.2.2.2.2.2.2.2 _ hl6).1) rfl rfl rfl rfl rfl (Nat.le_of_ble_eq_true rfl) (dkAt dkX7_set 31 (q := (53, .invokevirtual 77, 3)) rfl) ⟨Nat.zero_le _, Nat.zero_le _⟩ (pc2 := 56) rfl rfl ?_
      refine k_iconst C (pc2 := 57) (dkAt dkX7_set 32 (q := (56, .iconst 1, 1)) rfl) rfl (v := 1) rfl ?_
      exact k_iret C (dkAt dkX7_set 33 (q := (57, .ireturn, 1)) rfl) (pe2 (Option.some.inj h)) rfl (pe1 (Option.some.inj h)) rfl
    · refine k_aload_n C (pc2 := 39) (dkAt dkX7_set 21 (q := (38, .aload_n 0, 1)) rfl) rfl rfl 1 rfl ?_
      refine k_bipush C (pc2 := 41) (dkAt dkX7_set 22 (q := (39, .bipush (-2), 2)) rfl) rfl (v := (-2)) rfl ?_
      obtain ⟨q9, e10, h⟩ := ob_inv h
      refine kc_V C (As := [.int (-2)]) (st2 := [.int q9.2]) (ct_X7_refuse l G sh xs hX (-2) M q9 e10) (cl_X7_62 (hts_of C) ⟨Nat.le_of_ble_eq_true rfl, Nat.le_of_ble_eq_true rfl⟩ rfl rfl) hX.1 rfl rfl rfl rfl rfl (Nat.le_of_ble_eq_true rfl) (dkAt dkX7_set 23 (q := (41, .invokevirtual 62, 3)) rfl) ⟨Nat.zero_le _, Nat.zero_le _⟩ (pc2 := 44) rfl rfl ?_
      exact k_iret C (dkAt dkX7_set 24 (q := (44, .ireturn, 1)) rfl) (pe2 (Option.some.inj h)) rfl (pe1 (Option.some.inj h)) rfl
  · refine k_aload_n C (pc2 := 13) (dkAt dkX7_set 6 (q := (12, .aload_n 0, 1)) rfl) rfl rfl 1 rfl ?_
    refine k_iload C (pc2 := 15) (dkAt dkX7_set 7 (q := (13, .iload 5, 2)) rfl) rfl 0 rfl ?_
    obtain ⟨q11, e12, h⟩ := ob_inv h
    refine kc_V C (As := [.int q1]) (st2 := [.int q11.2]) (ct_X7_refuse l G sh xs hX q1 M q11 e12) (cl_X7_62 (hts_of C) ⟨Nat.le_of_ble_eq_true rfl, Nat.le_of_ble_eq_true rfl⟩ rfl rfl) hX.1 rfl rfl rfl rfl rfl (Nat.le_of_ble_eq_true rfl) (dkAt dkX7_set 8 (q := (15, .invokevirtual 62, 3)) rfl) ⟨Nat.zero_le _, Nat.zero_le _⟩ (pc2 := 18) rfl rfl ?_
    exact k_iret C (dkAt dkX7_set 9 (q := (18, .ireturn, 1)) rfl) (pe2 (Option.some.inj h)) rfl (pe1 (Option.some.inj h)) rfl
set_option maxRecDepth 100000 in
set_option maxHeartbeats 4000000 in
theorem ct_X7_copy (l : Launch) (G : GG) (sh : Sh) (xs : List va_E) (hX : isX sh) (x1 : Int32) (x2 : Int32) (x3 : Int32) (x4 : Int32) (x5 : Int32) (M : Mm) (r : Mm × Int32) (h : f_X7_copy x1 x2 x3 x4 x5 M = some r) : Ct l yX7_copy cX7_copy 9 (some .int) rm_X7_copy G [rA G 0, .int x1, .int x2, .int x3, .int x4, .int x5] sh M xs (some (.int r.2)) sh r.1 xs 0 0 := by
  refine ct_of (by decide) (Nat.le_of_ble_eq_true rfl) ?_
  intro p e s m args below meth c hnm C
  refine k_lv [0, 1, 2, 3, 4, 5] (lv2 := [(0, rA G 0), (1, .int x1), (2, .int x2), (3, .int x3), (4, .int x4), (5, .int x5)]) rfl ?_
  unfold f_X7_copy at h
  refine k_iload_n C (pc2 := 1) (dkAt dkX7_copy 0 (q := (0, .iload_n 1, 1)) rfl) rfl rfl 1 rfl ?_
  obtain ⟨q1, e2, h⟩ := ob_inv h
  refine kc_S C (As := [.int x1]) (st2 := [.int q1]) (ct_X7_isShelf l G sh xs x1 M q1 e2) (cl_X7_54 (hts_of C) ⟨Nat.le_of_ble_eq_true rfl, Nat.le_of_ble_eq_true rfl⟩ rfl rfl) rfl rfl (Nat.le_of_ble_eq_true rfl) (dkAt dkX7_copy 1 (q := (1, .invokestatic 54, 3)) rfl) ⟨Nat.zero_le _, Nat.zero_le _⟩ (pc2 := 4) rfl rfl ?_
  refine k_if_eq C (tgt := 14) (pc2 := 7) (dkAt dkX7_copy 2 (q := (4, .ifCond .eq 10, 3)) rfl) (by decide) rfl h (fun h => ?_) (fun h => ?_)
  · refine k_aload_n C (pc2 := 15) (dkAt dkX7_copy 6 (q := (14, .aload_n 0, 1)) rfl) rfl rfl 0 rfl ?_
    refine k_bipush C (pc2 := 17) (dkAt dkX7_copy 7 (q := (15, .bipush (-2), 2)) rfl) rfl (v := (-2)) rfl ?_
    obtain ⟨q3, e4, h⟩ := ob_inv h
    refine kc_V C (As := [.int (-2)]) (st2 := [.int q3.2]) (ct_X7_refuse l G sh xs hX (-2) M q3 e4) (cl_X7_62 (hts_of C) ⟨Nat.le_of_ble_eq_true rfl, Nat.le_of_ble_eq_true rfl⟩ rfl rfl) hX.1 rfl rfl rfl rfl rfl (Nat.le_of_ble_eq_true rfl) (dkAt dkX7_copy 8 (q := (17, .invokevirtual 62, 3)) rfl) ⟨Nat.zero_le _, Nat.zero_le _⟩ (pc2 := 20) rfl rfl ?_
    exact k_iret C (dkAt dkX7_copy 9 (q := (20, .ireturn, 1)) rfl) (pe2 (Option.some.inj h)) rfl (pe1 (Option.some.inj h)) rfl
  · refine k_iload_n C (pc2 := 8) (dkAt dkX7_copy 3 (q := (7, .iload_n 2, 1)) rfl) rfl rfl 2 rfl ?_
    obtain ⟨q5, e6, h⟩ := ob_inv h
    refine kc_S C (As := [.int x2]) (st2 := [.int q5]) (ct_X7_isShelf l G sh xs x2 M q5 e6) (cl_X7_54 (hts_of C) ⟨Nat.le_of_ble_eq_true rfl, Nat.le_of_ble_eq_true rfl⟩ rfl rfl) rfl rfl (Nat.le_of_ble_eq_true rfl) (dkAt dkX7_copy 4 (q := (8, .invokestatic 54, 3)) rfl) ⟨Nat.zero_le _, Nat.zero_le _⟩ (pc2 := 11) rfl rfl ?_
    refine k_if_ne C (tgt := 21) (pc2 := 14) (dkAt dkX7_copy 5 (q := (11, .ifCond .ne 10, 3)) rfl) (by decide) rfl h (fun h => ?_) (fun h => ?_)
    · refine k_aload_n C (pc2 := 22) (dkAt dkX7_copy 10 (q := (21, .aload_n 0, 1)) rfl) rfl rfl 0 rfl ?_
      refine kf_X7_42 C (pc2 := 25) (o := 0) (o2 := 50) hX.1 rfl (dkAt dkX7_copy 11 (q := (22, .getfield 42, 3)) rfl) rfl ?_
      refine k_iload_n C (pc2 := 26) (dkAt dkX7_copy 12 (q := (25, .iload_n 1, 1)) rfl) rfl rfl 1 rfl ?_
      refine k_aa12 C (pc2 := 27) (o := 50) (o2 := 53 + 2 * x1.toNatClampNeg) (nA := 8) hX.2.2.2.2.2.2.1 rfl (dkAt dkX7_copy 13 (q := (26, .aaload, 1)) rfl) rfl h (fun h hl7 => ?_)
      refine k_astore C (pc2 := 29) (dkAt dkX7_copy 14 (q := (27, .astore 6, 2)) rfl) rfl (by decide) (lv2 := [(6, rA G (53 + 2 * x1.toNatClampNeg)), (0, rA G 0), (1, .int x1), (2, .int x2), (3, .int x3), (4, .int x4), (5, .int x5)]) rfl ?_
      refine k_aload_n C (pc2 := 30) (dkAt dkX7_copy 15 (q := (29, .aload_n 0, 1)) rfl) rfl rfl 1 rfl ?_
      refine kf_X7_42 C (pc2 := 33) (o := 0) (o2 := 50) hX.1 rfl (dkAt dkX7_copy 16 (q := (30, .getfield 42, 3)) rfl) rfl ?_
      refine k_iload_n C (pc2 := 34) (dkAt dkX7_copy 17 (q := (33, .iload_n 2, 1)) rfl) rfl rfl 3 rfl ?_
      refine k_aa12 C (pc2 := 35) (o := 50) (o2 := 53 + 2 * x2.toNatClampNeg) (nA := 8) hX.2.2.2.2.2.2.1 rfl (dkAt dkX7_copy 18 (q := (34, .aaload, 1)) rfl) rfl h (fun h hl8 => ?_)
      refine k_astore C (pc2 := 37) (dkAt dkX7_copy 19 (q := (35, .astore 7, 2)) rfl) rfl (by decide) (lv2 := [(7, rA G (53 + 2 * x2.toNatClampNeg)), (6, rA G (53 + 2 * x1.toNatClampNeg)), (0, rA G 0), (1, .int x1), (2, .int x2), (3, .int x3), (4, .int x4), (5, .int x5)]) rfl ?_
      refine k_aload C (pc2 := 39) (dkAt dkX7_copy 20 (q := (37, .aload 6, 2)) rfl) rfl 1 rfl ?_
      refine kf_X7_81 C (pc2 := 42) (o := 53 + 2 * x1.toNatClampNeg) (o2 := 0) ((hX.2.2.2.2.2.2.2.2.2 _ hl7).1) (dkAt dkX7_copy 21 (q := (39, .getfield 81, 3)) rfl) rfl ?_
      refine k_iconst C (pc2 := 43) (dkAt dkX7_copy 22 (q := (42, .iconst (-1), 1)) rfl) rfl (v := (-1)) rfl ?_
      refine k_icmp_eq C (tgt := 72) (pc2 := 46) (dkAt dkX7_copy 23 (q := (43, .if_icmp .eq 29, 3)) rfl) (by decide) rfl h (fun h => ?_) (fun h => ?_)
      · refine k_iconst C (pc2 := 73) (dkAt dkX7_copy 35 (q := (72, .iconst 0, 1)) rfl) rfl (v := 0) rfl ?_
        refine k_istore C (pc2 := 75) (dkAt dkX7_copy 36 (q := (73, .istore 8, 2)) rfl) rfl (by decide) (lv2 := [(8, .int 0), (7, rA G (53 + 2 * x2.toNatClampNeg)), (6, rA G (53 + 2 * x1.toNatClampNeg)), (0, rA G 0), (1, .int x1), (2, .int x2), (3, .int x3), (4, .int x4), (5, .int x5)]) rfl ?_
        refine k_aload C (pc2 := 77) (dkAt dkX7_copy 37 (q := (75, .aload 6, 2)) rfl) rfl 2 rfl ?_
        obtain ⟨q9, e10, h⟩ := ob_inv h
        refine kc_V C (As := []) (st2 := [.int q9]) (ct_X4_holdsPerson l G sh xs (53 + 2 * x1.toNatClampNeg) (hX.2.2.2.2.2.2.2.2.2 _ hl7) M q9 e10) (cl_X7_84 (hts_of C) ⟨Nat.le_of_ble_eq_true rfl, Nat.le_of_ble_eq_true rfl⟩ rfl rfl) ((hX.2.2.2.2.2.2.2.2.2 _ hl7).1) rfl rfl rfl rfl rfl (Nat.le_of_ble_eq_true rfl) (dkAt dkX7_copy 38 (q := (77, .invokevirtual 84, 3)) rfl) ⟨Nat.zero_le _, Nat.zero_le _⟩ (pc2 := 80) rfl rfl ?_
        refine k_if_ne C (tgt := 96) (pc2 := 83) (dkAt dkX7_copy 39 (q := (80, .ifCond .ne 16, 3)) rfl) (by decide) rfl h (fun h => ?_) (fun h => ?_)
        · refine k_aload_n C (pc2 := 97) (dkAt dkX7_copy 45 (q := (96, .aload_n 0, 1)) rfl) rfl rfl 3 rfl ?_
          refine k_bipush C (pc2 := 99) (dkAt dkX7_copy 46 (q := (97, .bipush (-3), 2)) rfl) rfl (v := (-3)) rfl ?_
          obtain ⟨q11, e12, h⟩ := ob_inv h
          refine kc_V C (As := [.int (-3)]) (st2 := [.int q11.2]) (ct_X7_refuse l G sh xs hX (-3) M q11 e12) (cl_X7_62 (hts_of C) ⟨Nat.le_of_ble_eq_true rfl, Nat.le_of_ble_eq_true rfl⟩ rfl rfl) hX.1 rfl rfl rfl rfl rfl (Nat.le_of_ble_eq_true rfl) (dkAt dkX7_copy 47 (q := (99, .invokevirtual 62, 3)) rfl) ⟨Nat.zero_le _, Nat.zero_le _⟩ (pc2 := 102) rfl rfl ?_
          exact k_iret C (dkAt dkX7_copy 48 (q := (102, .ireturn, 1)) rfl) (pe2 (Option.some.inj h)) rfl (pe1 (Option.some.inj h)) rfl
        · refine k_aload C (pc2 := 85) (dkAt dkX7_copy 40 (q := (83, .aload 7, 2)) rfl) rfl 1 rfl ?_
          obtain ⟨q13, e14, h⟩ := ob_inv h
          refine kc_V C (As := []) (st2 := [.int q13]) (ct_X4_holdsPerson l G sh xs (53 + 2 * x2.toNatClampNeg) (hX.2.2.2.2.2.2.2.2.2 _ hl8) M q13 e14) (cl_X7_84 (hts_of C) ⟨Nat.le_of_ble_eq_true rfl, Nat.le_of_ble_eq_true rfl⟩ rfl rfl) ((hX.2.2.2.2.2.2.2.2.2 _ hl8).1) rfl rfl rfl rfl rfl (Nat.le_of_ble_eq_true rfl) (dkAt dkX7_copy 41 (q := (85, .invokevirtual 84, 3)) rfl) ⟨Nat.zero_le _, Nat.zero_le _⟩ (pc2 := 88) rfl rfl ?_
          refine k_if_ne C (tgt := 96) (pc2 := 91) (dkAt dkX7_copy 42 (q := (88, .ifCond .ne 8, 3)) rfl) (by decide) rfl h (fun h => ?_) (fun h => ?_)
          · refine k_aload_n C (pc2 := 97) (dkAt dkX7_copy 45 (q := (96, .aload_n 0, 1)) rfl) rfl rfl 3 rfl ?_
            refine k_bipush C (pc2 := 99) (dkAt dkX7_copy 46 (q := (97, .bipush (-3), 2)) rfl) rfl (v := (-3)) rfl ?_
            obtain ⟨q15, e16, h⟩ := ob_inv h
            refine kc_V C (As := [.int (-3)]) (st2 := [.int q15.2]) (ct_X7_refuse l G sh xs hX (-3) M q15 e16) (cl_X7_62 (hts_of C) ⟨Nat.le_of_ble_eq_true rfl, Nat.le_of_ble_eq_true rfl⟩ rfl rfl) hX.1 rfl rfl rfl rfl rfl (Nat.le_of_ble_eq_true rfl) (dkAt dkX7_copy 47 (q := (99, .invokevirtual 62, 3)) rfl) ⟨Nat.zero_le _, Nat.zero_le _⟩ (pc2 := 102) rfl rfl ?_
            exact k_iret C (dkAt dkX7_copy 48 (q := (102, .ireturn, 1)) rfl) (pe2 (Option.some.inj h)) rfl (pe1 (Option.some.inj h)) rfl
          · refine k_iload C (pc2 := 93) (dkAt dkX7_copy 43 (q := (91, .iload 8, 2)) rfl) rfl 0 rfl ?_
            refine k_if_eq C (tgt := 103) (pc2 := 96) (dkAt dkX7_copy 44 (q := (93, .ifCond .eq 10, 3)) rfl) (by decide) rfl h (fun h => ?_) (fun h => ?_)
            · refine k_aload C (pc2 := 105) (dkAt dkX7_copy 49 (q := (103, .aload 6, 2)) rfl) rfl 2 rfl ?_
              refine kf_X7_81 C (pc2 := 108) (o := 53 + 2 * x1.toNatClampNeg) (o2 := 0) ((hX.2.2.2.2.2.2.2.2.2 _ hl7).1) (dkAt dkX7_copy 50 (q := (105, .getfield 81, 3)) rfl) rfl ?_
              refine k_iconst C (pc2 := 109) (dkAt dkX7_copy 51 (q := (108, .iconst (-1), 1)) rfl) rfl (v := (-1)) rfl ?_
              refine k_icmp_eq C (tgt := 121) (pc2 := 112) (dkAt dkX7_copy 52 (q := (109, .if_icmp .eq 12, 3)) rfl) (by decide) rfl h (fun h => ?_) (fun h => ?_)
              · refine k_aload_n C (pc2 := 122) (dkAt dkX7_copy 57 (q := (121, .aload_n 0, 1)) rfl) rfl rfl 3 rfl ?_
                refine k_bipush C (pc2 := 124) (dkAt dkX7_copy 58 (q := (122, .bipush (-4), 2)) rfl) rfl (v := (-4)) rfl ?_
                obtain ⟨q17, e18, h⟩ := ob_inv h
                refine kc_V C (As := [.int (-4)]) (st2 := [.int q17.2]) (ct_X7_refuse l G sh xs hX (-4) M q17 e18) (cl_X7_62 (hts_of C) ⟨Nat.le_of_ble_eq_true rfl, Nat.le_of_ble_eq_true rfl⟩ rfl rfl) hX.1 rfl rfl rfl rfl rfl (Nat.le_of_ble_eq_true rfl) (dkAt dkX7_copy 59 (q := (124, .invokevirtual 62, 3)) rfl) ⟨Nat.zero_le _, Nat.zero_le _⟩ (pc2 := 127) rfl rfl ?_
                exact k_iret C (dkAt dkX7_copy 60 (q := (127, .ireturn, 1)) rfl) (pe2 (Option.some.inj h)) rfl (pe1 (Option.some.inj h)) rfl
              · refine k_aload C (pc2 := 114) (dkAt dkX7_copy 53 (q := (112, .aload 7, 2)) rfl) rfl 1 rfl ?_
                refine kf_X7_81 C (pc2 := 117) (o := 53 + 2 * x2.toNatClampNeg) (o2 := 0) ((hX.2.2.2.2.2.2.2.2.2 _ hl8).1) (dkAt dkX7_copy 54 (q := (114, .getfield 81, 3)) rfl) rfl ?_
                refine k_iconst C (pc2 := 118) (dkAt dkX7_copy 55 (q := (117, .iconst (-1), 1)) rfl) rfl (v := (-1)) rfl ?_
                refine k_icmp_ne C (tgt := 128) (pc2 := 121) (dkAt dkX7_copy 56 (q := (118, .if_icmp .ne 10, 3)) rfl) (by decide) rfl h (fun h => ?_) (fun h => ?_)
                · refine k_iload C (pc2 := 130) (dkAt dkX7_copy 61 (q := (128, .iload 5, 2)) rfl) rfl 8 rfl ?_
                  refine k_if_lt C (tgt := 166) (pc2 := 133) (dkAt dkX7_copy 62 (q := (130, .ifCond .lt 36, 3)) rfl) (by decide) rfl h (fun h => ?_) (fun h => ?_)
                  · refine k_aload_n C (pc2 := 167) (dkAt dkX7_copy 79 (q := (166, .aload_n 0, 1)) rfl) rfl rfl 3 rfl ?_
                    refine k_bipush C (pc2 := 169) (dkAt dkX7_copy 80 (q := (167, .bipush (-2), 2)) rfl) rfl (v := (-2)) rfl ?_
                    obtain ⟨q19, e20, h⟩ := ob_inv h
                    refine kc_V C (As := [.int (-2)]) (st2 := [.int q19.2]) (ct_X7_refuse l G sh xs hX (-2) M q19 e20) (cl_X7_62 (hts_of C) ⟨Nat.le_of_ble_eq_true rfl, Nat.le_of_ble_eq_true rfl⟩ rfl rfl) hX.1 rfl rfl rfl rfl rfl (Nat.le_of_ble_eq_true rfl) (dkAt dkX7_copy 81 (q := (169, .invokevirtual 62, 3)) rfl) ⟨Nat.zero_le _, Nat.zero_le _⟩ (pc2 := 172) rfl rfl ?_
                    exact k_iret C (dkAt dkX7_copy 82 (q := (172, .ireturn, 1)) rfl) (pe2 (Option.some.inj h)) rfl (pe1 (Option.some.inj h)) rfl
                  · refine k_iload_n C (pc2 := 134) (dkAt dkX7_copy 63 (q := (133, .iload_n 3, 1)) rfl) rfl rfl 6 rfl ?_
                    refine k_iconst C (pc2 := 135) (dkAt dkX7_copy 64 (q := (134, .iconst 0, 1)) rfl) rfl (v := 0) rfl ?_
                    refine k_aload C (pc2 := 137) (dkAt dkX7_copy 65 (q := (135, .aload 6, 2)) rfl) rfl 2 rfl ?_
                    refine kf_X7_73 C (pc2 := 140) (o := 53 + 2 * x1.toNatClampNeg) (o2 := 0) ((hX.2.2.2.2.2.2.2.2.2 _ hl7).1) (dkAt dkX7_copy 66 (q := (137, .getfield 73, 3)) rfl) rfl ?_
                    refine k_iload C (pc2 := 142) (dkAt dkX7_copy 67 (q := (140, .iload 5, 2)) rfl) rfl 8 rfl ?_
                    refine k_isub C (pc2 := 143) (dkAt dkX7_copy 68 (q := (142, .isub, 1)) rfl) rfl ?_
                    obtain ⟨q21, e22, h⟩ := ob_inv h
                    refine kc_S C (As := [.int x3, .int 0, .int ((M.1 (53 + 2 * x1.toNatClampNeg) 1) - x5)]) (st2 := [.int q21]) (ct_X7_within l G sh xs x3 0 ((M.1 (53 + 2 * x1.toNatClampNeg) 1) - x5) M q21 e22) (cl_X7_58 (hts_of C) ⟨Nat.le_of_ble_eq_true rfl, Nat.le_of_ble_eq_true rfl⟩ rfl rfl) rfl rfl (Nat.le_of_ble_eq_true rfl) (dkAt dkX7_copy 69 (q := (143, .invokestatic 58, 3)) rfl) ⟨Nat.zero_le _, Nat.zero_le _⟩ (pc2 := 146) rfl rfl ?_
                    refine k_if_eq C (tgt := 166) (pc2 := 149) (dkAt dkX7_copy 70 (q := (146, .ifCond .eq 20, 3)) rfl) (by decide) rfl h (fun h => ?_) (fun h => ?_)
                    · refine k_aload_n C (pc2 := 167) (dkAt dkX7_copy 79 (q := (166, .aload_n 0, 1)) rfl) rfl rfl 3 rfl ?_
                      refine k_bipush C (pc2 := 169) (dkAt dkX7_copy 80 (q := (167, .bipush (-2), 2)) rfl) rfl (v := (-2)) rfl ?_
                      obtain ⟨q23, e24, h⟩ := ob_inv h
                      refine kc_V C (As := [.int (-2)]) (st2 := [.int q23.2]) (ct_X7_refuse l G sh xs hX (-2) M q23 e24) (cl_X7_62 (hts_of C) ⟨Nat.le_of_ble_eq_true rfl, Nat.le_of_ble_eq_true rfl⟩ rfl rfl) hX.1 rfl rfl rfl rfl rfl (Nat.le_of_ble_eq_true rfl) (dkAt dkX7_copy 81 (q := (169, .invokevirtual 62, 3)) rfl) ⟨Nat.zero_le _, Nat.zero_le _⟩ (pc2 := 172) rfl rfl ?_
                      exact k_iret C (dkAt dkX7_copy 82 (q := (172, .ireturn, 1)) rfl) (pe2 (Option.some.inj h)) rfl (pe1 (Option.some.inj h)) rfl
                    · refine k_iload C (pc2 := 151) (dkAt dkX7_copy 71 (q := (149, .iload 4, 2)) rfl) rfl 7 rfl ?_
                      refine k_iconst C (pc2 := 152) (dkAt dkX7_copy 72 (q := (151, .iconst 0, 1)) rfl) rfl (v := 0) rfl ?_
                      refine k_aload C (pc2 := 154) (dkAt dkX7_copy 73 (q := (152, .aload 7, 2)) rfl) rfl 1 rfl ?_
                      refine kf_X7_73 C (pc2 := 157) (o := 53 + 2 * x2.toNatClampNeg) (o2 := 0) ((hX.2.2.2.2.2.2.2.2.2 _ hl8).1) (dkAt dkX7_copy 74 (q := (154, .getfield 73, 3)) rfl) rfl ?_
                      refine k_iload C (pc2 := 159) (dkAt dkX7_copy 75 (q := (157, .iload 5, 2)) rfl) rfl 8 rfl ?_
                      refine k_isub C (pc2 := 160) (dkAt dkX7_copy 76 (q := (159, .isub, 1)) rfl) rfl ?_
                      obtain ⟨q25, e26, h⟩ := ob_inv h
                      refine kc_S C (As := [.int x4, .int 0, .int ((M.1 (53 + 2 * x2.toNatClampNeg) 1) - x5)]) (st2 := [.int q25]) (ct_X7_within l G sh xs x4 0 ((M.1 (53 + 2 * x2.toNatClampNeg) 1) - x5) M q25 e26) (cl_X7_58 (hts_of C) ⟨Nat.le_of_ble_eq_true rfl, Nat.le_of_ble_eq_true rfl⟩ rfl rfl) rfl rfl (Nat.le_of_ble_eq_true rfl) (dkAt dkX7_copy 77 (q := (160, .invokestatic 58, 3)) rfl) ⟨Nat.zero_le _, Nat.zero_le _⟩ (pc2 := 163) rfl rfl ?_
                      refine k_if_ne C (tgt := 173) (pc2 := 166) (dkAt dkX7_copy 78 (q := (163, .ifCond .ne 10, 3)) rfl) (by decide) rfl h (fun h => ?_) (fun h => ?_)
                      · refine k_aload C (pc2 := 175) (dkAt dkX7_copy 83 (q := (173, .aload 6, 2)) rfl) rfl 2 rfl ?_
                        refine kf_X7_88 C (pc2 := 178) (o := 53 + 2 * x1.toNatClampNeg) (o2 := 53 + 2 * x1.toNatClampNeg + 1) ((hX.2.2.2.2.2.2.2.2.2 _ hl7).1) rfl (dkAt dkX7_copy 84 (q := (175, .getfield 88, 3)) rfl) rfl ?_
                        refine k_iload_n C (pc2 := 179) (dkAt dkX7_copy 85 (q := (178, .iload_n 3, 1)) rfl) rfl rfl 6 rfl ?_
                        refine k_aload C (pc2 := 181) (dkAt dkX7_copy 86 (q := (179, .aload 7, 2)) rfl) rfl 1 rfl ?_
                        refine kf_X7_88 C (pc2 := 184) (o := 53 + 2 * x2.toNatClampNeg) (o2 := 53 + 2 * x2.toNatClampNeg + 1) ((hX.2.2.2.2.2.2.2.2.2 _ hl8).1) rfl (dkAt dkX7_copy 87 (q := (181, .getfield 88, 3)) rfl) rfl ?_
                        refine k_iload C (pc2 := 186) (dkAt dkX7_copy 88 (q := (184, .iload 4, 2)) rfl) rfl 7 rfl ?_
                        refine k_iload C (pc2 := 188) (dkAt dkX7_copy 89 (q := (186, .iload 5, 2)) rfl) rfl 8 rfl ?_
                        refine k_copyl C (pc2 := 191) (o0 := 53 + 2 * x1.toNatClampNeg + 1) (o1 := 53 + 2 * x2.toNatClampNeg + 1) (n0 := 40) (n1 := 40) tM_X7_92 ((hX.2.2.2.2.2.2.2.2.2 _ hl7).2) ((hX.2.2.2.2.2.2.2.2.2 _ hl8).2) (Nat.le_of_ble_eq_true rfl) (Nat.le_of_ble_eq_true rfl) (dkAt dkX7_copy 90 (q := (188, .invokestatic 92, 3)) rfl) rfl h (fun M27 h => ?_)
                        refine k_iload C (pc2 := 193) (dkAt dkX7_copy 91 (q := (191, .iload 5, 2)) rfl) rfl 8 rfl ?_
                        exact k_iret C (dkAt dkX7_copy 92 (q := (193, .ireturn, 1)) rfl) (pe2 (Option.some.inj h)) rfl (pe1 (Option.some.inj h)) rfl
                      · refine k_aload_n C (pc2 := 167) (dkAt dkX7_copy 79 (q := (166, .aload_n 0, 1)) rfl) rfl rfl 3 rfl ?_
                        refine k_bipush C (pc2 := 169) (dkAt dkX7_copy 80 (q := (167, .bipush (-2), 2)) rfl) rfl (v := (-2)) rfl ?_
                        obtain ⟨q28, e29, h⟩ := ob_inv h
                        refine kc_V C (As := [.int (-2)]) (st2 := [.int q28.2]) (ct_X7_refuse l G sh xs hX (-2) M q28 e29) (cl_X7_62 (hts_of C) ⟨Nat.le_of_ble_eq_true rfl, Nat.le_of_ble_eq_true rfl⟩ rfl rfl) hX.1 rfl rfl rfl rfl rfl (Nat.le_of_ble_eq_true rfl) (dkAt dkX7_copy 81 (q := (169, .invokevirtual 62, 3)) rfl) ⟨Nat.zero_le _, Nat.zero_le _⟩ (pc2 := 172) rfl rfl ?_
                        exact k_iret C (dkAt dkX7_copy 82 (q := (172, .ireturn, 1)) rfl) (pe2 (Option.some.inj h)) rfl (pe1 (Option.some.inj h)) rfl
                · refine k_aload_n C (pc2 := 122) (dkAt dkX7_copy 57 (q := (121, .aload_n 0, 1)) rfl) rfl rfl 3 rfl ?_
                  refine k_bipush C (pc2 := 124) (dkAt dkX7_copy 58 (q := (122, .bipush (-4), 2)) rfl) rfl (v := (-4)) rfl ?_
                  obtain ⟨q30, e31, h⟩ := ob_inv h
                  refine kc_V C (As := [.int (-4)]) (st2 := [.int q30.2]) (ct_X7_refuse l G sh xs hX (-4) M q30 e31) (cl_X7_62 (hts_of C) ⟨Nat.le_of_ble_eq_true rfl, Nat.le_of_ble_eq_true rfl⟩ rfl rfl) hX.1 rfl rfl rfl rfl rfl (Nat.le_of_ble_eq_true rfl) (dkAt dkX7_copy 59 (q := (124, .invokevirtual 62, 3)) rfl) ⟨Nat.zero_le _, Nat.zero_le _⟩ (pc2 := 127) rfl rfl ?_
                  exact k_iret C (dkAt dkX7_copy 60 (q := (127, .ireturn, 1)) rfl) (pe2 (Option.some.inj h)) rfl (pe1 (Option.some.inj h)) rfl
            · refine k_aload_n C (pc2 := 97) (dkAt dkX7_copy 45 (q := (96, .aload_n 0, 1)) rfl) rfl rfl 3 rfl ?_
              refine k_bipush C (pc2 := 99) (dkAt dkX7_copy 46 (q := (97, .bipush (-3), 2)) rfl) rfl (v := (-3)) rfl ?_
              obtain ⟨q32, e33, h⟩ := ob_inv h
              refine kc_V C (As := [.int (-3)]) (st2 := [.int q32.2]) (ct_X7_refuse l G sh xs hX (-3) M q32 e33) (cl_X7_62 (hts_of C) ⟨Nat.le_of_ble_eq_true rfl, Nat.le_of_ble_eq_true rfl⟩ rfl rfl) hX.1 rfl rfl rfl rfl rfl (Nat.le_of_ble_eq_true rfl) (dkAt dkX7_copy 47 (q := (99, .invokevirtual 62, 3)) rfl) ⟨Nat.zero_le _, Nat.zero_le _⟩ (pc2 := 102) rfl rfl ?_
              exact k_iret C (dkAt dkX7_copy 48 (q := (102, .ireturn, 1)) rfl) (pe2 (Option.some.inj h)) rfl (pe1 (Option.some.inj h)) rfl
      · refine k_aload C (pc2 := 48) (dkAt dkX7_copy 24 (q := (46, .aload 7, 2)) rfl) rfl 0 rfl ?_
        refine kf_X7_81 C (pc2 := 51) (o := 53 + 2 * x2.toNatClampNeg) (o2 := 0) ((hX.2.2.2.2.2.2.2.2.2 _ hl8).1) (dkAt dkX7_copy 25 (q := (48, .getfield 81, 3)) rfl) rfl ?_
        refine k_iconst C (pc2 := 52) (dkAt dkX7_copy 26 (q := (51, .iconst (-1), 1)) rfl) rfl (v := (-1)) rfl ?_
        refine k_icmp_eq C (tgt := 72) (pc2 := 55) (dkAt dkX7_copy 27 (q := (52, .if_icmp .eq 20, 3)) rfl) (by decide) rfl h (fun h => ?_) (fun h => ?_)
        · refine k_iconst C (pc2 := 73) (dkAt dkX7_copy 35 (q := (72, .iconst 0, 1)) rfl) rfl (v := 0) rfl ?_
          refine k_istore C (pc2 := 75) (dkAt dkX7_copy 36 (q := (73, .istore 8, 2)) rfl) rfl (by decide) (lv2 := [(8, .int 0), (7, rA G (53 + 2 * x2.toNatClampNeg)), (6, rA G (53 + 2 * x1.toNatClampNeg)), (0, rA G 0), (1, .int x1), (2, .int x2), (3, .int x3), (4, .int x4), (5, .int x5)]) rfl ?_
          refine k_aload C (pc2 := 77) (dkAt dkX7_copy 37 (q := (75, .aload 6, 2)) rfl) rfl 2 rfl ?_
          obtain ⟨q34, e35, h⟩ := ob_inv h
          refine kc_V C (As := []) (st2 := [.int q34]) (ct_X4_holdsPerson l G sh xs (53 + 2 * x1.toNatClampNeg) (hX.2.2.2.2.2.2.2.2.2 _ hl7) M q34 e35) (cl_X7_84 (hts_of C) ⟨Nat.le_of_ble_eq_true rfl, Nat.le_of_ble_eq_true rfl⟩ rfl rfl) ((hX.2.2.2.2.2.2.2.2.2 _ hl7).1) rfl rfl rfl rfl rfl (Nat.le_of_ble_eq_true rfl) (dkAt dkX7_copy 38 (q := (77, .invokevirtual 84, 3)) rfl) ⟨Nat.zero_le _, Nat.zero_le _⟩ (pc2 := 80) rfl rfl ?_
          refine k_if_ne C (tgt := 96) (pc2 := 83) (dkAt dkX7_copy 39 (q := (80, .ifCond .ne 16, 3)) rfl) (by decide) rfl h (fun h => ?_) (fun h => ?_)
          · refine k_aload_n C (pc2 := 97) (dkAt dkX7_copy 45 (q := (96, .aload_n 0, 1)) rfl) rfl rfl 3 rfl ?_
            refine k_bipush C (pc2 := 99) (dkAt dkX7_copy 46 (q := (97, .bipush (-3), 2)) rfl) rfl (v := (-3)) rfl ?_
            obtain ⟨q36, e37, h⟩ := ob_inv h
            refine kc_V C (As := [.int (-3)]) (st2 := [.int q36.2]) (ct_X7_refuse l G sh xs hX (-3) M q36 e37) (cl_X7_62 (hts_of C) ⟨Nat.le_of_ble_eq_true rfl, Nat.le_of_ble_eq_true rfl⟩ rfl rfl) hX.1 rfl rfl rfl rfl rfl (Nat.le_of_ble_eq_true rfl) (dkAt dkX7_copy 47 (q := (99, .invokevirtual 62, 3)) rfl) ⟨Nat.zero_le _, Nat.zero_le _⟩ (pc2 := 102) rfl rfl ?_
            exact k_iret C (dkAt dkX7_copy 48 (q := (102, .ireturn, 1)) rfl) (pe2 (Option.some.inj h)) rfl (pe1 (Option.some.inj h)) rfl
          · refine k_aload C (pc2 := 85) (dkAt dkX7_copy 40 (q := (83, .aload 7, 2)) rfl) rfl 1 rfl ?_
            obtain ⟨q38, e39, h⟩ := ob_inv h
            refine kc_V C (As := []) (st2 := [.int q38]) (ct_X4_holdsPerson l G sh xs (53 + 2 * x2.toNatClampNeg) (hX.2.2.2.2.2.2.2.2.2 _ hl8) M q38 e39) (cl_X7_84 (hts_of C) ⟨Nat.le_of_ble_eq_true rfl, Nat.le_of_ble_eq_true rfl⟩ rfl rfl) ((hX.2.2.2.2.2.2.2.2.2 _ hl8).1) rfl rfl rfl rfl rfl (Nat.le_of_ble_eq_true rfl) (dkAt dkX7_copy 41 (q := (85, .invokevirtual 84, 3)) rfl) ⟨Nat.zero_le _, Nat.zero_le _⟩ (pc2 := 88) rfl rfl ?_
            refine k_if_ne C (tgt := 96) (pc2 := 91) (dkAt dkX7_copy 42 (q := (88, .ifCond .ne 8, 3)) rfl) (by decide) rfl h (fun h => ?_) (fun h => ?_)
            · refine k_aload_n C (pc2 := 97) (dkAt dkX7_copy 45 (q := (96, .aload_n 0, 1)) rfl) rfl rfl 3 rfl ?_
              refine k_bipush C (pc2 := 99) (dkAt dkX7_copy 46 (q := (97, .bipush (-3), 2)) rfl) rfl (v := (-3)) rfl ?_
              obtain ⟨q40, e41, h⟩ := ob_inv h
              refine kc_V C (As := [.int (-3)]) (st2 := [.int q40.2]) (ct_X7_refuse l G sh xs hX (-3) M q40 e41) (cl_X7_62 (hts_of C) ⟨Nat.le_of_ble_eq_true rfl, Nat.le_of_ble_eq_true rfl⟩ rfl rfl) hX.1 rfl rfl rfl rfl rfl (Nat.le_of_ble_eq_true rfl) (dkAt dkX7_copy 47 (q := (99, .invokevirtual 62, 3)) rfl) ⟨Nat.zero_le _, Nat.zero_le _⟩ (pc2 := 102) rfl rfl ?_
              exact k_iret C (dkAt dkX7_copy 48 (q := (102, .ireturn, 1)) rfl) (pe2 (Option.some.inj h)) rfl (pe1 (Option.some.inj h)) rfl
            · refine k_iload C (pc2 := 93) (dkAt dkX7_copy 43 (q := (91, .iload 8, 2)) rfl) rfl 0 rfl ?_
              refine k_if_eq C (tgt := 103) (pc2 := 96) (dkAt dkX7_copy 44 (q := (93, .ifCond .eq 10, 3)) rfl) (by decide) rfl h (fun h => ?_) (fun h => ?_)
              · refine k_aload C (pc2 := 105) (dkAt dkX7_copy 49 (q := (103, .aload 6, 2)) rfl) rfl 2 rfl ?_
                refine kf_X7_81 C (pc2 := 108) (o := 53 + 2 * x1.toNatClampNeg) (o2 := 0) ((hX.2.2.2.2.2.2.2.2.2 _ hl7).1) (dkAt dkX7_copy 50 (q := (105, .getfield 81, 3)) rfl) rfl ?_
                refine k_iconst C (pc2 := 109) (dkAt dkX7_copy 51 (q := (108, .iconst (-1), 1)) rfl) rfl (v := (-1)) rfl ?_
                refine k_icmp_eq C (tgt := 121) (pc2 := 112) (dkAt dkX7_copy 52 (q := (109, .if_icmp .eq 12, 3)) rfl) (by decide) rfl h (fun h => ?_) (fun h => ?_)
                · refine k_aload_n C (pc2 := 122) (dkAt dkX7_copy 57 (q := (121, .aload_n 0, 1)) rfl) rfl rfl 3 rfl ?_
                  refine k_bipush C (pc2 := 124) (dkAt dkX7_copy 58 (q := (122, .bipush (-4), 2)) rfl) rfl (v := (-4)) rfl ?_
                  obtain ⟨q42, e43, h⟩ := ob_inv h
                  refine kc_V C (As := [.int (-4)]) (st2 := [.int q42.2]) (ct_X7_refuse l G sh xs hX (-4) M q42 e43) (cl_X7_62 (hts_of C) ⟨Nat.le_of_ble_eq_true rfl, Nat.le_of_ble_eq_true rfl⟩ rfl rfl) hX.1 rfl rfl rfl rfl rfl (Nat.le_of_ble_eq_true rfl) (dkAt dkX7_copy 59 (q := (124, .invokevirtual 62, 3)) rfl) ⟨Nat.zero_le _, Nat.zero_le _⟩ (pc2 := 127) rfl rfl ?_
                  exact k_iret C (dkAt dkX7_copy 60 (q := (127, .ireturn, 1)) rfl) (pe2 (Option.some.inj h)) rfl (pe1 (Option.some.inj h)) rfl
                · refine k_aload C (pc2 := 114) (dkAt dkX7_copy 53 (q := (112, .aload 7, 2)) rfl) rfl 1 rfl ?_
                  refine kf_X7_81 C (pc2 := 117) (o := 53 + 2 * x2.toNatClampNeg) (o2 := 0) ((hX.2.2.2.2.2.2.2.2.2 _ hl8).1) (dkAt dkX7_copy 54 (q := (114, .getfield 81, 3)) rfl) rfl ?_
                  refine k_iconst C (pc2 := 118) (dkAt dkX7_copy 55 (q := (117, .iconst (-1), 1)) rfl) rfl (v := (-1)) rfl ?_
                  refine k_icmp_ne C (tgt := 128) (pc2 := 121) (dkAt dkX7_copy 56 (q := (118, .if_icmp .ne 10, 3)) rfl) (by decide) rfl h (fun h => ?_) (fun h => ?_)
                  · refine k_iload C (pc2 := 130) (dkAt dkX7_copy 61 (q := (128, .iload 5, 2)) rfl) rfl 8 rfl ?_
                    refine k_if_lt C (tgt := 166) (pc2 := 133) (dkAt dkX7_copy 62 (q := (130, .ifCond .lt 36, 3)) rfl) (by decide) rfl h (fun h => ?_) (fun h => ?_)
                    · refine k_aload_n C (pc2 := 167) (dkAt dkX7_copy 79 (q := (166, .aload_n 0, 1)) rfl) rfl rfl 3 rfl ?_
                      refine k_bipush C (pc2 := 169) (dkAt dkX7_copy 80 (q := (167, .bipush (-2), 2)) rfl) rfl (v := (-2)) rfl ?_
                      obtain ⟨q44, e45, h⟩ := ob_inv h
                      refine kc_V C (As := [.int (-2)]) (st2 := [.int q44.2]) (ct_X7_refuse l G sh xs hX (-2) M q44 e45) (cl_X7_62 (hts_of C) ⟨Nat.le_of_ble_eq_true rfl, Nat.le_of_ble_eq_true rfl⟩ rfl rfl) hX.1 rfl rfl rfl rfl rfl (Nat.le_of_ble_eq_true rfl) (dkAt dkX7_copy 81 (q := (169, .invokevirtual 62, 3)) rfl) ⟨Nat.zero_le _, Nat.zero_le _⟩ (pc2 := 172) rfl rfl ?_
                      exact k_iret C (dkAt dkX7_copy 82 (q := (172, .ireturn, 1)) rfl) (pe2 (Option.some.inj h)) rfl (pe1 (Option.some.inj h)) rfl
                    · refine k_iload_n C (pc2 := 134) (dkAt dkX7_copy 63 (q := (133, .iload_n 3, 1)) rfl) rfl rfl 6 rfl ?_
                      refine k_iconst C (pc2 := 135) (dkAt dkX7_copy 64 (q := (134, .iconst 0, 1)) rfl) rfl (v := 0) rfl ?_
                      refine k_aload C (pc2 := 137) (dkAt dkX7_copy 65 (q := (135, .aload 6, 2)) rfl) rfl 2 rfl ?_
                      refine kf_X7_73 C (pc2 := 140) (o := 53 + 2 * x1.toNatClampNeg) (o2 := 0) ((hX.2.2.2.2.2.2.2.2.2 _ hl7).1) (dkAt dkX7_copy 66 (q := (137, .getfield 73, 3)) rfl) rfl ?_
                      refine k_iload C (pc2 := 142) (dkAt dkX7_copy 67 (q := (140, .iload 5, 2)) rfl) rfl 8 rfl ?_
                      refine k_isub C (pc2 := 143) (dkAt dkX7_copy 68 (q := (142, .isub, 1)) rfl) rfl ?_
                      obtain ⟨q46, e47, h⟩ := ob_inv h
                      refine kc_S C (As := [.int x3, .int 0, .int ((M.1 (53 + 2 * x1.toNatClampNeg) 1) - x5)]) (st2 := [.int q46]) (ct_X7_within l G sh xs x3 0 ((M.1 (53 + 2 * x1.toNatClampNeg) 1) - x5) M q46 e47) (cl_X7_58 (hts_of C) ⟨Nat.le_of_ble_eq_true rfl, Nat.le_of_ble_eq_true rfl⟩ rfl rfl) rfl rfl (Nat.le_of_ble_eq_true rfl) (dkAt dkX7_copy 69 (q := (143, .invokestatic 58, 3)) rfl) ⟨Nat.zero_le _, Nat.zero_le _⟩ (pc2 := 146) rfl rfl ?_
                      refine k_if_eq C (tgt := 166) (pc2 := 149) (dkAt dkX7_copy 70 (q := (146, .ifCond .eq 20, 3)) rfl) (by decide) rfl h (fun h => ?_) (fun h => ?_)
                      · refine k_aload_n C (pc2 := 167) (dkAt dkX7_copy 79 (q := (166, .aload_n 0, 1)) rfl) rfl rfl 3 rfl ?_
                        refine k_bipush C (pc2 := 169) (dkAt dkX7_copy 80 (q := (167, .bipush (-2), 2)) rfl) rfl (v := (-2)) rfl ?_
                        obtain ⟨q48, e49, h⟩ := ob_inv h
                        refine kc_V C (As := [.int (-2)]) (st2 := [.int q48.2]) (ct_X7_refuse l G sh xs hX (-2) M q48 e49) (cl_X7_62 (hts_of C) ⟨Nat.le_of_ble_eq_true rfl, Nat.le_of_ble_eq_true rfl⟩ rfl rfl) hX.1 rfl rfl rfl rfl rfl (Nat.le_of_ble_eq_true rfl) (dkAt dkX7_copy 81 (q := (169, .invokevirtual 62, 3)) rfl) ⟨Nat.zero_le _, Nat.zero_le _⟩ (pc2 := 172) rfl rfl ?_
                        exact k_iret C (dkAt dkX7_copy 82 (q := (172, .ireturn, 1)) rfl) (pe2 (Option.some.inj h)) rfl (pe1 (Option.some.inj h)) rfl
                      · refine k_iload C (pc2 := 151) (dkAt dkX7_copy 71 (q := (149, .iload 4, 2)) rfl) rfl 7 rfl ?_
                        refine k_iconst C (pc2 := 152) (dkAt dkX7_copy 72 (q := (151, .iconst 0, 1)) rfl) rfl (v := 0) rfl ?_
                        refine k_aload C (pc2 := 154) (dkAt dkX7_copy 73 (q := (152, .aload 7, 2)) rfl) rfl 1 rfl ?_
                        refine kf_X7_73 C (pc2 := 157) (o := 53 + 2 * x2.toNatClampNeg) (o2 := 0) ((hX.2.2.2.2.2.2.2.2.2 _ hl8).1) (dkAt dkX7_copy 74 (q := (154, .getfield 73, 3)) rfl) rfl ?_
                        refine k_iload C (pc2 := 159) (dkAt dkX7_copy 75 (q := (157, .iload 5, 2)) rfl) rfl 8 rfl ?_
                        refine k_isub C (pc2 := 160) (dkAt dkX7_copy 76 (q := (159, .isub, 1)) rfl) rfl ?_
                        obtain ⟨q50, e51, h⟩ := ob_inv h
                        refine kc_S C (As := [.int x4, .int 0, .int ((M.1 (53 + 2 * x2.toNatClampNeg) 1) - x5)]) (st2 := [.int q50]) (ct_X7_within l G sh xs x4 0 ((M.1 (53 + 2 * x2.toNatClampNeg) 1) - x5) M q50 e51) (cl_X7_58 (hts_of C) ⟨Nat.le_of_ble_eq_true rfl, Nat.le_of_ble_eq_true rfl⟩ rfl rfl) rfl rfl (Nat.le_of_ble_eq_true rfl) (dkAt dkX7_copy 77 (q := (160, .invokestatic 58, 3)) rfl) ⟨Nat.zero_le _, Nat.zero_le _⟩ (pc2 := 163) rfl rfl ?_
                        refine k_if_ne C (tgt := 173) (pc2 := 166) (dkAt dkX7_copy 78 (q := (163, .ifCond .ne 10, 3)) rfl) (by decide) rfl h (fun h => ?_) (fun h => ?_)
                        · refine k_aload C (pc2 := 175) (dkAt dkX7_copy 83 (q := (173, .aload 6, 2)) rfl) rfl 2 rfl ?_
                          refine kf_X7_88 C (pc2 := 178) (o := 53 + 2 * x1.toNatClampNeg) (o2 := 53 + 2 * x1.toNatClampNeg + 1) ((hX.2.2.2.2.2.2.2.2.2 _ hl7).1) rfl (dkAt dkX7_copy 84 (q := (175, .getfield 88, 3)) rfl) rfl ?_
                          refine k_iload_n C (pc2 := 179) (dkAt dkX7_copy 85 (q := (178, .iload_n 3, 1)) rfl) rfl rfl 6 rfl ?_
                          refine k_aload C (pc2 := 181) (dkAt dkX7_copy 86 (q := (179, .aload 7, 2)) rfl) rfl 1 rfl ?_
                          refine kf_X7_88 C (pc2 := 184) (o := 53 + 2 * x2.toNatClampNeg) (o2 := 53 + 2 * x2.toNatClampNeg + 1) ((hX.2.2.2.2.2.2.2.2.2 _ hl8).1) rfl (dkAt dkX7_copy 87 (q := (181, .getfield 88, 3)) rfl) rfl ?_
                          refine k_iload C (pc2 := 186) (dkAt dkX7_copy 88 (q := (184, .iload 4, 2)) rfl) rfl 7 rfl ?_
                          refine k_iload C (pc2 := 188) (dkAt dkX7_copy 89 (q := (186, .iload 5, 2)) rfl) rfl 8 rfl ?_
                          refine k_copyl C (pc2 := 191) (o0 := 53 + 2 * x1.toNatClampNeg + 1) (o1 := 53 + 2 * x2.toNatClampNeg + 1) (n0 := 40) (n1 := 40) tM_X7_92 ((hX.2.2.2.2.2.2.2.2.2 _ hl7).2) ((hX.2.2.2.2.2.2.2.2.2 _ hl8).2) (Nat.le_of_ble_eq_true rfl) (Nat.le_of_ble_eq_true rfl) (dkAt dkX7_copy 90 (q := (188, .invokestatic 92, 3)) rfl) rfl h (fun M52 h => ?_)
                          refine k_iload C (pc2 := 193) (dkAt dkX7_copy 91 (q := (191, .iload 5, 2)) rfl) rfl 8 rfl ?_
                          exact k_iret C (dkAt dkX7_copy 92 (q := (193, .ireturn, 1)) rfl) (pe2 (Option.some.inj h)) rfl (pe1 (Option.some.inj h)) rfl
                        · refine k_aload_n C (pc2 := 167) (dkAt dkX7_copy 79 (q := (166, .aload_n 0, 1)) rfl) rfl rfl 3 rfl ?_
                          refine k_bipush C (pc2 := 169) (dkAt dkX7_copy 80 (q := (167, .bipush (-2), 2)) rfl) rfl (v := (-2)) rfl ?_
                          obtain ⟨q53, e54, h⟩ := ob_inv h
                          refine kc_V C (As := [.int (-2)]) (st2 := [.int q53.2]) (ct_X7_refuse l G sh xs hX (-2) M q53 e54) (cl_X7_62 (hts_of C) ⟨Nat.le_of_ble_eq_true rfl, Nat.le_of_ble_eq_true rfl⟩ rfl rfl) hX.1 rfl rfl rfl rfl rfl (Nat.le_of_ble_eq_true rfl) (dkAt dkX7_copy 81 (q := (169, .invokevirtual 62, 3)) rfl) ⟨Nat.zero_le _, Nat.zero_le _⟩ (pc2 := 172) rfl rfl ?_
                          exact k_iret C (dkAt dkX7_copy 82 (q := (172, .ireturn, 1)) rfl) (pe2 (Option.some.inj h)) rfl (pe1 (Option.some.inj h)) rfl
                  · refine k_aload_n C (pc2 := 122) (dkAt dkX7_copy 57 (q := (121, .aload_n 0, 1)) rfl) rfl rfl 3 rfl ?_
                    refine k_bipush C (pc2 := 124) (dkAt dkX7_copy 58 (q := (122, .bipush (-4), 2)) rfl) rfl (v := (-4)) rfl ?_
                    obtain ⟨q55, e56, h⟩ := ob_inv h
                    refine kc_V C (As := [.int (-4)]) (st2 := [.int q55.2]) (ct_X7_refuse l G sh xs hX (-4) M q55 e56) (cl_X7_62 (hts_of C) ⟨Nat.le_of_ble_eq_true rfl, Nat.le_of_ble_eq_true rfl⟩ rfl rfl) hX.1 rfl rfl rfl rfl rfl (Nat.le_of_ble_eq_true rfl) (dkAt dkX7_copy 59 (q := (124, .invokevirtual 62, 3)) rfl) ⟨Nat.zero_le _, Nat.zero_le _⟩ (pc2 := 127) rfl rfl ?_
                    exact k_iret C (dkAt dkX7_copy 60 (q := (127, .ireturn, 1)) rfl) (pe2 (Option.some.inj h)) rfl (pe1 (Option.some.inj h)) rfl
              · refine k_aload_n C (pc2 := 97) (dkAt dkX7_copy 45 (q := (96, .aload_n 0, 1)) rfl) rfl rfl 3 rfl ?_
                refine k_bipush C (pc2 := 99) (dkAt dkX7_copy 46 (q := (97, .bipush (-3), 2)) rfl) rfl (v := (-3)) rfl ?_
                obtain ⟨q57, e58, h⟩ := ob_inv h
                refine kc_V C (As := [.int (-3)]) (st2 := [.int q57.2]) (ct_X7_refuse l G sh xs hX (-3) M q57 e58) (cl_X7_62 (hts_of C) ⟨Nat.le_of_ble_eq_true rfl, Nat.le_of_ble_eq_true rfl⟩ rfl rfl) hX.1 rfl rfl rfl rfl rfl (Nat.le_of_ble_eq_true rfl) (dkAt dkX7_copy 47 (q := (99, .invokevirtual 62, 3)) rfl) ⟨Nat.zero_le _, Nat.zero_le _⟩ (pc2 := 102) rfl rfl ?_
                exact k_iret C (dkAt dkX7_copy 48 (q := (102, .ireturn, 1)) rfl) (pe2 (Option.some.inj h)) rfl (pe1 (Option.some.inj h)) rfl
        · refine k_aload C (pc2 := 57) (dkAt dkX7_copy 28 (q := (55, .aload 6, 2)) rfl) rfl 1 rfl ?_
          refine kf_X7_81 C (pc2 := 60) (o := 53 + 2 * x1.toNatClampNeg) (o2 := 0) ((hX.2.2.2.2.2.2.2.2.2 _ hl7).1) (dkAt dkX7_copy 29 (q := (57, .getfield 81, 3)) rfl) rfl ?_
          refine k_aload C (pc2 := 62) (dkAt dkX7_copy 30 (q := (60, .aload 7, 2)) rfl) rfl 0 rfl ?_
          refine kf_X7_81 C (pc2 := 65) (o := 53 + 2 * x2.toNatClampNeg) (o2 := 0) ((hX.2.2.2.2.2.2.2.2.2 _ hl8).1) (dkAt dkX7_copy 31 (q := (62, .getfield 81, 3)) rfl) rfl ?_
          refine k_icmp_eq C (tgt := 72) (pc2 := 68) (dkAt dkX7_copy 32 (q := (65, .if_icmp .eq 7, 3)) rfl) (by decide) rfl h (fun h => ?_) (fun h => ?_)
          · refine k_iconst C (pc2 := 73) (dkAt dkX7_copy 35 (q := (72, .iconst 0, 1)) rfl) rfl (v := 0) rfl ?_
            refine k_istore C (pc2 := 75) (dkAt dkX7_copy 36 (q := (73, .istore 8, 2)) rfl) rfl (by decide) (lv2 := [(8, .int 0), (7, rA G (53 + 2 * x2.toNatClampNeg)), (6, rA G (53 + 2 * x1.toNatClampNeg)), (0, rA G 0), (1, .int x1), (2, .int x2), (3, .int x3), (4, .int x4), (5, .int x5)]) rfl ?_
            refine k_aload C (pc2 := 77) (dkAt dkX7_copy 37 (q := (75, .aload 6, 2)) rfl) rfl 2 rfl ?_
            obtain ⟨q59, e60, h⟩ := ob_inv h
            refine kc_V C (As := []) (st2 := [.int q59]) (ct_X4_holdsPerson l G sh xs (53 + 2 * x1.toNatClampNeg) (hX.2.2.2.2.2.2.2.2.2 _ hl7) M q59 e60) (cl_X7_84 (hts_of C) ⟨Nat.le_of_ble_eq_true rfl, Nat.le_of_ble_eq_true rfl⟩ rfl rfl) ((hX.2.2.2.2.2.2.2.2.2 _ hl7).1) rfl rfl rfl rfl rfl (Nat.le_of_ble_eq_true rfl) (dkAt dkX7_copy 38 (q := (77, .invokevirtual 84, 3)) rfl) ⟨Nat.zero_le _, Nat.zero_le _⟩ (pc2 := 80) rfl rfl ?_
            refine k_if_ne C (tgt := 96) (pc2 := 83) (dkAt dkX7_copy 39 (q := (80, .ifCond .ne 16, 3)) rfl) (by decide) rfl h (fun h => ?_) (fun h => ?_)
            · refine k_aload_n C (pc2 := 97) (dkAt dkX7_copy 45 (q := (96, .aload_n 0, 1)) rfl) rfl rfl 3 rfl ?_
              refine k_bipush C (pc2 := 99) (dkAt dkX7_copy 46 (q := (97, .bipush (-3), 2)) rfl) rfl (v := (-3)) rfl ?_
              obtain ⟨q61, e62, h⟩ := ob_inv h
              refine kc_V C (As := [.int (-3)]) (st2 := [.int q61.2]) (ct_X7_refuse l G sh xs hX (-3) M q61 e62) (cl_X7_62 (hts_of C) ⟨Nat.le_of_ble_eq_true rfl, Nat.le_of_ble_eq_true rfl⟩ rfl rfl) hX.1 rfl rfl rfl rfl rfl (Nat.le_of_ble_eq_true rfl) (dkAt dkX7_copy 47 (q := (99, .invokevirtual 62, 3)) rfl) ⟨Nat.zero_le _, Nat.zero_le _⟩ (pc2 := 102) rfl rfl ?_
              exact k_iret C (dkAt dkX7_copy 48 (q := (102, .ireturn, 1)) rfl) (pe2 (Option.some.inj h)) rfl (pe1 (Option.some.inj h)) rfl
            · refine k_aload C (pc2 := 85) (dkAt dkX7_copy 40 (q := (83, .aload 7, 2)) rfl) rfl 1 rfl ?_
              obtain ⟨q63, e64, h⟩ := ob_inv h
              refine kc_V C (As := []) (st2 := [.int q63]) (ct_X4_holdsPerson l G sh xs (53 + 2 * x2.toNatClampNeg) (hX.2.2.2.2.2.2.2.2.2 _ hl8) M q63 e64) (cl_X7_84 (hts_of C) ⟨Nat.le_of_ble_eq_true rfl, Nat.le_of_ble_eq_true rfl⟩ rfl rfl) ((hX.2.2.2.2.2.2.2.2.2 _ hl8).1) rfl rfl rfl rfl rfl (Nat.le_of_ble_eq_true rfl) (dkAt dkX7_copy 41 (q := (85, .invokevirtual 84, 3)) rfl) ⟨Nat.zero_le _, Nat.zero_le _⟩ (pc2 := 88) rfl rfl ?_
              refine k_if_ne C (tgt := 96) (pc2 := 91) (dkAt dkX7_copy 42 (q := (88, .ifCond .ne 8, 3)) rfl) (by decide) rfl h (fun h => ?_) (fun h => ?_)
              · refine k_aload_n C (pc2 := 97) (dkAt dkX7_copy 45 (q := (96, .aload_n 0, 1)) rfl) rfl rfl 3 rfl ?_
                refine k_bipush C (pc2 := 99) (dkAt dkX7_copy 46 (q := (97, .bipush (-3), 2)) rfl) rfl (v := (-3)) rfl ?_
                obtain ⟨q65, e66, h⟩ := ob_inv h
                refine kc_V C (As := [.int (-3)]) (st2 := [.int q65.2]) (ct_X7_refuse l G sh xs hX (-3) M q65 e66) (cl_X7_62 (hts_of C) ⟨Nat.le_of_ble_eq_true rfl, Nat.le_of_ble_eq_true rfl⟩ rfl rfl) hX.1 rfl rfl rfl rfl rfl (Nat.le_of_ble_eq_true rfl) (dkAt dkX7_copy 47 (q := (99, .invokevirtual 62, 3)) rfl) ⟨Nat.zero_le _, Nat.zero_le _⟩ (pc2 := 102) rfl rfl ?_
                exact k_iret C (dkAt dkX7_copy 48 (q := (102, .ireturn, 1)) rfl) (pe2 (Option.some.inj h)) rfl (pe1 (Option.some.inj h)) rfl
              · refine k_iload C (pc2 := 93) (dkAt dkX7_copy 43 (q := (91, .iload 8, 2)) rfl) rfl 0 rfl ?_
                refine k_if_eq C (tgt := 103) (pc2 := 96) (dkAt dkX7_copy 44 (q := (93, .ifCond .eq 10, 3)) rfl) (by decide) rfl h (fun h => ?_) (fun h => ?_)
                · refine k_aload C (pc2 := 105) (dkAt dkX7_copy 49 (q := (103, .aload 6, 2)) rfl) rfl 2 rfl ?_
                  refine kf_X7_81 C (pc2 := 108) (o := 53 + 2 * x1.toNatClampNeg) (o2 := 0) ((hX.2.2.2.2.2.2.2.2.2 _ hl7).1) (dkAt dkX7_copy 50 (q := (105, .getfield 81, 3)) rfl) rfl ?_
                  refine k_iconst C (pc2 := 109) (dkAt dkX7_copy 51 (q := (108, .iconst (-1), 1)) rfl) rfl (v := (-1)) rfl ?_
                  refine k_icmp_eq C (tgt := 121) (pc2 := 112) (dkAt dkX7_copy 52 (q := (109, .if_icmp .eq 12, 3)) rfl) (by decide) rfl h (fun h => ?_) (fun h => ?_)
                  · refine k_aload_n C (pc2 := 122) (dkAt dkX7_copy 57 (q := (121, .aload_n 0, 1)) rfl) rfl rfl 3 rfl ?_
                    refine k_bipush C (pc2 := 124) (dkAt dkX7_copy 58 (q := (122, .bipush (-4), 2)) rfl) rfl (v := (-4)) rfl ?_
                    obtain ⟨q67, e68, h⟩ := ob_inv h
                    refine kc_V C (As := [.int (-4)]) (st2 := [.int q67.2]) (ct_X7_refuse l G sh xs hX (-4) M q67 e68) (cl_X7_62 (hts_of C) ⟨Nat.le_of_ble_eq_true rfl, Nat.le_of_ble_eq_true rfl⟩ rfl rfl) hX.1 rfl rfl rfl rfl rfl (Nat.le_of_ble_eq_true rfl) (dkAt dkX7_copy 59 (q := (124, .invokevirtual 62, 3)) rfl) ⟨Nat.zero_le _, Nat.zero_le _⟩ (pc2 := 127) rfl rfl ?_
                    exact k_iret C (dkAt dkX7_copy 60 (q := (127, .ireturn, 1)) rfl) (pe2 (Option.some.inj h)) rfl (pe1 (Option.some.inj h)) rfl
                  · refine k_aload C (pc2 := 114) (dkAt dkX7_copy 53 (q := (112, .aload 7, 2)) rfl) rfl 1 rfl ?_
                    refine kf_X7_81 C (pc2 := 117) (o := 53 + 2 * x2.toNatClampNeg) (o2 := 0) ((hX.2.2.2.2.2.2.2.2.2 _ hl8).1) (dkAt dkX7_copy 54 (q := (114, .getfield 81, 3)) rfl) rfl ?_
                    refine k_iconst C (pc2 := 118) (dkAt dkX7_copy 55 (q := (117, .iconst (-1), 1)) rfl) rfl (v := (-1)) rfl ?_
                    refine k_icmp_ne C (tgt := 128) (pc2 := 121) (dkAt dkX7_copy 56 (q := (118, .if_icmp .ne 10, 3)) rfl) (by decide) rfl h (fun h => ?_) (fun h => ?_)
                    · refine k_iload C (pc2 := 130) (dkAt dkX7_copy 61 (q := (128, .iload 5, 2)) rfl) rfl 8 rfl ?_
                      refine k_if_lt C (tgt := 166) (pc2 := 133) (dkAt dkX7_copy 62 (q := (130, .ifCond .lt 36, 3)) rfl) (by decide) rfl h (fun h => ?_) (fun h => ?_)
                      · refine k_aload_n C (pc2 := 167) (dkAt dkX7_copy 79 (q := (166, .aload_n 0, 1)) rfl) rfl rfl 3 rfl ?_
                        refine k_bipush C (pc2 := 169) (dkAt dkX7_copy 80 (q := (167, .bipush (-2), 2)) rfl) rfl (v := (-2)) rfl ?_
                        obtain ⟨q69, e70, h⟩ := ob_inv h
                        refine kc_V C (As := [.int (-2)]) (st2 := [.int q69.2]) (ct_X7_refuse l G sh xs hX (-2) M q69 e70) (cl_X7_62 (hts_of C) ⟨Nat.le_of_ble_eq_true rfl, Nat.le_of_ble_eq_true rfl⟩ rfl rfl) hX.1 rfl rfl rfl rfl rfl (Nat.le_of_ble_eq_true rfl) (dkAt dkX7_copy 81 (q := (169, .invokevirtual 62, 3)) rfl) ⟨Nat.zero_le _, Nat.zero_le _⟩ (pc2 := 172) rfl rfl ?_
                        exact k_iret C (dkAt dkX7_copy 82 (q := (172, .ireturn, 1)) rfl) (pe2 (Option.some.inj h)) rfl (pe1 (Option.some.inj h)) rfl
                      · refine k_iload_n C (pc2 := 134) (dkAt dkX7_copy 63 (q := (133, .iload_n 3, 1)) rfl) rfl rfl 6 rfl ?_
                        refine k_iconst C (pc2 := 135) (dkAt dkX7_copy 64 (q := (134, .iconst 0, 1)) rfl) rfl (v := 0) rfl ?_
                        refine k_aload C (pc2 := 137) (dkAt dkX7_copy 65 (q := (135, .aload 6, 2)) rfl) rfl 2 rfl ?_
                        refine kf_X7_73 C (pc2 := 140) (o := 53 + 2 * x1.toNatClampNeg) (o2 := 0) ((hX.2.2.2.2.2.2.2.2.2 _ hl7).1) (dkAt dkX7_copy 66 (q := (137, .getfield 73, 3)) rfl) rfl ?_
                        refine k_iload C (pc2 := 142) (dkAt dkX7_copy 67 (q := (140, .iload 5, 2)) rfl) rfl 8 rfl ?_
                        refine k_isub C (pc2 := 143) (dkAt dkX7_copy 68 (q := (142, .isub, 1)) rfl) rfl ?_
                        obtain ⟨q71, e72, h⟩ := ob_inv h
                        refine kc_S C (As := [.int x3, .int 0, .int ((M.1 (53 + 2 * x1.toNatClampNeg) 1) - x5)]) (st2 := [.int q71]) (ct_X7_within l G sh xs x3 0 ((M.1 (53 + 2 * x1.toNatClampNeg) 1) - x5) M q71 e72) (cl_X7_58 (hts_of C) ⟨Nat.le_of_ble_eq_true rfl, Nat.le_of_ble_eq_true rfl⟩ rfl rfl) rfl rfl (Nat.le_of_ble_eq_true rfl) (dkAt dkX7_copy 69 (q := (143, .invokestatic 58, 3)) rfl) ⟨Nat.zero_le _, Nat.zero_le _⟩ (pc2 := 146) rfl rfl ?_
                        refine k_if_eq C (tgt := 166) (pc2 := 149) (dkAt dkX7_copy 70 (q := (146, .ifCond .eq 20, 3)) rfl) (by decide) rfl h (fun h => ?_) (fun h => ?_)
                        · refine k_aload_n C (pc2 := 167) (dkAt dkX7_copy 79 (q := (166, .aload_n 0, 1)) rfl) rfl rfl 3 rfl ?_
                          refine k_bipush C (pc2 := 169) (dkAt dkX7_copy 80 (q := (167, .bipush (-2), 2)) rfl) rfl (v := (-2)) rfl ?_
                          obtain ⟨q73, e74, h⟩ := ob_inv h
                          refine kc_V C (As := [.int (-2)]) (st2 := [.int q73.2]) (ct_X7_refuse l G sh xs hX (-2) M q73 e74) (cl_X7_62 (hts_of C) ⟨Nat.le_of_ble_eq_true rfl, Nat.le_of_ble_eq_true rfl⟩ rfl rfl) hX.1 rfl rfl rfl rfl rfl (Nat.le_of_ble_eq_true rfl) (dkAt dkX7_copy 81 (q := (169, .invokevirtual 62, 3)) rfl) ⟨Nat.zero_le _, Nat.zero_le _⟩ (pc2 := 172) rfl rfl ?_
                          exact k_iret C (dkAt dkX7_copy 82 (q := (172, .ireturn, 1)) rfl) (pe2 (Option.some.inj h)) rfl (pe1 (Option.some.inj h)) rfl
                        · refine k_iload C (pc2 := 151) (dkAt dkX7_copy 71 (q := (149, .iload 4, 2)) rfl) rfl 7 rfl ?_
                          refine k_iconst C (pc2 := 152) (dkAt dkX7_copy 72 (q := (151, .iconst 0, 1)) rfl) rfl (v := 0) rfl ?_
                          refine k_aload C (pc2 := 154) (dkAt dkX7_copy 73 (q := (152, .aload 7, 2)) rfl) rfl 1 rfl ?_
                          refine kf_X7_73 C (pc2 := 157) (o := 53 + 2 * x2.toNatClampNeg) (o2 := 0) ((hX.2.2.2.2.2.2.2.2.2 _ hl8).1) (dkAt dkX7_copy 74 (q := (154, .getfield 73, 3)) rfl) rfl ?_
                          refine k_iload C (pc2 := 159) (dkAt dkX7_copy 75 (q := (157, .iload 5, 2)) rfl) rfl 8 rfl ?_
                          refine k_isub C (pc2 := 160) (dkAt dkX7_copy 76 (q := (159, .isub, 1)) rfl) rfl ?_
                          obtain ⟨q75, e76, h⟩ := ob_inv h
                          refine kc_S C (As := [.int x4, .int 0, .int ((M.1 (53 + 2 * x2.toNatClampNeg) 1) - x5)]) (st2 := [.int q75]) (ct_X7_within l G sh xs x4 0 ((M.1 (53 + 2 * x2.toNatClampNeg) 1) - x5) M q75 e76) (cl_X7_58 (hts_of C) ⟨Nat.le_of_ble_eq_true rfl, Nat.le_of_ble_eq_true rfl⟩ rfl rfl) rfl rfl (Nat.le_of_ble_eq_true rfl) (dkAt dkX7_copy 77 (q := (160, .invokestatic 58, 3)) rfl) ⟨Nat.zero_le _, Nat.zero_le _⟩ (pc2 := 163) rfl rfl ?_
                          refine k_if_ne C (tgt := 173) (pc2 := 166) (dkAt dkX7_copy 78 (q := (163, .ifCond .ne 10, 3)) rfl) (by decide) rfl h (fun h => ?_) (fun h => ?_)
                          · refine k_aload C (pc2 := 175) (dkAt dkX7_copy 83 (q := (173, .aload 6, 2)) rfl) rfl 2 rfl ?_
                            refine kf_X7_88 C (pc2 := 178) (o := 53 + 2 * x1.toNatClampNeg) (o2 := 53 + 2 * x1.toNatClampNeg + 1) ((hX.2.2.2.2.2.2.2.2.2 _ hl7).1) rfl (dkAt dkX7_copy 84 (q := (175, .getfield 88, 3)) rfl) rfl ?_
                            refine k_iload_n C (pc2 := 179) (dkAt dkX7_copy 85 (q := (178, .iload_n 3, 1)) rfl) rfl rfl 6 rfl ?_
                            refine k_aload C (pc2 := 181) (dkAt dkX7_copy 86 (q := (179, .aload 7, 2)) rfl) rfl 1 rfl ?_
                            refine kf_X7_88 C (pc2 := 184) (o := 53 + 2 * x2.toNatClampNeg) (o2 := 53 + 2 * x2.toNatClampNeg + 1) ((hX.2.2.2.2.2.2.2.2.2 _ hl8).1) rfl (dkAt dkX7_copy 87 (q := (181, .getfield 88, 3)) rfl) rfl ?_
                            refine k_iload C (pc2 := 186) (dkAt dkX7_copy 88 (q := (184, .iload 4, 2)) rfl) rfl 7 rfl ?_
                            refine k_iload C (pc2 := 188) (dkAt dkX7_copy 89 (q := (186, .iload 5, 2)) rfl) rfl 8 rfl ?_
                            refine k_copyl C (pc2 := 191) (o0 := 53 + 2 * x1.toNatClampNeg + 1) (o1 := 53 + 2 * x2.toNatClampNeg + 1) (n0 := 40) (n1 := 40) tM_X7_92 ((hX.2.2.2.2.2.2.2.2.2 _ hl7).2) ((hX.2.2.2.2.2.2.2.2.2 _ hl8).2) (Nat.le_of_ble_eq_true rfl) (Nat.le_of_ble_eq_true rfl) (dkAt dkX7_copy 90 (q := (188, .invokestatic 92, 3)) rfl) rfl h (fun M77 h => ?_)
                            refine k_iload C (pc2 := 193) (dkAt dkX7_copy 91 (q := (191, .iload 5, 2)) rfl) rfl 8 rfl ?_
                            exact k_iret C (dkAt dkX7_copy 92 (q := (193, .ireturn, 1)) rfl) (pe2 (Option.some.inj h)) rfl (pe1 (Option.some.inj h)) rfl
                          · refine k_aload_n C (pc2 := 167) (dkAt dkX7_copy 79 (q := (166, .aload_n 0, 1)) rfl) rfl rfl 3 rfl ?_
                            refine k_bipush C (pc2 := 169) (dkAt dkX7_copy 80 (q := (167, .bipush (-2), 2)) rfl) rfl (v := (-2)) rfl ?_
                            obtain ⟨q78, e79, h⟩ := ob_inv h
                            refine kc_V C (As := [.int (-2)]) (st2 := [.int q78.2]) (ct_X7_refuse l G sh xs hX (-2) M q78 e79) (cl_X7_62 (hts_of C) ⟨Nat.le_of_ble_eq_true rfl, Nat.le_of_ble_eq_true rfl⟩ rfl rfl) hX.1 rfl rfl rfl rfl rfl (Nat.le_of_ble_eq_true rfl) (dkAt dkX7_copy 81 (q := (169, .invokevirtual 62, 3)) rfl) ⟨Nat.zero_le _, Nat.zero_le _⟩ (pc2 := 172) rfl rfl ?_
                            exact k_iret C (dkAt dkX7_copy 82 (q := (172, .ireturn, 1)) rfl) (pe2 (Option.some.inj h)) rfl (pe1 (Option.some.inj h)) rfl
                    · refine k_aload_n C (pc2 := 122) (dkAt dkX7_copy 57 (q := (121, .aload_n 0, 1)) rfl) rfl rfl 3 rfl ?_
                      refine k_bipush C (pc2 := 124) (dkAt dkX7_copy 58 (q := (122, .bipush (-4), 2)) rfl) rfl (v := (-4)) rfl ?_
                      obtain ⟨q80, e81, h⟩ := ob_inv h
                      refine kc_V C (As := [.int (-4)]) (st2 := [.int q80.2]) (ct_X7_refuse l G sh xs hX (-4) M q80 e81) (cl_X7_62 (hts_of C) ⟨Nat.le_of_ble_eq_true rfl, Nat.le_of_ble_eq_true rfl⟩ rfl rfl) hX.1 rfl rfl rfl rfl rfl (Nat.le_of_ble_eq_true rfl) (dkAt dkX7_copy 59 (q := (124, .invokevirtual 62, 3)) rfl) ⟨Nat.zero_le _, Nat.zero_le _⟩ (pc2 := 127) rfl rfl ?_
                      exact k_iret C (dkAt dkX7_copy 60 (q := (127, .ireturn, 1)) rfl) (pe2 (Option.some.inj h)) rfl (pe1 (Option.some.inj h)) rfl
                · refine k_aload_n C (pc2 := 97) (dkAt dkX7_copy 45 (q := (96, .aload_n 0, 1)) rfl) rfl rfl 3 rfl ?_
                  refine k_bipush C (pc2 := 99) (dkAt dkX7_copy 46 (q := (97, .bipush (-3), 2)) rfl) rfl (v := (-3)) rfl ?_
                  obtain ⟨q82, e83, h⟩ := ob_inv h
                  refine kc_V C (As := [.int (-3)]) (st2 := [.int q82.2]) (ct_X7_refuse l G sh xs hX (-3) M q82 e83) (cl_X7_62 (hts_of C) ⟨Nat.le_of_ble_eq_true rfl, Nat.le_of_ble_eq_true rfl⟩ rfl rfl) hX.1 rfl rfl rfl rfl rfl (Nat.le_of_ble_eq_true rfl) (dkAt dkX7_copy 47 (q := (99, .invokevirtual 62, 3)) rfl) ⟨Nat.zero_le _, Nat.zero_le _⟩ (pc2 := 102) rfl rfl ?_
                  exact k_iret C (dkAt dkX7_copy 48 (q := (102, .ireturn, 1)) rfl) (pe2 (Option.some.inj h)) rfl (pe1 (Option.some.inj h)) rfl
          · refine k_iconst C (pc2 := 69) (dkAt dkX7_copy 33 (q := (68, .iconst 1, 1)) rfl) rfl (v := 1) rfl ?_
            refine k_goto C (tgt := 73) (dkAt dkX7_copy 34 (q := (69, .goto 4, 3)) rfl) (by decide) ?_
            refine k_istore C (pc2 := 75) (dkAt dkX7_copy 36 (q := (73, .istore 8, 2)) rfl) rfl (by decide) (lv2 := [(8, .int 1), (7, rA G (53 + 2 * x2.toNatClampNeg)), (6, rA G (53 + 2 * x1.toNatClampNeg)), (0, rA G 0), (1, .int x1), (2, .int x2), (3, .int x3), (4, .int x4), (5, .int x5)]) rfl ?_
            refine k_aload C (pc2 := 77) (dkAt dkX7_copy 37 (q := (75, .aload 6, 2)) rfl) rfl 2 rfl ?_
            obtain ⟨q84, e85, h⟩ := ob_inv h
            refine kc_V C (As := []) (st2 := [.int q84]) (ct_X4_holdsPerson l G sh xs (53 + 2 * x1.toNatClampNeg) (hX.2.2.2.2.2.2.2.2.2 _ hl7) M q84 e85) (cl_X7_84 (hts_of C) ⟨Nat.le_of_ble_eq_true rfl, Nat.le_of_ble_eq_true rfl⟩ rfl rfl) ((hX.2.2.2.2.2.2.2.2.2 _ hl7).1) rfl rfl rfl rfl rfl (Nat.le_of_ble_eq_true rfl) (dkAt dkX7_copy 38 (q := (77, .invokevirtual 84, 3)) rfl) ⟨Nat.zero_le _, Nat.zero_le _⟩ (pc2 := 80) rfl rfl ?_
            refine k_if_ne C (tgt := 96) (pc2 := 83) (dkAt dkX7_copy 39 (q := (80, .ifCond .ne 16, 3)) rfl) (by decide) rfl h (fun h => ?_) (fun h => ?_)
            · refine k_aload_n C (pc2 := 97) (dkAt dkX7_copy 45 (q := (96, .aload_n 0, 1)) rfl) rfl rfl 3 rfl ?_
              refine k_bipush C (pc2 := 99) (dkAt dkX7_copy 46 (q := (97, .bipush (-3), 2)) rfl) rfl (v := (-3)) rfl ?_
              obtain ⟨q86, e87, h⟩ := ob_inv h
              refine kc_V C (As := [.int (-3)]) (st2 := [.int q86.2]) (ct_X7_refuse l G sh xs hX (-3) M q86 e87) (cl_X7_62 (hts_of C) ⟨Nat.le_of_ble_eq_true rfl, Nat.le_of_ble_eq_true rfl⟩ rfl rfl) hX.1 rfl rfl rfl rfl rfl (Nat.le_of_ble_eq_true rfl) (dkAt dkX7_copy 47 (q := (99, .invokevirtual 62, 3)) rfl) ⟨Nat.zero_le _, Nat.zero_le _⟩ (pc2 := 102) rfl rfl ?_
              exact k_iret C (dkAt dkX7_copy 48 (q := (102, .ireturn, 1)) rfl) (pe2 (Option.some.inj h)) rfl (pe1 (Option.some.inj h)) rfl
            · refine k_aload C (pc2 := 85) (dkAt dkX7_copy 40 (q := (83, .aload 7, 2)) rfl) rfl 1 rfl ?_
              obtain ⟨q88, e89, h⟩ := ob_inv h
              refine kc_V C (As := []) (st2 := [.int q88]) (ct_X4_holdsPerson l G sh xs (53 + 2 * x2.toNatClampNeg) (hX.2.2.2.2.2.2.2.2.2 _ hl8) M q88 e89) (cl_X7_84 (hts_of C) ⟨Nat.le_of_ble_eq_true rfl, Nat.le_of_ble_eq_true rfl⟩ rfl rfl) ((hX.2.2.2.2.2.2.2.2.2 _ hl8).1) rfl rfl rfl rfl rfl (Nat.le_of_ble_eq_true rfl) (dkAt dkX7_copy 41 (q := (85, .invokevirtual 84, 3)) rfl) ⟨Nat.zero_le _, Nat.zero_le _⟩ (pc2 := 88) rfl rfl ?_
              refine k_if_ne C (tgt := 96) (pc2 := 91) (dkAt dkX7_copy 42 (q := (88, .ifCond .ne 8, 3)) rfl) (by decide) rfl h (fun h => ?_) (fun h => ?_)
              · refine k_aload_n C (pc2 := 97) (dkAt dkX7_copy 45 (q := (96, .aload_n 0, 1)) rfl) rfl rfl 3 rfl ?_
                refine k_bipush C (pc2 := 99) (dkAt dkX7_copy 46 (q := (97, .bipush (-3), 2)) rfl) rfl (v := (-3)) rfl ?_
                obtain ⟨q90, e91, h⟩ := ob_inv h
                refine kc_V C (As := [.int (-3)]) (st2 := [.int q90.2]) (ct_X7_refuse l G sh xs hX (-3) M q90 e91) (cl_X7_62 (hts_of C) ⟨Nat.le_of_ble_eq_true rfl, Nat.le_of_ble_eq_true rfl⟩ rfl rfl) hX.1 rfl rfl rfl rfl rfl (Nat.le_of_ble_eq_true rfl) (dkAt dkX7_copy 47 (q := (99, .invokevirtual 62, 3)) rfl) ⟨Nat.zero_le _, Nat.zero_le _⟩ (pc2 := 102) rfl rfl ?_
                exact k_iret C (dkAt dkX7_copy 48 (q := (102, .ireturn, 1)) rfl) (pe2 (Option.some.inj h)) rfl (pe1 (Option.some.inj h)) rfl
              · refine k_iload C (pc2 := 93) (dkAt dkX7_copy 43 (q := (91, .iload 8, 2)) rfl) rfl 0 rfl ?_
                refine k_if_eq C (tgt := 103) (pc2 := 96) (dkAt dkX7_copy 44 (q := (93, .ifCond .eq 10, 3)) rfl) (by decide) rfl h (fun h => ?_) (fun h => ?_)
                · refine k_aload C (pc2 := 105) (dkAt dkX7_copy 49 (q := (103, .aload 6, 2)) rfl) rfl 2 rfl ?_
                  refine kf_X7_81 C (pc2 := 108) (o := 53 + 2 * x1.toNatClampNeg) (o2 := 0) ((hX.2.2.2.2.2.2.2.2.2 _ hl7).1) (dkAt dkX7_copy 50 (q := (105, .getfield 81, 3)) rfl) rfl ?_
                  refine k_iconst C (pc2 := 109) (dkAt dkX7_copy 51 (q := (108, .iconst (-1), 1)) rfl) rfl (v := (-1)) rfl ?_
                  refine k_icmp_eq C (tgt := 121) (pc2 := 112) (dkAt dkX7_copy 52 (q := (109, .if_icmp .eq 12, 3)) rfl) (by decide) rfl h (fun h => ?_) (fun h => ?_)
                  · refine k_aload_n C (pc2 := 122) (dkAt dkX7_copy 57 (q := (121, .aload_n 0, 1)) rfl) rfl rfl 3 rfl ?_
                    refine k_bipush C (pc2 := 124) (dkAt dkX7_copy 58 (q := (122, .bipush (-4), 2)) rfl) rfl (v := (-4)) rfl ?_
                    obtain ⟨q92, e93, h⟩ := ob_inv h
                    refine kc_V C (As := [.int (-4)]) (st2 := [.int q92.2]) (ct_X7_refuse l G sh xs hX (-4) M q92 e93) (cl_X7_62 (hts_of C) ⟨Nat.le_of_ble_eq_true rfl, Nat.le_of_ble_eq_true rfl⟩ rfl rfl) hX.1 rfl rfl rfl rfl rfl (Nat.le_of_ble_eq_true rfl) (dkAt dkX7_copy 59 (q := (124, .invokevirtual 62, 3)) rfl) ⟨Nat.zero_le _, Nat.zero_le _⟩ (pc2 := 127) rfl rfl ?_
                    exact k_iret C (dkAt dkX7_copy 60 (q := (127, .ireturn, 1)) rfl) (pe2 (Option.some.inj h)) rfl (pe1 (Option.some.inj h)) rfl
                  · refine k_aload C (pc2 := 114) (dkAt dkX7_copy 53 (q := (112, .aload 7, 2)) rfl) rfl 1 rfl ?_
                    refine kf_X7_81 C (pc2 := 117) (o := 53 + 2 * x2.toNatClampNeg) (o2 := 0) ((hX.2.2.2.2.2.2.2.2.2 _ hl8).1) (dkAt dkX7_copy 54 (q := (114, .getfield 81, 3)) rfl) rfl ?_
                    refine k_iconst C (pc2 := 118) (dkAt dkX7_copy 55 (q := (117, .iconst (-1), 1)) rfl) rfl (v := (-1)) rfl ?_
                    refine k_icmp_ne C (tgt := 128) (pc2 := 121) (dkAt dkX7_copy 56 (q := (118, .if_icmp .ne 10, 3)) rfl) (by decide) rfl h (fun h => ?_) (fun h => ?_)
                    · refine k_iload C (pc2 := 130) (dkAt dkX7_copy 61 (q := (128, .iload 5, 2)) rfl) rfl 8 rfl ?_
                      refine k_if_lt C (tgt := 166) (pc2 := 133) (dkAt dkX7_copy 62 (q := (130, .ifCond .lt 36, 3)) rfl) (by decide) rfl h (fun h => ?_) (fun h => ?_)
                      · refine k_aload_n C (pc2 := 167) (dkAt dkX7_copy 79 (q := (166, .aload_n 0, 1)) rfl) rfl rfl 3 rfl ?_
                        refine k_bipush C (pc2 := 169) (dkAt dkX7_copy 80 (q := (167, .bipush (-2), 2)) rfl) rfl (v := (-2)) rfl ?_
                        obtain ⟨q94, e95, h⟩ := ob_inv h
                        refine kc_V C (As := [.int (-2)]) (st2 := [.int q94.2]) (ct_X7_refuse l G sh xs hX (-2) M q94 e95) (cl_X7_62 (hts_of C) ⟨Nat.le_of_ble_eq_true rfl, Nat.le_of_ble_eq_true rfl⟩ rfl rfl) hX.1 rfl rfl rfl rfl rfl (Nat.le_of_ble_eq_true rfl) (dkAt dkX7_copy 81 (q := (169, .invokevirtual 62, 3)) rfl) ⟨Nat.zero_le _, Nat.zero_le _⟩ (pc2 := 172) rfl rfl ?_
                        exact k_iret C (dkAt dkX7_copy 82 (q := (172, .ireturn, 1)) rfl) (pe2 (Option.some.inj h)) rfl (pe1 (Option.some.inj h)) rfl
                      · refine k_iload_n C (pc2 := 134) (dkAt dkX7_copy 63 (q := (133, .iload_n 3, 1)) rfl) rfl rfl 6 rfl ?_
                        refine k_iconst C (pc2 := 135) (dkAt dkX7_copy 64 (q := (134, .iconst 0, 1)) rfl) rfl (v := 0) rfl ?_
                        refine k_aload C (pc2 := 137) (dkAt dkX7_copy 65 (q := (135, .aload 6, 2)) rfl) rfl 2 rfl ?_
                        refine kf_X7_73 C (pc2 := 140) (o := 53 + 2 * x1.toNatClampNeg) (o2 := 0) ((hX.2.2.2.2.2.2.2.2.2 _ hl7).1) (dkAt dkX7_copy 66 (q := (137, .getfield 73, 3)) rfl) rfl ?_
                        refine k_iload C (pc2 := 142) (dkAt dkX7_copy 67 (q := (140, .iload 5, 2)) rfl) rfl 8 rfl ?_
                        refine k_isub C (pc2 := 143) (dkAt dkX7_copy 68 (q := (142, .isub, 1)) rfl) rfl ?_
                        obtain ⟨q96, e97, h⟩ := ob_inv h
                        refine kc_S C (As := [.int x3, .int 0, .int ((M.1 (53 + 2 * x1.toNatClampNeg) 1) - x5)]) (st2 := [.int q96]) (ct_X7_within l G sh xs x3 0 ((M.1 (53 + 2 * x1.toNatClampNeg) 1) - x5) M q96 e97) (cl_X7_58 (hts_of C) ⟨Nat.le_of_ble_eq_true rfl, Nat.le_of_ble_eq_true rfl⟩ rfl rfl) rfl rfl (Nat.le_of_ble_eq_true rfl) (dkAt dkX7_copy 69 (q := (143, .invokestatic 58, 3)) rfl) ⟨Nat.zero_le _, Nat.zero_le _⟩ (pc2 := 146) rfl rfl ?_
                        refine k_if_eq C (tgt := 166) (pc2 := 149) (dkAt dkX7_copy 70 (q := (146, .ifCond .eq 20, 3)) rfl) (by decide) rfl h (fun h => ?_) (fun h => ?_)
                        · refine k_aload_n C (pc2 := 167) (dkAt dkX7_copy 79 (q := (166, .aload_n 0, 1)) rfl) rfl rfl 3 rfl ?_
                          refine k_bipush C (pc2 := 169) (dkAt dkX7_copy 80 (q := (167, .bipush (-2), 2)) rfl) rfl (v := (-2)) rfl ?_
                          obtain ⟨q98, e99, h⟩ := ob_inv h
                          refine kc_V C (As := [.int (-2)]) (st2 := [.int q98.2]) (ct_X7_refuse l G sh xs hX (-2) M q98 e99) (cl_X7_62 (hts_of C) ⟨Nat.le_of_ble_eq_true rfl, Nat.le_of_ble_eq_true rfl⟩ rfl rfl) hX.1 rfl rfl rfl rfl rfl (Nat.le_of_ble_eq_true rfl) (dkAt dkX7_copy 81 (q := (169, .invokevirtual 62, 3)) rfl) ⟨Nat.zero_le _, Nat.zero_le _⟩ (pc2 := 172) rfl rfl ?_
                          exact k_iret C (dkAt dkX7_copy 82 (q := (172, .ireturn, 1)) rfl) (pe2 (Option.some.inj h)) rfl (pe1 (Option.some.inj h)) rfl
                        · refine k_iload C (pc2 := 151) (dkAt dkX7_copy 71 (q := (149, .iload 4, 2)) rfl) rfl 7 rfl ?_
                          refine k_iconst C (pc2 := 152) (dkAt dkX7_copy 72 (q := (151, .iconst 0, 1)) rfl) rfl (v := 0) rfl ?_
                          refine k_aload C (pc2 := 154) (dkAt dkX7_copy 73 (q := (152, .aload 7, 2)) rfl) rfl 1 rfl ?_
                          refine kf_X7_73 C (pc2 := 157) (o := 53 + 2 * x2.toNatClampNeg) (o2 := 0) ((hX.2.2.2.2.2.2.2.2.2 _ hl8).1) (dkAt dkX7_copy 74 (q := (154, .getfield 73, 3)) rfl) rfl ?_
                          refine k_iload C (pc2 := 159) (dkAt dkX7_copy 75 (q := (157, .iload 5, 2)) rfl) rfl 8 rfl ?_
                          refine k_isub C (pc2 := 160) (dkAt dkX7_copy 76 (q := (159, .isub, 1)) rfl) rfl ?_
                          obtain ⟨q100, e101, h⟩ := ob_inv h
                          refine kc_S C (As := [.int x4, .int 0, .int ((M.1 (53 + 2 * x2.toNatClampNeg) 1) - x5)]) (st2 := [.int q100]) (ct_X7_within l G sh xs x4 0 ((M.1 (53 + 2 * x2.toNatClampNeg) 1) - x5) M q100 e101) (cl_X7_58 (hts_of C) ⟨Nat.le_of_ble_eq_true rfl, Nat.le_of_ble_eq_true rfl⟩ rfl rfl) rfl rfl (Nat.le_of_ble_eq_true rfl) (dkAt dkX7_copy 77 (q := (160, .invokestatic 58, 3)) rfl) ⟨Nat.zero_le _, Nat.zero_le _⟩ (pc2 := 163) rfl rfl ?_
                          refine k_if_ne C (tgt := 173) (pc2 := 166) (dkAt dkX7_copy 78 (q := (163, .ifCond .ne 10, 3)) rfl) (by decide) rfl h (fun h => ?_) (fun h => ?_)
                          · refine k_aload C (pc2 := 175) (dkAt dkX7_copy 83 (q := (173, .aload 6, 2)) rfl) rfl 2 rfl ?_
                            refine kf_X7_88 C (pc2 := 178) (o := 53 + 2 * x1.toNatClampNeg) (o2 := 53 + 2 * x1.toNatClampNeg + 1) ((hX.2.2.2.2.2.2.2.2.2 _ hl7).1) rfl (dkAt dkX7_copy 84 (q := (175, .getfield 88, 3)) rfl) rfl ?_
                            refine k_iload_n C (pc2 := 179) (dkAt dkX7_copy 85 (q := (178, .iload_n 3, 1)) rfl) rfl rfl 6 rfl ?_
                            refine k_aload C (pc2 := 181) (dkAt dkX7_copy 86 (q := (179, .aload 7, 2)) rfl) rfl 1 rfl ?_
                            refine kf_X7_88 C (pc2 := 184) (o := 53 + 2 * x2.toNatClampNeg) (o2 := 53 + 2 * x2.toNatClampNeg + 1) ((hX.2.2.2.2.2.2.2.2.2 _ hl8).1) rfl (dkAt dkX7_copy 87 (q := (181, .getfield 88, 3)) rfl) rfl ?_
                            refine k_iload C (pc2 := 186) (dkAt dkX7_copy 88 (q := (184, .iload 4, 2)) rfl) rfl 7 rfl ?_
                            refine k_iload C (pc2 := 188) (dkAt dkX7_copy 89 (q := (186, .iload 5, 2)) rfl) rfl 8 rfl ?_
                            refine k_copyl C (pc2 := 191) (o0 := 53 + 2 * x1.toNatClampNeg + 1) (o1 := 53 + 2 * x2.toNatClampNeg + 1) (n0 := 40) (n1 := 40) tM_X7_92 ((hX.2.2.2.2.2.2.2.2.2 _ hl7).2) ((hX.2.2.2.2.2.2.2.2.2 _ hl8).2) (Nat.le_of_ble_eq_true rfl) (Nat.le_of_ble_eq_true rfl) (dkAt dkX7_copy 90 (q := (188, .invokestatic 92, 3)) rfl) rfl h (fun M102 h => ?_)
                            refine k_iload C (pc2 := 193) (dkAt dkX7_copy 91 (q := (191, .iload 5, 2)) rfl) rfl 8 rfl ?_
                            exact k_iret C (dkAt dkX7_copy 92 (q := (193, .ireturn, 1)) rfl) (pe2 (Option.some.inj h)) rfl (pe1 (Option.some.inj h)) rfl
                          · refine k_aload_n C (pc2 := 167) (dkAt dkX7_copy 79 (q := (166, .aload_n 0, 1)) rfl) rfl rfl 3 rfl ?_
                            refine k_bipush C (pc2 := 169) (dkAt dkX7_copy 80 (q := (167, .bipush (-2), 2)) rfl) rfl (v := (-2)) rfl ?_
                            obtain ⟨q103, e104, h⟩ := ob_inv h
                            refine kc_V C (As := [.int (-2)]) (st2 := [.int q103.2]) (ct_X7_refuse l G sh xs hX (-2) M q103 e104) (cl_X7_62 (hts_of C) ⟨Nat.le_of_ble_eq_true rfl, Nat.le_of_ble_eq_true rfl⟩ rfl rfl) hX.1 rfl rfl rfl rfl rfl (Nat.le_of_ble_eq_true rfl) (dkAt dkX7_copy 81 (q := (169, .invokevirtual 62, 3)) rfl) ⟨Nat.zero_le _, Nat.zero_le _⟩ (pc2 := 172) rfl rfl ?_
                            exact k_iret C (dkAt dkX7_copy 82 (q := (172, .ireturn, 1)) rfl) (pe2 (Option.some.inj h)) rfl (pe1 (Option.some.inj h)) rfl
                    · refine k_aload_n C (pc2 := 122) (dkAt dkX7_copy 57 (q := (121, .aload_n 0, 1)) rfl) rfl rfl 3 rfl ?_
                      refine k_bipush C (pc2 := 124) (dkAt dkX7_copy 58 (q := (122, .bipush (-4), 2)) rfl) rfl (v := (-4)) rfl ?_
                      obtain ⟨q105, e106, h⟩ := ob_inv h
                      refine kc_V C (As := [.int (-4)]) (st2 := [.int q105.2]) (ct_X7_refuse l G sh xs hX (-4) M q105 e106) (cl_X7_62 (hts_of C) ⟨Nat.le_of_ble_eq_true rfl, Nat.le_of_ble_eq_true rfl⟩ rfl rfl) hX.1 rfl rfl rfl rfl rfl (Nat.le_of_ble_eq_true rfl) (dkAt dkX7_copy 59 (q := (124, .invokevirtual 62, 3)) rfl) ⟨Nat.zero_le _, Nat.zero_le _⟩ (pc2 := 127) rfl rfl ?_
                      exact k_iret C (dkAt dkX7_copy 60 (q := (127, .ireturn, 1)) rfl) (pe2 (Option.some.inj h)) rfl (pe1 (Option.some.inj h)) rfl
                · refine k_aload_n C (pc2 := 97) (dkAt dkX7_copy 45 (q := (96, .aload_n 0, 1)) rfl) rfl rfl 3 rfl ?_
                  refine k_bipush C (pc2 := 99) (dkAt dkX7_copy 46 (q := (97, .bipush (-3), 2)) rfl) rfl (v := (-3)) rfl ?_
                  obtain ⟨q107, e108, h⟩ := ob_inv h
                  refine kc_V C (As := [.int (-3)]) (st2 := [.int q107.2]) (ct_X7_refuse l G sh xs hX (-3) M q107 e108) (cl_X7_62 (hts_of C) ⟨Nat.le_of_ble_eq_true rfl, Nat.le_of_ble_eq_true rfl⟩ rfl rfl) hX.1 rfl rfl rfl rfl rfl (Nat.le_of_ble_eq_true rfl) (dkAt dkX7_copy 47 (q := (99, .invokevirtual 62, 3)) rfl) ⟨Nat.zero_le _, Nat.zero_le _⟩ (pc2 := 102) rfl rfl ?_
                  exact k_iret C (dkAt dkX7_copy 48 (q := (102, .ireturn, 1)) rfl) (pe2 (Option.some.inj h)) rfl (pe1 (Option.some.inj h)) rfl
    · refine k_aload_n C (pc2 := 15) (dkAt dkX7_copy 6 (q := (14, .aload_n 0, 1)) rfl) rfl rfl 0 rfl ?_
      refine k_bipush C (pc2 := 17) (dkAt dkX7_copy 7 (q := (15, .bipush (-2), 2)) rfl) rfl (v := (-2)) rfl ?_
      obtain ⟨q109, e110, h⟩ := ob_inv h
      refine kc_V C (As := [.int (-2)]) (st2 := [.int q109.2]) (ct_X7_refuse l G sh xs hX (-2) M q109 e110) (cl_X7_62 (hts_of C) ⟨Nat.le_of_ble_eq_true rfl, Nat.le_of_ble_eq_true rfl⟩ rfl rfl) hX.1 rfl rfl rfl rfl rfl (Nat.le_of_ble_eq_true rfl) (dkAt dkX7_copy 8 (q := (17, .invokevirtual 62, 3)) rfl) ⟨Nat.zero_le _, Nat.zero_le _⟩ (pc2 := 20) rfl rfl ?_
      exact k_iret C (dkAt dkX7_copy 9 (q := (20, .ireturn, 1)) rfl) (pe2 (Option.some.inj h)) rfl (pe1 (Option.some.inj h)) rfl
