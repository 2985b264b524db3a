set_option maxRecDepth 100000 in
set_option maxHeartbeats 4000000 in
theorem kl_X8_findTwo_L16 {p : Program} {l : Launch} {e : Env} {s : State} {m : MethodId} {args : Array Value} {below : List Frame} {meth : Method} {c : Code} {G : GG} {sh : Sh} {xs : List va_E} {Q : State → Prop} (C : Cx p s m c args meth G RX8 cX8_findTwo 5 (some .int)) (o0 : Nat) (h0 : isM sh o0) (x2 : Int32) (y1 : Int32) (M2 : Mm) (hcont : KW p l e rm_X8_findTwo s m args below meth c G 5 Q sh xs 0 0 M2 65 [(0, rA G o0), (1, .int y1), (2, .int x2)] []) : ∀ (n : Nat) (x1 : Int32) (x3 : Int32) (M : Mm), f_X8_findTwo_L16 o0 x2 n x1 x3 M = some (y1, M2) → KW p l e rm_X8_findTwo s m args below meth c G 5 Q sh xs 0 0 M 16 [(0, rA G o0), (1, .int x1), (2, .int x2), (3, .int x3)] [] := by
  intro n
  induction n with
  | zero =>
    intro x1 x3 M h
    cases h
  | succ n ih =>
    intro x1 x3 M h
    unfold f_X8_findTwo_L16 at h
    refine k_iload_n C (pc2 := 17) (dkAt dkX8_findTwo 12 (q := (16, .iload_n 3, 1)) rfl) rfl rfl 3 rfl ?_
    refine k_aload_n C (pc2 := 18) (dkAt dkX8_findTwo 13 (q := (17, .aload_n 0, 1)) rfl) rfl rfl 0 rfl ?_
    refine kf_X8_37 C (pc2 := 21) (o := o0) (o2 := 0) h0.1 (dkAt dkX8_findTwo 14 (q := (18, .getfield 37, 3)) rfl) rfl ?_
    refine k_icmp_ge C (tgt := 65) (pc2 := 24) (dkAt dkX8_findTwo 15 (q := (21, .if_icmp .ge 44, 3)) rfl) (by decide) rfl h (fun h => ?_) (fun h => ?_)
    · refine k_lv [0, 1, 2] (lv2 := [(0, rA G o0), (1, .int x1), (2, .int x2)]) rfl ?_
      cases h
      exact hcont
    · refine k_aload_n C (pc2 := 25) (dkAt dkX8_findTwo 16 (q := (24, .aload_n 0, 1)) rfl) rfl rfl 0 rfl ?_
      refine k_iload_n C (pc2 := 26) (dkAt dkX8_findTwo 17 (q := (25, .iload_n 2, 1)) rfl) rfl rfl 2 rfl ?_
      obtain ⟨q2, e3, h⟩ := ob_inv h
      refine kc_V C (As := [.int x2]) (st2 := [.int q2]) (ct_X8_thereOn l G sh xs o0 h0 x2 M q2 e3) (cl_X8_263 (hts_of C) ⟨Nat.le_of_ble_eq_true rfl, Nat.le_of_ble_eq_true rfl⟩ rfl rfl) h0.1 rfl rfl rfl rfl rfl (Nat.le_of_ble_eq_true rfl) (dkAt dkX8_findTwo 18 (q := (26, .invokevirtual 263, 3)) rfl) ⟨Nat.zero_le _, Nat.zero_le _⟩ (pc2 := 29) rfl rfl ?_
      refine k_aload_n C (pc2 := 30) (dkAt dkX8_findTwo 19 (q := (29, .aload_n 0, 1)) rfl) rfl rfl 0 rfl ?_
      refine k_iload_n C (pc2 := 31) (dkAt dkX8_findTwo 20 (q := (30, .iload_n 3, 1)) rfl) rfl rfl 3 rfl ?_
      obtain ⟨q4, e5, h⟩ := ob_inv h
      refine kc_V C (As := [.int x3]) (st2 := [.int q4, .int q2]) (ct_X8_thereOn l G sh xs o0 h0 x3 M q4 e5) (cl_X8_263 (hts_of C) ⟨Nat.le_of_ble_eq_true rfl, Nat.le_of_ble_eq_true rfl⟩ rfl rfl) h0.1 rfl rfl rfl rfl rfl (Nat.le_of_ble_eq_true rfl) (dkAt dkX8_findTwo 21 (q := (31, .invokevirtual 263, 3)) rfl) ⟨Nat.zero_le _, Nat.zero_le _⟩ (pc2 := 34) rfl rfl ?_
      refine k_ior C (pc2 := 35) (dkAt dkX8_findTwo 22 (q := (34, .ior, 1)) rfl) rfl ?_
      obtain ⟨q6, e7, h⟩ := ob_inv h
      refine kc_S C (As := [.int (q2 ||| q4)]) (st2 := [.int q6]) (ct_X8_bits l G sh xs (q2 ||| q4) M q6 e7) (cl_X8_118 (hts_of C) ⟨Nat.le_of_ble_eq_true rfl, Nat.le_of_ble_eq_true rfl⟩ rfl rfl) rfl rfl (Nat.le_of_ble_eq_true rfl) (dkAt dkX8_findTwo 23 (q := (35, .invokestatic 118, 3)) rfl) ⟨Nat.zero_le _, Nat.zero_le _⟩ (pc2 := 38) rfl rfl ?_
      refine k_istore C (pc2 := 40) (dkAt dkX8_findTwo 24 (q := (38, .istore 4, 2)) rfl) rfl (by decide) (lv2 := [(4, .int q6), (0, rA G o0), (1, .int x1), (2, .int x2), (3, .int x3)]) rfl ?_
      refine k_iload C (pc2 := 42) (dkAt dkX8_findTwo 25 (q := (40, .iload 4, 2)) rfl) rfl 0 rfl ?_
      refine k_iload_n C (pc2 := 43) (dkAt dkX8_findTwo 26 (q := (42, .iload_n 1, 1)) rfl) rfl rfl 2 rfl ?_
      refine k_icmp_le C (tgt := 59) (pc2 := 46) (dkAt dkX8_findTwo 27 (q := (43, .if_icmp .le 16, 3)) rfl) (by decide) rfl h (fun h => ?_) (fun h => ?_)
      · refine kb_iinc C (pc2 := 62) (dkAt dkX8_findTwo 36 (q := (59, .iinc 3 1, 3)) rfl) rfl (j := 4) rfl (v := x3 + 1) rfl (by decide) (lv2 := fun v8 => [(3, .int v8), (4, .int q6), (0, rA G o0), (1, .int x1), (2, .int x2)]) (fun _ => rfl) h (fun v8 h => ?_)
        refine k_goto C (tgt := 16) (dkAt dkX8_findTwo 37 (q := (62, .goto (-46), 3)) rfl) (by decide) ?_
        refine k_lv [2, 3, 4, 0] (lv2 := [(0, rA G o0), (1, .int x1), (2, .int x2), (3, .int v8)]) rfl ?_
        exact ih x1 v8 M h
      · refine k_iload C (pc2 := 48) (dkAt dkX8_findTwo 28 (q := (46, .iload 4, 2)) rfl) rfl 0 rfl ?_
        refine k_istore_n C (pc2 := 49) (dkAt dkX8_findTwo 29 (q := (48, .istore_n 1, 1)) rfl) rfl rfl (by decide) (lv2 := [(1, .int q6), (4, .int q6), (0, rA G o0), (2, .int x2), (3, .int x3)]) rfl ?_
        refine k_aload_n C (pc2 := 50) (dkAt dkX8_findTwo 30 (q := (49, .aload_n 0, 1)) rfl) rfl rfl 2 rfl ?_
        refine k_iload_n C (pc2 := 51) (dkAt dkX8_findTwo 31 (q := (50, .iload_n 2, 1)) rfl) rfl rfl 3 rfl ?_
        refine kp_X8_310 C (pc2 := 54) (o := o0) h0.1 (dkAt dkX8_findTwo 32 (q := (51, .putfield 310, 3)) rfl) rfl h (fun M9 h => ?_)
        refine k_aload_n C (pc2 := 55) (dkAt dkX8_findTwo 33 (q := (54, .aload_n 0, 1)) rfl) rfl rfl 2 rfl ?_
        refine k_iload_n C (pc2 := 56) (dkAt dkX8_findTwo 34 (q := (55, .iload_n 3, 1)) rfl) rfl rfl 4 rfl ?_
        refine kp_X8_313 C (pc2 := 59) (o := o0) h0.1 (dkAt dkX8_findTwo 35 (q := (56, .putfield 313, 3)) rfl) rfl h (fun M10 h => ?_)
        refine kb_iinc C (pc2 := 62) (dkAt dkX8_findTwo 36 (q := (59, .iinc 3 1, 3)) rfl) rfl (j := 4) rfl (v := x3 + 1) rfl (by decide) (lv2 := fun v11 => [(3, .int v11), (1, .int q6), (4, .int q6), (0, rA G o0), (2, .int x2)]) (fun _ => rfl) h (fun v11 h => ?_)
        refine k_goto C (tgt := 16) (dkAt dkX8_findTwo 37 (q := (62, .goto (-46), 3)) rfl) (by decide) ?_
        refine k_lv [3, 1, 4, 0] (lv2 := [(0, rA G o0), (1, .int q6), (2, .int x2), (3, .int v11)]) rfl ?_
        exact ih q6 v11 M10 h
set_option maxRecDepth 100000 in
set_option maxHeartbeats 4000000 in
theorem kl_X8_findTwo_L4 {p : Program} {l : Launch} {e : Env} {s : State} {m : MethodId} {args : Array Value} {below : List Frame} {meth : Method} {c : Code} {G : GG} {sh : Sh} {xs : List va_E} {Q : State → Prop} (C : Cx p s m c args meth G RX8 cX8_findTwo 5 (some .int)) (o0 : Nat) (h0 : isM sh o0) (y1 : Int32) (M2 : Mm) (hcont : KW p l e rm_X8_findTwo s m args below meth c G 5 Q sh xs 0 0 M2 71 [(1, .int y1)] []) : ∀ (n : Nat) (x1 : Int32) (x2 : Int32) (M : Mm), f_X8_findTwo_L4 o0 n x1 x2 M = some (y1, M2) → KW p l e rm_X8_findTwo s m args below meth c G 5 Q sh xs 0 0 M 4 [(0, rA G o0), (1, .int x1), (2, .int x2)] [] := by
  intro n
  induction n with
  | zero =>
    intro x1 x2 M h
    cases h
  | succ n ih =>
    intro x1 x2 M h
    unfold f_X8_findTwo_L4 at h
    refine k_iload_n C (pc2 := 5) (dkAt dkX8_findTwo 4 (q := (4, .iload_n 2, 1)) rfl) rfl rfl 2 rfl ?_
    refine k_aload_n C (pc2 := 6) (dkAt dkX8_findTwo 5 (q := (5, .aload_n 0, 1)) rfl) rfl rfl 0 rfl ?_
    refine kf_X8_37 C (pc2 := 9) (o := o0) (o2 := 0) h0.1 (dkAt dkX8_findTwo 6 (q := (6, .getfield 37, 3)) rfl) rfl ?_
    refine k_icmp_ge C (tgt := 71) (pc2 := 12) (dkAt dkX8_findTwo 7 (q := (9, .if_icmp .ge 62, 3)) rfl) (by decide) rfl h (fun h => ?_) (fun h => ?_)
    · refine k_lv [1] (lv2 := [(1, .int x1)]) rfl ?_
      cases h
      exact hcont
    · refine k_iload_n C (pc2 := 13) (dkAt dkX8_findTwo 8 (q := (12, .iload_n 2, 1)) rfl) rfl rfl 2 rfl ?_
      refine k_iconst C (pc2 := 14) (dkAt dkX8_findTwo 9 (q := (13, .iconst 1, 1)) rfl) rfl (v := 1) rfl ?_
      refine k_iadd C (pc2 := 15) (dkAt dkX8_findTwo 10 (q := (14, .iadd, 1)) rfl) rfl ?_
      refine kb_istore_n C (pc2 := 16) (dkAt dkX8_findTwo 11 (q := (15, .istore_n 3, 1)) rfl) rfl rfl (by decide) (lv2 := fun v1 => [(3, .int v1), (0, rA G o0), (1, .int x1), (2, .int x2)]) (fun _ => rfl) h (fun v1 h => ?_)
      refine k_lv [1, 2, 3, 0] (lv2 := [(0, rA G o0), (1, .int x1), (2, .int x2), (3, .int v1)]) rfl ?_
      obtain ⟨v14, M15, e13, h⟩ := ob2_inv h
      refine kl_X8_findTwo_L16 C o0 h0 x2 v14 M15 ?_ 1000 x1 v1 M e13
      refine kb_iinc C (pc2 := 68) (dkAt dkX8_findTwo 38 (q := (65, .iinc 2 1, 3)) rfl) rfl (j := 2) rfl (v := x2 + 1) rfl (by decide) (lv2 := fun v16 => [(2, .int v16), (0, rA G o0), (1, .int v14)]) (fun _ => rfl) h (fun v16 h => ?_)
      refine k_goto C (tgt := 4) (dkAt dkX8_findTwo 39 (q := (68, .goto (-64), 3)) rfl) (by decide) ?_
      refine k_lv [1, 2, 0] (lv2 := [(0, rA G o0), (1, .int v14), (2, .int v16)]) rfl ?_
      exact ih v14 v16 M15 h
set_option maxRecDepth 100000 in
set_option maxHeartbeats 4000000 in
theorem ct_X8_findTwo (l : Launch) (G : GG) (sh : Sh) (xs : List va_E) (o0 : Nat) (h0 : isM sh o0) (M : Mm) (r : Mm × Int32) (h : f_X8_findTwo o0 M = some r) : Ct l yX8_findTwo cX8_findTwo 5 (some .int) rm_X8_findTwo G [rA G o0] sh M xs (some (.int r.2)) sh r.1 xs 0 0 := by
  refine ct_of (by decide) (Nat.le_of_ble_eq_true rfl) ?_
  intro p e s m args below meth c hnm C
  refine k_lv [0] (lv2 := [(0, rA G o0)]) rfl ?_
  unfold f_X8_findTwo at h
  refine k_iconst C (pc2 := 1) (dkAt dkX8_findTwo 0 (q := (0, .iconst (-1), 1)) rfl) rfl (v := (-1)) rfl ?_
  refine k_istore_n C (pc2 := 2) (dkAt dkX8_findTwo 1 (q := (1, .istore_n 1, 1)) rfl) rfl rfl (by decide) (lv2 := [(1, .int (-1)), (0, rA G o0)]) rfl ?_
  refine k_iconst C (pc2 := 3) (dkAt dkX8_findTwo 2 (q := (2, .iconst 0, 1)) rfl) rfl (v := 0) rfl ?_
  refine k_istore_n C (pc2 := 4) (dkAt dkX8_findTwo 3 (q := (3, .istore_n 2, 1)) rfl) rfl rfl (by decide) (lv2 := [(2, .int 0), (1, .int (-1)), (0, rA G o0)]) rfl ?_
  refine k_lv [2, 1, 0] (lv2 := [(0, rA G o0), (1, .int (-1)), (2, .int 0)]) rfl ?_
  obtain ⟨v19, M20, e18, h⟩ := ob2_inv h
  refine kl_X8_findTwo_L4 C o0 h0 v19 M20 ?_ 1000 (-1) 0 M e18
  refine k_iload_n C (pc2 := 72) (dkAt dkX8_findTwo 40 (q := (71, .iload_n 1, 1)) rfl) rfl rfl 0 rfl ?_
  exact k_iret C (dkAt dkX8_findTwo 41 (q := (72, .ireturn, 1)) rfl) (pe2 (Option.some.inj h)) rfl (pe1 (Option.some.inj h)) rfl
set_option maxRecDepth 100000 in
set_option maxHeartbeats 4000000 in
theorem ct_X8_two (l : Launch) (G : GG) (sh : Sh) (xs : List va_E) (o0 : Nat) (h0 : isM sh o0) (x1 : Int32) (M : Mm) (r : Mm × Int32) (h : f_X8_two o0 x1 M = some r) : Ct l yX8_two cX8_two 3 (some .int) rm_X8_two G [rA G o0, .int x1] sh M xs (some (.int r.2)) sh r.1 xs 0 0 := by
  refine ct_of (by decide) (Nat.le_of_ble_eq_true rfl) ?_
  intro p e s m args below meth c hnm C
  refine k_lv [0, 1] (lv2 := [(0, rA G o0), (1, .int x1)]) rfl ?_
  unfold f_X8_two at h
  refine k_iload_n C (pc2 := 1) (dkAt dkX8_two 0 (q := (0, .iload_n 1, 1)) rfl) rfl rfl 1 rfl ?_
  refine k_i2l C (pc2 := 2) (dkAt dkX8_two 1 (q := (1, .i2l, 1)) rfl) rfl ?_
  refine k_ldc2 C (pc2 := 5) (dkAt dkX8_two 2 (q := (2, .ldc2_w 288, 3)) rfl) rfl (v := (-1)) tL_X8_288 ?_
  refine k_lconst C (pc2 := 6) (dkAt dkX8_two 3 (q := (5, .lconst 1, 1)) rfl) rfl (v := 1) rfl ?_
  obtain ⟨q1, e2, h⟩ := ob_inv h
  refine kc_S C (As := [.long x1.toInt64, .long (-1), .long 1]) (st2 := [.int q1]) (ct_X8_in l G sh xs x1.toInt64 (-1) 1 M q1 e2) (cl_X8_85 (hts_of C) ⟨Nat.le_of_ble_eq_true rfl, Nat.le_of_ble_eq_true rfl⟩ rfl rfl) rfl rfl (Nat.le_of_ble_eq_true rfl) (dkAt dkX8_two 4 (q := (6, .invokestatic 85, 3)) rfl) ⟨Nat.zero_le _, Nat.zero_le _⟩ (pc2 := 9) rfl rfl ?_
  refine k_if_ne C (tgt := 19) (pc2 := 12) (dkAt dkX8_two 5 (q := (9, .ifCond .ne 10, 3)) rfl) (by decide) rfl h (fun h => ?_) (fun h => ?_)
  · refine k_aload_n C (pc2 := 20) (dkAt dkX8_two 10 (q := (19, .aload_n 0, 1)) rfl) rfl rfl 0 rfl ?_
    refine kf_X8_37 C (pc2 := 23) (o := o0) (o2 := 0) h0.1 (dkAt dkX8_two 11 (q := (20, .getfield 37, 3)) rfl) rfl ?_
    refine k_iconst C (pc2 := 24) (dkAt dkX8_two 12 (q := (23, .iconst 2, 1)) rfl) rfl (v := 2) rfl ?_
    refine k_icmp_ge C (tgt := 34) (pc2 := 27) (dkAt dkX8_two 13 (q := (24, .if_icmp .ge 10, 3)) rfl) (by decide) rfl h (fun h => ?_) (fun h => ?_)
    · refine k_aload_n C (pc2 := 35) (dkAt dkX8_two 18 (q := (34, .aload_n 0, 1)) rfl) rfl rfl 0 rfl ?_
      obtain ⟨q3, e4, h⟩ := ob_inv h
      refine kc_V C (As := []) (st2 := [.int q3.2]) (ct_X8_findTwo l G sh xs o0 h0 M q3 e4) (cl_X8_316 (hts_of C) ⟨Nat.le_of_ble_eq_true rfl, Nat.le_of_ble_eq_true rfl⟩ rfl rfl) h0.1 rfl rfl rfl rfl rfl (Nat.le_of_ble_eq_true rfl) (dkAt dkX8_two 19 (q := (35, .invokevirtual 316, 3)) rfl) ⟨Nat.zero_le _, Nat.zero_le _⟩ (pc2 := 38) rfl rfl ?_
      refine kb_istore_n C (pc2 := 39) (dkAt dkX8_two 20 (q := (38, .istore_n 2, 1)) rfl) rfl rfl (by decide) (lv2 := fun v5 => [(2, .int v5), (0, rA G o0), (1, .int x1)]) (fun _ => rfl) h (fun v5 h => ?_)
      refine k_iload_n C (pc2 := 40) (dkAt dkX8_two 21 (q := (39, .iload_n 1, 1)) rfl) rfl rfl 2 rfl ?_
      refine k_iconst C (pc2 := 41) (dkAt dkX8_two 22 (q := (40, .iconst (-1), 1)) rfl) rfl (v := (-1)) rfl ?_
      refine k_icmp_ne C (tgt := 48) (pc2 := 44) (dkAt dkX8_two 23 (q := (41, .if_icmp .ne 7, 3)) rfl) (by decide) rfl h (fun h => ?_) (fun h => ?_)
      · refine k_iload_n C (pc2 := 49) (dkAt dkX8_two 26 (q := (48, .iload_n 1, 1)) rfl) rfl rfl 2 rfl ?_
        refine k_if_ne C (tgt := 59) (pc2 := 52) (dkAt dkX8_two 27 (q := (49, .ifCond .ne 10, 3)) rfl) (by decide) rfl h (fun h => ?_) (fun h => ?_)
        · refine k_aload_n C (pc2 := 60) (dkAt dkX8_two 31 (q := (59, .aload_n 0, 1)) rfl) rfl rfl 1 rfl ?_
          refine kf_X8_313 C (pc2 := 63) (o := o0) (o2 := 0) h0.1 (dkAt dkX8_two 32 (q := (60, .getfield 313, 3)) rfl) rfl ?_
          exact k_iret C (dkAt dkX8_two 33 (q := (63, .ireturn, 1)) rfl) (pe2 (Option.some.inj h)) rfl (pe1 (Option.some.inj h)) rfl
        · refine k_aload_n C (pc2 := 53) (dkAt dkX8_two 28 (q := (52, .aload_n 0, 1)) rfl) rfl rfl 1 rfl ?_
          refine kf_X8_310 C (pc2 := 56) (o := o0) (o2 := 0) h0.1 (dkAt dkX8_two 29 (q := (53, .getfield 310, 3)) rfl) rfl ?_
          refine k_goto C (tgt := 63) (dkAt dkX8_two 30 (q := (56, .goto 7, 3)) rfl) (by decide) ?_
          exact k_iret C (dkAt dkX8_two 33 (q := (63, .ireturn, 1)) rfl) (pe2 (Option.some.inj h)) rfl (pe1 (Option.some.inj h)) rfl
      · refine k_iload_n C (pc2 := 45) (dkAt dkX8_two 24 (q := (44, .iload_n 2, 1)) rfl) rfl rfl 0 rfl ?_
        refine k_goto C (tgt := 63) (dkAt dkX8_two 25 (q := (45, .goto 18, 3)) rfl) (by decide) ?_
        exact k_iret C (dkAt dkX8_two 33 (q := (63, .ireturn, 1)) rfl) (pe2 (Option.some.inj h)) rfl (pe1 (Option.some.inj h)) rfl
    · refine k_aload_n C (pc2 := 28) (dkAt dkX8_two 14 (q := (27, .aload_n 0, 1)) rfl) rfl rfl 0 rfl ?_
      refine k_bipush C (pc2 := 30) (dkAt dkX8_two 15 (q := (28, .bipush (-5), 2)) rfl) rfl (v := (-5)) rfl ?_
      obtain ⟨q6, e7, h⟩ := ob_inv h
      refine kc_V C (As := [.int (-5)]) (st2 := [.int q6.2]) (ct_X8_refuse l G sh xs o0 h0 (-5) M q6 e7) (cl_X8_97 (hts_of C) ⟨Nat.le_of_ble_eq_true rfl, Nat.le_of_ble_eq_true rfl⟩ rfl rfl) h0.1 rfl rfl rfl rfl rfl (Nat.le_of_ble_eq_true rfl) (dkAt dkX8_two 16 (q := (30, .invokevirtual 97, 3)) rfl) ⟨Nat.zero_le _, Nat.zero_le _⟩ (pc2 := 33) rfl rfl ?_
      exact k_iret C (dkAt dkX8_two 17 (q := (33, .ireturn, 1)) rfl) (pe2 (Option.some.inj h)) rfl (pe1 (Option.some.inj h)) rfl
  · refine k_aload_n C (pc2 := 13) (dkAt dkX8_two 6 (q := (12, .aload_n 0, 1)) rfl) rfl rfl 0 rfl ?_
    refine k_bipush C (pc2 := 15) (dkAt dkX8_two 7 (q := (13, .bipush (-2), 2)) rfl) rfl (v := (-2)) rfl ?_
    obtain ⟨q8, e9, h⟩ := ob_inv h
    refine kc_V C (As := [.int (-2)]) (st2 := [.int q8.2]) (ct_X8_refuse l G sh xs o0 h0 (-2) M q8 e9) (cl_X8_97 (hts_of C) ⟨Nat.le_of_ble_eq_true rfl, Nat.le_of_ble_eq_true rfl⟩ rfl rfl) h0.1 rfl rfl rfl rfl rfl (Nat.le_of_ble_eq_true rfl) (dkAt dkX8_two 8 (q := (15, .invokevirtual 97, 3)) rfl) ⟨Nat.zero_le _, Nat.zero_le _⟩ (pc2 := 18) rfl rfl ?_
    exact k_iret C (dkAt dkX8_two 9 (q := (18, .ireturn, 1)) rfl) (pe2 (Option.some.inj h)) rfl (pe1 (Option.some.inj h)) rfl
set_option maxRecDepth 100000 in
set_option maxHeartbeats 4000000 in
theorem kl_X8_fixed_L18 {p : Program} {l : Launch} {e : Env} {s : State} {m : MethodId} {args : Array Value} {below : List Frame} {meth : Method} {c : Code} {G : GG} {sh : Sh} {xs : List va_E} {Q : State → Prop} (C : Cx p s m c args meth G RX8 cX8_fixed 6 (some .int)) (o0 : Nat) (h0 : isM sh o0) (x1 : Int32) (x2 : Int32) (x3 : Int32) (M : Mm) (y4 : Int32) (hcont : KW p l e rm_X8_fixed s m args below meth c G 6 Q sh xs 0 0 M 47 [(0, rA G o0), (1, .int x1), (2, .int x2), (3, .int x3), (4, .int y4)] []) : ∀ (n : Nat) (x4 : Int32) (x5 : Int32), f_X8_fixed_L18 o0 x1 x2 x3 M n x4 x5 = some y4 → KW p l e rm_X8_fixed s m args below meth c G 6 Q sh xs 0 0 M 18 [(0, rA G o0), (1, .int x1), (2, .int x2), (3, .int x3), (4, .int x4), (5, .int x5)] [] := by
  intro n
  induction n with
  | zero =>
    intro x4 x5 h
    cases h
  | succ n ih =>
    intro x4 x5 h
    unfold f_X8_fixed_L18 at h
    refine k_iload C (pc2 := 20) (dkAt dkX8_fixed 13 (q := (18, .iload 5, 2)) rfl) rfl 5 rfl ?_
    refine k_aload_n C (pc2 := 21) (dkAt dkX8_fixed 14 (q := (20, .aload_n 0, 1)) rfl) rfl rfl 0 rfl ?_
    refine kf_X8_37 C (pc2 := 24) (o := o0) (o2 := 0) h0.1 (dkAt dkX8_fixed 15 (q := (21, .getfield 37, 3)) rfl) rfl ?_
    refine k_icmp_ge C (tgt := 47) (pc2 := 27) (dkAt dkX8_fixed 16 (q := (24, .if_icmp .ge 23, 3)) rfl) (by decide) rfl h (fun h => ?_) (fun h => ?_)
    · refine k_lv [0, 1, 2, 3, 4] (lv2 := [(0, rA G o0), (1, .int x1), (2, .int x2), (3, .int x3), (4, .int x4)]) rfl ?_
      cases h
      exact hcont
    · refine k_iload C (pc2 := 29) (dkAt dkX8_fixed 17 (q := (27, .iload 4, 2)) rfl) rfl 4 rfl ?_
      refine k_aload_n C (pc2 := 30) (dkAt dkX8_fixed 18 (q := (29, .aload_n 0, 1)) rfl) rfl rfl 0 rfl ?_
      refine k_iload C (pc2 := 32) (dkAt dkX8_fixed 19 (q := (30, .iload 5, 2)) rfl) rfl 5 rfl ?_
      obtain ⟨q1, e2, h⟩ := ob_inv h
      refine kc_V C (As := [.int x5]) (st2 := [.int q1, .int x4]) (ct_X8_thereOn l G sh xs o0 h0 x5 M q1 e2) (cl_X8_263 (hts_of C) ⟨Nat.le_of_ble_eq_true rfl, Nat.le_of_ble_eq_true rfl⟩ rfl rfl) h0.1 rfl rfl rfl rfl rfl (Nat.le_of_ble_eq_true rfl) (dkAt dkX8_fixed 20 (q := (32, .invokevirtual 263, 3)) rfl) ⟨Nat.zero_le _, Nat.zero_le _⟩ (pc2 := 35) rfl rfl ?_
      obtain ⟨q3, e4, h⟩ := ob_inv h
      refine kc_S C (As := [.int q1]) (st2 := [.int q3, .int x4]) (ct_X8_bits l G sh xs q1 M q3 e4) (cl_X8_118 (hts_of C) ⟨Nat.le_of_ble_eq_true rfl, Nat.le_of_ble_eq_true rfl⟩ rfl rfl) rfl rfl (Nat.le_of_ble_eq_true rfl) (dkAt dkX8_fixed 21 (q := (35, .invokestatic 118, 3)) rfl) ⟨Nat.zero_le _, Nat.zero_le _⟩ (pc2 := 38) rfl rfl ?_
      refine k_iadd C (pc2 := 39) (dkAt dkX8_fixed 22 (q := (38, .iadd, 1)) rfl) rfl ?_
      refine kb_istore C (pc2 := 41) (dkAt dkX8_fixed 23 (q := (39, .istore 4, 2)) rfl) rfl (by decide) (lv2 := fun v5 => [(4, .int v5), (0, rA G o0), (1, .int x1), (2, .int x2), (3, .int x3), (5, .int x5)]) (fun _ => rfl) h (fun v5 h => ?_)
      refine kb_iinc C (pc2 := 44) (dkAt dkX8_fixed 24 (q := (41, .iinc 5 7, 3)) rfl) rfl (j := 5) rfl (v := x5 + 7) rfl (by decide) (lv2 := fun v6 => [(5, .int v6), (4, .int v5), (0, rA G o0), (1, .int x1), (2, .int x2), (3, .int x3)]) (fun _ => rfl) h (fun v6 h => ?_)
      refine k_goto C (tgt := 18) (dkAt dkX8_fixed 25 (q := (44, .goto (-26), 3)) rfl) (by decide) ?_
      refine k_lv [2, 3, 4, 5, 1, 0] (lv2 := [(0, rA G o0), (1, .int x1), (2, .int x2), (3, .int x3), (4, .int v5), (5, .int v6)]) rfl ?_
      exact ih v5 v6 h
set_option maxRecDepth 100000 in
set_option maxHeartbeats 4000000 in
theorem kl_X8_fixed_L6 {p : Program} {l : Launch} {e : Env} {s : State} {m : MethodId} {args : Array Value} {below : List Frame} {meth : Method} {c : Code} {G : GG} {sh : Sh} {xs : List va_E} {Q : State → Prop} (C : Cx p s m c args meth G RX8 cX8_fixed 6 (some .int)) (o0 : Nat) (h0 : isM sh o0) (M : Mm) (y1 : Int32) (hcont : KW p l e rm_X8_fixed s m args below meth c G 6 Q sh xs 0 0 M 78 [(1, .int y1)] []) : ∀ (n : Nat) (x1 : Int32) (x2 : Int32) (x3 : Int32), f_X8_fixed_L6 o0 M n x1 x2 x3 = some y1 → KW p l e rm_X8_fixed s m args below meth c G 6 Q sh xs 0 0 M 6 [(0, rA G o0), (1, .int x1), (2, .int x2), (3, .int x3)] [] := by
  intro n
  induction n with
  | zero =>
    intro x1 x2 x3 h
    cases h
  | succ n ih =>
    intro x1 x2 x3 h
    unfold f_X8_fixed_L6 at h
    refine k_iload_n C (pc2 := 7) (dkAt dkX8_fixed 6 (q := (6, .iload_n 3, 1)) rfl) rfl rfl 3 rfl ?_
    refine k_bipush C (pc2 := 9) (dkAt dkX8_fixed 7 (q := (7, .bipush 7, 2)) rfl) rfl (v := 7) rfl ?_
    refine k_icmp_ge C (tgt := 78) (pc2 := 12) (dkAt dkX8_fixed 8 (q := (9, .if_icmp .ge 69, 3)) rfl) (by decide) rfl h (fun h => ?_) (fun h => ?_)
    · refine k_lv [1] (lv2 := [(1, .int x1)]) rfl ?_
      cases h
      exact hcont
    · refine k_iconst C (pc2 := 13) (dkAt dkX8_fixed 9 (q := (12, .iconst 0, 1)) rfl) rfl (v := 0) rfl ?_
      refine k_istore C (pc2 := 15) (dkAt dkX8_fixed 10 (q := (13, .istore 4, 2)) rfl) rfl (by decide) (lv2 := [(4, .int 0), (0, rA G o0), (1, .int x1), (2, .int x2), (3, .int x3)]) rfl ?_
      refine k_iload_n C (pc2 := 16) (dkAt dkX8_fixed 11 (q := (15, .iload_n 3, 1)) rfl) rfl rfl 4 rfl ?_
      refine k_istore C (pc2 := 18) (dkAt dkX8_fixed 12 (q := (16, .istore 5, 2)) rfl) rfl (by decide) (lv2 := [(5, .int x3), (4, .int 0), (0, rA G o0), (1, .int x1), (2, .int x2), (3, .int x3)]) rfl ?_
      refine k_lv [2, 3, 4, 5, 1, 0] (lv2 := [(0, rA G o0), (1, .int x1), (2, .int x2), (3, .int x3), (4, .int 0), (5, .int x3)]) rfl ?_
      obtain ⟨v9, e8, h⟩ := ob_inv h
      refine kl_X8_fixed_L18 C o0 h0 x1 x2 x3 M v9 ?_ 1000 0 x3 e8
      refine k_iload C (pc2 := 49) (dkAt dkX8_fixed 26 (q := (47, .iload 4, 2)) rfl) rfl 4 rfl ?_
      refine k_iload_n C (pc2 := 50) (dkAt dkX8_fixed 27 (q := (49, .iload_n 2, 1)) rfl) rfl rfl 2 rfl ?_
      refine k_icmp_le C (tgt := 57) (pc2 := 53) (dkAt dkX8_fixed 28 (q := (50, .if_icmp .le 7, 3)) rfl) (by decide) rfl h (fun h => ?_) (fun h => ?_)
      · refine k_iload_n C (pc2 := 58) (dkAt dkX8_fixed 31 (q := (57, .iload_n 1, 1)) rfl) rfl rfl 1 rfl ?_
        refine k_istore_n C (pc2 := 59) (dkAt dkX8_fixed 32 (q := (58, .istore_n 1, 1)) rfl) rfl rfl (by decide) (lv2 := [(1, .int x1), (0, rA G o0), (2, .int x2), (3, .int x3), (4, .int v9)]) rfl ?_
        refine k_iload C (pc2 := 61) (dkAt dkX8_fixed 33 (q := (59, .iload 4, 2)) rfl) rfl 4 rfl ?_
        refine k_iload_n C (pc2 := 62) (dkAt dkX8_fixed 34 (q := (61, .iload_n 2, 1)) rfl) rfl rfl 2 rfl ?_
        refine k_icmp_le C (tgt := 70) (pc2 := 65) (dkAt dkX8_fixed 35 (q := (62, .if_icmp .le 8, 3)) rfl) (by decide) rfl h (fun h => ?_) (fun h => ?_)
        · refine k_iload_n C (pc2 := 71) (dkAt dkX8_fixed 38 (q := (70, .iload_n 2, 1)) rfl) rfl rfl 2 rfl ?_
          refine k_istore_n C (pc2 := 72) (dkAt dkX8_fixed 39 (q := (71, .istore_n 2, 1)) rfl) rfl rfl (by decide) (lv2 := [(2, .int x2), (1, .int x1), (0, rA G o0), (3, .int x3), (4, .int v9)]) rfl ?_
          refine kb_iinc C (pc2 := 75) (dkAt dkX8_fixed 40 (q := (72, .iinc 3 1, 3)) rfl) rfl (j := 3) rfl (v := x3 + 1) rfl (by decide) (lv2 := fun v10 => [(3, .int v10), (2, .int x2), (1, .int x1), (0, rA G o0), (4, .int v9)]) (fun _ => rfl) h (fun v10 h => ?_)
          refine k_goto C (tgt := 6) (dkAt dkX8_fixed 41 (q := (75, .goto (-69), 3)) rfl) (by decide) ?_
          refine k_lv [3, 2, 1, 0] (lv2 := [(0, rA G o0), (1, .int x1), (2, .int x2), (3, .int v10)]) rfl ?_
          exact ih x1 x2 v10 h
        · refine k_iload C (pc2 := 67) (dkAt dkX8_fixed 36 (q := (65, .iload 4, 2)) rfl) rfl 4 rfl ?_
          refine k_goto C (tgt := 71) (dkAt dkX8_fixed 37 (q := (67, .goto 4, 3)) rfl) (by decide) ?_
          refine k_istore_n C (pc2 := 72) (dkAt dkX8_fixed 39 (q := (71, .istore_n 2, 1)) rfl) rfl rfl (by decide) (lv2 := [(2, .int v9), (1, .int x1), (0, rA G o0), (3, .int x3), (4, .int v9)]) rfl ?_
          refine kb_iinc C (pc2 := 75) (dkAt dkX8_fixed 40 (q := (72, .iinc 3 1, 3)) rfl) rfl (j := 3) rfl (v := x3 + 1) rfl (by decide) (lv2 := fun v11 => [(3, .int v11), (2, .int v9), (1, .int x1), (0, rA G o0), (4, .int v9)]) (fun _ => rfl) h (fun v11 h => ?_)
          refine k_goto C (tgt := 6) (dkAt dkX8_fixed 41 (q := (75, .goto (-69), 3)) rfl) (by decide) ?_
          refine k_lv [3, 2, 1, 0] (lv2 := [(0, rA G o0), (1, .int x1), (2, .int v9), (3, .int v11)]) rfl ?_
          exact ih x1 v9 v11 h
      · refine k_iload_n C (pc2 := 54) (dkAt dkX8_fixed 29 (q := (53, .iload_n 3, 1)) rfl) rfl rfl 3 rfl ?_
        refine k_goto C (tgt := 58) (dkAt dkX8_fixed 30 (q := (54, .goto 4, 3)) rfl) (by decide) ?_
        refine k_istore_n C (pc2 := 59) (dkAt dkX8_fixed 32 (q := (58, .istore_n 1, 1)) rfl) rfl rfl (by decide) (lv2 := [(1, .int x3), (0, rA G o0), (2, .int x2), (3, .int x3), (4, .int v9)]) rfl ?_
        refine k_iload C (pc2 := 61) (dkAt dkX8_fixed 33 (q := (59, .iload 4, 2)) rfl) rfl 4 rfl ?_
        refine k_iload_n C (pc2 := 62) (dkAt dkX8_fixed 34 (q := (61, .iload_n 2, 1)) rfl) rfl rfl 2 rfl ?_
        refine k_icmp_le C (tgt := 70) (pc2 := 65) (dkAt dkX8_fixed 35 (q := (62, .if_icmp .le 8, 3)) rfl) (by decide) rfl h (fun h => ?_) (fun h => ?_)
        · refine k_iload_n C (pc2 := 71) (dkAt dkX8_fixed 38 (q := (70, .iload_n 2, 1)) rfl) rfl rfl 2 rfl ?_
          refine k_istore_n C (pc2 := 72) (dkAt dkX8_fixed 39 (q := (71, .istore_n 2, 1)) rfl) rfl rfl (by decide) (lv2 := [(2, .int x2), (1, .int x3), (0, rA G o0), (3, .int x3), (4, .int v9)]) rfl ?_
          refine kb_iinc C (pc2 := 75) (dkAt dkX8_fixed 40 (q := (72, .iinc 3 1, 3)) rfl) rfl (j := 3) rfl (v := x3 + 1) rfl (by decide) (lv2 := fun v12 => [(3, .int v12), (2, .int x2), (1, .int x3), (0, rA G o0), (4, .int v9)]) (fun _ => rfl) h (fun v12 h => ?_)
          refine k_goto C (tgt := 6) (dkAt dkX8_fixed 41 (q := (75, .goto (-69), 3)) rfl) (by decide) ?_
          refine k_lv [3, 2, 1, 0] (lv2 := [(0, rA G o0), (1, .int x3), (2, .int x2), (3, .int v12)]) rfl ?_
          exact ih x3 x2 v12 h
        · refine k_iload C (pc2 := 67) (dkAt dkX8_fixed 36 (q := (65, .iload 4, 2)) rfl) rfl 4 rfl ?_
          refine k_goto C (tgt := 71) (dkAt dkX8_fixed 37 (q := (67, .goto 4, 3)) rfl) (by decide) ?_
          refine k_istore_n C (pc2 := 72) (dkAt dkX8_fixed 39 (q := (71, .istore_n 2, 1)) rfl) rfl rfl (by decide) (lv2 := [(2, .int v9), (1, .int x3), (0, rA G o0), (3, .int x3), (4, .int v9)]) rfl ?_
          refine kb_iinc C (pc2 := 75) (dkAt dkX8_fixed 40 (q := (72, .iinc 3 1, 3)) rfl) rfl (j := 3) rfl (v := x3 + 1) rfl (by decide) (lv2 := fun v13 => [(3, .int v13), (2, .int v9), (1, .int x3), (0, rA G o0), (4, .int v9)]) (fun _ => rfl) h (fun v13 h => ?_)
          refine k_goto C (tgt := 6) (dkAt dkX8_fixed 41 (q := (75, .goto (-69), 3)) rfl) (by decide) ?_
          refine k_lv [3, 2, 1, 0] (lv2 := [(0, rA G o0), (1, .int x3), (2, .int v9), (3, .int v13)]) rfl ?_
          exact ih x3 v9 v13 h
set_option maxRecDepth 100000 in
set_option maxHeartbeats 4000000 in
theorem ct_X8_fixed (l : Launch) (G : GG) (sh : Sh) (xs : List va_E) (o0 : Nat) (h0 : isM sh o0) (M : Mm) (r : Int32) (h : f_X8_fixed o0 M = some r) : Ct l yX8_fixed cX8_fixed 6 (some .int) rm_X8_fixed G [rA G o0] sh M xs (some (.int r)) sh M xs 0 0 := by
  refine ct_of (by decide) (Nat.le_of_ble_eq_true rfl) ?_
  intro p e s m args below meth c hnm C
  refine k_lv [0] (lv2 := [(0, rA G o0)]) rfl ?_
  unfold f_X8_fixed at h
  refine k_iconst C (pc2 := 1) (dkAt dkX8_fixed 0 (q := (0, .iconst 0, 1)) rfl) rfl (v := 0) rfl ?_
  refine k_istore_n C (pc2 := 2) (dkAt dkX8_fixed 1 (q := (1, .istore_n 1, 1)) rfl) rfl rfl (by decide) (lv2 := [(1, .int 0), (0, rA G o0)]) rfl ?_
  refine k_iconst C (pc2 := 3) (dkAt dkX8_fixed 2 (q := (2, .iconst (-1), 1)) rfl) rfl (v := (-1)) rfl ?_
  refine k_istore_n C (pc2 := 4) (dkAt dkX8_fixed 3 (q := (3, .istore_n 2, 1)) rfl) rfl rfl (by decide) (lv2 := [(2, .int (-1)), (1, .int 0), (0, rA G o0)]) rfl ?_
  refine k_iconst C (pc2 := 5) (dkAt dkX8_fixed 4 (q := (4, .iconst 0, 1)) rfl) rfl (v := 0) rfl ?_
  refine k_istore_n C (pc2 := 6) (dkAt dkX8_fixed 5 (q := (5, .istore_n 3, 1)) rfl) rfl rfl (by decide) (lv2 := [(3, .int 0), (2, .int (-1)), (1, .int 0), (0, rA G o0)]) rfl ?_
  refine k_lv [3, 2, 1, 0] (lv2 := [(0, rA G o0), (1, .int 0), (2, .int (-1)), (3, .int 0)]) rfl ?_
  obtain ⟨v16, e15, h⟩ := ob_inv h
  refine kl_X8_fixed_L6 C o0 h0 M v16 ?_ 1000 0 (-1) 0 e15
  refine k_iload_n C (pc2 := 79) (dkAt dkX8_fixed 42 (q := (78, .iload_n 1, 1)) rfl) rfl rfl 0 rfl ?_
  exact k_iret C (dkAt dkX8_fixed 43 (q := (79, .ireturn, 1)) rfl) (Option.some.inj h) rfl rfl rfl
theorem ct_X8_seekFair0 (l : Launch) (G : GG) (sh : Sh) (xs : List va_E) (o0 : Nat) (h0 : isM sh o0) (x1 : Int32) (x2 : Int32) (x3 : Int32) (M : Mm) (r : Mm) (h : f_X8_seekFair0 o0 x1 x2 x3 M = some r) : Ct l yX8_seekFair cX8_seekFair 9 none rm_X8_seekFair0 G [rA G o0, .int x1, .int x2, .int x3] sh M xs none sh r xs 0 0 := by cases h
set_option maxRecDepth 100000 in
set_option maxHeartbeats 4000000 in
theorem kl_X8_seekFair1_L171 {p : Program} {l : Launch} {e : Env} {s : State} {m : MethodId} {args : Array Value} {below : List Frame} {meth : Method} {c : Code} {G : GG} {sh : Sh} {xs : List va_E} {Q : State → Prop} (C : Cx p s m c args meth G RX8 cX8_seekFair 9 none) (o0 : Nat) (h0 : isM sh o0) (x1 : Int32) (x2 : Int32) (M2 : Mm) (hcont : KW p l e rm_X8_seekFair1 s m args below meth c G 9 Q sh xs 0 0 M2 206 [] []) : ∀ (n : Nat) (x4 : Int32) (M : Mm), f_X8_seekFair1_L171 o0 x1 x2 n x4 M = some M2 → KW p l e rm_X8_seekFair1 s m args below meth c G 9 Q sh xs 0 0 M 171 [(0, rA G o0), (1, .int x1), (2, .int x2), (4, .int x4)] [] := by
  intro n
  induction n with
  | zero =>
    intro x4 M h
    cases h
  | succ n ih =>
    intro x4 M h
    unfold f_X8_seekFair1_L171 at h
    refine k_iload C (pc2 := 173) (dkAt dkX8_seekFair 85 (q := (171, .iload 4, 2)) rfl) rfl 3 rfl ?_
    refine k_aload_n C (pc2 := 174) (dkAt dkX8_seekFair 86 (q := (173, .aload_n 0, 1)) rfl) rfl rfl 0 rfl ?_
    refine kf_X8_37 C (pc2 := 177) (o := o0) (o2 := 0) h0.1 (dkAt dkX8_seekFair 87 (q := (174, .getfield 37, 3)) rfl) rfl ?_
    refine k_icmp_ge C (tgt := 206) (pc2 := 180) (dkAt dkX8_seekFair 88 (q := (177, .if_icmp .ge 29, 3)) rfl) (by decide) rfl h (fun h => ?_) (fun h => ?_)
    · refine k_lv [] (lv2 := []) rfl ?_
      cases h
      exact hcont
    · refine k_aload_n C (pc2 := 181) (dkAt dkX8_seekFair 89 (q := (180, .aload_n 0, 1)) rfl) rfl rfl 0 rfl ?_
      refine kf_X8_76 C (pc2 := 184) (o := o0) (o2 := o0 + 35) h0.1 rfl (dkAt dkX8_seekFair 90 (q := (181, .getfield 76, 3)) rfl) rfl ?_
      refine k_iload_n C (pc2 := 185) (dkAt dkX8_seekFair 91 (q := (184, .iload_n 1, 1)) rfl) rfl rfl 1 rfl ?_
      refine k_iload C (pc2 := 187) (dkAt dkX8_seekFair 92 (q := (185, .iload 4, 2)) rfl) rfl 3 rfl ?_
      refine k_iast C (pc2 := 188) (o := o0 + 35) (nA := 3) (isM_now h0) (dkAt dkX8_seekFair 93 (q := (187, .iastore, 1)) rfl) rfl h (fun M1 h => ?_)
      refine k_aload_n C (pc2 := 189) (dkAt dkX8_seekFair 94 (q := (188, .aload_n 0, 1)) rfl) rfl rfl 0 rfl ?_
      refine k_iload_n C (pc2 := 190) (dkAt dkX8_seekFair 95 (q := (189, .iload_n 1, 1)) rfl) rfl rfl 1 rfl ?_
      refine k_iconst C (pc2 := 191) (dkAt dkX8_seekFair 96 (q := (190, .iconst 1, 1)) rfl) rfl (v := 1) rfl ?_
      refine k_iadd C (pc2 := 192) (dkAt dkX8_seekFair 97 (q := (191, .iadd, 1)) rfl) rfl ?_
      refine k_iload_n C (pc2 := 193) (dkAt dkX8_seekFair 98 (q := (192, .iload_n 2, 1)) rfl) rfl rfl 2 rfl ?_
      refine k_iload C (pc2 := 195) (dkAt dkX8_seekFair 99 (q := (193, .iload 4, 2)) rfl) rfl 3 rfl ?_
      refine k_iconst C (pc2 := 196) (dkAt dkX8_seekFair 100 (q := (195, .iconst 1, 1)) rfl) rfl (v := 1) rfl ?_
      refine k_iadd C (pc2 := 197) (dkAt dkX8_seekFair 101 (q := (196, .iadd, 1)) rfl) rfl ?_
      obtain ⟨q2, e3, h⟩ := ob_inv h
      refine kc_V C (As := [.int (x1 + 1), .int x2, .int (x4 + 1)]) (st2 := []) (ct_X8_seekFair0 l G sh xs o0 h0 (x1 + 1) x2 (x4 + 1) M1 q2 e3) (cl_X8_329 (hts_of C) ⟨Nat.le_of_ble_eq_true rfl, Nat.le_of_ble_eq_true rfl⟩ rfl rfl) h0.1 rfl rfl rfl rfl rfl (Nat.le_of_ble_eq_true rfl) (dkAt dkX8_seekFair 102 (q := (197, .invokevirtual 329, 3)) rfl) ⟨Nat.zero_le _, Nat.zero_le _⟩ (pc2 := 200) rfl rfl ?_
      refine kb_iinc C (pc2 := 203) (dkAt dkX8_seekFair 103 (q := (200, .iinc 4 1, 3)) rfl) rfl (j := 3) rfl (v := x4 + 1) rfl (by decide) (lv2 := fun v4 => [(4, .int v4), (0, rA G o0), (1, .int x1), (2, .int x2)]) (fun _ => rfl) h (fun v4 h => ?_)
      refine k_goto C (tgt := 171) (dkAt dkX8_seekFair 104 (q := (203, .goto (-32), 3)) rfl) (by decide) ?_
      refine k_lv [1, 2, 3, 0] (lv2 := [(0, rA G o0), (1, .int x1), (2, .int x2), (4, .int v4)]) rfl ?_
      exact ih v4 q2 h
set_option maxRecDepth 100000 in
set_option maxHeartbeats 4000000 in
theorem kl_X8_seekFair1_L35 {p : Program} {l : Launch} {e : Env} {s : State} {m : MethodId} {args : Array Value} {below : List Frame} {meth : Method} {c : Code} {G : GG} {sh : Sh} {xs : List va_E} {Q : State → Prop} (C : Cx p s m c args meth G RX8 cX8_seekFair 9 none) (o0 : Nat) (h0 : isM sh o0) (x2 : Int32) (x4 : Int32) (x5 : Int32) (x6 : Int32) (M : Mm) (y7 : Int32) (hcont : KW p l e rm_X8_seekFair1 s m args below meth c G 9 Q sh xs 0 0 M 80 [(0, rA G o0), (2, .int x2), (4, .int x4), (5, .int x5), (6, .int x6), (7, .int y7)] []) : ∀ (n : Nat) (x7 : Int32) (x8 : Int32), f_X8_seekFair1_L35 o0 x2 x4 x5 x6 M n x7 x8 = some y7 → KW p l e rm_X8_seekFair1 s m args below meth c G 9 Q sh xs 0 0 M 35 [(0, rA G o0), (2, .int x2), (4, .int x4), (5, .int x5), (6, .int x6), (7, .int x7), (8, .int x8)] [] := by
  intro n
  induction n with
  | zero =>
    intro x7 x8 h
    cases h
  | succ n ih =>
    intro x7 x8 h
    unfold f_X8_seekFair1_L35 at h
    refine k_iload C (pc2 := 37) (dkAt dkX8_seekFair 20 (q := (35, .iload 8, 2)) rfl) rfl 6 rfl ?_
    refine k_iload_n C (pc2 := 38) (dkAt dkX8_seekFair 21 (q := (37, .iload_n 2, 1)) rfl) rfl rfl 1 rfl ?_
    refine k_icmp_ge C (tgt := 80) (pc2 := 41) (dkAt dkX8_seekFair 22 (q := (38, .if_icmp .ge 42, 3)) rfl) (by decide) rfl h (fun h => ?_) (fun h => ?_)
    · refine k_lv [0, 1, 2, 3, 4, 5] (lv2 := [(0, rA G o0), (2, .int x2), (4, .int x4), (5, .int x5), (6, .int x6), (7, .int x7)]) rfl ?_
      cases h
      exact hcont
    · refine k_iload C (pc2 := 43) (dkAt dkX8_seekFair 23 (q := (41, .iload 7, 2)) rfl) rfl 5 rfl ?_
      refine k_aload_n C (pc2 := 44) (dkAt dkX8_seekFair 24 (q := (43, .aload_n 0, 1)) rfl) rfl rfl 0 rfl ?_
      refine k_iload C (pc2 := 46) (dkAt dkX8_seekFair 25 (q := (44, .iload 6, 2)) rfl) rfl 4 rfl ?_
      refine k_aload_n C (pc2 := 47) (dkAt dkX8_seekFair 26 (q := (46, .aload_n 0, 1)) rfl) rfl rfl 0 rfl ?_
      refine kf_X8_76 C (pc2 := 50) (o := o0) (o2 := o0 + 35) h0.1 rfl (dkAt dkX8_seekFair 27 (q := (47, .getfield 76, 3)) rfl) rfl ?_
      refine k_iload C (pc2 := 52) (dkAt dkX8_seekFair 28 (q := (50, .iload 8, 2)) rfl) rfl 6 rfl ?_
      refine k_iald C (pc2 := 53) (o := o0 + 35) (nA := 3) (isM_now h0) (dkAt dkX8_seekFair 29 (q := (52, .iaload, 1)) rfl) rfl h (fun h => ?_)
      obtain ⟨q9, e10, h⟩ := ob_inv h
      refine kc_V C (As := [.int x6, .int (M.1 (o0 + 35) x8.toNatClampNeg)]) (st2 := [.int q9, .int x7]) (ct_X8_isFree l G sh xs o0 h0 x6 (M.1 (o0 + 35) x8.toNatClampNeg) M q9 e10) (cl_X8_139 (hts_of C) ⟨Nat.le_of_ble_eq_true rfl, Nat.le_of_ble_eq_true rfl⟩ rfl rfl) h0.1 rfl rfl rfl rfl rfl (Nat.le_of_ble_eq_true rfl) (dkAt dkX8_seekFair 30 (q := (53, .invokevirtual 139, 3)) rfl) ⟨Nat.zero_le _, Nat.zero_le _⟩ (pc2 := 56) rfl rfl ?_
      refine k_if_ne C (tgt := 66) (pc2 := 59) (dkAt dkX8_seekFair 31 (q := (56, .ifCond .ne 10, 3)) rfl) (by decide) rfl h (fun h => ?_) (fun h => ?_)
      · refine k_iconst C (pc2 := 67) (dkAt dkX8_seekFair 35 (q := (66, .iconst 0, 1)) rfl) rfl (v := 0) rfl ?_
        refine k_goto C (tgt := 71) (dkAt dkX8_seekFair 36 (q := (67, .goto 4, 3)) rfl) (by decide) ?_
        refine k_iadd C (pc2 := 72) (dkAt dkX8_seekFair 38 (q := (71, .iadd, 1)) rfl) rfl ?_
        refine kb_istore C (pc2 := 74) (dkAt dkX8_seekFair 39 (q := (72, .istore 7, 2)) rfl) rfl (by decide) (lv2 := fun v11 => [(7, .int v11), (0, rA G o0), (2, .int x2), (4, .int x4), (5, .int x5), (6, .int x6), (8, .int x8)]) (fun _ => rfl) h (fun v11 h => ?_)
        refine kb_iinc C (pc2 := 77) (dkAt dkX8_seekFair 40 (q := (74, .iinc 8 1, 3)) rfl) rfl (j := 6) rfl (v := x8 + 1) rfl (by decide) (lv2 := fun v12 => [(8, .int v12), (7, .int v11), (0, rA G o0), (2, .int x2), (4, .int x4), (5, .int x5), (6, .int x6)]) (fun _ => rfl) h (fun v12 h => ?_)
        refine k_goto C (tgt := 35) (dkAt dkX8_seekFair 41 (q := (77, .goto (-42), 3)) rfl) (by decide) ?_
        refine k_lv [2, 3, 4, 5, 6, 1, 0] (lv2 := [(0, rA G o0), (2, .int x2), (4, .int x4), (5, .int x5), (6, .int x6), (7, .int v11), (8, .int v12)]) rfl ?_
        exact ih v11 v12 h
      · refine k_iload C (pc2 := 61) (dkAt dkX8_seekFair 32 (q := (59, .iload 7, 2)) rfl) rfl 5 rfl ?_
        refine k_bipush C (pc2 := 63) (dkAt dkX8_seekFair 33 (q := (61, .bipush 99, 2)) rfl) rfl (v := 99) rfl ?_
        refine k_icmp_ne C (tgt := 70) (pc2 := 66) (dkAt dkX8_seekFair 34 (q := (63, .if_icmp .ne 7, 3)) rfl) (by decide) rfl h (fun h => ?_) (fun h => ?_)
        · refine k_iconst C (pc2 := 71) (dkAt dkX8_seekFair 37 (q := (70, .iconst 1, 1)) rfl) rfl (v := 1) rfl ?_
          refine k_iadd C (pc2 := 72) (dkAt dkX8_seekFair 38 (q := (71, .iadd, 1)) rfl) rfl ?_
          refine kb_istore C (pc2 := 74) (dkAt dkX8_seekFair 39 (q := (72, .istore 7, 2)) rfl) rfl (by decide) (lv2 := fun v13 => [(7, .int v13), (0, rA G o0), (2, .int x2), (4, .int x4), (5, .int x5), (6, .int x6), (8, .int x8)]) (fun _ => rfl) h (fun v13 h => ?_)
          refine kb_iinc C (pc2 := 77) (dkAt dkX8_seekFair 40 (q := (74, .iinc 8 1, 3)) rfl) rfl (j := 6) rfl (v := x8 + 1) rfl (by decide) (lv2 := fun v14 => [(8, .int v14), (7, .int v13), (0, rA G o0), (2, .int x2), (4, .int x4), (5, .int x5), (6, .int x6)]) (fun _ => rfl) h (fun v14 h => ?_)
          refine k_goto C (tgt := 35) (dkAt dkX8_seekFair 41 (q := (77, .goto (-42), 3)) rfl) (by decide) ?_
          refine k_lv [2, 3, 4, 5, 6, 1, 0] (lv2 := [(0, rA G o0), (2, .int x2), (4, .int x4), (5, .int x5), (6, .int x6), (7, .int v13), (8, .int v14)]) rfl ?_
          exact ih v13 v14 h
        · refine k_iconst C (pc2 := 67) (dkAt dkX8_seekFair 35 (q := (66, .iconst 0, 1)) rfl) rfl (v := 0) rfl ?_
          refine k_goto C (tgt := 71) (dkAt dkX8_seekFair 36 (q := (67, .goto 4, 3)) rfl) (by decide) ?_
          refine k_iadd C (pc2 := 72) (dkAt dkX8_seekFair 38 (q := (71, .iadd, 1)) rfl) rfl ?_
          refine kb_istore C (pc2 := 74) (dkAt dkX8_seekFair 39 (q := (72, .istore 7, 2)) rfl) rfl (by decide) (lv2 := fun v15 => [(7, .int v15), (0, rA G o0), (2, .int x2), (4, .int x4), (5, .int x5), (6, .int x6), (8, .int x8)]) (fun _ => rfl) h (fun v15 h => ?_)
          refine kb_iinc C (pc2 := 77) (dkAt dkX8_seekFair 40 (q := (74, .iinc 8 1, 3)) rfl) rfl (j := 6) rfl (v := x8 + 1) rfl (by decide) (lv2 := fun v16 => [(8, .int v16), (7, .int v15), (0, rA G o0), (2, .int x2), (4, .int x4), (5, .int x5), (6, .int x6)]) (fun _ => rfl) h (fun v16 h => ?_)
          refine k_goto C (tgt := 35) (dkAt dkX8_seekFair 41 (q := (77, .goto (-42), 3)) rfl) (by decide) ?_
          refine k_lv [2, 3, 4, 5, 6, 1, 0] (lv2 := [(0, rA G o0), (2, .int x2), (4, .int x4), (5, .int x5), (6, .int x6), (7, .int v15), (8, .int v16)]) rfl ?_
          exact ih v15 v16 h
set_option maxRecDepth 100000 in
set_option maxHeartbeats 4000000 in
theorem kl_X8_seekFair1_L14 {p : Program} {l : Launch} {e : Env} {s : State} {m : MethodId} {args : Array Value} {below : List Frame} {meth : Method} {c : Code} {G : GG} {sh : Sh} {xs : List va_E} {Q : State → Prop} (C : Cx p s m c args meth G RX8 cX8_seekFair 9 none) (o0 : Nat) (h0 : isM sh o0) (x2 : Int32) (M : Mm) (y4 : Int32) (y5 : Int32) (hcont : KW p l e rm_X8_seekFair1 s m args below meth c G 9 Q sh xs 0 0 M 109 [(0, rA G o0), (4, .int y4), (5, .int y5)] []) : ∀ (n : Nat) (x4 : Int32) (x5 : Int32) (x6 : Int32), f_X8_seekFair1_L14 o0 x2 M n x4 x5 x6 = some (y4, y5) → KW p l e rm_X8_seekFair1 s m args below meth c G 9 Q sh xs 0 0 M 14 [(0, rA G o0), (2, .int x2), (4, .int x4), (5, .int x5), (6, .int x6)] [] := by
  intro n
  induction n with
  | zero =>
    intro x4 x5 x6 h
    cases h
  | succ n ih =>
    intro x4 x5 x6 h
    unfold f_X8_seekFair1_L14 at h
    refine k_iload C (pc2 := 16) (dkAt dkX8_seekFair 9 (q := (14, .iload 6, 2)) rfl) rfl 4 rfl ?_
    refine k_aload_n C (pc2 := 17) (dkAt dkX8_seekFair 10 (q := (16, .aload_n 0, 1)) rfl) rfl rfl 0 rfl ?_
    refine kf_X8_82 C (pc2 := 20) (o := o0) (o2 := 0) h0.1 (dkAt dkX8_seekFair 11 (q := (17, .getfield 82, 3)) rfl) rfl ?_
    refine k_icmp_ge C (tgt := 109) (pc2 := 23) (dkAt dkX8_seekFair 12 (q := (20, .if_icmp .ge 89, 3)) rfl) (by decide) rfl h (fun h => ?_) (fun h => ?_)
    · refine k_lv [0, 2, 3] (lv2 := [(0, rA G o0), (4, .int x4), (5, .int x5)]) rfl ?_
      cases h
      exact hcont
    · refine k_aload_n C (pc2 := 24) (dkAt dkX8_seekFair 13 (q := (23, .aload_n 0, 1)) rfl) rfl rfl 0 rfl ?_
      refine kf_X8_53 C (pc2 := 27) (o := o0) (o2 := o0 + 21) h0.1 rfl (dkAt dkX8_seekFair 14 (q := (24, .getfield 53, 3)) rfl) rfl ?_
      refine k_iload C (pc2 := 29) (dkAt dkX8_seekFair 15 (q := (27, .iload 6, 2)) rfl) rfl 4 rfl ?_
      refine k_iald C (pc2 := 30) (o := o0 + 21) (nA := 8) (isM_left h0) (dkAt dkX8_seekFair 16 (q := (29, .iaload, 1)) rfl) rfl h (fun h => ?_)
      refine kb_istore C (pc2 := 32) (dkAt dkX8_seekFair 17 (q := (30, .istore 7, 2)) rfl) rfl (by decide) (lv2 := fun v8 => [(7, .int v8), (0, rA G o0), (2, .int x2), (4, .int x4), (5, .int x5), (6, .int x6)]) (fun _ => rfl) h (fun v8 h => ?_)
      refine k_iconst C (pc2 := 33) (dkAt dkX8_seekFair 18 (q := (32, .iconst 0, 1)) rfl) rfl (v := 0) rfl ?_
      refine k_istore C (pc2 := 35) (dkAt dkX8_seekFair 19 (q := (33, .istore 8, 2)) rfl) rfl (by decide) (lv2 := [(8, .int 0), (7, .int v8), (0, rA G o0), (2, .int x2), (4, .int x4), (5, .int x5), (6, .int x6)]) rfl ?_
      refine k_lv [2, 3, 4, 5, 6, 1, 0] (lv2 := [(0, rA G o0), (2, .int x2), (4, .int x4), (5, .int x5), (6, .int x6), (7, .int v8), (8, .int 0)]) rfl ?_
      obtain ⟨v19, e18, h⟩ := ob_inv h
      refine kl_X8_seekFair1_L35 C o0 h0 x2 x4 x5 x6 M v19 ?_ 1000 v8 0 e18
      refine k_iload C (pc2 := 82) (dkAt dkX8_seekFair 42 (q := (80, .iload 7, 2)) rfl) rfl 5 rfl ?_
      refine k_iload C (pc2 := 84) (dkAt dkX8_seekFair 43 (q := (82, .iload 4, 2)) rfl) rfl 2 rfl ?_
      refine k_icmp_le C (tgt := 92) (pc2 := 87) (dkAt dkX8_seekFair 44 (q := (84, .if_icmp .le 8, 3)) rfl) (by decide) rfl h (fun h => ?_) (fun h => ?_)
      · refine k_iload C (pc2 := 94) (dkAt dkX8_seekFair 47 (q := (92, .iload 4, 2)) rfl) rfl 2 rfl ?_
        refine k_istore C (pc2 := 96) (dkAt dkX8_seekFair 48 (q := (94, .istore 4, 2)) rfl) rfl (by decide) (lv2 := [(4, .int x4), (0, rA G o0), (2, .int x2), (5, .int x5), (6, .int x6), (7, .int v19)]) rfl ?_
        refine k_iload C (pc2 := 98) (dkAt dkX8_seekFair 49 (q := (96, .iload 5, 2)) rfl) rfl 3 rfl ?_
        refine k_iload C (pc2 := 100) (dkAt dkX8_seekFair 50 (q := (98, .iload 7, 2)) rfl) rfl 5 rfl ?_
        refine k_iadd C (pc2 := 101) (dkAt dkX8_seekFair 51 (q := (100, .iadd, 1)) rfl) rfl ?_
        refine kb_istore C (pc2 := 103) (dkAt dkX8_seekFair 52 (q := (101, .istore 5, 2)) rfl) rfl (by decide) (lv2 := fun v20 => [(5, .int v20), (4, .int x4), (0, rA G o0), (2, .int x2), (6, .int x6), (7, .int v19)]) (fun _ => rfl) h (fun v20 h => ?_)
        refine kb_iinc C (pc2 := 106) (dkAt dkX8_seekFair 53 (q := (103, .iinc 6 1, 3)) rfl) rfl (j := 4) rfl (v := x6 + 1) rfl (by decide) (lv2 := fun v21 => [(6, .int v21), (5, .int v20), (4, .int x4), (0, rA G o0), (2, .int x2), (7, .int v19)]) (fun _ => rfl) h (fun v21 h => ?_)
        refine k_goto C (tgt := 14) (dkAt dkX8_seekFair 54 (q := (106, .goto (-92), 3)) rfl) (by decide) ?_
        refine k_lv [3, 4, 2, 1, 0] (lv2 := [(0, rA G o0), (2, .int x2), (4, .int x4), (5, .int v20), (6, .int v21)]) rfl ?_
        exact ih x4 v20 v21 h
      · refine k_iload C (pc2 := 89) (dkAt dkX8_seekFair 45 (q := (87, .iload 7, 2)) rfl) rfl 5 rfl ?_
        refine k_goto C (tgt := 94) (dkAt dkX8_seekFair 46 (q := (89, .goto 5, 3)) rfl) (by decide) ?_
        refine k_istore C (pc2 := 96) (dkAt dkX8_seekFair 48 (q := (94, .istore 4, 2)) rfl) rfl (by decide) (lv2 := [(4, .int v19), (0, rA G o0), (2, .int x2), (5, .int x5), (6, .int x6), (7, .int v19)]) rfl ?_
        refine k_iload C (pc2 := 98) (dkAt dkX8_seekFair 49 (q := (96, .iload 5, 2)) rfl) rfl 3 rfl ?_
        refine k_iload C (pc2 := 100) (dkAt dkX8_seekFair 50 (q := (98, .iload 7, 2)) rfl) rfl 5 rfl ?_
        refine k_iadd C (pc2 := 101) (dkAt dkX8_seekFair 51 (q := (100, .iadd, 1)) rfl) rfl ?_
        refine kb_istore C (pc2 := 103) (dkAt dkX8_seekFair 52 (q := (101, .istore 5, 2)) rfl) rfl (by decide) (lv2 := fun v22 => [(5, .int v22), (4, .int v19), (0, rA G o0), (2, .int x2), (6, .int x6), (7, .int v19)]) (fun _ => rfl) h (fun v22 h => ?_)
        refine kb_iinc C (pc2 := 106) (dkAt dkX8_seekFair 53 (q := (103, .iinc 6 1, 3)) rfl) rfl (j := 4) rfl (v := x6 + 1) rfl (by decide) (lv2 := fun v23 => [(6, .int v23), (5, .int v22), (4, .int v19), (0, rA G o0), (2, .int x2), (7, .int v19)]) (fun _ => rfl) h (fun v23 h => ?_)
        refine k_goto C (tgt := 14) (dkAt dkX8_seekFair 54 (q := (106, .goto (-92), 3)) rfl) (by decide) ?_
        refine k_lv [3, 4, 2, 1, 0] (lv2 := [(0, rA G o0), (2, .int x2), (4, .int v19), (5, .int v22), (6, .int v23)]) rfl ?_
        exact ih v19 v22 v23 h
set_option maxRecDepth 100000 in
set_option maxHeartbeats 4000000 in
theorem ct_X8_seekFair1 (l : Launch) (G : GG) (sh : Sh) (xs : List va_E) (o0 : Nat) (h0 : isM sh o0) (x1 : Int32) (x2 : Int32) (x3 : Int32) (M : Mm) (r : Mm) (h : f_X8_seekFair1 o0 x1 x2 x3 M = some r) : Ct l yX8_seekFair cX8_seekFair 9 none rm_X8_seekFair1 G [rA G o0, .int x1, .int x2, .int x3] sh M xs none sh r xs 0 0 := by
  refine ct_of (by decide) (Nat.le_of_ble_eq_true rfl) ?_
  intro p e s m args below meth c hnm C
  refine k_lv [0, 1, 2, 3] (lv2 := [(0, rA G o0), (1, .int x1), (2, .int x2), (3, .int x3)]) rfl ?_
  unfold f_X8_seekFair1 at h
  refine k_iload_n C (pc2 := 1) (dkAt dkX8_seekFair 0 (q := (0, .iload_n 1, 1)) rfl) rfl rfl 1 rfl ?_
  refine k_iload_n C (pc2 := 2) (dkAt dkX8_seekFair 1 (q := (1, .iload_n 2, 1)) rfl) rfl rfl 2 rfl ?_
  refine k_icmp_ne C (tgt := 168) (pc2 := 5) (dkAt dkX8_seekFair 2 (q := (2, .if_icmp .ne 166, 3)) rfl) (by decide) rfl h (fun h => ?_) (fun h => ?_)
  · refine k_iload_n C (pc2 := 169) (dkAt dkX8_seekFair 83 (q := (168, .iload_n 3, 1)) rfl) rfl rfl 3 rfl ?_
    refine k_istore C (pc2 := 171) (dkAt dkX8_seekFair 84 (q := (169, .istore 4, 2)) rfl) rfl (by decide) (lv2 := [(4, .int x3), (0, rA G o0), (1, .int x1), (2, .int x2), (3, .int x3)]) rfl ?_
    refine k_lv [1, 2, 3, 0] (lv2 := [(0, rA G o0), (1, .int x1), (2, .int x2), (4, .int x3)]) rfl ?_
    obtain ⟨M7, e6, h⟩ := ob_inv h
    refine kl_X8_seekFair1_L171 C o0 h0 x1 x2 M7 ?_ 1000 x3 M e6
    exact k_vret C (dkAt dkX8_seekFair 105 (q := (206, .return_, 1)) rfl) rfl (Option.some.inj h) rfl
  · refine k_iconst C (pc2 := 6) (dkAt dkX8_seekFair 3 (q := (5, .iconst 0, 1)) rfl) rfl (v := 0) rfl ?_
    refine k_istore C (pc2 := 8) (dkAt dkX8_seekFair 4 (q := (6, .istore 4, 2)) rfl) rfl (by decide) (lv2 := [(4, .int 0), (0, rA G o0), (1, .int x1), (2, .int x2), (3, .int x3)]) rfl ?_
    refine k_iconst C (pc2 := 9) (dkAt dkX8_seekFair 5 (q := (8, .iconst 0, 1)) rfl) rfl (v := 0) rfl ?_
    refine k_istore C (pc2 := 11) (dkAt dkX8_seekFair 6 (q := (9, .istore 5, 2)) rfl) rfl (by decide) (lv2 := [(5, .int 0), (4, .int 0), (0, rA G o0), (1, .int x1), (2, .int x2), (3, .int x3)]) rfl ?_
    refine k_iconst C (pc2 := 12) (dkAt dkX8_seekFair 7 (q := (11, .iconst 0, 1)) rfl) rfl (v := 0) rfl ?_
    refine k_istore C (pc2 := 14) (dkAt dkX8_seekFair 8 (q := (12, .istore 6, 2)) rfl) rfl (by decide) (lv2 := [(6, .int 0), (5, .int 0), (4, .int 0), (0, rA G o0), (1, .int x1), (2, .int x2), (3, .int x3)]) rfl ?_
    refine k_lv [3, 5, 2, 1, 0] (lv2 := [(0, rA G o0), (2, .int x2), (4, .int 0), (5, .int 0), (6, .int 0)]) rfl ?_
    obtain ⟨v26, v27, e25, h⟩ := ob2_inv h
    refine kl_X8_seekFair1_L14 C o0 h0 x2 M v26 v27 ?_ 1000 0 0 0 e25
    refine k_aload_n C (pc2 := 110) (dkAt dkX8_seekFair 55 (q := (109, .aload_n 0, 1)) rfl) rfl rfl 0 rfl ?_
    refine kf_X8_319 C (pc2 := 113) (o := o0) (o2 := 0) h0.1 (dkAt dkX8_seekFair 56 (q := (110, .getfield 319, 3)) rfl) rfl ?_
    refine k_iconst C (pc2 := 114) (dkAt dkX8_seekFair 57 (q := (113, .iconst (-1), 1)) rfl) rfl (v := (-1)) rfl ?_
    refine k_icmp_eq C (tgt := 144) (pc2 := 117) (dkAt dkX8_seekFair 58 (q := (114, .if_icmp .eq 30, 3)) rfl) (by decide) rfl h (fun h => ?_) (fun h => ?_)
    · refine k_aload_n C (pc2 := 145) (dkAt dkX8_seekFair 71 (q := (144, .aload_n 0, 1)) rfl) rfl rfl 0 rfl ?_
      refine k_iload C (pc2 := 147) (dkAt dkX8_seekFair 72 (q := (145, .iload 4, 2)) rfl) rfl 1 rfl ?_
      refine kp_X8_319 C (pc2 := 150) (o := o0) h0.1 (dkAt dkX8_seekFair 73 (q := (147, .putfield 319, 3)) rfl) rfl h (fun M28 h => ?_)
      refine k_aload_n C (pc2 := 151) (dkAt dkX8_seekFair 74 (q := (150, .aload_n 0, 1)) rfl) rfl rfl 0 rfl ?_
      refine k_iload C (pc2 := 153) (dkAt dkX8_seekFair 75 (q := (151, .iload 5, 2)) rfl) rfl 2 rfl ?_
      refine kp_X8_322 C (pc2 := 156) (o := o0) h0.1 (dkAt dkX8_seekFair 76 (q := (153, .putfield 322, 3)) rfl) rfl h (fun M29 h => ?_)
      refine k_aload_n C (pc2 := 157) (dkAt dkX8_seekFair 77 (q := (156, .aload_n 0, 1)) rfl) rfl rfl 0 rfl ?_
      refine kf_X8_76 C (pc2 := 160) (o := o0) (o2 := o0 + 35) h0.1 rfl (dkAt dkX8_seekFair 78 (q := (157, .getfield 76, 3)) rfl) rfl ?_
      refine k_aload_n C (pc2 := 161) (dkAt dkX8_seekFair 79 (q := (160, .aload_n 0, 1)) rfl) rfl rfl 0 rfl ?_
      refine kf_X8_79 C (pc2 := 164) (o := o0) (o2 := o0 + 36) h0.1 rfl (dkAt dkX8_seekFair 80 (q := (161, .getfield 79, 3)) rfl) rfl ?_
      obtain ⟨q30, e31, h⟩ := ob_inv h
      refine kc_S C (As := [rA G (o0 + 35), rA G (o0 + 36)]) (st2 := []) (ct_X8_copied l G sh xs 3 (o0 + 35) (isM_now h0) (o0 + 36) (isM_bestRow h0) M29 q30 e31) (cl_X8_325 (hts_of C) ⟨Nat.le_of_ble_eq_true rfl, Nat.le_of_ble_eq_true rfl⟩ rfl rfl) rfl rfl (Nat.le_of_ble_eq_true rfl) (dkAt dkX8_seekFair 81 (q := (164, .invokestatic 325, 3)) rfl) ⟨Nat.zero_le _, Nat.zero_le _⟩ (pc2 := 167) rfl rfl ?_
      exact k_vret C (dkAt dkX8_seekFair 82 (q := (167, .return_, 1)) rfl) rfl (Option.some.inj h) rfl
    · refine k_iload C (pc2 := 119) (dkAt dkX8_seekFair 59 (q := (117, .iload 4, 2)) rfl) rfl 1 rfl ?_
      refine k_aload_n C (pc2 := 120) (dkAt dkX8_seekFair 60 (q := (119, .aload_n 0, 1)) rfl) rfl rfl 0 rfl ?_
      refine kf_X8_319 C (pc2 := 123) (o := o0) (o2 := 0) h0.1 (dkAt dkX8_seekFair 61 (q := (120, .getfield 319, 3)) rfl) rfl ?_
      refine k_icmp_lt C (tgt := 144) (pc2 := 126) (dkAt dkX8_seekFair 62 (q := (123, .if_icmp .lt 21, 3)) rfl) (by decide) rfl h (fun h => ?_) (fun h => ?_)
      · refine k_aload_n C (pc2 := 145) (dkAt dkX8_seekFair 71 (q := (144, .aload_n 0, 1)) rfl) rfl rfl 0 rfl ?_
        refine k_iload C (pc2 := 147) (dkAt dkX8_seekFair 72 (q := (145, .iload 4, 2)) rfl) rfl 1 rfl ?_
        refine kp_X8_319 C (pc2 := 150) (o := o0) h0.1 (dkAt dkX8_seekFair 73 (q := (147, .putfield 319, 3)) rfl) rfl h (fun M32 h => ?_)
        refine k_aload_n C (pc2 := 151) (dkAt dkX8_seekFair 74 (q := (150, .aload_n 0, 1)) rfl) rfl rfl 0 rfl ?_
        refine k_iload C (pc2 := 153) (dkAt dkX8_seekFair 75 (q := (151, .iload 5, 2)) rfl) rfl 2 rfl ?_
        refine kp_X8_322 C (pc2 := 156) (o := o0) h0.1 (dkAt dkX8_seekFair 76 (q := (153, .putfield 322, 3)) rfl) rfl h (fun M33 h => ?_)
        refine k_aload_n C (pc2 := 157) (dkAt dkX8_seekFair 77 (q := (156, .aload_n 0, 1)) rfl) rfl rfl 0 rfl ?_
        refine kf_X8_76 C (pc2 := 160) (o := o0) (o2 := o0 + 35) h0.1 rfl (dkAt dkX8_seekFair 78 (q := (157, .getfield 76, 3)) rfl) rfl ?_
        refine k_aload_n C (pc2 := 161) (dkAt dkX8_seekFair 79 (q := (160, .aload_n 0, 1)) rfl) rfl rfl 0 rfl ?_
        refine kf_X8_79 C (pc2 := 164) (o := o0) (o2 := o0 + 36) h0.1 rfl (dkAt dkX8_seekFair 80 (q := (161, .getfield 79, 3)) rfl) rfl ?_
        obtain ⟨q34, e35, h⟩ := ob_inv h
        refine kc_S C (As := [rA G (o0 + 35), rA G (o0 + 36)]) (st2 := []) (ct_X8_copied l G sh xs 3 (o0 + 35) (isM_now h0) (o0 + 36) (isM_bestRow h0) M33 q34 e35) (cl_X8_325 (hts_of C) ⟨Nat.le_of_ble_eq_true rfl, Nat.le_of_ble_eq_true rfl⟩ rfl rfl) rfl rfl (Nat.le_of_ble_eq_true rfl) (dkAt dkX8_seekFair 81 (q := (164, .invokestatic 325, 3)) rfl) ⟨Nat.zero_le _, Nat.zero_le _⟩ (pc2 := 167) rfl rfl ?_
        exact k_vret C (dkAt dkX8_seekFair 82 (q := (167, .return_, 1)) rfl) rfl (Option.some.inj h) rfl
      · refine k_iload C (pc2 := 128) (dkAt dkX8_seekFair 63 (q := (126, .iload 4, 2)) rfl) rfl 1 rfl ?_
        refine k_aload_n C (pc2 := 129) (dkAt dkX8_seekFair 64 (q := (128, .aload_n 0, 1)) rfl) rfl rfl 0 rfl ?_
        refine kf_X8_319 C (pc2 := 132) (o := o0) (o2 := 0) h0.1 (dkAt dkX8_seekFair 65 (q := (129, .getfield 319, 3)) rfl) rfl ?_
        refine k_icmp_ne C (tgt := 167) (pc2 := 135) (dkAt dkX8_seekFair 66 (q := (132, .if_icmp .ne 35, 3)) rfl) (by decide) rfl h (fun h => ?_) (fun h => ?_)
        · exact k_vret C (dkAt dkX8_seekFair 82 (q := (167, .return_, 1)) rfl) rfl (Option.some.inj h) rfl
        · refine k_iload C (pc2 := 137) (dkAt dkX8_seekFair 67 (q := (135, .iload 5, 2)) rfl) rfl 2 rfl ?_
          refine k_aload_n C (pc2 := 138) (dkAt dkX8_seekFair 68 (q := (137, .aload_n 0, 1)) rfl) rfl rfl 0 rfl ?_
          refine kf_X8_322 C (pc2 := 141) (o := o0) (o2 := 0) h0.1 (dkAt dkX8_seekFair 69 (q := (138, .getfield 322, 3)) rfl) rfl ?_
          refine k_icmp_ge C (tgt := 167) (pc2 := 144) (dkAt dkX8_seekFair 70 (q := (141, .if_icmp .ge 26, 3)) rfl) (by decide) rfl h (fun h => ?_) (fun h => ?_)
          · exact k_vret C (dkAt dkX8_seekFair 82 (q := (167, .return_, 1)) rfl) rfl (Option.some.inj h) rfl
          · refine k_aload_n C (pc2 := 145) (dkAt dkX8_seekFair 71 (q := (144, .aload_n 0, 1)) rfl) rfl rfl 0 rfl ?_
            refine k_iload C (pc2 := 147) (dkAt dkX8_seekFair 72 (q := (145, .iload 4, 2)) rfl) rfl 1 rfl ?_
            refine kp_X8_319 C (pc2 := 150) (o := o0) h0.1 (dkAt dkX8_seekFair 73 (q := (147, .putfield 319, 3)) rfl) rfl h (fun M36 h => ?_)
            refine k_aload_n C (pc2 := 151) (dkAt dkX8_seekFair 74 (q := (150, .aload_n 0, 1)) rfl) rfl rfl 0 rfl ?_
            refine k_iload C (pc2 := 153) (dkAt dkX8_seekFair 75 (q := (151, .iload 5, 2)) rfl) rfl 2 rfl ?_
            refine kp_X8_322 C (pc2 := 156) (o := o0) h0.1 (dkAt dkX8_seekFair 76 (q := (153, .putfield 322, 3)) rfl) rfl h (fun M37 h => ?_)
            refine k_aload_n C (pc2 := 157) (dkAt dkX8_seekFair 77 (q := (156, .aload_n 0, 1)) rfl) rfl rfl 0 rfl ?_
            refine kf_X8_76 C (pc2 := 160) (o := o0) (o2 := o0 + 35) h0.1 rfl (dkAt dkX8_seekFair 78 (q := (157, .getfield 76, 3)) rfl) rfl ?_
            refine k_aload_n C (pc2 := 161) (dkAt dkX8_seekFair 79 (q := (160, .aload_n 0, 1)) rfl) rfl rfl 0 rfl ?_
            refine kf_X8_79 C (pc2 := 164) (o := o0) (o2 := o0 + 36) h0.1 rfl (dkAt dkX8_seekFair 80 (q := (161, .getfield 79, 3)) rfl) rfl ?_
            obtain ⟨q38, e39, h⟩ := ob_inv h
            refine kc_S C (As := [rA G (o0 + 35), rA G (o0 + 36)]) (st2 := []) (ct_X8_copied l G sh xs 3 (o0 + 35) (isM_now h0) (o0 + 36) (isM_bestRow h0) M37 q38 e39) (cl_X8_325 (hts_of C) ⟨Nat.le_of_ble_eq_true rfl, Nat.le_of_ble_eq_true rfl⟩ rfl rfl) rfl rfl (Nat.le_of_ble_eq_true rfl) (dkAt dkX8_seekFair 81 (q := (164, .invokestatic 325, 3)) rfl) ⟨Nat.zero_le _, Nat.zero_le _⟩ (pc2 := 167) rfl rfl ?_
            exact k_vret C (dkAt dkX8_seekFair 82 (q := (167, .return_, 1)) rfl) rfl (Option.some.inj h) rfl
set_option maxRecDepth 100000 in
set_option maxHeartbeats 4000000 in
theorem kl_X8_seekFair2_L171 {p : Program} {l : Launch} {e : Env} {s : State} {m : MethodId} {args : Array Value} {below : List Frame} {meth : Method} {c : Code} {G : GG} {sh : Sh} {xs : List va_E} {Q : State → Prop} (C : Cx p s m c args meth G RX8 cX8_seekFair 9 none) (o0 : Nat) (h0 : isM sh o0) (x1 : Int32) (x2 : Int32) (M2 : Mm) (hcont : KW p l e rm_X8_seekFair2 s m args below meth c G 9 Q sh xs 0 0 M2 206 [] []) : ∀ (n : Nat) (x4 : Int32) (M : Mm), f_X8_seekFair2_L171 o0 x1 x2 n x4 M = some M2 → KW p l e rm_X8_seekFair2 s m args below meth c G 9 Q sh xs 0 0 M 171 [(0, rA G o0), (1, .int x1), (2, .int x2), (4, .int x4)] [] := by
  intro n
  induction n with
  | zero =>
    intro x4 M h
    cases h
  | succ n ih =>
    intro x4 M h
    unfold f_X8_seekFair2_L171 at h
    refine k_iload C (pc2 := 173) (dkAt dkX8_seekFair 85 (q := (171, .iload 4, 2)) rfl) rfl 3 rfl ?_
    refine k_aload_n C (pc2 := 174) (dkAt dkX8_seekFair 86 (q := (173, .aload_n 0, 1)) rfl) rfl rfl 0 rfl ?_
    refine kf_X8_37 C (pc2 := 177) (o := o0) (o2 := 0) h0.1 (dkAt dkX8_seekFair 87 (q := (174, .getfield 37, 3)) rfl) rfl ?_
    refine k_icmp_ge C (tgt := 206) (pc2 := 180) (dkAt dkX8_seekFair 88 (q := (177, .if_icmp .ge 29, 3)) rfl) (by decide) rfl h (fun h => ?_) (fun h => ?_)
    · refine k_lv [] (lv2 := []) rfl ?_
      cases h
      exact hcont
    · refine k_aload_n C (pc2 := 181) (dkAt dkX8_seekFair 89 (q := (180, .aload_n 0, 1)) rfl) rfl rfl 0 rfl ?_
      refine kf_X8_76 C (pc2 := 184) (o := o0) (o2 := o0 + 35) h0.1 rfl (dkAt dkX8_seekFair 90 (q := (181, .getfield 76, 3)) rfl) rfl ?_
      refine k_iload_n C (pc2 := 185) (dkAt dkX8_seekFair 91 (q := (184, .iload_n 1, 1)) rfl) rfl rfl 1 rfl ?_
      refine k_iload C (pc2 := 187) (dkAt dkX8_seekFair 92 (q := (185, .iload 4, 2)) rfl) rfl 3 rfl ?_
      refine k_iast C (pc2 := 188) (o := o0 + 35) (nA := 3) (isM_now h0) (dkAt dkX8_seekFair 93 (q := (187, .iastore, 1)) rfl) rfl h (fun M1 h => ?_)
      refine k_aload_n C (pc2 := 189) (dkAt dkX8_seekFair 94 (q := (188, .aload_n 0, 1)) rfl) rfl rfl 0 rfl ?_
      refine k_iload_n C (pc2 := 190) (dkAt dkX8_seekFair 95 (q := (189, .iload_n 1, 1)) rfl) rfl rfl 1 rfl ?_
      refine k_iconst C (pc2 := 191) (dkAt dkX8_seekFair 96 (q := (190, .iconst 1, 1)) rfl) rfl (v := 1) rfl ?_
      refine k_iadd C (pc2 := 192) (dkAt dkX8_seekFair 97 (q := (191, .iadd, 1)) rfl) rfl ?_
      refine k_iload_n C (pc2 := 193) (dkAt dkX8_seekFair 98 (q := (192, .iload_n 2, 1)) rfl) rfl rfl 2 rfl ?_
      refine k_iload C (pc2 := 195) (dkAt dkX8_seekFair 99 (q := (193, .iload 4, 2)) rfl) rfl 3 rfl ?_
      refine k_iconst C (pc2 := 196) (dkAt dkX8_seekFair 100 (q := (195, .iconst 1, 1)) rfl) rfl (v := 1) rfl ?_
      refine k_iadd C (pc2 := 197) (dkAt dkX8_seekFair 101 (q := (196, .iadd, 1)) rfl) rfl ?_
      obtain ⟨q2, e3, h⟩ := ob_inv h
      refine kc_V C (As := [.int (x1 + 1), .int x2, .int (x4 + 1)]) (st2 := []) (ct_X8_seekFair1 l G sh xs o0 h0 (x1 + 1) x2 (x4 + 1) M1 q2 e3) (cl_X8_329 (hts_of C) ⟨Nat.le_of_ble_eq_true rfl, Nat.le_of_ble_eq_true rfl⟩ rfl rfl) h0.1 rfl rfl rfl rfl rfl (Nat.le_of_ble_eq_true rfl) (dkAt dkX8_seekFair 102 (q := (197, .invokevirtual 329, 3)) rfl) ⟨Nat.zero_le _, Nat.zero_le _⟩ (pc2 := 200) rfl rfl ?_
      refine kb_iinc C (pc2 := 203) (dkAt dkX8_seekFair 103 (q := (200, .iinc 4 1, 3)) rfl) rfl (j := 3) rfl (v := x4 + 1) rfl (by decide) (lv2 := fun v4 => [(4, .int v4), (0, rA G o0), (1, .int x1), (2, .int x2)]) (fun _ => rfl) h (fun v4 h => ?_)
      refine k_goto C (tgt := 171) (dkAt dkX8_seekFair 104 (q := (203, .goto (-32), 3)) rfl) (by decide) ?_
      refine k_lv [1, 2, 3, 0] (lv2 := [(0, rA G o0), (1, .int x1), (2, .int x2), (4, .int v4)]) rfl ?_
      exact ih v4 q2 h
set_option maxRecDepth 100000 in
set_option maxHeartbeats 4000000 in
theorem kl_X8_seekFair2_L35 {p : Program} {l : Launch} {e : Env} {s : State} {m : MethodId} {args : Array Value} {below : List Frame} {meth : Method} {c : Code} {G : GG} {sh : Sh} {xs : List va_E} {Q : State → Prop} (C : Cx p s m c args meth G RX8 cX8_seekFair 9 none) (o0 : Nat) (h0 : isM sh o0) (x2 : Int32) (x4 : Int32) (x5 : Int32) (x6 : Int32) (M : Mm) (y7 : Int32) (hcont : KW p l e rm_X8_seekFair2 s m args below meth c G 9 Q sh xs 0 0 M 80 [(0, rA G o0), (2, .int x2), (4, .int x4), (5, .int x5), (6, .int x6), (7, .int y7)] []) : ∀ (n : Nat) (x7 : Int32) (x8 : Int32), f_X8_seekFair2_L35 o0 x2 x4 x5 x6 M n x7 x8 = some y7 → KW p l e rm_X8_seekFair2 s m args below meth c G 9 Q sh xs 0 0 M 35 [(0, rA G o0), (2, .int x2), (4, .int x4), (5, .int x5), (6, .int x6), (7, .int x7), (8, .int x8)] [] := by
  intro n
  induction n with
  | zero =>
    intro x7 x8 h
    cases h
  | succ n ih =>
    intro x7 x8 h
    unfold f_X8_seekFair2_L35 at h
    refine k_iload C (pc2 := 37) (dkAt dkX8_seekFair 20 (q := (35, .iload 8, 2)) rfl) rfl 6 rfl ?_
    refine k_iload_n C (pc2 := 38) (dkAt dkX8_seekFair 21 (q := (37, .iload_n 2, 1)) rfl) rfl rfl 1 rfl ?_
    refine k_icmp_ge C (tgt := 80) (pc2 := 41) (dkAt dkX8_seekFair 22 (q := (38, .if_icmp .ge 42, 3)) rfl) (by decide) rfl h (fun h => ?_) (fun h => ?_)
    · refine k_lv [0, 1, 2, 3, 4, 5] (lv2 := [(0, rA G o0), (2, .int x2), (4, .int x4), (5, .int x5), (6, .int x6), (7, .int x7)]) rfl ?_
      cases h
      exact hcont
    · refine k_iload C (pc2 := 43) (dkAt dkX8_seekFair 23 (q := (41, .iload 7, 2)) rfl) rfl 5 rfl ?_
      refine k_aload_n C (pc2 := 44) (dkAt dkX8_seekFair 24 (q := (43, .aload_n 0, 1)) rfl) rfl rfl 0 rfl ?_
      refine k_iload C (pc2 := 46) (dkAt dkX8_seekFair 25 (q := (44, .iload 6, 2)) rfl) rfl 4 rfl ?_
      refine k_aload_n C (pc2 := 47) (dkAt dkX8_seekFair 26 (q := (46, .aload_n 0, 1)) rfl) rfl rfl 0 rfl ?_
      refine kf_X8_76 C (pc2 := 50) (o := o0) (o2 := o0 + 35) h0.1 rfl (dkAt dkX8_seekFair 27 (q := (47, .getfield 76, 3)) rfl) rfl ?_
      refine k_iload C (pc2 := 52) (dkAt dkX8_seekFair 28 (q := (50, .iload 8, 2)) rfl) rfl 6 rfl ?_
      refine k_iald C (pc2 := 53) (o := o0 + 35) (nA := 3) (isM_now h0) (dkAt dkX8_seekFair 29 (q := (52, .iaload, 1)) rfl) rfl h (fun h => ?_)
      obtain ⟨q9, e10, h⟩ := ob_inv h
      refine kc_V C (As := [.int x6, .int (M.1 (o0 + 35) x8.toNatClampNeg)]) (st2 := [.int q9, .int x7]) (ct_X8_isFree l G sh xs o0 h0 x6 (M.1 (o0 + 35) x8.toNatClampNeg) M q9 e10) (cl_X8_139 (hts_of C) ⟨Nat.le_of_ble_eq_true rfl, Nat.le_of_ble_eq_true rfl⟩ rfl rfl) h0.1 rfl rfl rfl rfl rfl (Nat.le_of_ble_eq_true rfl) (dkAt dkX8_seekFair 30 (q := (53, .invokevirtual 139, 3)) rfl) ⟨Nat.zero_le _, Nat.zero_le _⟩ (pc2 := 56) rfl rfl ?_
      refine k_if_ne C (tgt := 66) (pc2 := 59) (dkAt dkX8_seekFair 31 (q := (56, .ifCond .ne 10, 3)) rfl) (by decide) rfl h (fun h => ?_) (fun h => ?_)
      · refine k_iconst C (pc2 := 67) (dkAt dkX8_seekFair 35 (q := (66, .iconst 0, 1)) rfl) rfl (v := 0) rfl ?_
        refine k_goto C (tgt := 71) (dkAt dkX8_seekFair 36 (q := (67, .goto 4, 3)) rfl) (by decide) ?_
        refine k_iadd C (pc2 := 72) (dkAt dkX8_seekFair 38 (q := (71, .iadd, 1)) rfl) rfl ?_
        refine kb_istore C (pc2 := 74) (dkAt dkX8_seekFair 39 (q := (72, .istore 7, 2)) rfl) rfl (by decide) (lv2 := fun v11 => [(7, .int v11), (0, rA G o0), (2, .int x2), (4, .int x4), (5, .int x5), (6, .int x6), (8, .int x8)]) (fun _ => rfl) h (fun v11 h => ?_)
        refine kb_iinc C (pc2 := 77) (dkAt dkX8_seekFair 40 (q := (74, .iinc 8 1, 3)) rfl) rfl (j := 6) rfl (v := x8 + 1) rfl (by decide) (lv2 := fun v12 => [(8, .int v12), (7, .int v11), (0, rA G o0), (2, .int x2), (4, .int x4), (5, .int x5), (6, .int x6)]) (fun _ => rfl) h (fun v12 h => ?_)
        refine k_goto C (tgt := 35) (dkAt dkX8_seekFair 41 (q := (77, .goto (-42), 3)) rfl) (by decide) ?_
        refine k_lv [2, 3, 4, 5, 6, 1, 0] (lv2 := [(0, rA G o0), (2, .int x2), (4, .int x4), (5, .int x5), (6, .int x6), (7, .int v11), (8, .int v12)]) rfl ?_
        exact ih v11 v12 h
      · refine k_iload C (pc2 := 61) (dkAt dkX8_seekFair 32 (q := (59, .iload 7, 2)) rfl) rfl 5 rfl ?_
        refine k_bipush C (pc2 := 63) (dkAt dkX8_seekFair 33 (q := (61, .bipush 99, 2)) rfl) rfl (v := 99) rfl ?_
        refine k_icmp_ne C (tgt := 70) (pc2 := 66) (dkAt dkX8_seekFair 34 (q := (63, .if_icmp .ne 7, 3)) rfl) (by decide) rfl h (fun h => ?_) (fun h => ?_)
        · refine k_iconst C (pc2 := 71) (dkAt dkX8_seekFair 37 (q := (70, .iconst 1, 1)) rfl) rfl (v := 1) rfl ?_
          refine k_iadd C (pc2 := 72) (dkAt dkX8_seekFair 38 (q := (71, .iadd, 1)) rfl) rfl ?_
          refine kb_istore C (pc2 := 74) (dkAt dkX8_seekFair 39 (q := (72, .istore 7, 2)) rfl) rfl (by decide) (lv2 := fun v13 => [(7, .int v13), (0, rA G o0), (2, .int x2), (4, .int x4), (5, .int x5), (6, .int x6), (8, .int x8)]) (fun _ => rfl) h (fun v13 h => ?_)
          refine kb_iinc C (pc2 := 77) (dkAt dkX8_seekFair 40 (q := (74, .iinc 8 1, 3)) rfl) rfl (j := 6) rfl (v := x8 + 1) rfl (by decide) (lv2 := fun v14 => [(8, .int v14), (7, .int v13), (0, rA G o0), (2, .int x2), (4, .int x4), (5, .int x5), (6, .int x6)]) (fun _ => rfl) h (fun v14 h => ?_)
          refine k_goto C (tgt := 35) (dkAt dkX8_seekFair 41 (q := (77, .goto (-42), 3)) rfl) (by decide) ?_
          refine k_lv [2, 3, 4, 5, 6, 1, 0] (lv2 := [(0, rA G o0), (2, .int x2), (4, .int x4), (5, .int x5), (6, .int x6), (7, .int v13), (8, .int v14)]) rfl ?_
          exact ih v13 v14 h
        · refine k_iconst C (pc2 := 67) (dkAt dkX8_seekFair 35 (q := (66, .iconst 0, 1)) rfl) rfl (v := 0) rfl ?_
          refine k_goto C (tgt := 71) (dkAt dkX8_seekFair 36 (q := (67, .goto 4, 3)) rfl) (by decide) ?_
          refine k_iadd C (pc2 := 72) (dkAt dkX8_seekFair 38 (q := (71, .iadd, 1)) rfl) rfl ?_
          refine kb_istore C (pc2 := 74) (dkAt dkX8_seekFair 39 (q := (72, .istore 7, 2)) rfl) rfl (by decide) (lv2 := fun v15 => [(7, .int v15), (0, rA G o0), (2, .int x2), (4, .int x4), (5, .int x5), (6, .int x6), (8, .int x8)]) (fun _ => rfl) h (fun v15 h => ?_)
          refine kb_iinc C (pc2 := 77) (dkAt dkX8_seekFair 40 (q := (74, .iinc 8 1, 3)) rfl) rfl (j := 6) rfl (v := x8 + 1) rfl (by decide) (lv2 := fun v16 => [(8, .int v16), (7, .int v15), (0, rA G o0), (2, .int x2), (4, .int x4), (5, .int x5), (6, .int x6)]) (fun _ => rfl) h (fun v16 h => ?_)
          refine k_goto C (tgt := 35) (dkAt dkX8_seekFair 41 (q := (77, .goto (-42), 3)) rfl) (by decide) ?_
          refine k_lv [2, 3, 4, 5, 6, 1, 0] (lv2 := [(0, rA G o0), (2, .int x2), (4, .int x4), (5, .int x5), (6, .int x6), (7, .int v15), (8, .int v16)]) rfl ?_
          exact ih v15 v16 h
set_option maxRecDepth 100000 in
set_option maxHeartbeats 4000000 in
theorem kl_X8_seekFair2_L14 {p : Program} {l : Launch} {e : Env} {s : State} {m : MethodId} {args : Array Value} {below : List Frame} {meth : Method} {c : Code} {G : GG} {sh : Sh} {xs : List va_E} {Q : State → Prop} (C : Cx p s m c args meth G RX8 cX8_seekFair 9 none) (o0 : Nat) (h0 : isM sh o0) (x2 : Int32) (M : Mm) (y4 : Int32) (y5 : Int32) (hcont : KW p l e rm_X8_seekFair2 s m args below meth c G 9 Q sh xs 0 0 M 109 [(0, rA G o0), (4, .int y4), (5, .int y5)] []) : ∀ (n : Nat) (x4 : Int32) (x5 : Int32) (x6 : Int32), f_X8_seekFair2_L14 o0 x2 M n x4 x5 x6 = some (y4, y5) → KW p l e rm_X8_seekFair2 s m args below meth c G 9 Q sh xs 0 0 M 14 [(0, rA G o0), (2, .int x2), (4, .int x4), (5, .int x5), (6, .int x6)] [] := by
  intro n
  induction n with
  | zero =>
    intro x4 x5 x6 h
    cases h
  | succ n ih =>
    intro x4 x5 x6 h
    unfold f_X8_seekFair2_L14 at h
    refine k_iload C (pc2 := 16) (dkAt dkX8_seekFair 9 (q := (14, .iload 6, 2)) rfl) rfl 4 rfl ?_
    refine k_aload_n C (pc2 := 17) (dkAt dkX8_seekFair 10 (q := (16, .aload_n 0, 1)) rfl) rfl rfl 0 rfl ?_
    refine kf_X8_82 C (pc2 := 20) (o := o0) (o2 := 0) h0.1 (dkAt dkX8_seekFair 11 (q := (17, .getfield 82, 3)) rfl) rfl ?_
    refine k_icmp_ge C (tgt := 109) (pc2 := 23) (dkAt dkX8_seekFair 12 (q := (20, .if_icmp .ge 89, 3)) rfl) (by decide) rfl h (fun h => ?_) (fun h => ?_)
    · refine k_lv [0, 2, 3] (lv2 := [(0, rA G o0), (4, .int x4), (5, .int x5)]) rfl ?_
      cases h
      exact hcont
    · refine k_aload_n C (pc2 := 24) (dkAt dkX8_seekFair 13 (q := (23, .aload_n 0, 1)) rfl) rfl rfl 0 rfl ?_
      refine kf_X8_53 C (pc2 := 27) (o := o0) (o2 := o0 + 21) h0.1 rfl (dkAt dkX8_seekFair 14 (q := (24, .getfield 53, 3)) rfl) rfl ?_
      refine k_iload C (pc2 := 29) (dkAt dkX8_seekFair 15 (q := (27, .iload 6, 2)) rfl) rfl 4 rfl ?_
      refine k_iald C (pc2 := 30) (o := o0 + 21) (nA := 8) (isM_left h0) (dkAt dkX8_seekFair 16 (q := (29, .iaload, 1)) rfl) rfl h (fun h => ?_)
      refine kb_istore C (pc2 := 32) (dkAt dkX8_seekFair 17 (q := (30, .istore 7, 2)) rfl) rfl (by decide) (lv2 := fun v8 => [(7, .int v8), (0, rA G o0), (2, .int x2), (4, .int x4), (5, .int x5), (6, .int x6)]) (fun _ => rfl) h (fun v8 h => ?_)
      refine k_iconst C (pc2 := 33) (dkAt dkX8_seekFair 18 (q := (32, .iconst 0, 1)) rfl) rfl (v := 0) rfl ?_
      refine k_istore C (pc2 := 35) (dkAt dkX8_seekFair 19 (q := (33, .istore 8, 2)) rfl) rfl (by decide) (lv2 := [(8, .int 0), (7, .int v8), (0, rA G o0), (2, .int x2), (4, .int x4), (5, .int x5), (6, .int x6)]) rfl ?_
      refine k_lv [2, 3, 4, 5, 6, 1, 0] (lv2 := [(0, rA G o0), (2, .int x2), (4, .int x4), (5, .int x5), (6, .int x6), (7, .int v8), (8, .int 0)]) rfl ?_
      obtain ⟨v19, e18, h⟩ := ob_inv h
      refine kl_X8_seekFair2_L35 C o0 h0 x2 x4 x5 x6 M v19 ?_ 1000 v8 0 e18
      refine k_iload C (pc2 := 82) (dkAt dkX8_seekFair 42 (q := (80, .iload 7, 2)) rfl) rfl 5 rfl ?_
      refine k_iload C (pc2 := 84) (dkAt dkX8_seekFair 43 (q := (82, .iload 4, 2)) rfl) rfl 2 rfl ?_
      refine k_icmp_le C (tgt := 92) (pc2 := 87) (dkAt dkX8_seekFair 44 (q := (84, .if_icmp .le 8, 3)) rfl) (by decide) rfl h (fun h => ?_) (fun h => ?_)
      · refine k_iload C (pc2 := 94) (dkAt dkX8_seekFair 47 (q := (92, .iload 4, 2)) rfl) rfl 2 rfl ?_
        refine k_istore C (pc2 := 96) (dkAt dkX8_seekFair 48 (q := (94, .istore 4, 2)) rfl) rfl (by decide) (lv2 := [(4, .int x4), (0, rA G o0), (2, .int x2), (5, .int x5), (6, .int x6), (7, .int v19)]) rfl ?_
        refine k_iload C (pc2 := 98) (dkAt dkX8_seekFair 49 (q := (96, .iload 5, 2)) rfl) rfl 3 rfl ?_
        refine k_iload C (pc2 := 100) (dkAt dkX8_seekFair 50 (q := (98, .iload 7, 2)) rfl) rfl 5 rfl ?_
        refine k_iadd C (pc2 := 101) (dkAt dkX8_seekFair 51 (q := (100, .iadd, 1)) rfl) rfl ?_
        refine kb_istore C (pc2 := 103) (dkAt dkX8_seekFair 52 (q := (101, .istore 5, 2)) rfl) rfl (by decide) (lv2 := fun v20 => [(5, .int v20), (4, .int x4), (0, rA G o0), (2, .int x2), (6, .int x6), (7, .int v19)]) (fun _ => rfl) h (fun v20 h => ?_)
        refine kb_iinc C (pc2 := 106) (dkAt dkX8_seekFair 53 (q := (103, .iinc 6 1, 3)) rfl) rfl (j := 4) rfl (v := x6 + 1) rfl (by decide) (lv2 := fun v21 => [(6, .int v21), (5, .int v20), (4, .int x4), (0, rA G o0), (2, .int x2), (7, .int v19)]) (fun _ => rfl) h (fun v21 h => ?_)
        refine k_goto C (tgt := 14) (dkAt dkX8_seekFair 54 (q := (106, .goto (-92), 3)) rfl) (by decide) ?_
        refine k_lv [3, 4, 2, 1, 0] (lv2 := [(0, rA G o0), (2, .int x2), (4, .int x4), (5, .int v20), (6, .int v21)]) rfl ?_
        exact ih x4 v20 v21 h
      · refine k_iload C (pc2 := 89) (dkAt dkX8_seekFair 45 (q := (87, .iload 7, 2)) rfl) rfl 5 rfl ?_
        refine k_goto C (tgt := 94) (dkAt dkX8_seekFair 46 (q := (89, .goto 5, 3)) rfl) (by decide) ?_
        refine k_istore C (pc2 := 96) (dkAt dkX8_seekFair 48 (q := (94, .istore 4, 2)) rfl) rfl (by decide) (lv2 := [(4, .int v19), (0, rA G o0), (2, .int x2), (5, .int x5), (6, .int x6), (7, .int v19)]) rfl ?_
        refine k_iload C (pc2 := 98) (dkAt dkX8_seekFair 49 (q := (96, .iload 5, 2)) rfl) rfl 3 rfl ?_
        refine k_iload C (pc2 := 100) (dkAt dkX8_seekFair 50 (q := (98, .iload 7, 2)) rfl) rfl 5 rfl ?_
        refine k_iadd C (pc2 := 101) (dkAt dkX8_seekFair 51 (q := (100, .iadd, 1)) rfl) rfl ?_
        refine kb_istore C (pc2 := 103) (dkAt dkX8_seekFair 52 (q := (101, .istore 5, 2)) rfl) rfl (by decide) (lv2 := fun v22 => [(5, .int v22), (4, .int v19), (0, rA G o0), (2, .int x2), (6, .int x6), (7, .int v19)]) (fun _ => rfl) h (fun v22 h => ?_)
        refine kb_iinc C (pc2 := 106) (dkAt dkX8_seekFair 53 (q := (103, .iinc 6 1, 3)) rfl) rfl (j := 4) rfl (v := x6 + 1) rfl (by decide) (lv2 := fun v23 => [(6, .int v23), (5, .int v22), (4, .int v19), (0, rA G o0), (2, .int x2), (7, .int v19)]) (fun _ => rfl) h (fun v23 h => ?_)
        refine k_goto C (tgt := 14) (dkAt dkX8_seekFair 54 (q := (106, .goto (-92), 3)) rfl) (by decide) ?_
        refine k_lv [3, 4, 2, 1, 0] (lv2 := [(0, rA G o0), (2, .int x2), (4, .int v19), (5, .int v22), (6, .int v23)]) rfl ?_
        exact ih v19 v22 v23 h
set_option maxRecDepth 100000 in
set_option maxHeartbeats 4000000 in
theorem ct_X8_seekFair2 (l : Launch) (G : GG) (sh : Sh) (xs : List va_E) (o0 : Nat) (h0 : isM sh o0) (x1 : Int32) (x2 : Int32) (x3 : Int32) (M : Mm) (r : Mm) (h : f_X8_seekFair2 o0 x1 x2 x3 M = some r) : Ct l yX8_seekFair cX8_seekFair 9 none rm_X8_seekFair2 G [rA G o0, .int x1, .int x2, .int x3] sh M xs none sh r xs 0 0 := by
  refine ct_of (by decide) (Nat.le_of_ble_eq_true rfl) ?_
  intro p e s m args below meth c hnm C
  refine k_lv [0, 1, 2, 3] (lv2 := [(0, rA G o0), (1, .int x1), (2, .int x2), (3, .int x3)]) rfl ?_
  unfold f_X8_seekFair2 at h
  refine k_iload_n C (pc2 := 1) (dkAt dkX8_seekFair 0 (q := (0, .iload_n 1, 1)) rfl) rfl rfl 1 rfl ?_
  refine k_iload_n C (pc2 := 2) (dkAt dkX8_seekFair 1 (q := (1, .iload_n 2, 1)) rfl) rfl rfl 2 rfl ?_
  refine k_icmp_ne C (tgt := 168) (pc2 := 5) (dkAt dkX8_seekFair 2 (q := (2, .if_icmp .ne 166, 3)) rfl) (by decide) rfl h (fun h => ?_) (fun h => ?_)
  · refine k_iload_n C (pc2 := 169) (dkAt dkX8_seekFair 83 (q := (168, .iload_n 3, 1)) rfl) rfl rfl 3 rfl ?_
    refine k_istore C (pc2 := 171) (dkAt dkX8_seekFair 84 (q := (169, .istore 4, 2)) rfl) rfl (by decide) (lv2 := [(4, .int x3), (0, rA G o0), (1, .int x1), (2, .int x2), (3, .int x3)]) rfl ?_
    refine k_lv [1, 2, 3, 0] (lv2 := [(0, rA G o0), (1, .int x1), (2, .int x2), (4, .int x3)]) rfl ?_
    obtain ⟨M7, e6, h⟩ := ob_inv h
    refine kl_X8_seekFair2_L171 C o0 h0 x1 x2 M7 ?_ 1000 x3 M e6
    exact k_vret C (dkAt dkX8_seekFair 105 (q := (206, .return_, 1)) rfl) rfl (Option.some.inj h) rfl
  · refine k_iconst C (pc2 := 6) (dkAt dkX8_seekFair 3 (q := (5, .iconst 0, 1)) rfl) rfl (v := 0) rfl ?_
    refine k_istore C (pc2 := 8) (dkAt dkX8_seekFair 4 (q := (6, .istore 4, 2)) rfl) rfl (by decide) (lv2 := [(4, .int 0), (0, rA G o0), (1, .int x1), (2, .int x2), (3, .int x3)]) rfl ?_
    refine k_iconst C (pc2 := 9) (dkAt dkX8_seekFair 5 (q := (8, .iconst 0, 1)) rfl) rfl (v := 0) rfl ?_
    refine k_istore C (pc2 := 11) (dkAt dkX8_seekFair 6 (q := (9, .istore 5, 2)) rfl) rfl (by decide) (lv2 := [(5, .int 0), (4, .int 0), (0, rA G o0), (1, .int x1), (2, .int x2), (3, .int x3)]) rfl ?_
    refine k_iconst C (pc2 := 12) (dkAt dkX8_seekFair 7 (q := (11, .iconst 0, 1)) rfl) rfl (v := 0) rfl ?_
    refine k_istore C (pc2 := 14) (dkAt dkX8_seekFair 8 (q := (12, .istore 6, 2)) rfl) rfl (by decide) (lv2 := [(6, .int 0), (5, .int 0), (4, .int 0), (0, rA G o0), (1, .int x1), (2, .int x2), (3, .int x3)]) rfl ?_
    refine k_lv [3, 5, 2, 1, 0] (lv2 := [(0, rA G o0), (2, .int x2), (4, .int 0), (5, .int 0), (6, .int 0)]) rfl ?_
    obtain ⟨v26, v27, e25, h⟩ := ob2_inv h
    refine kl_X8_seekFair2_L14 C o0 h0 x2 M v26 v27 ?_ 1000 0 0 0 e25
    refine k_aload_n C (pc2 := 110) (dkAt dkX8_seekFair 55 (q := (109, .aload_n 0, 1)) rfl) rfl rfl 0 rfl ?_
    refine kf_X8_319 C (pc2 := 113) (o := o0) (o2 := 0) h0.1 (dkAt dkX8_seekFair 56 (q := (110, .getfield 319, 3)) rfl) rfl ?_
    refine k_iconst C (pc2 := 114) (dkAt dkX8_seekFair 57 (q := (113, .iconst (-1), 1)) rfl) rfl (v := (-1)) rfl ?_
    refine k_icmp_eq C (tgt := 144) (pc2 := 117) (dkAt dkX8_seekFair 58 (q := (114, .if_icmp .eq 30, 3)) rfl) (by decide) rfl h (fun h => ?_) (fun h => ?_)
    · refine k_aload_n C (pc2 := 145) (dkAt dkX8_seekFair 71 (q := (144, .aload_n 0, 1)) rfl) rfl rfl 0 rfl ?_
      refine k_iload C (pc2 := 147) (dkAt dkX8_seekFair 72 (q := (145, .iload 4, 2)) rfl) rfl 1 rfl ?_
      refine kp_X8_319 C (pc2 := 150) (o := o0) h0.1 (dkAt dkX8_seekFair 73 (q := (147, .putfield 319, 3)) rfl) rfl h (fun M28 h => ?_)
      refine k_aload_n C (pc2 := 151) (dkAt dkX8_seekFair 74 (q := (150, .aload_n 0, 1)) rfl) rfl rfl 0 rfl ?_
      refine k_iload C (pc2 := 153) (dkAt dkX8_seekFair 75 (q := (151, .iload 5, 2)) rfl) rfl 2 rfl ?_
      refine kp_X8_322 C (pc2 := 156) (o := o0) h0.1 (dkAt dkX8_seekFair 76 (q := (153, .putfield 322, 3)) rfl) rfl h (fun M29 h => ?_)
      refine k_aload_n C (pc2 := 157) (dkAt dkX8_seekFair 77 (q := (156, .aload_n 0, 1)) rfl) rfl rfl 0 rfl ?_
      refine kf_X8_76 C (pc2 := 160) (o := o0) (o2 := o0 + 35) h0.1 rfl (dkAt dkX8_seekFair 78 (q := (157, .getfield 76, 3)) rfl) rfl ?_
      refine k_aload_n C (pc2 := 161) (dkAt dkX8_seekFair 79 (q := (160, .aload_n 0, 1)) rfl) rfl rfl 0 rfl ?_
      refine kf_X8_79 C (pc2 := 164) (o := o0) (o2 := o0 + 36) h0.1 rfl (dkAt dkX8_seekFair 80 (q := (161, .getfield 79, 3)) rfl) rfl ?_
      obtain ⟨q30, e31, h⟩ := ob_inv h
      refine kc_S C (As := [rA G (o0 + 35), rA G (o0 + 36)]) (st2 := []) (ct_X8_copied l G sh xs 3 (o0 + 35) (isM_now h0) (o0 + 36) (isM_bestRow h0) M29 q30 e31) (cl_X8_325 (hts_of C) ⟨Nat.le_of_ble_eq_true rfl, Nat.le_of_ble_eq_true rfl⟩ rfl rfl) rfl rfl (Nat.le_of_ble_eq_true rfl) (dkAt dkX8_seekFair 81 (q := (164, .invokestatic 325, 3)) rfl) ⟨Nat.zero_le _, Nat.zero_le _⟩ (pc2 := 167) rfl rfl ?_
      exact k_vret C (dkAt dkX8_seekFair 82 (q := (167, .return_, 1)) rfl) rfl (Option.some.inj h) rfl
    · refine k_iload C (pc2 := 119) (dkAt dkX8_seekFair 59 (q := (117, .iload 4, 2)) rfl) rfl 1 rfl ?_
      refine k_aload_n C (pc2 := 120) (dkAt dkX8_seekFair 60 (q := (119, .aload_n 0, 1)) rfl) rfl rfl 0 rfl ?_
      refine kf_X8_319 C (pc2 := 123) (o := o0) (o2 := 0) h0.1 (dkAt dkX8_seekFair 61 (q := (120, .getfield 319, 3)) rfl) rfl ?_
      refine k_icmp_lt C (tgt := 144) (pc2 := 126) (dkAt dkX8_seekFair 62 (q := (123, .if_icmp .lt 21, 3)) rfl) (by decide) rfl h (fun h => ?_) (fun h => ?_)
      · refine k_aload_n C (pc2 := 145) (dkAt dkX8_seekFair 71 (q := (144, .aload_n 0, 1)) rfl) rfl rfl 0 rfl ?_
        refine k_iload C (pc2 := 147) (dkAt dkX8_seekFair 72 (q := (145, .iload 4, 2)) rfl) rfl 1 rfl ?_
        refine kp_X8_319 C (pc2 := 150) (o := o0) h0.1 (dkAt dkX8_seekFair 73 (q := (147, .putfield 319, 3)) rfl) rfl h (fun M32 h => ?_)
        refine k_aload_n C (pc2 := 151) (dkAt dkX8_seekFair 74 (q := (150, .aload_n 0, 1)) rfl) rfl rfl 0 rfl ?_
        refine k_iload C (pc2 := 153) (dkAt dkX8_seekFair 75 (q := (151, .iload 5, 2)) rfl) rfl 2 rfl ?_
        refine kp_X8_322 C (pc2 := 156) (o := o0) h0.1 (dkAt dkX8_seekFair 76 (q := (153, .putfield 322, 3)) rfl) rfl h (fun M33 h => ?_)
        refine k_aload_n C (pc2 := 157) (dkAt dkX8_seekFair 77 (q := (156, .aload_n 0, 1)) rfl) rfl rfl 0 rfl ?_
        refine kf_X8_76 C (pc2 := 160) (o := o0) (o2 := o0 + 35) h0.1 rfl (dkAt dkX8_seekFair 78 (q := (157, .getfield 76, 3)) rfl) rfl ?_
        refine k_aload_n C (pc2 := 161) (dkAt dkX8_seekFair 79 (q := (160, .aload_n 0, 1)) rfl) rfl rfl 0 rfl ?_
        refine kf_X8_79 C (pc2 := 164) (o := o0) (o2 := o0 + 36) h0.1 rfl (dkAt dkX8_seekFair 80 (q := (161, .getfield 79, 3)) rfl) rfl ?_
        obtain ⟨q34, e35, h⟩ := ob_inv h
        refine kc_S C (As := [rA G (o0 + 35), rA G (o0 + 36)]) (st2 := []) (ct_X8_copied l G sh xs 3 (o0 + 35) (isM_now h0) (o0 + 36) (isM_bestRow h0) M33 q34 e35) (cl_X8_325 (hts_of C) ⟨Nat.le_of_ble_eq_true rfl, Nat.le_of_ble_eq_true rfl⟩ rfl rfl) rfl rfl (Nat.le_of_ble_eq_true rfl) (dkAt dkX8_seekFair 81 (q := (164, .invokestatic 325, 3)) rfl) ⟨Nat.zero_le _, Nat.zero_le _⟩ (pc2 := 167) rfl rfl ?_
        exact k_vret C (dkAt dkX8_seekFair 82 (q := (167, .return_, 1)) rfl) rfl (Option.some.inj h) rfl
      · refine k_iload C (pc2 := 128) (dkAt dkX8_seekFair 63 (q := (126, .iload 4, 2)) rfl) rfl 1 rfl ?_
        refine k_aload_n C (pc2 := 129) (dkAt dkX8_seekFair 64 (q := (128, .aload_n 0, 1)) rfl) rfl rfl 0 rfl ?_
        refine kf_X8_319 C (pc2 := 132) (o := o0) (o2 := 0) h0.1 (dkAt dkX8_seekFair 65 (q := (129, .getfield 319, 3)) rfl) rfl ?_
        refine k_icmp_ne C (tgt := 167) (pc2 := 135) (dkAt dkX8_seekFair 66 (q := (132, .if_icmp .ne 35, 3)) rfl) (by decide) rfl h (fun h => ?_) (fun h => ?_)
        · exact k_vret C (dkAt dkX8_seekFair 82 (q := (167, .return_, 1)) rfl) rfl (Option.some.inj h) rfl
        · refine k_iload C (pc2 := 137) (dkAt dkX8_seekFair 67 (q := (135, .iload 5, 2)) rfl) rfl 2 rfl ?_
          refine k_aload_n C (pc2 := 138) (dkAt dkX8_seekFair 68 (q := (137, .aload_n 0, 1)) rfl) rfl rfl 0 rfl ?_
          refine kf_X8_322 C (pc2 := 141) (o := o0) (o2 := 0) h0.1 (dkAt dkX8_seekFair 69 (q := (138, .getfield 322, 3)) rfl) rfl ?_
          refine k_icmp_ge C (tgt := 167) (pc2 := 144) (dkAt dkX8_seekFair 70 (q := (141, .if_icmp .ge 26, 3)) rfl) (by decide) rfl h (fun h => ?_) (fun h => ?_)
          · exact k_vret C (dkAt dkX8_seekFair 82 (q := (167, .return_, 1)) rfl) rfl (Option.some.inj h) rfl
          · refine k_aload_n C (pc2 := 145) (dkAt dkX8_seekFair 71 (q := (144, .aload_n 0, 1)) rfl) rfl rfl 0 rfl ?_
            refine k_iload C (pc2 := 147) (dkAt dkX8_seekFair 72 (q := (145, .iload 4, 2)) rfl) rfl 1 rfl ?_
            refine kp_X8_319 C (pc2 := 150) (o := o0) h0.1 (dkAt dkX8_seekFair 73 (q := (147, .putfield 319, 3)) rfl) rfl h (fun M36 h => ?_)
            refine k_aload_n C (pc2 := 151) (dkAt dkX8_seekFair 74 (q := (150, .aload_n 0, 1)) rfl) rfl rfl 0 rfl ?_
            refine k_iload C (pc2 := 153) (dkAt dkX8_seekFair 75 (q := (151, .iload 5, 2)) rfl) rfl 2 rfl ?_
            refine kp_X8_322 C (pc2 := 156) (o := o0) h0.1 (dkAt dkX8_seekFair 76 (q := (153, .putfield 322, 3)) rfl) rfl h (fun M37 h => ?_)
            refine k_aload_n C (pc2 := 157) (dkAt dkX8_seekFair 77 (q := (156, .aload_n 0, 1)) rfl) rfl rfl 0 rfl ?_
            refine kf_X8_76 C (pc2 := 160) (o := o0) (o2 := o0 + 35) h0.1 rfl (dkAt dkX8_seekFair 78 (q := (157, .getfield 76, 3)) rfl) rfl ?_
            refine k_aload_n C (pc2 := 161) (dkAt dkX8_seekFair 79 (q := (160, .aload_n 0, 1)) rfl) rfl rfl 0 rfl ?_
            refine kf_X8_79 C (pc2 := 164) (o := o0) (o2 := o0 + 36) h0.1 rfl (dkAt dkX8_seekFair 80 (q := (161, .getfield 79, 3)) rfl) rfl ?_
            obtain ⟨q38, e39, h⟩ := ob_inv h
            refine kc_S C (As := [rA G (o0 + 35), rA G (o0 + 36)]) (st2 := []) (ct_X8_copied l G sh xs 3 (o0 + 35) (isM_now h0) (o0 + 36) (isM_bestRow h0) M37 q38 e39) (cl_X8_325 (hts_of C) ⟨Nat.le_of_ble_eq_true rfl, Nat.le_of_ble_eq_true rfl⟩ rfl rfl) rfl rfl (Nat.le_of_ble_eq_true rfl) (dkAt dkX8_seekFair 81 (q := (164, .invokestatic 325, 3)) rfl) ⟨Nat.zero_le _, Nat.zero_le _⟩ (pc2 := 167) rfl rfl ?_
            exact k_vret C (dkAt dkX8_seekFair 82 (q := (167, .return_, 1)) rfl) rfl (Option.some.inj h) rfl
set_option maxRecDepth 100000 in
set_option maxHeartbeats 4000000 in
theorem kl_X8_seekFair3_L171 {p : Program} {l : Launch} {e : Env} {s : State} {m : MethodId} {args : Array Value} {below : List Frame} {meth : Method} {c : Code} {G : GG} {sh : Sh} {xs : List va_E} {Q : State → Prop} (C : Cx p s m c args meth G RX8 cX8_seekFair 9 none) (o0 : Nat) (h0 : isM sh o0) (x1 : Int32) (x2 : Int32) (M2 : Mm) (hcont : KW p l e rm_X8_seekFair3 s m args below meth c G 9 Q sh xs 0 0 M2 206 [] []) : ∀ (n : Nat) (x4 : Int32) (M : Mm), f_X8_seekFair3_L171 o0 x1 x2 n x4 M = some M2 → KW p l e rm_X8_seekFair3 s m args below meth c G 9 Q sh xs 0 0 M 171 [(0, rA G o0), (1, .int x1), (2, .int x2), (4, .int x4)] [] := by
  intro n
  induction n with
  | zero =>
    intro x4 M h
    cases h
  | succ n ih =>
    intro x4 M h
    unfold f_X8_seekFair3_L171 at h
    refine k_iload C (pc2 := 173) (dkAt dkX8_seekFair 85 (q := (171, .iload 4, 2)) rfl) rfl 3 rfl ?_
    refine k_aload_n C (pc2 := 174) (dkAt dkX8_seekFair 86 (q := (173, .aload_n 0, 1)) rfl) rfl rfl 0 rfl ?_
    refine kf_X8_37 C (pc2 := 177) (o := o0) (o2 := 0) h0.1 (dkAt dkX8_seekFair 87 (q := (174, .getfield 37, 3)) rfl) rfl ?_
    refine k_icmp_ge C (tgt := 206) (pc2 := 180) (dkAt dkX8_seekFair 88 (q := (177, .if_icmp .ge 29, 3)) rfl) (by decide) rfl h (fun h => ?_) (fun h => ?_)
    · refine k_lv [] (lv2 := []) rfl ?_
      cases h
      exact hcont
    · refine k_aload_n C (pc2 := 181) (dkAt dkX8_seekFair 89 (q := (180, .aload_n 0, 1)) rfl) rfl rfl 0 rfl ?_
      refine kf_X8_76 C (pc2 := 184) (o := o0) (o2 := o0 + 35) h0.1 rfl (dkAt dkX8_seekFair 90 (q := (181, .getfield 76, 3)) rfl) rfl ?_
      refine k_iload_n C (pc2 := 185) (dkAt dkX8_seekFair 91 (q := (184, .iload_n 1, 1)) rfl) rfl rfl 1 rfl ?_
      refine k_iload C (pc2 := 187) (dkAt dkX8_seekFair 92 (q := (185, .iload 4, 2)) rfl) rfl 3 rfl ?_
      refine k_iast C (pc2 := 188) (o := o0 + 35) (nA := 3) (isM_now h0) (dkAt dkX8_seekFair 93 (q := (187, .iastore, 1)) rfl) rfl h (fun M1 h => ?_)
      refine k_aload_n C (pc2 := 189) (dkAt dkX8_seekFair 94 (q := (188, .aload_n 0, 1)) rfl) rfl rfl 0 rfl ?_
      refine k_iload_n C (pc2 := 190) (dkAt dkX8_seekFair 95 (q := (189, .iload_n 1, 1)) rfl) rfl rfl 1 rfl ?_
      refine k_iconst C (pc2 := 191) (dkAt dkX8_seekFair 96 (q := (190, .iconst 1, 1)) rfl) rfl (v := 1) rfl ?_
      refine k_iadd C (pc2 := 192) (dkAt dkX8_seekFair 97 (q := (191, .iadd, 1)) rfl) rfl ?_
      refine k_iload_n C (pc2 := 193) (dkAt dkX8_seekFair 98 (q := (192, .iload_n 2, 1)) rfl) rfl rfl 2 rfl ?_
      refine k_iload C (pc2 := 195) (dkAt dkX8_seekFair 99 (q := (193, .iload 4, 2)) rfl) rfl 3 rfl ?_
      refine k_iconst C (pc2 := 196) (dkAt dkX8_seekFair 100 (q := (195, .iconst 1, 1)) rfl) rfl (v := 1) rfl ?_
      refine k_iadd C (pc2 := 197) (dkAt dkX8_seekFair 101 (q := (196, .iadd, 1)) rfl) rfl ?_
      obtain ⟨q2, e3, h⟩ := ob_inv h
      refine kc_V C (As := [.int (x1 + 1), .int x2, .int (x4 + 1)]) (st2 := []) (ct_X8_seekFair2 l G sh xs o0 h0 (x1 + 1) x2 (x4 + 1) M1 q2 e3) (cl_X8_329 (hts_of C) ⟨Nat.le_of_ble_eq_true rfl, Nat.le_of_ble_eq_true rfl⟩ rfl rfl) h0.1 rfl rfl rfl rfl rfl (Nat.le_of_ble_eq_true rfl) (dkAt dkX8_seekFair 102 (q := (197, .invokevirtual 329, 3)) rfl) ⟨Nat.zero_le _, Nat.zero_le _⟩ (pc2 := 200) rfl rfl ?_
      refine kb_iinc C (pc2 := 203) (dkAt dkX8_seekFair 103 (q := (200, .iinc 4 1, 3)) rfl) rfl (j := 3) rfl (v := x4 + 1) rfl (by decide) (lv2 := fun v4 => [(4, .int v4), (0, rA G o0), (1, .int x1), (2, .int x2)]) (fun _ => rfl) h (fun v4 h => ?_)
      refine k_goto C (tgt := 171) (dkAt dkX8_seekFair 104 (q := (203, .goto (-32), 3)) rfl) (by decide) ?_
      refine k_lv [1, 2, 3, 0] (lv2 := [(0, rA G o0), (1, .int x1), (2, .int x2), (4, .int v4)]) rfl ?_
      exact ih v4 q2 h
set_option maxRecDepth 100000 in
set_option maxHeartbeats 4000000 in
theorem kl_X8_seekFair3_L35 {p : Program} {l : Launch} {e : Env} {s : State} {m : MethodId} {args : Array Value} {below : List Frame} {meth : Method} {c : Code} {G : GG} {sh : Sh} {xs : List va_E} {Q : State → Prop} (C : Cx p s m c args meth G RX8 cX8_seekFair 9 none) (o0 : Nat) (h0 : isM sh o0) (x2 : Int32) (x4 : Int32) (x5 : Int32) (x6 : Int32) (M : Mm) (y7 : Int32) (hcont : KW p l e rm_X8_seekFair3 s m args below meth c G 9 Q sh xs 0 0 M 80 [(0, rA G o0), (2, .int x2), (4, .int x4), (5, .int x5), (6, .int x6), (7, .int y7)] []) : ∀ (n : Nat) (x7 : Int32) (x8 : Int32), f_X8_seekFair3_L35 o0 x2 x4 x5 x6 M n x7 x8 = some y7 → KW p l e rm_X8_seekFair3 s m args below meth c G 9 Q sh xs 0 0 M 35 [(0, rA G o0), (2, .int x2), (4, .int x4), (5, .int x5), (6, .int x6), (7, .int x7), (8, .int x8)] [] := by
  intro n
  induction n with
  | zero =>
    intro x7 x8 h
    cases h
  | succ n ih =>
    intro x7 x8 h
    unfold f_X8_seekFair3_L35 at h
    refine k_iload C (pc2 := 37) (dkAt dkX8_seekFair 20 (q := (35, .iload 8, 2)) rfl) rfl 6 rfl ?_
    refine k_iload_n C (pc2 := 38) (dkAt dkX8_seekFair 21 (q := (37, .iload_n 2, 1)) rfl) rfl rfl 1 rfl ?_
    refine k_icmp_ge C (tgt := 80) (pc2 := 41) (dkAt dkX8_seekFair 22 (q := (38, .if_icmp .ge 42, 3)) rfl) (by decide) rfl h (fun h => ?_) (fun h => ?_)
    · refine k_lv [0, 1, 2, 3, 4, 5] (lv2 := [(0, rA G o0), (2, .int x2), (4, .int x4), (5, .int x5), (6, .int x6), (7, .int x7)]) rfl ?_
      cases h
      exact hcont
    · refine k_iload C (pc2 := 43) (dkAt dkX8_seekFair 23 (q := (41, .iload 7, 2)) rfl) rfl 5 rfl ?_
      refine k_aload_n C (pc2 := 44) (dkAt dkX8_seekFair 24 (q := (43, .aload_n 0, 1)) rfl) rfl rfl 0 rfl ?_
      refine k_iload C (pc2 := 46) (dkAt dkX8_seekFair 25 (q := (44, .iload 6, 2)) rfl) rfl 4 rfl ?_
      refine k_aload_n C (pc2 := 47) (dkAt dkX8_seekFair 26 (q := (46, .aload_n 0, 1)) rfl) rfl rfl 0 rfl ?_
      refine kf_X8_76 C (pc2 := 50) (o := o0) (o2 := o0 + 35) h0.1 rfl (dkAt dkX8_seekFair 27 (q := (47, .getfield 76, 3)) rfl) rfl ?_
      refine k_iload C (pc2 := 52) (dkAt dkX8_seekFair 28 (q := (50, .iload 8, 2)) rfl) rfl 6 rfl ?_
      refine k_iald C (pc2 := 53) (o := o0 + 35) (nA := 3) (isM_now h0) (dkAt dkX8_seekFair 29 (q := (52, .iaload, 1)) rfl) rfl h (fun h => ?_)
      obtain ⟨q9, e10, h⟩ := ob_inv h
      refine kc_V C (As := [.int x6, .int (M.1 (o0 + 35) x8.toNatClampNeg)]) (st2 := [.int q9, .int x7]) (ct_X8_isFree l G sh xs o0 h0 x6 (M.1 (o0 + 35) x8.toNatClampNeg) M q9 e10) (cl_X8_139 (hts_of C) ⟨Nat.le_of_ble_eq_true rfl, Nat.le_of_ble_eq_true rfl⟩ rfl rfl) h0.1 rfl rfl rfl rfl rfl (Nat.le_of_ble_eq_true rfl) (dkAt dkX8_seekFair 30 (q := (53, .invokevirtual 139, 3)) rfl) ⟨Nat.zero_le _, Nat.zero_le _⟩ (pc2 := 56) rfl rfl ?_
      refine k_if_ne C (tgt := 66) (pc2 := 59) (dkAt dkX8_seekFair 31 (q := (56, .ifCond .ne 10, 3)) rfl) (by decide) rfl h (fun h => ?_) (fun h => ?_)
      · refine k_iconst C (pc2 := 67) (dkAt dkX8_seekFair 35 (q := (66, .iconst 0, 1)) rfl) rfl (v := 0) rfl ?_
        refine k_goto C (tgt := 71) (dkAt dkX8_seekFair 36 (q := (67, .goto 4, 3)) rfl) (by decide) ?_
        refine k_iadd C (pc2 := 72) (dkAt dkX8_seekFair 38 (q := (71, .iadd, 1)) rfl) rfl ?_
        refine kb_istore C (pc2 := 74) (dkAt dkX8_seekFair 39 (q := (72, .istore 7, 2)) rfl) rfl (by decide) (lv2 := fun v11 => [(7, .int v11), (0, rA G o0), (2, .int x2), (4, .int x4), (5, .int x5), (6, .int x6), (8, .int x8)]) (fun _ => rfl) h (fun v11 h => ?_)
        refine kb_iinc C (pc2 := 77) (dkAt dkX8_seekFair 40 (q := (74, .iinc 8 1, 3)) rfl) rfl (j := 6) rfl (v := x8 + 1) rfl (by decide) (lv2 := fun v12 => [(8, .int v12), (7, .int v11), (0, rA G o0), (2, .int x2), (4, .int x4), (5, .int x5), (6, .int x6)]) (fun _ => rfl) h (fun v12 h => ?_)
        refine k_goto C (tgt := 35) (dkAt dkX8_seekFair 41 (q := (77, .goto (-42), 3)) rfl) (by decide) ?_
        refine k_lv [2, 3, 4, 5, 6, 1, 0] (lv2 := [(0, rA G o0), (2, .int x2), (4, .int x4), (5, .int x5), (6, .int x6), (7, .int v11), (8, .int v12)]) rfl ?_
        exact ih v11 v12 h
      · refine k_iload C (pc2 := 61) (dkAt dkX8_seekFair 32 (q := (59, .iload 7, 2)) rfl) rfl 5 rfl ?_
        refine k_bipush C (pc2 := 63) (dkAt dkX8_seekFair 33 (q := (61, .bipush 99, 2)) rfl) rfl (v := 99) rfl ?_
        refine k_icmp_ne C (tgt := 70) (pc2 := 66) (dkAt dkX8_seekFair 34 (q := (63, .if_icmp .ne 7, 3)) rfl) (by decide) rfl h (fun h => ?_) (fun h => ?_)
        · refine k_iconst C (pc2 := 71) (dkAt dkX8_seekFair 37 (q := (70, .iconst 1, 1)) rfl) rfl (v := 1) rfl ?_
          refine k_iadd C (pc2 := 72) (dkAt dkX8_seekFair 38 (q := (71, .iadd, 1)) rfl) rfl ?_
          refine kb_istore C (pc2 := 74) (dkAt dkX8_seekFair 39 (q := (72, .istore 7, 2)) rfl) rfl (by decide) (lv2 := fun v13 => [(7, .int v13), (0, rA G o0), (2, .int x2), (4, .int x4), (5, .int x5), (6, .int x6), (8, .int x8)]) (fun _ => rfl) h (fun v13 h => ?_)
          refine kb_iinc C (pc2 := 77) (dkAt dkX8_seekFair 40 (q := (74, .iinc 8 1, 3)) rfl) rfl (j := 6) rfl (v := x8 + 1) rfl (by decide) (lv2 := fun v14 => [(8, .int v14), (7, .int v13), (0, rA G o0), (2, .int x2), (4, .int x4), (5, .int x5), (6, .int x6)]) (fun _ => rfl) h (fun v14 h => ?_)
          refine k_goto C (tgt := 35) (dkAt dkX8_seekFair 41 (q := (77, .goto (-42), 3)) rfl) (by decide) ?_
          refine k_lv [2, 3, 4, 5, 6, 1, 0] (lv2 := [(0, rA G o0), (2, .int x2), (4, .int x4), (5, .int x5), (6, .int x6), (7, .int v13), (8, .int v14)]) rfl ?_
          exact ih v13 v14 h
        · refine k_iconst C (pc2 := 67) (dkAt dkX8_seekFair 35 (q := (66, .iconst 0, 1)) rfl) rfl (v := 0) rfl ?_
          refine k_goto C (tgt := 71) (dkAt dkX8_seekFair 36 (q := (67, .goto 4, 3)) rfl) (by decide) ?_
          refine k_iadd C (pc2 := 72) (dkAt dkX8_seekFair 38 (q := (71, .iadd, 1)) rfl) rfl ?_
          refine kb_istore C (pc2 := 74) (dkAt dkX8_seekFair 39 (q := (72, .istore 7, 2)) rfl) rfl (by decide) (lv2 := fun v15 => [(7, .int v15), (0, rA G o0), (2, .int x2), (4, .int x4), (5, .int x5), (6, .int x6), (8, .int x8)]) (fun _ => rfl) h (fun v15 h => ?_)
          refine kb_iinc C (pc2 := 77) (dkAt dkX8_seekFair 40 (q := (74, .iinc 8 1, 3)) rfl) rfl (j := 6) rfl (v := x8 + 1) rfl (by decide) (lv2 := fun v16 => [(8, .int v16), (7, .int v15), (0, rA G o0), (2, .int x2), (4, .int x4), (5, .int x5), (6, .int x6)]) (fun _ => rfl) h (fun v16 h => ?_)
          refine k_goto C (tgt := 35) (dkAt dkX8_seekFair 41 (q := (77, .goto (-42), 3)) rfl) (by decide) ?_
          refine k_lv [2, 3, 4, 5, 6, 1, 0] (lv2 := [(0, rA G o0), (2, .int x2), (4, .int x4), (5, .int x5), (6, .int x6), (7, .int v15), (8, .int v16)]) rfl ?_
          exact ih v15 v16 h
set_option maxRecDepth 100000 in
set_option maxHeartbeats 4000000 in
theorem kl_X8_seekFair3_L14 {p : Program} {l : Launch} {e : Env} {s : State} {m : MethodId} {args : Array Value} {below : List Frame} {meth : Method} {c : Code} {G : GG} {sh : Sh} {xs : List va_E} {Q : State → Prop} (C : Cx p s m c args meth G RX8 cX8_seekFair 9 none) (o0 : Nat) (h0 : isM sh o0) (x2 : Int32) (M : Mm) (y4 : Int32) (y5 : Int32) (hcont : KW p l e rm_X8_seekFair3 s m args below meth c G 9 Q sh xs 0 0 M 109 [(0, rA G o0), (4, .int y4), (5, .int y5)] []) : ∀ (n : Nat) (x4 : Int32) (x5 : Int32) (x6 : Int32), f_X8_seekFair3_L14 o0 x2 M n x4 x5 x6 = some (y4, y5) → KW p l e rm_X8_seekFair3 s m args below meth c G 9 Q sh xs 0 0 M 14 [(0, rA G o0), (2, .int x2), (4, .int x4), (5, .int x5), (6, .int x6)] [] := by
  intro n
  induction n with
  | zero =>
    intro x4 x5 x6 h
    cases h
  | succ n ih =>
    intro x4 x5 x6 h
    unfold f_X8_seekFair3_L14 at h
    refine k_iload C (pc2 := 16) (dkAt dkX8_seekFair 9 (q := (14, .iload 6, 2)) rfl) rfl 4 rfl ?_
    refine k_aload_n C (pc2 := 17) (dkAt dkX8_seekFair 10 (q := (16, .aload_n 0, 1)) rfl) rfl rfl 0 rfl ?_
    refine kf_X8_82 C (pc2 := 20) (o := o0) (o2 := 0) h0.1 (dkAt dkX8_seekFair 11 (q := (17, .getfield 82, 3)) rfl) rfl ?_
    refine k_icmp_ge C (tgt := 109) (pc2 := 23) (dkAt dkX8_seekFair 12 (q := (20, .if_icmp .ge 89, 3)) rfl) (by decide) rfl h (fun h => ?_) (fun h => ?_)
    · refine k_lv [0, 2, 3] (lv2 := [(0, rA G o0), (4, .int x4), (5, .int x5)]) rfl ?_
      cases h
      exact hcont
    · refine k_aload_n C (pc2 := 24) (dkAt dkX8_seekFair 13 (q := (23, .aload_n 0, 1)) rfl) rfl rfl 0 rfl ?_
      refine kf_X8_53 C (pc2 := 27) (o := o0) (o2 := o0 + 21) h0.1 rfl (dkAt dkX8_seekFair 14 (q := (24, .getfield 53, 3)) rfl) rfl ?_
      refine k_iload C (pc2 := 29) (dkAt dkX8_seekFair 15 (q := (27, .iload 6, 2)) rfl) rfl 4 rfl ?_
      refine k_iald C (pc2 := 30) (o := o0 + 21) (nA := 8) (isM_left h0) (dkAt dkX8_seekFair 16 (q := (29, .iaload, 1)) rfl) rfl h (fun h => ?_)
      refine kb_istore C (pc2 := 32) (dkAt dkX8_seekFair 17 (q := (30, .istore 7, 2)) rfl) rfl (by decide) (lv2 := fun v8 => [(7, .int v8), (0, rA G o0), (2, .int x2), (4, .int x4), (5, .int x5), (6, .int x6)]) (fun _ => rfl) h (fun v8 h => ?_)
      refine k_iconst C (pc2 := 33) (dkAt dkX8_seekFair 18 (q := (32, .iconst 0, 1)) rfl) rfl (v := 0) rfl ?_
      refine k_istore C (pc2 := 35) (dkAt dkX8_seekFair 19 (q := (33, .istore 8, 2)) rfl) rfl (by decide) (lv2 := [(8, .int 0), (7, .int v8), (0, rA G o0), (2, .int x2), (4, .int x4), (5, .int x5), (6, .int x6)]) rfl ?_
      refine k_lv [2, 3, 4, 5, 6, 1, 0] (lv2 := [(0, rA G o0), (2, .int x2), (4, .int x4), (5, .int x5), (6, .int x6), (7, .int v8), (8, .int 0)]) rfl ?_
      obtain ⟨v19, e18, h⟩ := ob_inv h
      refine kl_X8_seekFair3_L35 C o0 h0 x2 x4 x5 x6 M v19 ?_ 1000 v8 0 e18
      refine k_iload C (pc2 := 82) (dkAt dkX8_seekFair 42 (q := (80, .iload 7, 2)) rfl) rfl 5 rfl ?_
      refine k_iload C (pc2 := 84) (dkAt dkX8_seekFair 43 (q := (82, .iload 4, 2)) rfl) rfl 2 rfl ?_
      refine k_icmp_le C (tgt := 92) (pc2 := 87) (dkAt dkX8_seekFair 44 (q := (84, .if_icmp .le 8, 3)) rfl) (by decide) rfl h (fun h => ?_) (fun h => ?_)
      · refine k_iload C (pc2 := 94) (dkAt dkX8_seekFair 47 (q := (92, .iload 4, 2)) rfl) rfl 2 rfl ?_
        refine k_istore C (pc2 := 96) (dkAt dkX8_seekFair 48 (q := (94, .istore 4, 2)) rfl) rfl (by decide) (lv2 := [(4, .int x4), (0, rA G o0), (2, .int x2), (5, .int x5), (6, .int x6), (7, .int v19)]) rfl ?_
        refine k_iload C (pc2 := 98) (dkAt dkX8_seekFair 49 (q := (96, .iload 5, 2)) rfl) rfl 3 rfl ?_
        refine k_iload C (pc2 := 100) (dkAt dkX8_seekFair 50 (q := (98, .iload 7, 2)) rfl) rfl 5 rfl ?_
        refine k_iadd C (pc2 := 101) (dkAt dkX8_seekFair 51 (q := (100, .iadd, 1)) rfl) rfl ?_
        refine kb_istore C (pc2 := 103) (dkAt dkX8_seekFair 52 (q := (101, .istore 5, 2)) rfl) rfl (by decide) (lv2 := fun v20 => [(5, .int v20), (4, .int x4), (0, rA G o0), (2, .int x2), (6, .int x6), (7, .int v19)]) (fun _ => rfl) h (fun v20 h => ?_)
        refine kb_iinc C (pc2 := 106) (dkAt dkX8_seekFair 53 (q := (103, .iinc 6 1, 3)) rfl) rfl (j := 4) rfl (v := x6 + 1) rfl (by decide) (lv2 := fun v21 => [(6, .int v21), (5, .int v20), (4, .int x4), (0, rA G o0), (2, .int x2), (7, .int v19)]) (fun _ => rfl) h (fun v21 h => ?_)
        refine k_goto C (tgt := 14) (dkAt dkX8_seekFair 54 (q := (106, .goto (-92), 3)) rfl) (by decide) ?_
        refine k_lv [3, 4, 2, 1, 0] (lv2 := [(0, rA G o0), (2, .int x2), (4, .int x4), (5, .int v20), (6, .int v21)]) rfl ?_
        exact ih x4 v20 v21 h
      · refine k_iload C (pc2 := 89) (dkAt dkX8_seekFair 45 (q := (87, .iload 7, 2)) rfl) rfl 5 rfl ?_
        refine k_goto C (tgt := 94) (dkAt dkX8_seekFair 46 (q := (89, .goto 5, 3)) rfl) (by decide) ?_
        refine k_istore C (pc2 := 96) (dkAt dkX8_seekFair 48 (q := (94, .istore 4, 2)) rfl) rfl (by decide) (lv2 := [(4, .int v19), (0, rA G o0), (2, .int x2), (5, .int x5), (6, .int x6), (7, .int v19)]) rfl ?_
        refine k_iload C (pc2 := 98) (dkAt dkX8_seekFair 49 (q := (96, .iload 5, 2)) rfl) rfl 3 rfl ?_
        refine k_iload C (pc2 := 100) (dkAt dkX8_seekFair 50 (q := (98, .iload 7, 2)) rfl) rfl 5 rfl ?_
        refine k_iadd C (pc2 := 101) (dkAt dkX8_seekFair 51 (q := (100, .iadd, 1)) rfl) rfl ?_
        refine kb_istore C (pc2 := 103) (dkAt dkX8_seekFair 52 (q := (101, .istore 5, 2)) rfl) rfl (by decide) (lv2 := fun v22 => [(5, .int v22), (4, .int v19), (0, rA G o0), (2, .int x2), (6, .int x6), (7, .int v19)]) (fun _ => rfl) h (fun v22 h => ?_)
        refine kb_iinc C (pc2 := 106) (dkAt dkX8_seekFair 53 (q := (103, .iinc 6 1, 3)) rfl) rfl (j := 4) rfl (v := x6 + 1) rfl (by decide) (lv2 := fun v23 => [(6, .int v23), (5, .int v22), (4, .int v19), (0, rA G o0), (2, .int x2), (7, .int v19)]) (fun _ => rfl) h (fun v23 h => ?_)
        refine k_goto C (tgt := 14) (dkAt dkX8_seekFair 54 (q := (106, .goto (-92), 3)) rfl) (by decide) ?_
        refine k_lv [3, 4, 2, 1, 0] (lv2 := [(0, rA G o0), (2, .int x2), (4, .int v19), (5, .int v22), (6, .int v23)]) rfl ?_
        exact ih v19 v22 v23 h
set_option maxRecDepth 100000 in
set_option maxHeartbeats 4000000 in
theorem ct_X8_seekFair3 (l : Launch) (G : GG) (sh : Sh) (xs : List va_E) (o0 : Nat) (h0 : isM sh o0) (x1 : Int32) (x2 : Int32) (x3 : Int32) (M : Mm) (r : Mm) (h : f_X8_seekFair3 o0 x1 x2 x3 M = some r) : Ct l yX8_seekFair cX8_seekFair 9 none rm_X8_seekFair3 G [rA G o0, .int x1, .int x2, .int x3] sh M xs none sh r xs 0 0 := by
  refine ct_of (by decide) (Nat.le_of_ble_eq_true rfl) ?_
  intro p e s m args below meth c hnm C
  refine k_lv [0, 1, 2, 3] (lv2 := [(0, rA G o0), (1, .int x1), (2, .int x2), (3, .int x3)]) rfl ?_
  unfold f_X8_seekFair3 at h
  refine k_iload_n C (pc2 := 1) (dkAt dkX8_seekFair 0 (q := (0, .iload_n 1, 1)) rfl) rfl rfl 1 rfl ?_
  refine k_iload_n C (pc2 := 2) (dkAt dkX8_seekFair 1 (q := (1, .iload_n 2, 1)) rfl) rfl rfl 2 rfl ?_
  refine k_icmp_ne C (tgt := 168) (pc2 := 5) (dkAt dkX8_seekFair 2 (q := (2, .if_icmp .ne 166, 3)) rfl) (by decide) rfl h (fun h => ?_) (fun h => ?_)
  · refine k_iload_n C (pc2 := 169) (dkAt dkX8_seekFair 83 (q := (168, .iload_n 3, 1)) rfl) rfl rfl 3 rfl ?_
    refine k_istore C (pc2 := 171) (dkAt dkX8_seekFair 84 (q := (169, .istore 4, 2)) rfl) rfl (by decide) (lv2 := [(4, .int x3), (0, rA G o0), (1, .int x1), (2, .int x2), (3, .int x3)]) rfl ?_
    refine k_lv [1, 2, 3, 0] (lv2 := [(0, rA G o0), (1, .int x1), (2, .int x2), (4, .int x3)]) rfl ?_
    obtain ⟨M7, e6, h⟩ := ob_inv h
    refine kl_X8_seekFair3_L171 C o0 h0 x1 x2 M7 ?_ 1000 x3 M e6
    exact k_vret C (dkAt dkX8_seekFair 105 (q := (206, .return_, 1)) rfl) rfl (Option.some.inj h) rfl
  · refine k_iconst C (pc2 := 6) (dkAt dkX8_seekFair 3 (q := (5, .iconst 0, 1)) rfl) rfl (v := 0) rfl ?_
    refine k_istore C (pc2 := 8) (dkAt dkX8_seekFair 4 (q := (6, .istore 4, 2)) rfl) rfl (by decide) (lv2 := [(4, .int 0), (0, rA G o0), (1, .int x1), (2, .int x2), (3, .int x3)]) rfl ?_
    refine k_iconst C (pc2 := 9) (dkAt dkX8_seekFair 5 (q := (8, .iconst 0, 1)) rfl) rfl (v := 0) rfl ?_
    refine k_istore C (pc2 := 11) (dkAt dkX8_seekFair 6 (q := (9, .istore 5, 2)) rfl) rfl (by decide) (lv2 := [(5, .int 0), (4, .int 0), (0, rA G o0), (1, .int x1), (2, .int x2), (3, .int x3)]) rfl ?_
    refine k_iconst C (pc2 := 12) (dkAt dkX8_seekFair 7 (q := (11, .iconst 0, 1)) rfl) rfl (v := 0) rfl ?_
    refine k_istore C (pc2 := 14) (dkAt dkX8_seekFair 8 (q := (12, .istore 6, 2)) rfl) rfl (by decide) (lv2 := [(6, .int 0), (5, .int 0), (4, .int 0), (0, rA G o0), (1, .int x1), (2, .int x2), (3, .int x3)]) rfl ?_
    refine k_lv [3, 5, 2, 1, 0] (lv2 := [(0, rA G o0), (2, .int x2), (4, .int 0), (5, .int 0), (6, .int 0)]) rfl ?_
    obtain ⟨v26, v27, e25, h⟩ := ob2_inv h
    refine kl_X8_seekFair3_L14 C o0 h0 x2 M v26 v27 ?_ 1000 0 0 0 e25
    refine k_aload_n C (pc2 := 110) (dkAt dkX8_seekFair 55 (q := (109, .aload_n 0, 1)) rfl) rfl rfl 0 rfl ?_
    refine kf_X8_319 C (pc2 := 113) (o := o0) (o2 := 0) h0.1 (dkAt dkX8_seekFair 56 (q := (110, .getfield 319, 3)) rfl) rfl ?_
    refine k_iconst C (pc2 := 114) (dkAt dkX8_seekFair 57 (q := (113, .iconst (-1), 1)) rfl) rfl (v := (-1)) rfl ?_
    refine k_icmp_eq C (tgt := 144) (pc2 := 117) (dkAt dkX8_seekFair 58 (q := (114, .if_icmp .eq 30, 3)) rfl) (by decide) rfl h (fun h => ?_) (fun h => ?_)
    · refine k_aload_n C (pc2 := 145) (dkAt dkX8_seekFair 71 (q := (144, .aload_n 0, 1)) rfl) rfl rfl 0 rfl ?_
      refine k_iload C (pc2 := 147) (dkAt dkX8_seekFair 72 (q := (145, .iload 4, 2)) rfl) rfl 1 rfl ?_
      refine kp_X8_319 C (pc2 := 150) (o := o0) h0.1 (dkAt dkX8_seekFair 73 (q := (147, .putfield 319, 3)) rfl) rfl h (fun M28 h => ?_)
      refine k_aload_n C (pc2 := 151) (dkAt dkX8_seekFair 74 (q := (150, .aload_n 0, 1)) rfl) rfl rfl 0 rfl ?_
      refine k_iload C (pc2 := 153) (dkAt dkX8_seekFair 75 (q := (151, .iload 5, 2)) rfl) rfl 2 rfl ?_
      refine kp_X8_322 C (pc2 := 156) (o := o0) h0.1 (dkAt dkX8_seekFair 76 (q := (153, .putfield 322, 3)) rfl) rfl h (fun M29 h => ?_)
      refine k_aload_n C (pc2 := 157) (dkAt dkX8_seekFair 77 (q := (156, .aload_n 0, 1)) rfl) rfl rfl 0 rfl ?_
      refine kf_X8_76 C (pc2 := 160) (o := o0) (o2 := o0 + 35) h0.1 rfl (dkAt dkX8_seekFair 78 (q := (157, .getfield 76, 3)) rfl) rfl ?_
      refine k_aload_n C (pc2 := 161) (dkAt dkX8_seekFair 79 (q := (160, .aload_n 0, 1)) rfl) rfl rfl 0 rfl ?_
      refine kf_X8_79 C (pc2 := 164) (o := o0) (o2 := o0 + 36) h0.1 rfl (dkAt dkX8_seekFair 80 (q := (161, .getfield 79, 3)) rfl) rfl ?_
      obtain ⟨q30, e31, h⟩ := ob_inv h
      refine kc_S C (As := [rA G (o0 + 35), rA G (o0 + 36)]) (st2 := []) (ct_X8_copied l G sh xs 3 (o0 + 35) (isM_now h0) (o0 + 36) (isM_bestRow h0) M29 q30 e31) (cl_X8_325 (hts_of C) ⟨Nat.le_of_ble_eq_true rfl, Nat.le_of_ble_eq_true rfl⟩ rfl rfl) rfl rfl (Nat.le_of_ble_eq_true rfl) (dkAt dkX8_seekFair 81 (q := (164, .invokestatic 325, 3)) rfl) ⟨Nat.zero_le _, Nat.zero_le _⟩ (pc2 := 167) rfl rfl ?_
      exact k_vret C (dkAt dkX8_seekFair 82 (q := (167, .return_, 1)) rfl) rfl (Option.some.inj h) rfl
    · refine k_iload C (pc2 := 119) (dkAt dkX8_seekFair 59 (q := (117, .iload 4, 2)) rfl) rfl 1 rfl ?_
      refine k_aload_n C (pc2 := 120) (dkAt dkX8_seekFair 60 (q := (119, .aload_n 0, 1)) rfl) rfl rfl 0 rfl ?_
      refine kf_X8_319 C (pc2 := 123) (o := o0) (o2 := 0) h0.1 (dkAt dkX8_seekFair 61 (q := (120, .getfield 319, 3)) rfl) rfl ?_
      refine k_icmp_lt C (tgt := 144) (pc2 := 126) (dkAt dkX8_seekFair 62 (q := (123, .if_icmp .lt 21, 3)) rfl) (by decide) rfl h (fun h => ?_) (fun h => ?_)
      · refine k_aload_n C (pc2 := 145) (dkAt dkX8_seekFair 71 (q := (144, .aload_n 0, 1)) rfl) rfl rfl 0 rfl ?_
        refine k_iload C (pc2 := 147) (dkAt dkX8_seekFair 72 (q := (145, .iload 4, 2)) rfl) rfl 1 rfl ?_
        refine kp_X8_319 C (pc2 := 150) (o := o0) h0.1 (dkAt dkX8_seekFair 73 (q := (147, .putfield 319, 3)) rfl) rfl h (fun M32 h => ?_)
        refine k_aload_n C (pc2 := 151) (dkAt dkX8_seekFair 74 (q := (150, .aload_n 0, 1)) rfl) rfl rfl 0 rfl ?_
        refine k_iload C (pc2 := 153) (dkAt dkX8_seekFair 75 (q := (151, .iload 5, 2)) rfl) rfl 2 rfl ?_
        refine kp_X8_322 C (pc2 := 156) (o := o0) h0.1 (dkAt dkX8_seekFair 76 (q := (153, .putfield 322, 3)) rfl) rfl h (fun M33 h => ?_)
        refine k_aload_n C (pc2 := 157) (dkAt dkX8_seekFair 77 (q := (156, .aload_n 0, 1)) rfl) rfl rfl 0 rfl ?_
        refine kf_X8_76 C (pc2 := 160) (o := o0) (o2 := o0 + 35) h0.1 rfl (dkAt dkX8_seekFair 78 (q := (157, .getfield 76, 3)) rfl) rfl ?_
        refine k_aload_n C (pc2 := 161) (dkAt dkX8_seekFair 79 (q := (160, .aload_n 0, 1)) rfl) rfl rfl 0 rfl ?_
        refine kf_X8_79 C (pc2 := 164) (o := o0) (o2 := o0 + 36) h0.1 rfl (dkAt dkX8_seekFair 80 (q := (161, .getfield 79, 3)) rfl) rfl ?_
        obtain ⟨q34, e35, h⟩ := ob_inv h
        refine kc_S C (As := [rA G (o0 + 35), rA G (o0 + 36)]) (st2 := []) (ct_X8_copied l G sh xs 3 (o0 + 35) (isM_now h0) (o0 + 36) (isM_bestRow h0) M33 q34 e35) (cl_X8_325 (hts_of C) ⟨Nat.le_of_ble_eq_true rfl, Nat.le_of_ble_eq_true rfl⟩ rfl rfl) rfl rfl (Nat.le_of_ble_eq_true rfl) (dkAt dkX8_seekFair 81 (q := (164, .invokestatic 325, 3)) rfl) ⟨Nat.zero_le _, Nat.zero_le _⟩ (pc2 := 167) rfl rfl ?_
        exact k_vret C (dkAt dkX8_seekFair 82 (q := (167, .return_, 1)) rfl) rfl (Option.some.inj h) rfl
      · refine k_iload C (pc2 := 128) (dkAt dkX8_seekFair 63 (q := (126, .iload 4, 2)) rfl) rfl 1 rfl ?_
        refine k_aload_n C (pc2 := 129) (dkAt dkX8_seekFair 64 (q := (128, .aload_n 0, 1)) rfl) rfl rfl 0 rfl ?_
        refine kf_X8_319 C (pc2 := 132) (o := o0) (o2 := 0) h0.1 (dkAt dkX8_seekFair 65 (q := (129, .getfield 319, 3)) rfl) rfl ?_
        refine k_icmp_ne C (tgt := 167) (pc2 := 135) (dkAt dkX8_seekFair 66 (q := (132, .if_icmp .ne 35, 3)) rfl) (by decide) rfl h (fun h => ?_) (fun h => ?_)
        · exact k_vret C (dkAt dkX8_seekFair 82 (q := (167, .return_, 1)) rfl) rfl (Option.some.inj h) rfl
        · refine k_iload C (pc2 := 137) (dkAt dkX8_seekFair 67 (q := (135, .iload 5, 2)) rfl) rfl 2 rfl ?_
          refine k_aload_n C (pc2 := 138) (dkAt dkX8_seekFair 68 (q := (137, .aload_n 0, 1)) rfl) rfl rfl 0 rfl ?_
          refine kf_X8_322 C (pc2 := 141) (o := o0) (o2 := 0) h0.1 (dkAt dkX8_seekFair 69 (q := (138, .getfield 322, 3)) rfl) rfl ?_
          refine k_icmp_ge C (tgt := 167) (pc2 := 144) (dkAt dkX8_seekFair 70 (q := (141, .if_icmp .ge 26, 3)) rfl) (by decide) rfl h (fun h => ?_) (fun h => ?_)
          · exact k_vret C (dkAt dkX8_seekFair 82 (q := (167, .return_, 1)) rfl) rfl (Option.some.inj h) rfl
          · refine k_aload_n C (pc2 := 145) (dkAt dkX8_seekFair 71 (q := (144, .aload_n 0, 1)) rfl) rfl rfl 0 rfl ?_
            refine k_iload C (pc2 := 147) (dkAt dkX8_seekFair 72 (q := (145, .iload 4, 2)) rfl) rfl 1 rfl ?_
            refine kp_X8_319 C (pc2 := 150) (o := o0) h0.1 (dkAt dkX8_seekFair 73 (q := (147, .putfield 319, 3)) rfl) rfl h (fun M36 h => ?_)
            refine k_aload_n C (pc2 := 151) (dkAt dkX8_seekFair 74 (q := (150, .aload_n 0, 1)) rfl) rfl rfl 0 rfl ?_
            refine k_iload C (pc2 := 153) (dkAt dkX8_seekFair 75 (q := (151, .iload 5, 2)) rfl) rfl 2 rfl ?_
            refine kp_X8_322 C (pc2 := 156) (o := o0) h0.1 (dkAt dkX8_seekFair 76 (q := (153, .putfield 322, 3)) rfl) rfl h (fun M37 h => ?_)
            refine k_aload_n C (pc2 := 157) (dkAt dkX8_seekFair 77 (q := (156, .aload_n 0, 1)) rfl) rfl rfl 0 rfl ?_
            refine kf_X8_76 C (pc2 := 160) (o := o0) (o2 := o0 + 35) h0.1 rfl (dkAt dkX8_seekFair 78 (q := (157, .getfield 76, 3)) rfl) rfl ?_
            refine k_aload_n C (pc2 := 161) (dkAt dkX8_seekFair 79 (q := (160, .aload_n 0, 1)) rfl) rfl rfl 0 rfl ?_
            refine kf_X8_79 C (pc2 := 164) (o := o0) (o2 := o0 + 36) h0.1 rfl (dkAt dkX8_seekFair 80 (q := (161, .getfield 79, 3)) rfl) rfl ?_
            obtain ⟨q38, e39, h⟩ := ob_inv h
            refine kc_S C (As := [rA G (o0 + 35), rA G (o0 + 36)]) (st2 := []) (ct_X8_copied l G sh xs 3 (o0 + 35) (isM_now h0) (o0 + 36) (isM_bestRow h0) M37 q38 e39) (cl_X8_325 (hts_of C) ⟨Nat.le_of_ble_eq_true rfl, Nat.le_of_ble_eq_true rfl⟩ rfl rfl) rfl rfl (Nat.le_of_ble_eq_true rfl) (dkAt dkX8_seekFair 81 (q := (164, .invokestatic 325, 3)) rfl) ⟨Nat.zero_le _, Nat.zero_le _⟩ (pc2 := 167) rfl rfl ?_
            exact k_vret C (dkAt dkX8_seekFair 82 (q := (167, .return_, 1)) rfl) rfl (Option.some.inj h) rfl
set_option maxRecDepth 100000 in
set_option maxHeartbeats 4000000 in
theorem kl_X8_seekFair4_L171 {p : Program} {l : Launch} {e : Env} {s : State} {m : MethodId} {args : Array Value} {below : List Frame} {meth : Method} {c : Code} {G : GG} {sh : Sh} {xs : List va_E} {Q : State → Prop} (C : Cx p s m c args meth G RX8 cX8_seekFair 9 none) (o0 : Nat) (h0 : isM sh o0) (x1 : Int32) (x2 : Int32) (M2 : Mm) (hcont : KW p l e rm_X8_seekFair4 s m args below meth c G 9 Q sh xs 0 0 M2 206 [] []) : ∀ (n : Nat) (x4 : Int32) (M : Mm), f_X8_seekFair4_L171 o0 x1 x2 n x4 M = some M2 → KW p l e rm_X8_seekFair4 s m args below meth c G 9 Q sh xs 0 0 M 171 [(0, rA G o0), (1, .int x1), (2, .int x2), (4, .int x4)] [] := by
  intro n
  induction n with
  | zero =>
    intro x4 M h
    cases h
  | succ n ih =>
    intro x4 M h
    unfold f_X8_seekFair4_L171 at h
    refine k_iload C (pc2 := 173) (dkAt dkX8_seekFair 85 (q := (171, .iload 4, 2)) rfl) rfl 3 rfl ?_
    refine k_aload_n C (pc2 := 174) (dkAt dkX8_seekFair 86 (q := (173, .aload_n 0, 1)) rfl) rfl rfl 0 rfl ?_
    refine kf_X8_37 C (pc2 := 177) (o := o0) (o2 := 0) h0.1 (dkAt dkX8_seekFair 87 (q := (174, .getfield 37, 3)) rfl) rfl ?_
    refine k_icmp_ge C (tgt := 206) (pc2 := 180) (dkAt dkX8_seekFair 88 (q := (177, .if_icmp .ge 29, 3)) rfl) (by decide) rfl h (fun h => ?_) (fun h => ?_)
    · refine k_lv [] (lv2 := []) rfl ?_
      cases h
      exact hcont
    · refine k_aload_n C (pc2 := 181) (dkAt dkX8_seekFair 89 (q := (180, .aload_n 0, 1)) rfl) rfl rfl 0 rfl ?_
      refine kf_X8_76 C (pc2 := 184) (o := o0) (o2 := o0 + 35) h0.1 rfl (dkAt dkX8_seekFair 90 (q := (181, .getfield 76, 3)) rfl) rfl ?_
      refine k_iload_n C (pc2 := 185) (dkAt dkX8_seekFair 91 (q := (184, .iload_n 1, 1)) rfl) rfl rfl 1 rfl ?_
      refine k_iload C (pc2 := 187) (dkAt dkX8_seekFair 92 (q := (185, .iload 4, 2)) rfl) rfl 3 rfl ?_
      refine k_iast C (pc2 := 188) (o := o0 + 35) (nA := 3) (isM_now h0) (dkAt dkX8_seekFair 93 (q := (187, .iastore, 1)) rfl) rfl h (fun M1 h => ?_)
      refine k_aload_n C (pc2 := 189) (dkAt dkX8_seekFair 94 (q := (188, .aload_n 0, 1)) rfl) rfl rfl 0 rfl ?_
      refine k_iload_n C (pc2 := 190) (dkAt dkX8_seekFair 95 (q := (189, .iload_n 1, 1)) rfl) rfl rfl 1 rfl ?_
      refine k_iconst C (pc2 := 191) (dkAt dkX8_seekFair 96 (q := (190, .iconst 1, 1)) rfl) rfl (v := 1) rfl ?_
      refine k_iadd C (pc2 := 192) (dkAt dkX8_seekFair 97 (q := (191, .iadd, 1)) rfl) rfl ?_
      refine k_iload_n C (pc2 := 193) (dkAt dkX8_seekFair 98 (q := (192, .iload_n 2, 1)) rfl) rfl rfl 2 rfl ?_
      refine k_iload C (pc2 := 195) (dkAt dkX8_seekFair 99 (q := (193, .iload 4, 2)) rfl) rfl 3 rfl ?_
      refine k_iconst C (pc2 := 196) (dkAt dkX8_seekFair 100 (q := (195, .iconst 1, 1)) rfl) rfl (v := 1) rfl ?_
      refine k_iadd C (pc2 := 197) (dkAt dkX8_seekFair 101 (q := (196, .iadd, 1)) rfl) rfl ?_
      obtain ⟨q2, e3, h⟩ := ob_inv h
      refine kc_V C (As := [.int (x1 + 1), .int x2, .int (x4 + 1)]) (st2 := []) (ct_X8_seekFair3 l G sh xs o0 h0 (x1 + 1) x2 (x4 + 1) M1 q2 e3) (cl_X8_329 (hts_of C) ⟨Nat.le_of_ble_eq_true rfl, Nat.le_of_ble_eq_true rfl⟩ rfl rfl) h0.1 rfl rfl rfl rfl rfl (Nat.le_of_ble_eq_true rfl) (dkAt dkX8_seekFair 102 (q := (197, .invokevirtual 329, 3)) rfl) ⟨Nat.zero_le _, Nat.zero_le _⟩ (pc2 := 200) rfl rfl ?_
      refine kb_iinc C (pc2 := 203) (dkAt dkX8_seekFair 103 (q := (200, .iinc 4 1, 3)) rfl) rfl (j := 3) rfl (v := x4 + 1) rfl (by decide) (lv2 := fun v4 => [(4, .int v4), (0, rA G o0), (1, .int x1), (2, .int x2)]) (fun _ => rfl) h (fun v4 h => ?_)
      refine k_goto C (tgt := 171) (dkAt dkX8_seekFair 104 (q := (203, .goto (-32), 3)) rfl) (by decide) ?_
      refine k_lv [1, 2, 3, 0] (lv2 := [(0, rA G o0), (1, .int x1), (2, .int x2), (4, .int v4)]) rfl ?_
      exact ih v4 q2 h
set_option maxRecDepth 100000 in
set_option maxHeartbeats 4000000 in
theorem kl_X8_seekFair4_L35 {p : Program} {l : Launch} {e : Env} {s : State} {m : MethodId} {args : Array Value} {below : List Frame} {meth : Method} {c : Code} {G : GG} {sh : Sh} {xs : List va_E} {Q : State → Prop} (C : Cx p s m c args meth G RX8 cX8_seekFair 9 none) (o0 : Nat) (h0 : isM sh o0) (x2 : Int32) (x4 : Int32) (x5 : Int32) (x6 : Int32) (M : Mm) (y7 : Int32) (hcont : KW p l e rm_X8_seekFair4 s m args below meth c G 9 Q sh xs 0 0 M 80 [(0, rA G o0), (2, .int x2), (4, .int x4), (5, .int x5), (6, .int x6), (7, .int y7)] []) : ∀ (n : Nat) (x7 : Int32) (x8 : Int32), f_X8_seekFair4_L35 o0 x2 x4 x5 x6 M n x7 x8 = some y7 → KW p l e rm_X8_seekFair4 s m args below meth c G 9 Q sh xs 0 0 M 35 [(0, rA G o0), (2, .int x2), (4, .int x4), (5, .int x5), (6, .int x6), (7, .int x7), (8, .int x8)] [] := by
  intro n
  induction n with
  | zero =>
    intro x7 x8 h
    cases h
  | succ n ih =>
    intro x7 x8 h
    unfold f_X8_seekFair4_L35 at h
    refine k_iload C (pc2 := 37) (dkAt dkX8_seekFair 20 (q := (35, .iload 8, 2)) rfl) rfl 6 rfl ?_
    refine k_iload_n C (pc2 := 38) (dkAt dkX8_seekFair 21 (q := (37, .iload_n 2, 1)) rfl) rfl rfl 1 rfl ?_
    refine k_icmp_ge C (tgt := 80) (pc2 := 41) (dkAt dkX8_seekFair 22 (q := (38, .if_icmp .ge 42, 3)) rfl) (by decide) rfl h (fun h => ?_) (fun h => ?_)
    · refine k_lv [0, 1, 2, 3, 4, 5] (lv2 := [(0, rA G o0), (2, .int x2), (4, .int x4), (5, .int x5), (6, .int x6), (7, .int x7)]) rfl ?_
      cases h
      exact hcont
    · refine k_iload C (pc2 := 43) (dkAt dkX8_seekFair 23 (q := (41, .iload 7, 2)) rfl) rfl 5 rfl ?_
      refine k_aload_n C (pc2 := 44) (dkAt dkX8_seekFair 24 (q := (43, .aload_n 0, 1)) rfl) rfl rfl 0 rfl ?_
      refine k_iload C (pc2 := 46) (dkAt dkX8_seekFair 25 (q := (44, .iload 6, 2)) rfl) rfl 4 rfl ?_
      refine k_aload_n C (pc2 := 47) (dkAt dkX8_seekFair 26 (q := (46, .aload_n 0, 1)) rfl) rfl rfl 0 rfl ?_
      refine kf_X8_76 C (pc2 := 50) (o := o0) (o2 := o0 + 35) h0.1 rfl (dkAt dkX8_seekFair 27 (q := (47, .getfield 76, 3)) rfl) rfl ?_
      refine k_iload C (pc2 := 52) (dkAt dkX8_seekFair 28 (q := (50, .iload 8, 2)) rfl) rfl 6 rfl ?_
      refine k_iald C (pc2 := 53) (o := o0 + 35) (nA := 3) (isM_now h0) (dkAt dkX8_seekFair 29 (q := (52, .iaload, 1)) rfl) rfl h (fun h => ?_)
      obtain ⟨q9, e10, h⟩ := ob_inv h
      refine kc_V C (As := [.int x6, .int (M.1 (o0 + 35) x8.toNatClampNeg)]) (st2 := [.int q9, .int x7]) (ct_X8_isFree l G sh xs o0 h0 x6 (M.1 (o0 + 35) x8.toNatClampNeg) M q9 e10) (cl_X8_139 (hts_of C) ⟨Nat.le_of_ble_eq_true rfl, Nat.le_of_ble_eq_true rfl⟩ rfl rfl) h0.1 rfl rfl rfl rfl rfl (Nat.le_of_ble_eq_true rfl) (dkAt dkX8_seekFair 30 (q := (53, .invokevirtual 139, 3)) rfl) ⟨Nat.zero_le _, Nat.zero_le _⟩ (pc2 := 56) rfl rfl ?_
      refine k_if_ne C (tgt := 66) (pc2 := 59) (dkAt dkX8_seekFair 31 (q := (56, .ifCond .ne 10, 3)) rfl) (by decide) rfl h (fun h => ?_) (fun h => ?_)
      · refine k_iconst C (pc2 := 67) (dkAt dkX8_seekFair 35 (q := (66, .iconst 0, 1)) rfl) rfl (v := 0) rfl ?_
        refine k_goto C (tgt := 71) (dkAt dkX8_seekFair 36 (q := (67, .goto 4, 3)) rfl) (by decide) ?_
        refine k_iadd C (pc2 := 72) (dkAt dkX8_seekFair 38 (q := (71, .iadd, 1)) rfl) rfl ?_
        refine kb_istore C (pc2 := 74) (dkAt dkX8_seekFair 39 (q := (72, .istore 7, 2)) rfl) rfl (by decide) (lv2 := fun v11 => [(7, .int v11), (0, rA G o0), (2, .int x2), (4, .int x4), (5, .int x5), (6, .int x6), (8, .int x8)]) (fun _ => rfl) h (fun v11 h => ?_)
        refine kb_iinc C (pc2 := 77) (dkAt dkX8_seekFair 40 (q := (74, .iinc 8 1, 3)) rfl) rfl (j := 6) rfl (v := x8 + 1) rfl (by decide) (lv2 := fun v12 => [(8, .int v12), (7, .int v11), (0, rA G o0), (2, .int x2), (4, .int x4), (5, .int x5), (6, .int x6)]) (fun _ => rfl) h (fun v12 h => ?_)
        refine k_goto C (tgt := 35) (dkAt dkX8_seekFair 41 (q := (77, .goto (-42), 3)) rfl) (by decide) ?_
        refine k_lv [2, 3, 4, 5, 6, 1, 0] (lv2 := [(0, rA G o0), (2, .int x2), (4, .int x4), (5, .int x5), (6, .int x6), (7, .int v11), (8, .int v12)]) rfl ?_
        exact ih v11 v12 h
      · refine k_iload C (pc2 := 61) (dkAt dkX8_seekFair 32 (q := (59, .iload 7, 2)) rfl) rfl 5 rfl ?_
        refine k_bipush C (pc2 := 63) (dkAt dkX8_seekFair 33 (q := (61, .bipush 99, 2)) rfl) rfl (v := 99) rfl ?_
        refine k_icmp_ne C (tgt := 70) (pc2 := 66) (dkAt dkX8_seekFair 34 (q := (63, .if_icmp .ne 7, 3)) rfl) (by decide) rfl h (fun h => ?_) (fun h => ?_)
        · refine k_iconst C (pc2 := 71) (dkAt dkX8_seekFair 37 (q := (70, .iconst 1, 1)) rfl) rfl (v := 1) rfl ?_
          refine k_iadd C (pc2 := 72) (dkAt dkX8_seekFair 38 (q := (71, .iadd, 1)) rfl) rfl ?_
          refine kb_istore C (pc2 := 74) (dkAt dkX8_seekFair 39 (q := (72, .istore 7, 2)) rfl) rfl (by decide) (lv2 := fun v13 => [(7, .int v13), (0, rA G o0), (2, .int x2), (4, .int x4), (5, .int x5), (6, .int x6), (8, .int x8)]) (fun _ => rfl) h (fun v13 h => ?_)
          refine kb_iinc C (pc2 := 77) (dkAt dkX8_seekFair 40 (q := (74, .iinc 8 1, 3)) rfl) rfl (j := 6) rfl (v := x8 + 1) rfl (by decide) (lv2 := fun v14 => [(8, .int v14), (7, .int v13), (0, rA G o0), (2, .int x2), (4, .int x4), (5, .int x5), (6, .int x6)]) (fun _ => rfl) h (fun v14 h => ?_)
          refine k_goto C (tgt := 35) (dkAt dkX8_seekFair 41 (q := (77, .goto (-42), 3)) rfl) (by decide) ?_
          refine k_lv [2, 3, 4, 5, 6, 1, 0] (lv2 := [(0, rA G o0), (2, .int x2), (4, .int x4), (5, .int x5), (6, .int x6), (7, .int v13), (8, .int v14)]) rfl ?_
          exact ih v13 v14 h
        · refine k_iconst C (pc2 := 67) (dkAt dkX8_seekFair 35 (q := (66, .iconst 0, 1)) rfl) rfl (v := 0) rfl ?_
          refine k_goto C (tgt := 71) (dkAt dkX8_seekFair 36 (q := (67, .goto 4, 3)) rfl) (by decide) ?_
          refine k_iadd C (pc2 := 72) (dkAt dkX8_seekFair 38 (q := (71, .iadd, 1)) rfl) rfl ?_
          refine kb_istore C (pc2 := 74) (dkAt dkX8_seekFair 39 (q := (72, .istore 7, 2)) rfl) rfl (by decide) (lv2 := fun v15 => [(7, .int v15), (0, rA G o0), (2, .int x2), (4, .int x4), (5, .int x5), (6, .int x6), (8, .int x8)]) (fun _ => rfl) h (fun v15 h => ?_)
          refine kb_iinc C (pc2 := 77) (dkAt dkX8_seekFair 40 (q := (74, .iinc 8 1, 3)) rfl) rfl (j := 6) rfl (v := x8 + 1) rfl (by decide) (lv2 := fun v16 => [(8, .int v16), (7, .int v15), (0, rA G o0), (2, .int x2), (4, .int x4), (5, .int x5), (6, .int x6)]) (fun _ => rfl) h (fun v16 h => ?_)
          refine k_goto C (tgt := 35) (dkAt dkX8_seekFair 41 (q := (77, .goto (-42), 3)) rfl) (by decide) ?_
          refine k_lv [2, 3, 4, 5, 6, 1, 0] (lv2 := [(0, rA G o0), (2, .int x2), (4, .int x4), (5, .int x5), (6, .int x6), (7, .int v15), (8, .int v16)]) rfl ?_
          exact ih v15 v16 h
set_option maxRecDepth 100000 in
set_option maxHeartbeats 4000000 in
theorem kl_X8_seekFair4_L14 {p : Program} {l : Launch} {e : Env} {s : State} {m : MethodId} {args : Array Value} {below : List Frame} {meth : Method} {c : Code} {G : GG} {sh : Sh} {xs : List va_E} {Q : State → Prop} (C : Cx p s m c args meth G RX8 cX8_seekFair 9 none) (o0 : Nat) (h0 : isM sh o0) (x2 : Int32) (M : Mm) (y4 : Int32) (y5 : Int32) (hcont : KW p l e rm_X8_seekFair4 s m args below meth c G 9 Q sh xs 0 0 M 109 [(0, rA G o0), (4, .int y4), (5, .int y5)] []) : ∀ (n : Nat) (x4 : Int32) (x5 : Int32) (x6 : Int32), f_X8_seekFair4_L14 o0 x2 M n x4 x5 x6 = some (y4, y5) → KW p l e rm_X8_seekFair4 s m args below meth c G 9 Q sh xs 0 0 M 14 [(0, rA G o0), (2, .int x2), (4, .int x4), (5, .int x5), (6, .int x6)] [] := by
  intro n
  induction n with
  | zero =>
    intro x4 x5 x6 h
    cases h
  | succ n ih =>
    intro x4 x5 x6 h
    unfold f_X8_seekFair4_L14 at h
    refine k_iload C (pc2 := 16) (dkAt dkX8_seekFair 9 (q := (14, .iload 6, 2)) rfl) rfl 4 rfl ?_
    refine k_aload_n C (pc2 := 17) (dkAt dkX8_seekFair 10 (q := (16, .aload_n 0, 1)) rfl) rfl rfl 0 rfl ?_
    refine kf_X8_82 C (pc2 := 20) (o := o0) (o2 := 0) h0.1 (dkAt dkX8_seekFair 11 (q := (17, .getfield 82, 3)) rfl) rfl ?_
    refine k_icmp_ge C (tgt := 109) (pc2 := 23) (dkAt dkX8_seekFair 12 (q := (20, .if_icmp .ge 89, 3)) rfl) (by decide) rfl h (fun h => ?_) (fun h => ?_)
    · refine k_lv [0, 2, 3] (lv2 := [(0, rA G o0), (4, .int x4), (5, .int x5)]) rfl ?_
      cases h
      exact hcont
    · refine k_aload_n C (pc2 := 24) (dkAt dkX8_seekFair 13 (q := (23, .aload_n 0, 1)) rfl) rfl rfl 0 rfl ?_
      refine kf_X8_53 C (pc2 := 27) (o := o0) (o2 := o0 + 21) h0.1 rfl (dkAt dkX8_seekFair 14 (q := (24, .getfield 53, 3)) rfl) rfl ?_
      refine k_iload C (pc2 := 29) (dkAt dkX8_seekFair 15 (q := (27, .iload 6, 2)) rfl) rfl 4 rfl ?_
      refine k_iald C (pc2 := 30) (o := o0 + 21) (nA := 8) (isM_left h0) (dkAt dkX8_seekFair 16 (q := (29, .iaload, 1)) rfl) rfl h (fun h => ?_)
      refine kb_istore C (pc2 := 32) (dkAt dkX8_seekFair 17 (q := (30, .istore 7, 2)) rfl) rfl (by decide) (lv2 := fun v8 => [(7, .int v8), (0, rA G o0), (2, .int x2), (4, .int x4), (5, .int x5), (6, .int x6)]) (fun _ => rfl) h (fun v8 h => ?_)
      refine k_iconst C (pc2 := 33) (dkAt dkX8_seekFair 18 (q := (32, .iconst 0, 1)) rfl) rfl (v := 0) rfl ?_
      refine k_istore C (pc2 := 35) (dkAt dkX8_seekFair 19 (q := (33, .istore 8, 2)) rfl) rfl (by decide) (lv2 := [(8, .int 0), (7, .int v8), (0, rA G o0), (2, .int x2), (4, .int x4), (5, .int x5), (6, .int x6)]) rfl ?_
      refine k_lv [2, 3, 4, 5, 6, 1, 0] (lv2 := [(0, rA G o0), (2, .int x2), (4, .int x4), (5, .int x5), (6, .int x6), (7, .int v8), (8, .int 0)]) rfl ?_
      obtain ⟨v19, e18, h⟩ := ob_inv h
      refine kl_X8_seekFair4_L35 C o0 h0 x2 x4 x5 x6 M v19 ?_ 1000 v8 0 e18
      refine k_iload C (pc2 := 82) (dkAt dkX8_seekFair 42 (q := (80, .iload 7, 2)) rfl) rfl 5 rfl ?_
      refine k_iload C (pc2 := 84) (dkAt dkX8_seekFair 43 (q := (82, .iload 4, 2)) rfl) rfl 2 rfl ?_
      refine k_icmp_le C (tgt := 92) (pc2 := 87) (dkAt dkX8_seekFair 44 (q := (84, .if_icmp .le 8, 3)) rfl) (by decide) rfl h (fun h => ?_) (fun h => ?_)
      · refine k_iload C (pc2 := 94) (dkAt dkX8_seekFair 47 (q := (92, .iload 4, 2)) rfl) rfl 2 rfl ?_
        refine k_istore C (pc2 := 96) (dkAt dkX8_seekFair 48 (q := (94, .istore 4, 2)) rfl) rfl (by decide) (lv2 := [(4, .int x4), (0, rA G o0), (2, .int x2), (5, .int x5), (6, .int x6), (7, .int v19)]) rfl ?_
        refine k_iload C (pc2 := 98) (dkAt dkX8_seekFair 49 (q := (96, .iload 5, 2)) rfl) rfl 3 rfl ?_
        refine k_iload C (pc2 := 100) (dkAt dkX8_seekFair 50 (q := (98, .iload 7, 2)) rfl) rfl 5 rfl ?_
        refine k_iadd C (pc2 := 101) (dkAt dkX8_seekFair 51 (q := (100, .iadd, 1)) rfl) rfl ?_
        refine kb_istore C (pc2 := 103) (dkAt dkX8_seekFair 52 (q := (101, .istore 5, 2)) rfl) rfl (by decide) (lv2 := fun v20 => [(5, .int v20), (4, .int x4), (0, rA G o0), (2, .int x2), (6, .int x6), (7, .int v19)]) (fun _ => rfl) h (fun v20 h => ?_)
        refine kb_iinc C (pc2 := 106) (dkAt dkX8_seekFair 53 (q := (103, .iinc 6 1, 3)) rfl) rfl (j := 4) rfl (v := x6 + 1) rfl (by decide) (lv2 := fun v21 => [(6, .int v21), (5, .int v20), (4, .int x4), (0, rA G o0), (2, .int x2), (7, .int v19)]) (fun _ => rfl) h (fun v21 h => ?_)
        refine k_goto C (tgt := 14) (dkAt dkX8_seekFair 54 (q := (106, .goto (-92), 3)) rfl) (by decide) ?_
        refine k_lv [3, 4, 2, 1, 0] (lv2 := [(0, rA G o0), (2, .int x2), (4, .int x4), (5, .int v20), (6, .int v21)]) rfl ?_
        exact ih x4 v20 v21 h
      · refine k_iload C (pc2 := 89) (dkAt dkX8_seekFair 45 (q := (87, .iload 7, 2)) rfl) rfl 5 rfl ?_
        refine k_goto C (tgt := 94) (dkAt dkX8_seekFair 46 (q := (89, .goto 5, 3)) rfl) (by decide) ?_
        refine k_istore C (pc2 := 96) (dkAt dkX8_seekFair 48 (q := (94, .istore 4, 2)) rfl) rfl (by decide) (lv2 := [(4, .int v19), (0, rA G o0), (2, .int x2), (5, .int x5), (6, .int x6), (7, .int v19)]) rfl ?_
        refine k_iload C (pc2 := 98) (dkAt dkX8_seekFair 49 (q := (96, .iload 5, 2)) rfl) rfl 3 rfl ?_
        refine k_iload C (pc2 := 100) (dkAt dkX8_seekFair 50 (q := (98, .iload 7, 2)) rfl) rfl 5 rfl ?_
        refine k_iadd C (pc2 := 101) (dkAt dkX8_seekFair 51 (q := (100, .iadd, 1)) rfl) rfl ?_
        refine kb_istore C (pc2 := 103) (dkAt dkX8_seekFair 52 (q := (101, .istore 5, 2)) rfl) rfl (by decide) (lv2 := fun v22 => [(5, .int v22), (4, .int v19), (0, rA G o0), (2, .int x2), (6, .int x6), (7, .int v19)]) (fun _ => rfl) h (fun v22 h => ?_)
        refine kb_iinc C (pc2 := 106) (dkAt dkX8_seekFair 53 (q := (103, .iinc 6 1, 3)) rfl) rfl (j := 4) rfl (v := x6 + 1) rfl (by decide) (lv2 := fun v23 => [(6, .int v23), (5, .int v22), (4, .int v19), (0, rA G o0), (2, .int x2), (7, .int v19)]) (fun _ => rfl) h (fun v23 h => ?_)
        refine k_goto C (tgt := 14) (dkAt dkX8_seekFair 54 (q := (106, .goto (-92), 3)) rfl) (by decide) ?_
        refine k_lv [3, 4, 2, 1, 0] (lv2 := [(0, rA G o0), (2, .int x2), (4, .int v19), (5, .int v22), (6, .int v23)]) rfl ?_
        exact ih v19 v22 v23 h
set_option maxRecDepth 100000 in
set_option maxHeartbeats 4000000 in
theorem ct_X8_seekFair4 (l : Launch) (G : GG) (sh : Sh) (xs : List va_E) (o0 : Nat) (h0 : isM sh o0) (x1 : Int32) (x2 : Int32) (x3 : Int32) (M : Mm) (r : Mm) (h : f_X8_seekFair4 o0 x1 x2 x3 M = some r) : Ct l yX8_seekFair cX8_seekFair 9 none rm_X8_seekFair4 G [rA G o0, .int x1, .int x2, .int x3] sh M xs none sh r xs 0 0 := by
  refine ct_of (by decide) (Nat.le_of_ble_eq_true rfl) ?_
  intro p e s m args below meth c hnm C
  refine k_lv [0, 1, 2, 3] (lv2 := [(0, rA G o0), (1, .int x1), (2, .int x2), (3, .int x3)]) rfl ?_
  unfold f_X8_seekFair4 at h
  refine k_iload_n C (pc2 := 1) (dkAt dkX8_seekFair 0 (q := (0, .iload_n 1, 1)) rfl) rfl rfl 1 rfl ?_
  refine k_iload_n C (pc2 := 2) (dkAt dkX8_seekFair 1 (q := (1, .iload_n 2, 1)) rfl) rfl rfl 2 rfl ?_
  refine k_icmp_ne C (tgt := 168) (pc2 := 5) (dkAt dkX8_seekFair 2 (q := (2, .if_icmp .ne 166, 3)) rfl) (by decide) rfl h (fun h => ?_) (fun h => ?_)
  · refine k_iload_n C (pc2 := 169) (dkAt dkX8_seekFair 83 (q := (168, .iload_n 3, 1)) rfl) rfl rfl 3 rfl ?_
    refine k_istore C (pc2 := 171) (dkAt dkX8_seekFair 84 (q := (169, .istore 4, 2)) rfl) rfl (by decide) (lv2 := [(4, .int x3), (0, rA G o0), (1, .int x1), (2, .int x2), (3, .int x3)]) rfl ?_
    refine k_lv [1, 2, 3, 0] (lv2 := [(0, rA G o0), (1, .int x1), (2, .int x2), (4, .int x3)]) rfl ?_
    obtain ⟨M7, e6, h⟩ := ob_inv h
    refine kl_X8_seekFair4_L171 C o0 h0 x1 x2 M7 ?_ 1000 x3 M e6
    exact k_vret C (dkAt dkX8_seekFair 105 (q := (206, .return_, 1)) rfl) rfl (Option.some.inj h) rfl
  · refine k_iconst C (pc2 := 6) (dkAt dkX8_seekFair 3 (q := (5, .iconst 0, 1)) rfl) rfl (v := 0) rfl ?_
    refine k_istore C (pc2 := 8) (dkAt dkX8_seekFair 4 (q := (6, .istore 4, 2)) rfl) rfl (by decide) (lv2 := [(4, .int 0), (0, rA G o0), (1, .int x1), (2, .int x2), (3, .int x3)]) rfl ?_
    refine k_iconst C (pc2 := 9) (dkAt dkX8_seekFair 5 (q := (8, .iconst 0, 1)) rfl) rfl (v := 0) rfl ?_
    refine k_istore C (pc2 := 11) (dkAt dkX8_seekFair 6 (q := (9, .istore 5, 2)) rfl) rfl (by decide) (lv2 := [(5, .int 0), (4, .int 0), (0, rA G o0), (1, .int x1), (2, .int x2), (3, .int x3)]) rfl ?_
    refine k_iconst C (pc2 := 12) (dkAt dkX8_seekFair 7 (q := (11, .iconst 0, 1)) rfl) rfl (v := 0) rfl ?_
    refine k_istore C (pc2 := 14) (dkAt dkX8_seekFair 8 (q := (12, .istore 6, 2)) rfl) rfl (by decide) (lv2 := [(6, .int 0), (5, .int 0), (4, .int 0), (0, rA G o0), (1, .int x1), (2, .int x2), (3, .int x3)]) rfl ?_
    refine k_lv [3, 5, 2, 1, 0] (lv2 := [(0, rA G o0), (2, .int x2), (4, .int 0), (5, .int 0), (6, .int 0)]) rfl ?_
    obtain ⟨v26, v27, e25, h⟩ := ob2_inv h
    refine kl_X8_seekFair4_L14 C o0 h0 x2 M v26 v27 ?_ 1000 0 0 0 e25
    refine k_aload_n C (pc2 := 110) (dkAt dkX8_seekFair 55 (q := (109, .aload_n 0, 1)) rfl) rfl rfl 0 rfl ?_
    refine kf_X8_319 C (pc2 := 113) (o := o0) (o2 := 0) h0.1 (dkAt dkX8_seekFair 56 (q := (110, .getfield 319, 3)) rfl) rfl ?_
    refine k_iconst C (pc2 := 114) (dkAt dkX8_seekFair 57 (q := (113, .iconst (-1), 1)) rfl) rfl (v := (-1)) rfl ?_
    refine k_icmp_eq C (tgt := 144) (pc2 := 117) (dkAt dkX8_seekFair 58 (q := (114, .if_icmp .eq 30, 3)) rfl) (by decide) rfl h (fun h => ?_) (fun h => ?_)
    · refine k_aload_n C (pc2 := 145) (dkAt dkX8_seekFair 71 (q := (144, .aload_n 0, 1)) rfl) rfl rfl 0 rfl ?_
      refine k_iload C (pc2 := 147) (dkAt dkX8_seekFair 72 (q := (145, .iload 4, 2)) rfl) rfl 1 rfl ?_
      refine kp_X8_319 C (pc2 := 150) (o := o0) h0.1 (dkAt dkX8_seekFair 73 (q := (147, .putfield 319, 3)) rfl) rfl h (fun M28 h => ?_)
      refine k_aload_n C (pc2 := 151) (dkAt dkX8_seekFair 74 (q := (150, .aload_n 0, 1)) rfl) rfl rfl 0 rfl ?_
      refine k_iload C (pc2 := 153) (dkAt dkX8_seekFair 75 (q := (151, .iload 5, 2)) rfl) rfl 2 rfl ?_
      refine kp_X8_322 C (pc2 := 156) (o := o0) h0.1 (dkAt dkX8_seekFair 76 (q := (153, .putfield 322, 3)) rfl) rfl h (fun M29 h => ?_)
      refine k_aload_n C (pc2 := 157) (dkAt dkX8_seekFair 77 (q := (156, .aload_n 0, 1)) rfl) rfl rfl 0 rfl ?_
      refine kf_X8_76 C (pc2 := 160) (o := o0) (o2 := o0 + 35) h0.1 rfl (dkAt dkX8_seekFair 78 (q := (157, .getfield 76, 3)) rfl) rfl ?_
      refine k_aload_n C (pc2 := 161) (dkAt dkX8_seekFair 79 (q := (160, .aload_n 0, 1)) rfl) rfl rfl 0 rfl ?_
      refine kf_X8_79 C (pc2 := 164) (o := o0) (o2 := o0 + 36) h0.1 rfl (dkAt dkX8_seekFair 80 (q := (161, .getfield 79, 3)) rfl) rfl ?_
      obtain ⟨q30, e31, h⟩ := ob_inv h
      refine kc_S C (As := [rA G (o0 + 35), rA G (o0 + 36)]) (st2 := []) (ct_X8_copied l G sh xs 3 (o0 + 35) (isM_now h0) (o0 + 36) (isM_bestRow h0) M29 q30 e31) (cl_X8_325 (hts_of C) ⟨Nat.le_of_ble_eq_true rfl, Nat.le_of_ble_eq_true rfl⟩ rfl rfl) rfl rfl (Nat.le_of_ble_eq_true rfl) (dkAt dkX8_seekFair 81 (q := (164, .invokestatic 325, 3)) rfl) ⟨Nat.zero_le _, Nat.zero_le _⟩ (pc2 := 167) rfl rfl ?_
      exact k_vret C (dkAt dkX8_seekFair 82 (q := (167, .return_, 1)) rfl) rfl (Option.some.inj h) rfl
    · refine k_iload C (pc2 := 119) (dkAt dkX8_seekFair 59 (q := (117, .iload 4, 2)) rfl) rfl 1 rfl ?_
      refine k_aload_n C (pc2 := 120) (dkAt dkX8_seekFair 60 (q := (119, .aload_n 0, 1)) rfl) rfl rfl 0 rfl ?_
      refine kf_X8_319 C (pc2 := 123) (o := o0) (o2 := 0) h0.1 (dkAt dkX8_seekFair 61 (q := (120, .getfield 319, 3)) rfl) rfl ?_
      refine k_icmp_lt C (tgt := 144) (pc2 := 126) (dkAt dkX8_seekFair 62 (q := (123, .if_icmp .lt 21, 3)) rfl) (by decide) rfl h (fun h => ?_) (fun h => ?_)
      · refine k_aload_n C (pc2 := 145) (dkAt dkX8_seekFair 71 (q := (144, .aload_n 0, 1)) rfl) rfl rfl 0 rfl ?_
        refine k_iload C (pc2 := 147) (dkAt dkX8_seekFair 72 (q := (145, .iload 4, 2)) rfl) rfl 1 rfl ?_
        refine kp_X8_319 C (pc2 := 150) (o := o0) h0.1 (dkAt dkX8_seekFair 73 (q := (147, .putfield 319, 3)) rfl) rfl h (fun M32 h => ?_)
        refine k_aload_n C (pc2 := 151) (dkAt dkX8_seekFair 74 (q := (150, .aload_n 0, 1)) rfl) rfl rfl 0 rfl ?_
        refine k_iload C (pc2 := 153) (dkAt dkX8_seekFair 75 (q := (151, .iload 5, 2)) rfl) rfl 2 rfl ?_
        refine kp_X8_322 C (pc2 := 156) (o := o0) h0.1 (dkAt dkX8_seekFair 76 (q := (153, .putfield 322, 3)) rfl) rfl h (fun M33 h => ?_)
        refine k_aload_n C (pc2 := 157) (dkAt dkX8_seekFair 77 (q := (156, .aload_n 0, 1)) rfl) rfl rfl 0 rfl ?_
        refine kf_X8_76 C (pc2 := 160) (o := o0) (o2 := o0 + 35) h0.1 rfl (dkAt dkX8_seekFair 78 (q := (157, .getfield 76, 3)) rfl) rfl ?_
        refine k_aload_n C (pc2 := 161) (dkAt dkX8_seekFair 79 (q := (160, .aload_n 0, 1)) rfl) rfl rfl 0 rfl ?_
        refine kf_X8_79 C (pc2 := 164) (o := o0) (o2 := o0 + 36) h0.1 rfl (dkAt dkX8_seekFair 80 (q := (161, .getfield 79, 3)) rfl) rfl ?_
        obtain ⟨q34, e35, h⟩ := ob_inv h
        refine kc_S C (As := [rA G (o0 + 35), rA G (o0 + 36)]) (st2 := []) (ct_X8_copied l G sh xs 3 (o0 + 35) (isM_now h0) (o0 + 36) (isM_bestRow h0) M33 q34 e35) (cl_X8_325 (hts_of C) ⟨Nat.le_of_ble_eq_true rfl, Nat.le_of_ble_eq_true rfl⟩ rfl rfl) rfl rfl (Nat.le_of_ble_eq_true rfl) (dkAt dkX8_seekFair 81 (q := (164, .invokestatic 325, 3)) rfl) ⟨Nat.zero_le _, Nat.zero_le _⟩ (pc2 := 167) rfl rfl ?_
        exact k_vret C (dkAt dkX8_seekFair 82 (q := (167, .return_, 1)) rfl) rfl (Option.some.inj h) rfl
      · refine k_iload C (pc2 := 128) (dkAt dkX8_seekFair 63 (q := (126, .iload 4, 2)) rfl) rfl 1 rfl ?_
        refine k_aload_n C (pc2 := 129) (dkAt dkX8_seekFair 64 (q := (128, .aload_n 0, 1)) rfl) rfl rfl 0 rfl ?_
        refine kf_X8_319 C (pc2 := 132) (o := o0) (o2 := 0) h0.1 (dkAt dkX8_seekFair 65 (q := (129, .getfield 319, 3)) rfl) rfl ?_
        refine k_icmp_ne C (tgt := 167) (pc2 := 135) (dkAt dkX8_seekFair 66 (q := (132, .if_icmp .ne 35, 3)) rfl) (by decide) rfl h (fun h => ?_) (fun h => ?_)
        · exact k_vret C (dkAt dkX8_seekFair 82 (q := (167, .return_, 1)) rfl) rfl (Option.some.inj h) rfl
        · refine k_iload C (pc2 := 137) (dkAt dkX8_seekFair 67 (q := (135, .iload 5, 2)) rfl) rfl 2 rfl ?_
          refine k_aload_n C (pc2 := 138) (dkAt dkX8_seekFair 68 (q := (137, .aload_n 0, 1)) rfl) rfl rfl 0 rfl ?_
          refine kf_X8_322 C (pc2 := 141) (o := o0) (o2 := 0) h0.1 (dkAt dkX8_seekFair 69 (q := (138, .getfield 322, 3)) rfl) rfl ?_
          refine k_icmp_ge C (tgt := 167) (pc2 := 144) (dkAt dkX8_seekFair 70 (q := (141, .if_icmp .ge 26, 3)) rfl) (by decide) rfl h (fun h => ?_) (fun h => ?_)
          · exact k_vret C (dkAt dkX8_seekFair 82 (q := (167, .return_, 1)) rfl) rfl (Option.some.inj h) rfl
          · refine k_aload_n C (pc2 := 145) (dkAt dkX8_seekFair 71 (q := (144, .aload_n 0, 1)) rfl) rfl rfl 0 rfl ?_
            refine k_iload C (pc2 := 147) (dkAt dkX8_seekFair 72 (q := (145, .iload 4, 2)) rfl) rfl 1 rfl ?_
            refine kp_X8_319 C (pc2 := 150) (o := o0) h0.1 (dkAt dkX8_seekFair 73 (q := (147, .putfield 319, 3)) rfl) rfl h (fun M36 h => ?_)
            refine k_aload_n C (pc2 := 151) (dkAt dkX8_seekFair 74 (q := (150, .aload_n 0, 1)) rfl) rfl rfl 0 rfl ?_
            refine k_iload C (pc2 := 153) (dkAt dkX8_seekFair 75 (q := (151, .iload 5, 2)) rfl) rfl 2 rfl ?_
            refine kp_X8_322 C (pc2 := 156) (o := o0) h0.1 (dkAt dkX8_seekFair 76 (q := (153, .putfield 322, 3)) rfl) rfl h (fun M37 h => ?_)
            refine k_aload_n C (pc2 := 157) (dkAt dkX8_seekFair 77 (q := (156, .aload_n 0, 1)) rfl) rfl rfl 0 rfl ?_
            refine kf_X8_76 C (pc2 := 160) (o := o0) (o2 := o0 + 35) h0.1 rfl (dkAt dkX8_seekFair 78 (q := (157, .getfield 76, 3)) rfl) rfl ?_
            refine k_aload_n C (pc2 := 161) (dkAt dkX8_seekFair 79 (q := (160, .aload_n 0, 1)) rfl) rfl rfl 0 rfl ?_
            refine kf_X8_79 C (pc2 := 164) (o := o0) (o2 := o0 + 36) h0.1 rfl (dkAt dkX8_seekFair 80 (q := (161, .getfield 79, 3)) rfl) rfl ?_
            obtain ⟨q38, e39, h⟩ := ob_inv h
            refine kc_S C (As := [rA G (o0 + 35), rA G (o0 + 36)]) (st2 := []) (ct_X8_copied l G sh xs 3 (o0 + 35) (isM_now h0) (o0 + 36) (isM_bestRow h0) M37 q38 e39) (cl_X8_325 (hts_of C) ⟨Nat.le_of_ble_eq_true rfl, Nat.le_of_ble_eq_true rfl⟩ rfl rfl) rfl rfl (Nat.le_of_ble_eq_true rfl) (dkAt dkX8_seekFair 81 (q := (164, .invokestatic 325, 3)) rfl) ⟨Nat.zero_le _, Nat.zero_le _⟩ (pc2 := 167) rfl rfl ?_
            exact k_vret C (dkAt dkX8_seekFair 82 (q := (167, .return_, 1)) rfl) rfl (Option.some.inj h) rfl
set_option maxRecDepth 100000 in
set_option maxHeartbeats 4000000 in
theorem ct_X8_fair (l : Launch) (G : GG) (sh : Sh) (xs : List va_E) (o0 : Nat) (h0 : isM sh o0) (x1 : Int32) (x2 : Int32) (M : Mm) (r : Mm × Int32) (h : f_X8_fair o0 x1 x2 M = some r) : Ct l yX8_fair cX8_fair 3 (some .int) rm_X8_fair G [rA G o0, .int x1, .int x2] sh M xs (some (.int r.2)) sh r.1 xs 0 0 := by
  refine ct_of (by decide) (Nat.le_of_ble_eq_true rfl) ?_
  intro p e s m args below meth c hnm C
  refine k_lv [0, 1, 2] (lv2 := [(0, rA G o0), (1, .int x1), (2, .int x2)]) rfl ?_
  unfold f_X8_fair at h
  refine k_iload_n C (pc2 := 1) (dkAt dkX8_fair 0 (q := (0, .iload_n 1, 1)) rfl) rfl rfl 1 rfl ?_
  refine k_i2l C (pc2 := 2) (dkAt dkX8_fair 1 (q := (1, .i2l, 1)) rfl) rfl ?_
  refine k_lconst C (pc2 := 3) (dkAt dkX8_fair 2 (q := (2, .lconst 1, 1)) rfl) rfl (v := 1) rfl ?_
  refine k_ldc2 C (pc2 := 6) (dkAt dkX8_fair 3 (q := (3, .ldc2_w 332, 3)) rfl) rfl (v := 3) tL_X8_332 ?_
  obtain ⟨q1, e2, h⟩ := ob_inv h
  refine kc_S C (As := [.long x1.toInt64, .long 1, .long 3]) (st2 := [.int q1]) (ct_X8_in l G sh xs x1.toInt64 1 3 M q1 e2) (cl_X8_85 (hts_of C) ⟨Nat.le_of_ble_eq_true rfl, Nat.le_of_ble_eq_true rfl⟩ rfl rfl) rfl rfl (Nat.le_of_ble_eq_true rfl) (dkAt dkX8_fair 4 (q := (6, .invokestatic 85, 3)) rfl) ⟨Nat.zero_le _, Nat.zero_le _⟩ (pc2 := 9) rfl rfl ?_
  refine k_if_eq C (tgt := 27) (pc2 := 12) (dkAt dkX8_fair 5 (q := (9, .ifCond .eq 18, 3)) rfl) (by decide) rfl h (fun h => ?_) (fun h => ?_)
  · refine k_aload_n C (pc2 := 28) (dkAt dkX8_fair 15 (q := (27, .aload_n 0, 1)) rfl) rfl rfl 0 rfl ?_
    refine k_bipush C (pc2 := 30) (dkAt dkX8_fair 16 (q := (28, .bipush (-2), 2)) rfl) rfl (v := (-2)) rfl ?_
    obtain ⟨q3, e4, h⟩ := ob_inv h
    refine kc_V C (As := [.int (-2)]) (st2 := [.int q3.2]) (ct_X8_refuse l G sh xs o0 h0 (-2) M q3 e4) (cl_X8_97 (hts_of C) ⟨Nat.le_of_ble_eq_true rfl, Nat.le_of_ble_eq_true rfl⟩ rfl rfl) h0.1 rfl rfl rfl rfl rfl (Nat.le_of_ble_eq_true rfl) (dkAt dkX8_fair 17 (q := (30, .invokevirtual 97, 3)) rfl) ⟨Nat.zero_le _, Nat.zero_le _⟩ (pc2 := 33) rfl rfl ?_
    exact k_iret C (dkAt dkX8_fair 18 (q := (33, .ireturn, 1)) rfl) (pe2 (Option.some.inj h)) rfl (pe1 (Option.some.inj h)) rfl
  · refine k_iload_n C (pc2 := 13) (dkAt dkX8_fair 6 (q := (12, .iload_n 2, 1)) rfl) rfl rfl 2 rfl ?_
    refine k_i2l C (pc2 := 14) (dkAt dkX8_fair 7 (q := (13, .i2l, 1)) rfl) rfl ?_
    refine k_ldc2 C (pc2 := 17) (dkAt dkX8_fair 8 (q := (14, .ldc2_w 288, 3)) rfl) rfl (v := (-1)) tL_X8_288 ?_
    refine k_iload_n C (pc2 := 18) (dkAt dkX8_fair 9 (q := (17, .iload_n 1, 1)) rfl) rfl rfl 1 rfl ?_
    refine k_iconst C (pc2 := 19) (dkAt dkX8_fair 10 (q := (18, .iconst 1, 1)) rfl) rfl (v := 1) rfl ?_
    refine k_isub C (pc2 := 20) (dkAt dkX8_fair 11 (q := (19, .isub, 1)) rfl) rfl ?_
    refine k_i2l C (pc2 := 21) (dkAt dkX8_fair 12 (q := (20, .i2l, 1)) rfl) rfl ?_
    obtain ⟨q5, e6, h⟩ := ob_inv h
    refine kc_S C (As := [.long x2.toInt64, .long (-1), .long ((x1 - 1).toInt64)]) (st2 := [.int q5]) (ct_X8_in l G sh xs x2.toInt64 (-1) ((x1 - 1).toInt64) M q5 e6) (cl_X8_85 (hts_of C) ⟨Nat.le_of_ble_eq_true rfl, Nat.le_of_ble_eq_true rfl⟩ rfl rfl) rfl rfl (Nat.le_of_ble_eq_true rfl) (dkAt dkX8_fair 13 (q := (21, .invokestatic 85, 3)) rfl) ⟨Nat.zero_le _, Nat.zero_le _⟩ (pc2 := 24) rfl rfl ?_
    refine k_if_ne C (tgt := 34) (pc2 := 27) (dkAt dkX8_fair 14 (q := (24, .ifCond .ne 10, 3)) rfl) (by decide) rfl h (fun h => ?_) (fun h => ?_)
    · refine k_aload_n C (pc2 := 35) (dkAt dkX8_fair 19 (q := (34, .aload_n 0, 1)) rfl) rfl rfl 0 rfl ?_
      refine kf_X8_37 C (pc2 := 38) (o := o0) (o2 := 0) h0.1 (dkAt dkX8_fair 20 (q := (35, .getfield 37, 3)) rfl) rfl ?_
      refine k_iload_n C (pc2 := 39) (dkAt dkX8_fair 21 (q := (38, .iload_n 1, 1)) rfl) rfl rfl 1 rfl ?_
      refine k_icmp_lt C (tgt := 49) (pc2 := 42) (dkAt dkX8_fair 22 (q := (39, .if_icmp .lt 10, 3)) rfl) (by decide) rfl h (fun h => ?_) (fun h => ?_)
      · refine k_aload_n C (pc2 := 50) (dkAt dkX8_fair 26 (q := (49, .aload_n 0, 1)) rfl) rfl rfl 0 rfl ?_
        refine k_bipush C (pc2 := 52) (dkAt dkX8_fair 27 (q := (50, .bipush (-5), 2)) rfl) rfl (v := (-5)) rfl ?_
        obtain ⟨q7, e8, h⟩ := ob_inv h
        refine kc_V C (As := [.int (-5)]) (st2 := [.int q7.2]) (ct_X8_refuse l G sh xs o0 h0 (-5) M q7 e8) (cl_X8_97 (hts_of C) ⟨Nat.le_of_ble_eq_true rfl, Nat.le_of_ble_eq_true rfl⟩ rfl rfl) h0.1 rfl rfl rfl rfl rfl (Nat.le_of_ble_eq_true rfl) (dkAt dkX8_fair 28 (q := (52, .invokevirtual 97, 3)) rfl) ⟨Nat.zero_le _, Nat.zero_le _⟩ (pc2 := 55) rfl rfl ?_
        exact k_iret C (dkAt dkX8_fair 29 (q := (55, .ireturn, 1)) rfl) (pe2 (Option.some.inj h)) rfl (pe1 (Option.some.inj h)) rfl
      · refine k_aload_n C (pc2 := 43) (dkAt dkX8_fair 23 (q := (42, .aload_n 0, 1)) rfl) rfl rfl 0 rfl ?_
        refine kf_X8_82 C (pc2 := 46) (o := o0) (o2 := 0) h0.1 (dkAt dkX8_fair 24 (q := (43, .getfield 82, 3)) rfl) rfl ?_
        refine k_if_ne C (tgt := 56) (pc2 := 49) (dkAt dkX8_fair 25 (q := (46, .ifCond .ne 10, 3)) rfl) (by decide) rfl h (fun h => ?_) (fun h => ?_)
        · refine k_aload_n C (pc2 := 57) (dkAt dkX8_fair 30 (q := (56, .aload_n 0, 1)) rfl) rfl rfl 0 rfl ?_
          refine k_iconst C (pc2 := 58) (dkAt dkX8_fair 31 (q := (57, .iconst (-1), 1)) rfl) rfl (v := (-1)) rfl ?_
          refine kp_X8_319 C (pc2 := 61) (o := o0) h0.1 (dkAt dkX8_fair 32 (q := (58, .putfield 319, 3)) rfl) rfl h (fun M9 h => ?_)
          refine k_aload_n C (pc2 := 62) (dkAt dkX8_fair 33 (q := (61, .aload_n 0, 1)) rfl) rfl rfl 0 rfl ?_
          refine k_iconst C (pc2 := 63) (dkAt dkX8_fair 34 (q := (62, .iconst 0, 1)) rfl) rfl (v := 0) rfl ?_
          refine k_iload_n C (pc2 := 64) (dkAt dkX8_fair 35 (q := (63, .iload_n 1, 1)) rfl) rfl rfl 1 rfl ?_
          refine k_iconst C (pc2 := 65) (dkAt dkX8_fair 36 (q := (64, .iconst 0, 1)) rfl) rfl (v := 0) rfl ?_
          obtain ⟨q10, e11, h⟩ := ob_inv h
          refine kc_V C (As := [.int 0, .int x1, .int 0]) (st2 := []) (ct_X8_seekFair4 l G sh xs o0 h0 0 x1 0 M9 q10 e11) (cl_X8_329 (hts_of C) ⟨Nat.le_of_ble_eq_true rfl, Nat.le_of_ble_eq_true rfl⟩ rfl rfl) h0.1 rfl rfl rfl rfl rfl (Nat.le_of_ble_eq_true rfl) (dkAt dkX8_fair 37 (q := (65, .invokevirtual 329, 3)) rfl) ⟨Nat.zero_le _, Nat.zero_le _⟩ (pc2 := 68) rfl rfl ?_
          refine k_iload_n C (pc2 := 69) (dkAt dkX8_fair 38 (q := (68, .iload_n 2, 1)) rfl) rfl rfl 2 rfl ?_
          refine k_iconst C (pc2 := 70) (dkAt dkX8_fair 39 (q := (69, .iconst (-1), 1)) rfl) rfl (v := (-1)) rfl ?_
          refine k_icmp_ne C (tgt := 80) (pc2 := 73) (dkAt dkX8_fair 40 (q := (70, .if_icmp .ne 10, 3)) rfl) (by decide) rfl h (fun h => ?_) (fun h => ?_)
          · refine k_aload_n C (pc2 := 81) (dkAt dkX8_fair 44 (q := (80, .aload_n 0, 1)) rfl) rfl rfl 0 rfl ?_
            refine kf_X8_79 C (pc2 := 84) (o := o0) (o2 := o0 + 36) h0.1 rfl (dkAt dkX8_fair 45 (q := (81, .getfield 79, 3)) rfl) rfl ?_
            refine k_iload_n C (pc2 := 85) (dkAt dkX8_fair 46 (q := (84, .iload_n 2, 1)) rfl) rfl rfl 2 rfl ?_
            refine k_iald C (pc2 := 86) (o := o0 + 36) (nA := 3) (isM_bestRow h0) (dkAt dkX8_fair 47 (q := (85, .iaload, 1)) rfl) rfl h (fun h => ?_)
            exact k_iret C (dkAt dkX8_fair 48 (q := (86, .ireturn, 1)) rfl) (pe2 (Option.some.inj h)) rfl (pe1 (Option.some.inj h)) rfl
          · refine k_aload_n C (pc2 := 74) (dkAt dkX8_fair 41 (q := (73, .aload_n 0, 1)) rfl) rfl rfl 0 rfl ?_
            refine kf_X8_319 C (pc2 := 77) (o := o0) (o2 := 0) h0.1 (dkAt dkX8_fair 42 (q := (74, .getfield 319, 3)) rfl) rfl ?_
            refine k_goto C (tgt := 86) (dkAt dkX8_fair 43 (q := (77, .goto 9, 3)) rfl) (by decide) ?_
            exact k_iret C (dkAt dkX8_fair 48 (q := (86, .ireturn, 1)) rfl) (pe2 (Option.some.inj h)) rfl (pe1 (Option.some.inj h)) rfl
        · refine k_aload_n C (pc2 := 50) (dkAt dkX8_fair 26 (q := (49, .aload_n 0, 1)) rfl) rfl rfl 0 rfl ?_
          refine k_bipush C (pc2 := 52) (dkAt dkX8_fair 27 (q := (50, .bipush (-5), 2)) rfl) rfl (v := (-5)) rfl ?_
          obtain ⟨q12, e13, h⟩ := ob_inv h
          refine kc_V C (As := [.int (-5)]) (st2 := [.int q12.2]) (ct_X8_refuse l G sh xs o0 h0 (-5) M q12 e13) (cl_X8_97 (hts_of C) ⟨Nat.le_of_ble_eq_true rfl, Nat.le_of_ble_eq_true rfl⟩ rfl rfl) h0.1 rfl rfl rfl rfl rfl (Nat.le_of_ble_eq_true rfl) (dkAt dkX8_fair 28 (q := (52, .invokevirtual 97, 3)) rfl) ⟨Nat.zero_le _, Nat.zero_le _⟩ (pc2 := 55) rfl rfl ?_
          exact k_iret C (dkAt dkX8_fair 29 (q := (55, .ireturn, 1)) rfl) (pe2 (Option.some.inj h)) rfl (pe1 (Option.some.inj h)) rfl
    · refine k_aload_n C (pc2 := 28) (dkAt dkX8_fair 15 (q := (27, .aload_n 0, 1)) rfl) rfl rfl 0 rfl ?_
      refine k_bipush C (pc2 := 30) (dkAt dkX8_fair 16 (q := (28, .bipush (-2), 2)) rfl) rfl (v := (-2)) rfl ?_
      obtain ⟨q14, e15, h⟩ := ob_inv h
      refine kc_V C (As := [.int (-2)]) (st2 := [.int q14.2]) (ct_X8_refuse l G sh xs o0 h0 (-2) M q14 e15) (cl_X8_97 (hts_of C) ⟨Nat.le_of_ble_eq_true rfl, Nat.le_of_ble_eq_true rfl⟩ rfl rfl) h0.1 rfl rfl rfl rfl rfl (Nat.le_of_ble_eq_true rfl) (dkAt dkX8_fair 17 (q := (30, .invokevirtual 97, 3)) rfl) ⟨Nat.zero_le _, Nat.zero_le _⟩ (pc2 := 33) rfl rfl ?_
      exact k_iret C (dkAt dkX8_fair 18 (q := (33, .ireturn, 1)) rfl) (pe2 (Option.some.inj h)) rfl (pe1 (Option.some.inj h)) rfl
set_option maxRecDepth 100000 in
set_option maxHeartbeats 4000000 in
theorem kl_X8_worstOf_L4 {p : Program} {l : Launch} {e : Env} {s : State} {m : MethodId} {args : Array Value} {below : List Frame} {meth : Method} {c : Code} {G : GG} {sh : Sh} {xs : List va_E} {Q : State → Prop} (C : Cx p s m c args meth G RX8 cX8_worstOf 3 (some .int)) (o0 : Nat) (h0 : isM sh o0) (M : Mm) (y1 : Int32) (hcont : KW p l e rm_X8_worstOf s m args below meth c G 3 Q sh xs 0 0 M 39 [(1, .int y1)] []) : ∀ (n : Nat) (x1 : Int32) (x2 : Int32), f_X8_worstOf_L4 o0 M n x1 x2 = some y1 → KW p l e rm_X8_worstOf s m args below meth c G 3 Q sh xs 0 0 M 4 [(0, rA G o0), (1, .int x1), (2, .int x2)] [] := by
  intro n
  induction n with
  | zero =>
    intro x1 x2 h
    cases h
  | succ n ih =>
    intro x1 x2 h
    unfold f_X8_worstOf_L4 at h
    refine k_iload_n C (pc2 := 5) (dkAt dkX8_worstOf 4 (q := (4, .iload_n 2, 1)) rfl) rfl rfl 2 rfl ?_
    refine k_aload_n C (pc2 := 6) (dkAt dkX8_worstOf 5 (q := (5, .aload_n 0, 1)) rfl) rfl rfl 0 rfl ?_
    refine kf_X8_82 C (pc2 := 9) (o := o0) (o2 := 0) h0.1 (dkAt dkX8_worstOf 6 (q := (6, .getfield 82, 3)) rfl) rfl ?_
    refine k_icmp_ge C (tgt := 39) (pc2 := 12) (dkAt dkX8_worstOf 7 (q := (9, .if_icmp .ge 30, 3)) rfl) (by decide) rfl h (fun h => ?_) (fun h => ?_)
    · refine k_lv [1] (lv2 := [(1, .int x1)]) rfl ?_
      cases h
      exact hcont
    · refine k_aload_n C (pc2 := 13) (dkAt dkX8_worstOf 8 (q := (12, .aload_n 0, 1)) rfl) rfl rfl 0 rfl ?_
      refine kf_X8_53 C (pc2 := 16) (o := o0) (o2 := o0 + 21) h0.1 rfl (dkAt dkX8_worstOf 9 (q := (13, .getfield 53, 3)) rfl) rfl ?_
      refine k_iload_n C (pc2 := 17) (dkAt dkX8_worstOf 10 (q := (16, .iload_n 2, 1)) rfl) rfl rfl 2 rfl ?_
      refine k_iald C (pc2 := 18) (o := o0 + 21) (nA := 8) (isM_left h0) (dkAt dkX8_worstOf 11 (q := (17, .iaload, 1)) rfl) rfl h (fun h => ?_)
      refine k_aload_n C (pc2 := 19) (dkAt dkX8_worstOf 12 (q := (18, .aload_n 0, 1)) rfl) rfl rfl 0 rfl ?_
      refine kf_X8_53 C (pc2 := 22) (o := o0) (o2 := o0 + 21) h0.1 rfl (dkAt dkX8_worstOf 13 (q := (19, .getfield 53, 3)) rfl) rfl ?_
      refine k_iload_n C (pc2 := 23) (dkAt dkX8_worstOf 14 (q := (22, .iload_n 1, 1)) rfl) rfl rfl 1 rfl ?_
      refine k_iald C (pc2 := 24) (o := o0 + 21) (nA := 8) (isM_left h0) (dkAt dkX8_worstOf 15 (q := (23, .iaload, 1)) rfl) rfl h (fun h => ?_)
      refine k_icmp_le C (tgt := 31) (pc2 := 27) (dkAt dkX8_worstOf 16 (q := (24, .if_icmp .le 7, 3)) rfl) (by decide) rfl h (fun h => ?_) (fun h => ?_)
      · refine k_iload_n C (pc2 := 32) (dkAt dkX8_worstOf 19 (q := (31, .iload_n 1, 1)) rfl) rfl rfl 1 rfl ?_
        refine k_istore_n C (pc2 := 33) (dkAt dkX8_worstOf 20 (q := (32, .istore_n 1, 1)) rfl) rfl rfl (by decide) (lv2 := [(1, .int x1), (0, rA G o0), (2, .int x2)]) rfl ?_
        refine kb_iinc C (pc2 := 36) (dkAt dkX8_worstOf 21 (q := (33, .iinc 2 1, 3)) rfl) rfl (j := 2) rfl (v := x2 + 1) rfl (by decide) (lv2 := fun v1 => [(2, .int v1), (1, .int x1), (0, rA G o0)]) (fun _ => rfl) h (fun v1 h => ?_)
        refine k_goto C (tgt := 4) (dkAt dkX8_worstOf 22 (q := (36, .goto (-32), 3)) rfl) (by decide) ?_
        refine k_lv [2, 1, 0] (lv2 := [(0, rA G o0), (1, .int x1), (2, .int v1)]) rfl ?_
        exact ih x1 v1 h
      · refine k_iload_n C (pc2 := 28) (dkAt dkX8_worstOf 17 (q := (27, .iload_n 2, 1)) rfl) rfl rfl 2 rfl ?_
        refine k_goto C (tgt := 32) (dkAt dkX8_worstOf 18 (q := (28, .goto 4, 3)) rfl) (by decide) ?_
        refine k_istore_n C (pc2 := 33) (dkAt dkX8_worstOf 20 (q := (32, .istore_n 1, 1)) rfl) rfl rfl (by decide) (lv2 := [(1, .int x2), (0, rA G o0), (2, .int x2)]) rfl ?_
        refine kb_iinc C (pc2 := 36) (dkAt dkX8_worstOf 21 (q := (33, .iinc 2 1, 3)) rfl) rfl (j := 2) rfl (v := x2 + 1) rfl (by decide) (lv2 := fun v2 => [(2, .int v2), (1, .int x2), (0, rA G o0)]) (fun _ => rfl) h (fun v2 h => ?_)
        refine k_goto C (tgt := 4) (dkAt dkX8_worstOf 22 (q := (36, .goto (-32), 3)) rfl) (by decide) ?_
        refine k_lv [2, 1, 0] (lv2 := [(0, rA G o0), (1, .int x2), (2, .int v2)]) rfl ?_
        exact ih x2 v2 h
set_option maxRecDepth 100000 in
set_option maxHeartbeats 4000000 in
theorem ct_X8_worstOf (l : Launch) (G : GG) (sh : Sh) (xs : List va_E) (o0 : Nat) (h0 : isM sh o0) (M : Mm) (r : Int32) (h : f_X8_worstOf o0 M = some r) : Ct l yX8_worstOf cX8_worstOf 3 (some .int) rm_X8_worstOf G [rA G o0] sh M xs (some (.int r)) sh M xs 0 0 := by
  refine ct_of (by decide) (Nat.le_of_ble_eq_true rfl) ?_
  intro p e s m args below meth c hnm C
  refine k_lv [0] (lv2 := [(0, rA G o0)]) rfl ?_
  unfold f_X8_worstOf at h
  refine k_iconst C (pc2 := 1) (dkAt dkX8_worstOf 0 (q := (0, .iconst 0, 1)) rfl) rfl (v := 0) rfl ?_
  refine k_istore_n C (pc2 := 2) (dkAt dkX8_worstOf 1 (q := (1, .istore_n 1, 1)) rfl) rfl rfl (by decide) (lv2 := [(1, .int 0), (0, rA G o0)]) rfl ?_
  refine k_iconst C (pc2 := 3) (dkAt dkX8_worstOf 2 (q := (2, .iconst 1, 1)) rfl) rfl (v := 1) rfl ?_
  refine k_istore_n C (pc2 := 4) (dkAt dkX8_worstOf 3 (q := (3, .istore_n 2, 1)) rfl) rfl rfl (by decide) (lv2 := [(2, .int 1), (1, .int 0), (0, rA G o0)]) rfl ?_
  refine k_lv [2, 1, 0] (lv2 := [(0, rA G o0), (1, .int 0), (2, .int 1)]) rfl ?_
  obtain ⟨v5, e4, h⟩ := ob_inv h
  refine kl_X8_worstOf_L4 C o0 h0 M v5 ?_ 1000 0 1 e4
  refine k_iload_n C (pc2 := 40) (dkAt dkX8_worstOf 23 (q := (39, .iload_n 1, 1)) rfl) rfl rfl 0 rfl ?_
  exact k_iret C (dkAt dkX8_worstOf 24 (q := (40, .ireturn, 1)) rfl) (Option.some.inj h) rfl rfl rfl
set_option maxRecDepth 100000 in
set_option maxHeartbeats 4000000 in
theorem ct_X8_worst (l : Launch) (G : GG) (sh : Sh) (xs : List va_E) (o0 : Nat) (h0 : isM sh o0) (M : Mm) (r : Mm × Int32) (h : f_X8_worst o0 M = some r) : Ct l yX8_worst cX8_worst 1 (some .int) rm_X8_worst G [rA G o0] sh M xs (some (.int r.2)) sh r.1 xs 0 0 := by
  refine ct_of (by decide) (Nat.le_of_ble_eq_true rfl) ?_
  intro p e s m args below meth c hnm C
  refine k_lv [0] (lv2 := [(0, rA G o0)]) rfl ?_
  unfold f_X8_worst at h
  refine k_aload_n C (pc2 := 1) (dkAt dkX8_worst 0 (q := (0, .aload_n 0, 1)) rfl) rfl rfl 0 rfl ?_
  refine kf_X8_82 C (pc2 := 4) (o := o0) (o2 := 0) h0.1 (dkAt dkX8_worst 1 (q := (1, .getfield 82, 3)) rfl) rfl ?_
  refine k_if_ne C (tgt := 16) (pc2 := 7) (dkAt dkX8_worst 2 (q := (4, .ifCond .ne 12, 3)) rfl) (by decide) rfl h (fun h => ?_) (fun h => ?_)
  · refine k_aload_n C (pc2 := 17) (dkAt dkX8_worst 7 (q := (16, .aload_n 0, 1)) rfl) rfl rfl 0 rfl ?_
    obtain ⟨q1, e2, h⟩ := ob_inv h
    refine kc_V C (As := []) (st2 := [.int q1]) (ct_X8_worstOf l G sh xs o0 h0 M q1 e2) (cl_X8_334 (hts_of C) ⟨Nat.le_of_ble_eq_true rfl, Nat.le_of_ble_eq_true rfl⟩ rfl rfl) h0.1 rfl rfl rfl rfl rfl (Nat.le_of_ble_eq_true rfl) (dkAt dkX8_worst 8 (q := (17, .invokevirtual 334, 3)) rfl) ⟨Nat.zero_le _, Nat.zero_le _⟩ (pc2 := 20) rfl rfl ?_
    exact k_iret C (dkAt dkX8_worst 9 (q := (20, .ireturn, 1)) rfl) (pe2 (Option.some.inj h)) rfl (pe1 (Option.some.inj h)) rfl
  · refine k_aload_n C (pc2 := 8) (dkAt dkX8_worst 3 (q := (7, .aload_n 0, 1)) rfl) rfl rfl 0 rfl ?_
    refine k_bipush C (pc2 := 10) (dkAt dkX8_worst 4 (q := (8, .bipush (-5), 2)) rfl) rfl (v := (-5)) rfl ?_
    obtain ⟨q3, e4, h⟩ := ob_inv h
    refine kc_V C (As := [.int (-5)]) (st2 := [.int q3.2]) (ct_X8_refuse l G sh xs o0 h0 (-5) M q3 e4) (cl_X8_97 (hts_of C) ⟨Nat.le_of_ble_eq_true rfl, Nat.le_of_ble_eq_true rfl⟩ rfl rfl) h0.1 rfl rfl rfl rfl rfl (Nat.le_of_ble_eq_true rfl) (dkAt dkX8_worst 5 (q := (10, .invokevirtual 97, 3)) rfl) ⟨Nat.zero_le _, Nat.zero_le _⟩ (pc2 := 13) rfl rfl ?_
    refine k_goto C (tgt := 20) (dkAt dkX8_worst 6 (q := (13, .goto 7, 3)) rfl) (by decide) ?_
    exact k_iret C (dkAt dkX8_worst 9 (q := (20, .ireturn, 1)) rfl) (pe2 (Option.some.inj h)) rfl (pe1 (Option.some.inj h)) rfl
set_option maxRecDepth 100000 in
set_option maxHeartbeats 4000000 in
theorem kl_X8_drop_L35 {p : Program} {l : Launch} {e : Env} {s : State} {m : MethodId} {args : Array Value} {below : List Frame} {meth : Method} {c : Code} {G : GG} {sh : Sh} {xs : List va_E} {Q : State → Prop} (C : Cx p s m c args meth G RX8 cX8_drop 4 (some .int)) (o0 : Nat) (h0 : isM sh o0) (x1 : Int32) (M : Mm) (y2 : Int32) (hcont : KW p l e rm_X8_drop s m args below meth c G 4 Q sh xs 0 0 M 74 [(0, rA G o0), (1, .int x1), (2, .int y2)] []) : ∀ (n : Nat) (x2 : Int32) (x3 : Int32), f_X8_drop_L35 o0 x1 M n x2 x3 = some y2 → KW p l e rm_X8_drop s m args below meth c G 4 Q sh xs 0 0 M 35 [(0, rA G o0), (1, .int x1), (2, .int x2), (3, .int x3)] [] := by
  intro n
  induction n with
  | zero =>
    intro x2 x3 h
    cases h
  | succ n ih =>
    intro x2 x3 h
    unfold f_X8_drop_L35 at h
    refine k_iload_n C (pc2 := 36) (dkAt dkX8_drop 21 (q := (35, .iload_n 3, 1)) rfl) rfl rfl 3 rfl ?_
    refine k_aload_n C (pc2 := 37) (dkAt dkX8_drop 22 (q := (36, .aload_n 0, 1)) rfl) rfl rfl 0 rfl ?_
    refine kf_X8_82 C (pc2 := 40) (o := o0) (o2 := 0) h0.1 (dkAt dkX8_drop 23 (q := (37, .getfield 82, 3)) rfl) rfl ?_
    refine k_icmp_ge C (tgt := 74) (pc2 := 43) (dkAt dkX8_drop 24 (q := (40, .if_icmp .ge 34, 3)) rfl) (by decide) rfl h (fun h => ?_) (fun h => ?_)
    · refine k_lv [0, 1, 2] (lv2 := [(0, rA G o0), (1, .int x1), (2, .int x2)]) rfl ?_
      cases h
      exact hcont
    · refine k_aload_n C (pc2 := 44) (dkAt dkX8_drop 25 (q := (43, .aload_n 0, 1)) rfl) rfl rfl 0 rfl ?_
      refine k_iload_n C (pc2 := 45) (dkAt dkX8_drop 26 (q := (44, .iload_n 3, 1)) rfl) rfl rfl 3 rfl ?_
      obtain ⟨q3, e4, h⟩ := ob_inv h
      refine kc_V C (As := [.int x3]) (st2 := [.int q3]) (ct_X8_allBut l G sh xs o0 h0 x3 M q3 e4) (cl_X8_266 (hts_of C) ⟨Nat.le_of_ble_eq_true rfl, Nat.le_of_ble_eq_true rfl⟩ rfl rfl) h0.1 rfl rfl rfl rfl rfl (Nat.le_of_ble_eq_true rfl) (dkAt dkX8_drop 27 (q := (45, .invokevirtual 266, 3)) rfl) ⟨Nat.zero_le _, Nat.zero_le _⟩ (pc2 := 48) rfl rfl ?_
      obtain ⟨q5, e6, h⟩ := ob_inv h
      refine kc_S C (As := [.int q3]) (st2 := [.int q5]) (ct_X8_bits l G sh xs q3 M q5 e6) (cl_X8_118 (hts_of C) ⟨Nat.le_of_ble_eq_true rfl, Nat.le_of_ble_eq_true rfl⟩ rfl rfl) rfl rfl (Nat.le_of_ble_eq_true rfl) (dkAt dkX8_drop 28 (q := (48, .invokestatic 118, 3)) rfl) ⟨Nat.zero_le _, Nat.zero_le _⟩ (pc2 := 51) rfl rfl ?_
      refine k_aload_n C (pc2 := 52) (dkAt dkX8_drop 29 (q := (51, .aload_n 0, 1)) rfl) rfl rfl 0 rfl ?_
      refine k_iload_n C (pc2 := 53) (dkAt dkX8_drop 30 (q := (52, .iload_n 2, 1)) rfl) rfl rfl 2 rfl ?_
      obtain ⟨q7, e8, h⟩ := ob_inv h
      refine kc_V C (As := [.int x2]) (st2 := [.int q7, .int q5]) (ct_X8_allBut l G sh xs o0 h0 x2 M q7 e8) (cl_X8_266 (hts_of C) ⟨Nat.le_of_ble_eq_true rfl, Nat.le_of_ble_eq_true rfl⟩ rfl rfl) h0.1 rfl rfl rfl rfl rfl (Nat.le_of_ble_eq_true rfl) (dkAt dkX8_drop 31 (q := (53, .invokevirtual 266, 3)) rfl) ⟨Nat.zero_le _, Nat.zero_le _⟩ (pc2 := 56) rfl rfl ?_
      obtain ⟨q9, e10, h⟩ := ob_inv h
      refine kc_S C (As := [.int q7]) (st2 := [.int q9, .int q5]) (ct_X8_bits l G sh xs q7 M q9 e10) (cl_X8_118 (hts_of C) ⟨Nat.le_of_ble_eq_true rfl, Nat.le_of_ble_eq_true rfl⟩ rfl rfl) rfl rfl (Nat.le_of_ble_eq_true rfl) (dkAt dkX8_drop 32 (q := (56, .invokestatic 118, 3)) rfl) ⟨Nat.zero_le _, Nat.zero_le _⟩ (pc2 := 59) rfl rfl ?_
      refine k_icmp_le C (tgt := 66) (pc2 := 62) (dkAt dkX8_drop 33 (q := (59, .if_icmp .le 7, 3)) rfl) (by decide) rfl h (fun h => ?_) (fun h => ?_)
      · refine k_iload_n C (pc2 := 67) (dkAt dkX8_drop 36 (q := (66, .iload_n 2, 1)) rfl) rfl rfl 2 rfl ?_
        refine k_istore_n C (pc2 := 68) (dkAt dkX8_drop 37 (q := (67, .istore_n 2, 1)) rfl) rfl rfl (by decide) (lv2 := [(2, .int x2), (0, rA G o0), (1, .int x1), (3, .int x3)]) rfl ?_
        refine kb_iinc C (pc2 := 71) (dkAt dkX8_drop 38 (q := (68, .iinc 3 1, 3)) rfl) rfl (j := 3) rfl (v := x3 + 1) rfl (by decide) (lv2 := fun v11 => [(3, .int v11), (2, .int x2), (0, rA G o0), (1, .int x1)]) (fun _ => rfl) h (fun v11 h => ?_)
        refine k_goto C (tgt := 35) (dkAt dkX8_drop 39 (q := (71, .goto (-36), 3)) rfl) (by decide) ?_
        refine k_lv [2, 3, 1, 0] (lv2 := [(0, rA G o0), (1, .int x1), (2, .int x2), (3, .int v11)]) rfl ?_
        exact ih x2 v11 h
      · refine k_iload_n C (pc2 := 63) (dkAt dkX8_drop 34 (q := (62, .iload_n 3, 1)) rfl) rfl rfl 3 rfl ?_
        refine k_goto C (tgt := 67) (dkAt dkX8_drop 35 (q := (63, .goto 4, 3)) rfl) (by decide) ?_
        refine k_istore_n C (pc2 := 68) (dkAt dkX8_drop 37 (q := (67, .istore_n 2, 1)) rfl) rfl rfl (by decide) (lv2 := [(2, .int x3), (0, rA G o0), (1, .int x1), (3, .int x3)]) rfl ?_
        refine kb_iinc C (pc2 := 71) (dkAt dkX8_drop 38 (q := (68, .iinc 3 1, 3)) rfl) rfl (j := 3) rfl (v := x3 + 1) rfl (by decide) (lv2 := fun v12 => [(3, .int v12), (2, .int x3), (0, rA G o0), (1, .int x1)]) (fun _ => rfl) h (fun v12 h => ?_)
        refine k_goto C (tgt := 35) (dkAt dkX8_drop 39 (q := (71, .goto (-36), 3)) rfl) (by decide) ?_
        refine k_lv [2, 3, 1, 0] (lv2 := [(0, rA G o0), (1, .int x1), (2, .int x3), (3, .int v12)]) rfl ?_
        exact ih x3 v12 h
set_option maxRecDepth 100000 in
set_option maxHeartbeats 4000000 in
theorem ct_X8_drop (l : Launch) (G : GG) (sh : Sh) (xs : List va_E) (o0 : Nat) (h0 : isM sh o0) (x1 : Int32) (M : Mm) (r : Mm × Int32) (h : f_X8_drop o0 x1 M = some r) : Ct l yX8_drop cX8_drop 4 (some .int) rm_X8_drop G [rA G o0, .int x1] sh M xs (some (.int r.2)) sh r.1 xs 0 0 := by
  refine ct_of (by decide) (Nat.le_of_ble_eq_true rfl) ?_
  intro p e s m args below meth c hnm C
  refine k_lv [0, 1] (lv2 := [(0, rA G o0), (1, .int x1)]) rfl ?_
  unfold f_X8_drop at h
  refine k_iload_n C (pc2 := 1) (dkAt dkX8_drop 0 (q := (0, .iload_n 1, 1)) rfl) rfl rfl 1 rfl ?_
  refine k_i2l C (pc2 := 2) (dkAt dkX8_drop 1 (q := (1, .i2l, 1)) rfl) rfl ?_
  refine k_lconst C (pc2 := 3) (dkAt dkX8_drop 2 (q := (2, .lconst 0, 1)) rfl) rfl (v := 0) rfl ?_
  refine k_lconst C (pc2 := 4) (dkAt dkX8_drop 3 (q := (3, .lconst 1, 1)) rfl) rfl (v := 1) rfl ?_
  obtain ⟨q1, e2, h⟩ := ob_inv h
  refine kc_S C (As := [.long x1.toInt64, .long 0, .long 1]) (st2 := [.int q1]) (ct_X8_in l G sh xs x1.toInt64 0 1 M q1 e2) (cl_X8_85 (hts_of C) ⟨Nat.le_of_ble_eq_true rfl, Nat.le_of_ble_eq_true rfl⟩ rfl rfl) rfl rfl (Nat.le_of_ble_eq_true rfl) (dkAt dkX8_drop 4 (q := (4, .invokestatic 85, 3)) rfl) ⟨Nat.zero_le _, Nat.zero_le _⟩ (pc2 := 7) rfl rfl ?_
  refine k_if_ne C (tgt := 17) (pc2 := 10) (dkAt dkX8_drop 5 (q := (7, .ifCond .ne 10, 3)) rfl) (by decide) rfl h (fun h => ?_) (fun h => ?_)
  · refine k_aload_n C (pc2 := 18) (dkAt dkX8_drop 10 (q := (17, .aload_n 0, 1)) rfl) rfl rfl 0 rfl ?_
    refine kf_X8_82 C (pc2 := 21) (o := o0) (o2 := 0) h0.1 (dkAt dkX8_drop 11 (q := (18, .getfield 82, 3)) rfl) rfl ?_
    refine k_if_ne C (tgt := 31) (pc2 := 24) (dkAt dkX8_drop 12 (q := (21, .ifCond .ne 10, 3)) rfl) (by decide) rfl h (fun h => ?_) (fun h => ?_)
    · refine k_iconst C (pc2 := 32) (dkAt dkX8_drop 17 (q := (31, .iconst 0, 1)) rfl) rfl (v := 0) rfl ?_
      refine k_istore_n C (pc2 := 33) (dkAt dkX8_drop 18 (q := (32, .istore_n 2, 1)) rfl) rfl rfl (by decide) (lv2 := [(2, .int 0), (0, rA G o0), (1, .int x1)]) rfl ?_
      refine k_iconst C (pc2 := 34) (dkAt dkX8_drop 19 (q := (33, .iconst 1, 1)) rfl) rfl (v := 1) rfl ?_
      refine k_istore_n C (pc2 := 35) (dkAt dkX8_drop 20 (q := (34, .istore_n 3, 1)) rfl) rfl rfl (by decide) (lv2 := [(3, .int 1), (2, .int 0), (0, rA G o0), (1, .int x1)]) rfl ?_
      refine k_lv [2, 3, 1, 0] (lv2 := [(0, rA G o0), (1, .int x1), (2, .int 0), (3, .int 1)]) rfl ?_
      obtain ⟨v15, e14, h⟩ := ob_inv h
      refine kl_X8_drop_L35 C o0 h0 x1 M v15 ?_ 1000 0 1 e14
      refine k_iload_n C (pc2 := 75) (dkAt dkX8_drop 40 (q := (74, .iload_n 1, 1)) rfl) rfl rfl 1 rfl ?_
      refine k_if_ne C (tgt := 82) (pc2 := 78) (dkAt dkX8_drop 41 (q := (75, .ifCond .ne 7, 3)) rfl) (by decide) rfl h (fun h => ?_) (fun h => ?_)
      · refine k_aload_n C (pc2 := 83) (dkAt dkX8_drop 44 (q := (82, .aload_n 0, 1)) rfl) rfl rfl 0 rfl ?_
        refine k_iload_n C (pc2 := 84) (dkAt dkX8_drop 45 (q := (83, .iload_n 2, 1)) rfl) rfl rfl 2 rfl ?_
        obtain ⟨q16, e17, h⟩ := ob_inv h
        refine kc_V C (As := [.int v15]) (st2 := [.int q16]) (ct_X8_allBut l G sh xs o0 h0 v15 M q16 e17) (cl_X8_266 (hts_of C) ⟨Nat.le_of_ble_eq_true rfl, Nat.le_of_ble_eq_true rfl⟩ rfl rfl) h0.1 rfl rfl rfl rfl rfl (Nat.le_of_ble_eq_true rfl) (dkAt dkX8_drop 46 (q := (84, .invokevirtual 266, 3)) rfl) ⟨Nat.zero_le _, Nat.zero_le _⟩ (pc2 := 87) rfl rfl ?_
        obtain ⟨q18, e19, h⟩ := ob_inv h
        refine kc_S C (As := [.int q16]) (st2 := [.int q18]) (ct_X8_bits l G sh xs q16 M q18 e19) (cl_X8_118 (hts_of C) ⟨Nat.le_of_ble_eq_true rfl, Nat.le_of_ble_eq_true rfl⟩ rfl rfl) rfl rfl (Nat.le_of_ble_eq_true rfl) (dkAt dkX8_drop 47 (q := (87, .invokestatic 118, 3)) rfl) ⟨Nat.zero_le _, Nat.zero_le _⟩ (pc2 := 90) rfl rfl ?_
        exact k_iret C (dkAt dkX8_drop 48 (q := (90, .ireturn, 1)) rfl) (pe2 (Option.some.inj h)) rfl (pe1 (Option.some.inj h)) rfl
      · refine k_iload_n C (pc2 := 79) (dkAt dkX8_drop 42 (q := (78, .iload_n 2, 1)) rfl) rfl rfl 2 rfl ?_
        refine k_goto C (tgt := 90) (dkAt dkX8_drop 43 (q := (79, .goto 11, 3)) rfl) (by decide) ?_
        exact k_iret C (dkAt dkX8_drop 48 (q := (90, .ireturn, 1)) rfl) (pe2 (Option.some.inj h)) rfl (pe1 (Option.some.inj h)) rfl
    · refine k_aload_n C (pc2 := 25) (dkAt dkX8_drop 13 (q := (24, .aload_n 0, 1)) rfl) rfl rfl 0 rfl ?_
      refine k_bipush C (pc2 := 27) (dkAt dkX8_drop 14 (q := (25, .bipush (-5), 2)) rfl) rfl (v := (-5)) rfl ?_
      obtain ⟨q20, e21, h⟩ := ob_inv h
      refine kc_V C (As := [.int (-5)]) (st2 := [.int q20.2]) (ct_X8_refuse l G sh xs o0 h0 (-5) M q20 e21) (cl_X8_97 (hts_of C) ⟨Nat.le_of_ble_eq_true rfl, Nat.le_of_ble_eq_true rfl⟩ rfl rfl) h0.1 rfl rfl rfl rfl rfl (Nat.le_of_ble_eq_true rfl) (dkAt dkX8_drop 15 (q := (27, .invokevirtual 97, 3)) rfl) ⟨Nat.zero_le _, Nat.zero_le _⟩ (pc2 := 30) rfl rfl ?_
      exact k_iret C (dkAt dkX8_drop 16 (q := (30, .ireturn, 1)) rfl) (pe2 (Option.some.inj h)) rfl (pe1 (Option.some.inj h)) rfl
  · refine k_aload_n C (pc2 := 11) (dkAt dkX8_drop 6 (q := (10, .aload_n 0, 1)) rfl) rfl rfl 0 rfl ?_
    refine k_bipush C (pc2 := 13) (dkAt dkX8_drop 7 (q := (11, .bipush (-2), 2)) rfl) rfl (v := (-2)) rfl ?_
    obtain ⟨q22, e23, h⟩ := ob_inv h
    refine kc_V C (As := [.int (-2)]) (st2 := [.int q22.2]) (ct_X8_refuse l G sh xs o0 h0 (-2) M q22 e23) (cl_X8_97 (hts_of C) ⟨Nat.le_of_ble_eq_true rfl, Nat.le_of_ble_eq_true rfl⟩ rfl rfl) h0.1 rfl rfl rfl rfl rfl (Nat.le_of_ble_eq_true rfl) (dkAt dkX8_drop 8 (q := (13, .invokevirtual 97, 3)) rfl) ⟨Nat.zero_le _, Nat.zero_le _⟩ (pc2 := 16) rfl rfl ?_
    exact k_iret C (dkAt dkX8_drop 9 (q := (16, .ireturn, 1)) rfl) (pe2 (Option.some.inj h)) rfl (pe1 (Option.some.inj h)) rfl
set_option maxRecDepth 100000 in
set_option maxHeartbeats 4000000 in
theorem kl_X8_pairs_L19 {p : Program} {l : Launch} {e : Env} {s : State} {m : MethodId} {args : Array Value} {below : List Frame} {meth : Method} {c : Code} {G : GG} {sh : Sh} {xs : List va_E} {Q : State → Prop} (C : Cx p s m c args meth G RX8 cX8_pairs 6 (some .int)) (o0 : Nat) (h0 : isM sh o0) (x3 : Int32) (M : Mm) (y1 : Int32) (y2 : Int32) (hcont : KW p l e rm_X8_pairs s m args below meth c G 6 Q sh xs 0 0 M 84 [(0, rA G o0), (1, .int y1), (2, .int y2), (3, .int x3)] []) : ∀ (n : Nat) (x1 : Int32) (x2 : Int32) (x4 : Int32), f_X8_pairs_L19 o0 x3 M n x1 x2 x4 = some (y1, y2) → KW p l e rm_X8_pairs s m args below meth c G 6 Q sh xs 0 0 M 19 [(0, rA G o0), (1, .int x1), (2, .int x2), (3, .int x3), (4, .int x4)] [] := by
  intro n
  induction n with
  | zero =>
    intro x1 x2 x4 h
    cases h
  | succ n ih =>
    intro x1 x2 x4 h
    unfold f_X8_pairs_L19 at h
    refine k_iload C (pc2 := 21) (dkAt dkX8_pairs 14 (q := (19, .iload 4, 2)) rfl) rfl 4 rfl ?_
    refine k_aload_n C (pc2 := 22) (dkAt dkX8_pairs 15 (q := (21, .aload_n 0, 1)) rfl) rfl rfl 0 rfl ?_
    refine kf_X8_82 C (pc2 := 25) (o := o0) (o2 := 0) h0.1 (dkAt dkX8_pairs 16 (q := (22, .getfield 82, 3)) rfl) rfl ?_
    refine k_icmp_ge C (tgt := 84) (pc2 := 28) (dkAt dkX8_pairs 17 (q := (25, .if_icmp .ge 59, 3)) rfl) (by decide) rfl h (fun h => ?_) (fun h => ?_)
    · refine k_lv [0, 1, 2, 3] (lv2 := [(0, rA G o0), (1, .int x1), (2, .int x2), (3, .int x3)]) rfl ?_
      cases h
      exact hcont
    · refine k_aload_n C (pc2 := 29) (dkAt dkX8_pairs 18 (q := (28, .aload_n 0, 1)) rfl) rfl rfl 0 rfl ?_
      refine kf_X8_50 C (pc2 := 32) (o := o0) (o2 := o0 + 20) h0.1 rfl (dkAt dkX8_pairs 19 (q := (29, .getfield 50, 3)) rfl) rfl ?_
      refine k_iload_n C (pc2 := 33) (dkAt dkX8_pairs 20 (q := (32, .iload_n 3, 1)) rfl) rfl rfl 3 rfl ?_
      refine k_iald C (pc2 := 34) (o := o0 + 20) (nA := 8) (isM_can h0) (dkAt dkX8_pairs 21 (q := (33, .iaload, 1)) rfl) rfl h (fun h => ?_)
      refine k_aload_n C (pc2 := 35) (dkAt dkX8_pairs 22 (q := (34, .aload_n 0, 1)) rfl) rfl rfl 0 rfl ?_
      refine kf_X8_50 C (pc2 := 38) (o := o0) (o2 := o0 + 20) h0.1 rfl (dkAt dkX8_pairs 23 (q := (35, .getfield 50, 3)) rfl) rfl ?_
      refine k_iload C (pc2 := 40) (dkAt dkX8_pairs 24 (q := (38, .iload 4, 2)) rfl) rfl 4 rfl ?_
      refine k_iald C (pc2 := 41) (o := o0 + 20) (nA := 8) (isM_can h0) (dkAt dkX8_pairs 25 (q := (40, .iaload, 1)) rfl) rfl h (fun h => ?_)
      refine k_iand C (pc2 := 42) (dkAt dkX8_pairs 26 (q := (41, .iand, 1)) rfl) rfl ?_
      obtain ⟨q2, e3, h⟩ := ob_inv h
      refine kc_S C (As := [.int ((M.1 (o0 + 20) x3.toNatClampNeg) &&& (M.1 (o0 + 20) x4.toNatClampNeg))]) (st2 := [.int q2]) (ct_X8_bits l G sh xs ((M.1 (o0 + 20) x3.toNatClampNeg) &&& (M.1 (o0 + 20) x4.toNatClampNeg)) M q2 e3) (cl_X8_118 (hts_of C) ⟨Nat.le_of_ble_eq_true rfl, Nat.le_of_ble_eq_true rfl⟩ rfl rfl) rfl rfl (Nat.le_of_ble_eq_true rfl) (dkAt dkX8_pairs 27 (q := (42, .invokestatic 118, 3)) rfl) ⟨Nat.zero_le _, Nat.zero_le _⟩ (pc2 := 45) rfl rfl ?_
      refine k_istore C (pc2 := 47) (dkAt dkX8_pairs 28 (q := (45, .istore 5, 2)) rfl) rfl (by decide) (lv2 := [(5, .int q2), (0, rA G o0), (1, .int x1), (2, .int x2), (3, .int x3), (4, .int x4)]) rfl ?_
      refine k_iload C (pc2 := 49) (dkAt dkX8_pairs 29 (q := (47, .iload 5, 2)) rfl) rfl 0 rfl ?_
      refine k_iload_n C (pc2 := 50) (dkAt dkX8_pairs 30 (q := (49, .iload_n 2, 1)) rfl) rfl rfl 3 rfl ?_
      refine k_icmp_le C (tgt := 63) (pc2 := 53) (dkAt dkX8_pairs 31 (q := (50, .if_icmp .le 13, 3)) rfl) (by decide) rfl h (fun h => ?_) (fun h => ?_)
      · refine k_iload_n C (pc2 := 64) (dkAt dkX8_pairs 38 (q := (63, .iload_n 1, 1)) rfl) rfl rfl 2 rfl ?_
        refine k_istore_n C (pc2 := 65) (dkAt dkX8_pairs 39 (q := (64, .istore_n 1, 1)) rfl) rfl rfl (by decide) (lv2 := [(1, .int x1), (5, .int q2), (0, rA G o0), (2, .int x2), (3, .int x3), (4, .int x4)]) rfl ?_
        refine k_iload C (pc2 := 67) (dkAt dkX8_pairs 40 (q := (65, .iload 5, 2)) rfl) rfl 1 rfl ?_
        refine k_iload_n C (pc2 := 68) (dkAt dkX8_pairs 41 (q := (67, .iload_n 2, 1)) rfl) rfl rfl 3 rfl ?_
        refine k_icmp_le C (tgt := 76) (pc2 := 71) (dkAt dkX8_pairs 42 (q := (68, .if_icmp .le 8, 3)) rfl) (by decide) rfl h (fun h => ?_) (fun h => ?_)
        · refine k_iload_n C (pc2 := 77) (dkAt dkX8_pairs 45 (q := (76, .iload_n 2, 1)) rfl) rfl rfl 3 rfl ?_
          refine k_istore_n C (pc2 := 78) (dkAt dkX8_pairs 46 (q := (77, .istore_n 2, 1)) rfl) rfl rfl (by decide) (lv2 := [(2, .int x2), (1, .int x1), (5, .int q2), (0, rA G o0), (3, .int x3), (4, .int x4)]) rfl ?_
          refine kb_iinc C (pc2 := 81) (dkAt dkX8_pairs 47 (q := (78, .iinc 4 1, 3)) rfl) rfl (j := 5) rfl (v := x4 + 1) rfl (by decide) (lv2 := fun v4 => [(4, .int v4), (2, .int x2), (1, .int x1), (5, .int q2), (0, rA G o0), (3, .int x3)]) (fun _ => rfl) h (fun v4 h => ?_)
          refine k_goto C (tgt := 19) (dkAt dkX8_pairs 48 (q := (81, .goto (-62), 3)) rfl) (by decide) ?_
          refine k_lv [4, 2, 1, 5, 0] (lv2 := [(0, rA G o0), (1, .int x1), (2, .int x2), (3, .int x3), (4, .int v4)]) rfl ?_
          exact ih x1 x2 v4 h
        · refine k_iload C (pc2 := 73) (dkAt dkX8_pairs 43 (q := (71, .iload 5, 2)) rfl) rfl 1 rfl ?_
          refine k_goto C (tgt := 77) (dkAt dkX8_pairs 44 (q := (73, .goto 4, 3)) rfl) (by decide) ?_
          refine k_istore_n C (pc2 := 78) (dkAt dkX8_pairs 46 (q := (77, .istore_n 2, 1)) rfl) rfl rfl (by decide) (lv2 := [(2, .int q2), (1, .int x1), (5, .int q2), (0, rA G o0), (3, .int x3), (4, .int x4)]) rfl ?_
          refine kb_iinc C (pc2 := 81) (dkAt dkX8_pairs 47 (q := (78, .iinc 4 1, 3)) rfl) rfl (j := 5) rfl (v := x4 + 1) rfl (by decide) (lv2 := fun v5 => [(4, .int v5), (2, .int q2), (1, .int x1), (5, .int q2), (0, rA G o0), (3, .int x3)]) (fun _ => rfl) h (fun v5 h => ?_)
          refine k_goto C (tgt := 19) (dkAt dkX8_pairs 48 (q := (81, .goto (-62), 3)) rfl) (by decide) ?_
          refine k_lv [4, 2, 1, 5, 0] (lv2 := [(0, rA G o0), (1, .int x1), (2, .int q2), (3, .int x3), (4, .int v5)]) rfl ?_
          exact ih x1 q2 v5 h
      · refine k_bipush C (pc2 := 55) (dkAt dkX8_pairs 32 (q := (53, .bipush 10, 2)) rfl) rfl (v := 10) rfl ?_
        refine k_iload_n C (pc2 := 56) (dkAt dkX8_pairs 33 (q := (55, .iload_n 3, 1)) rfl) rfl rfl 4 rfl ?_
        refine k_imul C (pc2 := 57) (dkAt dkX8_pairs 34 (q := (56, .imul, 1)) rfl) rfl ?_
        refine k_iload C (pc2 := 59) (dkAt dkX8_pairs 35 (q := (57, .iload 4, 2)) rfl) rfl 5 rfl ?_
        refine k_iadd C (pc2 := 60) (dkAt dkX8_pairs 36 (q := (59, .iadd, 1)) rfl) rfl ?_
        refine k_goto C (tgt := 64) (dkAt dkX8_pairs 37 (q := (60, .goto 4, 3)) rfl) (by decide) ?_
        refine kb_istore_n C (pc2 := 65) (dkAt dkX8_pairs 39 (q := (64, .istore_n 1, 1)) rfl) rfl rfl (by decide) (lv2 := fun v6 => [(1, .int v6), (5, .int q2), (0, rA G o0), (2, .int x2), (3, .int x3), (4, .int x4)]) (fun _ => rfl) h (fun v6 h => ?_)
        refine k_iload C (pc2 := 67) (dkAt dkX8_pairs 40 (q := (65, .iload 5, 2)) rfl) rfl 1 rfl ?_
        refine k_iload_n C (pc2 := 68) (dkAt dkX8_pairs 41 (q := (67, .iload_n 2, 1)) rfl) rfl rfl 3 rfl ?_
        refine k_icmp_le C (tgt := 76) (pc2 := 71) (dkAt dkX8_pairs 42 (q := (68, .if_icmp .le 8, 3)) rfl) (by decide) rfl h (fun h => ?_) (fun h => ?_)
        · refine k_iload_n C (pc2 := 77) (dkAt dkX8_pairs 45 (q := (76, .iload_n 2, 1)) rfl) rfl rfl 3 rfl ?_
          refine k_istore_n C (pc2 := 78) (dkAt dkX8_pairs 46 (q := (77, .istore_n 2, 1)) rfl) rfl rfl (by decide) (lv2 := [(2, .int x2), (1, .int v6), (5, .int q2), (0, rA G o0), (3, .int x3), (4, .int x4)]) rfl ?_
          refine kb_iinc C (pc2 := 81) (dkAt dkX8_pairs 47 (q := (78, .iinc 4 1, 3)) rfl) rfl (j := 5) rfl (v := x4 + 1) rfl (by decide) (lv2 := fun v7 => [(4, .int v7), (2, .int x2), (1, .int v6), (5, .int q2), (0, rA G o0), (3, .int x3)]) (fun _ => rfl) h (fun v7 h => ?_)
          refine k_goto C (tgt := 19) (dkAt dkX8_pairs 48 (q := (81, .goto (-62), 3)) rfl) (by decide) ?_
          refine k_lv [4, 2, 1, 5, 0] (lv2 := [(0, rA G o0), (1, .int v6), (2, .int x2), (3, .int x3), (4, .int v7)]) rfl ?_
          exact ih v6 x2 v7 h
        · refine k_iload C (pc2 := 73) (dkAt dkX8_pairs 43 (q := (71, .iload 5, 2)) rfl) rfl 1 rfl ?_
          refine k_goto C (tgt := 77) (dkAt dkX8_pairs 44 (q := (73, .goto 4, 3)) rfl) (by decide) ?_
          refine k_istore_n C (pc2 := 78) (dkAt dkX8_pairs 46 (q := (77, .istore_n 2, 1)) rfl) rfl rfl (by decide) (lv2 := [(2, .int q2), (1, .int v6), (5, .int q2), (0, rA G o0), (3, .int x3), (4, .int x4)]) rfl ?_
          refine kb_iinc C (pc2 := 81) (dkAt dkX8_pairs 47 (q := (78, .iinc 4 1, 3)) rfl) rfl (j := 5) rfl (v := x4 + 1) rfl (by decide) (lv2 := fun v8 => [(4, .int v8), (2, .int q2), (1, .int v6), (5, .int q2), (0, rA G o0), (3, .int x3)]) (fun _ => rfl) h (fun v8 h => ?_)
          refine k_goto C (tgt := 19) (dkAt dkX8_pairs 48 (q := (81, .goto (-62), 3)) rfl) (by decide) ?_
          refine k_lv [4, 2, 1, 5, 0] (lv2 := [(0, rA G o0), (1, .int v6), (2, .int q2), (3, .int x3), (4, .int v8)]) rfl ?_
          exact ih v6 q2 v8 h
set_option maxRecDepth 100000 in
set_option maxHeartbeats 4000000 in
theorem kl_X8_pairs_L6 {p : Program} {l : Launch} {e : Env} {s : State} {m : MethodId} {args : Array Value} {below : List Frame} {meth : Method} {c : Code} {G : GG} {sh : Sh} {xs : List va_E} {Q : State → Prop} (C : Cx p s m c args meth G RX8 cX8_pairs 6 (some .int)) (o0 : Nat) (h0 : isM sh o0) (M : Mm) (y1 : Int32) (hcont : KW p l e rm_X8_pairs s m args below meth c G 6 Q sh xs 0 0 M 90 [(1, .int y1)] []) : ∀ (n : Nat) (x1 : Int32) (x2 : Int32) (x3 : Int32), f_X8_pairs_L6 o0 M n x1 x2 x3 = some y1 → KW p l e rm_X8_pairs s m args below meth c G 6 Q sh xs 0 0 M 6 [(0, rA G o0), (1, .int x1), (2, .int x2), (3, .int x3)] [] := by
  intro n
  induction n with
  | zero =>
    intro x1 x2 x3 h
    cases h
  | succ n ih =>
    intro x1 x2 x3 h
    unfold f_X8_pairs_L6 at h
    refine k_iload_n C (pc2 := 7) (dkAt dkX8_pairs 6 (q := (6, .iload_n 3, 1)) rfl) rfl rfl 3 rfl ?_
    refine k_aload_n C (pc2 := 8) (dkAt dkX8_pairs 7 (q := (7, .aload_n 0, 1)) rfl) rfl rfl 0 rfl ?_
    refine kf_X8_82 C (pc2 := 11) (o := o0) (o2 := 0) h0.1 (dkAt dkX8_pairs 8 (q := (8, .getfield 82, 3)) rfl) rfl ?_
    refine k_icmp_ge C (tgt := 90) (pc2 := 14) (dkAt dkX8_pairs 9 (q := (11, .if_icmp .ge 79, 3)) rfl) (by decide) rfl h (fun h => ?_) (fun h => ?_)
    · refine k_lv [1] (lv2 := [(1, .int x1)]) rfl ?_
      cases h
      exact hcont
    · refine k_iload_n C (pc2 := 15) (dkAt dkX8_pairs 10 (q := (14, .iload_n 3, 1)) rfl) rfl rfl 3 rfl ?_
      refine k_iconst C (pc2 := 16) (dkAt dkX8_pairs 11 (q := (15, .iconst 1, 1)) rfl) rfl (v := 1) rfl ?_
      refine k_iadd C (pc2 := 17) (dkAt dkX8_pairs 12 (q := (16, .iadd, 1)) rfl) rfl ?_
      refine kb_istore C (pc2 := 19) (dkAt dkX8_pairs 13 (q := (17, .istore 4, 2)) rfl) rfl (by decide) (lv2 := fun v1 => [(4, .int v1), (0, rA G o0), (1, .int x1), (2, .int x2), (3, .int x3)]) (fun _ => rfl) h (fun v1 h => ?_)
      refine k_lv [1, 2, 3, 4, 0] (lv2 := [(0, rA G o0), (1, .int x1), (2, .int x2), (3, .int x3), (4, .int v1)]) rfl ?_
      obtain ⟨v11, v12, e10, h⟩ := ob2_inv h
      refine kl_X8_pairs_L19 C o0 h0 x3 M v11 v12 ?_ 1000 x1 x2 v1 e10
      refine kb_iinc C (pc2 := 87) (dkAt dkX8_pairs 49 (q := (84, .iinc 3 1, 3)) rfl) rfl (j := 3) rfl (v := x3 + 1) rfl (by decide) (lv2 := fun v13 => [(3, .int v13), (0, rA G o0), (1, .int v11), (2, .int v12)]) (fun _ => rfl) h (fun v13 h => ?_)
      refine k_goto C (tgt := 6) (dkAt dkX8_pairs 50 (q := (87, .goto (-81), 3)) rfl) (by decide) ?_
      refine k_lv [1, 2, 3, 0] (lv2 := [(0, rA G o0), (1, .int v11), (2, .int v12), (3, .int v13)]) rfl ?_
      exact ih v11 v12 v13 h
set_option maxRecDepth 100000 in
set_option maxHeartbeats 4000000 in
theorem ct_X8_pairs (l : Launch) (G : GG) (sh : Sh) (xs : List va_E) (o0 : Nat) (h0 : isM sh o0) (M : Mm) (r : Int32) (h : f_X8_pairs o0 M = some r) : Ct l yX8_pairs cX8_pairs 6 (some .int) rm_X8_pairs G [rA G o0] sh M xs (some (.int r)) sh M xs 0 0 := by
  refine ct_of (by decide) (Nat.le_of_ble_eq_true rfl) ?_
  intro p e s m args below meth c hnm C
  refine k_lv [0] (lv2 := [(0, rA G o0)]) rfl ?_
  unfold f_X8_pairs at h
  refine k_iconst C (pc2 := 1) (dkAt dkX8_pairs 0 (q := (0, .iconst (-1), 1)) rfl) rfl (v := (-1)) rfl ?_
  refine k_istore_n C (pc2 := 2) (dkAt dkX8_pairs 1 (q := (1, .istore_n 1, 1)) rfl) rfl rfl (by decide) (lv2 := [(1, .int (-1)), (0, rA G o0)]) rfl ?_
  refine k_iconst C (pc2 := 3) (dkAt dkX8_pairs 2 (q := (2, .iconst (-1), 1)) rfl) rfl (v := (-1)) rfl ?_
  refine k_istore_n C (pc2 := 4) (dkAt dkX8_pairs 3 (q := (3, .istore_n 2, 1)) rfl) rfl rfl (by decide) (lv2 := [(2, .int (-1)), (1, .int (-1)), (0, rA G o0)]) rfl ?_
  refine k_iconst C (pc2 := 5) (dkAt dkX8_pairs 4 (q := (4, .iconst 0, 1)) rfl) rfl (v := 0) rfl ?_
  refine k_istore_n C (pc2 := 6) (dkAt dkX8_pairs 5 (q := (5, .istore_n 3, 1)) rfl) rfl rfl (by decide) (lv2 := [(3, .int 0), (2, .int (-1)), (1, .int (-1)), (0, rA G o0)]) rfl ?_
  refine k_lv [3, 2, 1, 0] (lv2 := [(0, rA G o0), (1, .int (-1)), (2, .int (-1)), (3, .int 0)]) rfl ?_
  obtain ⟨v16, e15, h⟩ := ob_inv h
  refine kl_X8_pairs_L6 C o0 h0 M v16 ?_ 1000 (-1) (-1) 0 e15
  refine k_iload_n C (pc2 := 91) (dkAt dkX8_pairs 51 (q := (90, .iload_n 1, 1)) rfl) rfl rfl 0 rfl ?_
  exact k_iret C (dkAt dkX8_pairs 52 (q := (91, .ireturn, 1)) rfl) (Option.some.inj h) rfl rfl rfl
