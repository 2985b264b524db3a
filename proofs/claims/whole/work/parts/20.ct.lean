set_option maxRecDepth 100000 in
set_option maxHeartbeats 4000000 in
theorem ct_X7_hasBit (l : Launch) (G : GG) (sh : Sh) (xs : List va_E) (x0 : Int32) (x1 : Int32) (M : Mm) (r : Int32) (h : f_X7_hasBit x0 x1 = some r) : Ct l yX7_hasBit cX7_hasBit 2 (some .boolean) rm_X7_hasBit G [.int x0, .int x1] sh M xs (some (.int r)) sh M xs 0 0 := by
  refine ct_of (by decide) (Nat.le_of_ble_eq_true rfl) ?_
  intro p e s m args below meth c hnm C
  refine k_lv [0, 1] (lv2 := [(0, .int x0), (1, .int x1)]) rfl ?_
  unfold f_X7_hasBit at h
  refine k_iload_n C (pc2 := 1) (dkAt dkX7_hasBit 0 (q := (0, .iload_n 0, 1)) rfl) rfl rfl 0 rfl ?_
  refine k_iload_n C (pc2 := 2) (dkAt dkX7_hasBit 1 (q := (1, .iload_n 1, 1)) rfl) rfl rfl 1 rfl ?_
  refine k_ishr C (pc2 := 3) (dkAt dkX7_hasBit 2 (q := (2, .ishr, 1)) rfl) rfl ?_
  refine k_iconst C (pc2 := 4) (dkAt dkX7_hasBit 3 (q := (3, .iconst 1, 1)) rfl) rfl (v := 1) rfl ?_
  refine k_iand C (pc2 := 5) (dkAt dkX7_hasBit 4 (q := (4, .iand, 1)) rfl) rfl ?_
  refine k_iconst C (pc2 := 6) (dkAt dkX7_hasBit 5 (q := (5, .iconst 1, 1)) rfl) rfl (v := 1) rfl ?_
  refine k_icmp_ne C (tgt := 13) (pc2 := 9) (dkAt dkX7_hasBit 6 (q := (6, .if_icmp .ne 7, 3)) rfl) (by decide) rfl h (fun h => ?_) (fun h => ?_)
  · refine k_iconst C (pc2 := 14) (dkAt dkX7_hasBit 9 (q := (13, .iconst 0, 1)) rfl) rfl (v := 0) rfl ?_
    exact k_zret C (dkAt dkX7_hasBit 10 (q := (14, .ireturn, 1)) rfl) rfl (Option.some.inj h) rfl rfl rfl
  · refine k_iconst C (pc2 := 10) (dkAt dkX7_hasBit 7 (q := (9, .iconst 1, 1)) rfl) rfl (v := 1) rfl ?_
    refine k_goto C (tgt := 14) (dkAt dkX7_hasBit 8 (q := (10, .goto 4, 3)) rfl) (by decide) ?_
    exact k_zret C (dkAt dkX7_hasBit 10 (q := (14, .ireturn, 1)) rfl) rfl (Option.some.inj h) rfl rfl rfl
set_option maxRecDepth 100000 in
set_option maxHeartbeats 4000000 in
theorem ct_X2_isFree (l : Launch) (G : GG) (sh : Sh) (xs : List va_E) (o0 : Nat) (h0 : isP sh o0) (x1 : Int32) (M : Mm) (r : Int32) (h : f_X2_isFree o0 x1 M = some r) : Ct l yX2_isFree cX2_isFree 2 (some .boolean) rm_X2_isFree G [rA G o0, .int x1] sh M xs (some (.int r)) sh M xs 0 0 := by
  refine ct_of (by decide) (Nat.le_of_ble_eq_true rfl) ?_
  intro p e s m args below meth c hnm C
  refine k_lv [0, 1] (lv2 := [(0, rA G o0), (1, .int x1)]) rfl ?_
  unfold f_X2_isFree at h
  refine k_aload_n C (pc2 := 1) (dkAt dkX2_isFree 0 (q := (0, .aload_n 0, 1)) rfl) rfl rfl 0 rfl ?_
  refine kf_X2_21 C (pc2 := 4) (o := o0) (o2 := 0) h0 (dkAt dkX2_isFree 1 (q := (1, .getfield 21, 3)) rfl) rfl ?_
  refine k_iload_n C (pc2 := 5) (dkAt dkX2_isFree 2 (q := (4, .iload_n 1, 1)) rfl) rfl rfl 1 rfl ?_
  obtain ⟨q1, e2, h⟩ := ob_inv h
  refine kc_SN C (As := [.int (M.1 o0 3), .int x1]) (st2 := [.int q1]) (ct_X7_hasBit l G sh xs (M.1 o0 3) x1 M q1 e2) (cl_X2_27 (hts_of C) C.2.2.2.2.1 ⟨Nat.le_of_ble_eq_true rfl, Nat.le_of_ble_eq_true rfl⟩ rfl rfl) rfl rfl (Nat.le_of_ble_eq_true rfl) (dkAt dkX2_isFree 3 (q := (5, .invokestatic 27, 3)) rfl) ⟨Nat.zero_le _, Nat.zero_le _⟩ (pc2 := 8) rfl rfl ?_
  obtain ⟨hb, h⟩ := chb_inv h
  exact k_zret C (dkAt dkX2_isFree 4 (q := (8, .ireturn, 1)) rfl) hb (Option.some.inj h) rfl rfl rfl
set_option maxRecDepth 100000 in
set_option maxHeartbeats 4000000 in
theorem kl_X1_thereOn_L4 {p : Program} {l : Launch} {e : Env} {s : State} {m : MethodId} {args : Array Value} {below : List Frame} {meth : Method} {c : Code} {G : GG} {sh : Sh} {xs : List va_E} {Q : State → Prop} (C : Cx p s m c args meth G RX1 cX1_thereOn 4 (some .int)) (o0 : Nat) (h0 : isC sh o0) (x1 : Int32) (M : Mm) (y2 : Int32) (hcont : KW p l e rm_X1_thereOn s m args below meth c G 4 Q sh xs 0 0 M 37 [(2, .int y2)] []) : ∀ (n : Nat) (x2 : Int32) (x3 : Int32), f_X1_thereOn_L4 o0 x1 M n x2 x3 = some y2 → KW p l e rm_X1_thereOn s m args below meth c G 4 Q sh xs 0 0 M 4 [(0, rA G o0), (1, .int x1), (2, .int x2), (3, .int x3)] [] := by
  intro n
  induction n with
  | zero =>
    intro x2 x3 h
    cases h
  | succ n ih =>
    intro x2 x3 h
    unfold f_X1_thereOn_L4 at h
    refine k_iload_n C (pc2 := 5) (dkAt dkX1_thereOn 4 (q := (4, .iload_n 3, 1)) rfl) rfl rfl 3 rfl ?_
    refine k_aload_n C (pc2 := 6) (dkAt dkX1_thereOn 5 (q := (5, .aload_n 0, 1)) rfl) rfl rfl 0 rfl ?_
    refine kf_X1_31 C (pc2 := 9) (o := o0) (o2 := 0) h0.1 (dkAt dkX1_thereOn 6 (q := (6, .getfield 31, 3)) rfl) rfl ?_
    refine k_icmp_ge C (tgt := 37) (pc2 := 12) (dkAt dkX1_thereOn 7 (q := (9, .if_icmp .ge 28, 3)) rfl) (by decide) rfl h (fun h => ?_) (fun h => ?_)
    · refine k_lv [2] (lv2 := [(2, .int x2)]) rfl ?_
      cases h
      exact hcont
    · refine k_aload_n C (pc2 := 13) (dkAt dkX1_thereOn 8 (q := (12, .aload_n 0, 1)) rfl) rfl rfl 0 rfl ?_
      refine kf_X1_26 C (pc2 := 16) (o := o0) (o2 := o0 + 1) h0.1 rfl (dkAt dkX1_thereOn 9 (q := (13, .getfield 26, 3)) rfl) rfl ?_
      refine k_iload_n C (pc2 := 17) (dkAt dkX1_thereOn 10 (q := (16, .iload_n 3, 1)) rfl) rfl rfl 3 rfl ?_
      refine k_aa11 C (pc2 := 18) (o := o0 + 1) (o2 := o0 + 2 + x3.toNatClampNeg) (nA := 8) h0.2.1 rfl (dkAt dkX1_thereOn 11 (q := (17, .aaload, 1)) rfl) rfl h (fun h hl1 => ?_)
      refine k_iload_n C (pc2 := 19) (dkAt dkX1_thereOn 12 (q := (18, .iload_n 1, 1)) rfl) rfl rfl 1 rfl ?_
      obtain ⟨q2, e3, h⟩ := ob_inv h
      refine kc_V C (As := [.int x1]) (st2 := [.int q2]) (ct_X2_isFree l G sh xs (o0 + 2 + x3.toNatClampNeg) (h0.2.2 _ hl1) x1 M q2 e3) (cl_X1_63 (hts_of C) ⟨Nat.le_of_ble_eq_true rfl, Nat.le_of_ble_eq_true rfl⟩ rfl rfl) (h0.2.2 _ hl1) rfl rfl rfl rfl rfl (Nat.le_of_ble_eq_true rfl) (dkAt dkX1_thereOn 13 (q := (19, .invokevirtual 63, 3)) rfl) ⟨Nat.zero_le _, Nat.zero_le _⟩ (pc2 := 22) rfl rfl ?_
      refine k_if_eq C (tgt := 31) (pc2 := 25) (dkAt dkX1_thereOn 14 (q := (22, .ifCond .eq 9, 3)) rfl) (by decide) rfl h (fun h => ?_) (fun h => ?_)
      · refine kb_iinc C (pc2 := 34) (dkAt dkX1_thereOn 21 (q := (31, .iinc 3 1, 3)) rfl) rfl (j := 3) rfl (v := x3 + 1) rfl (by decide) (lv2 := fun v4 => [(3, .int v4), (0, rA G o0), (1, .int x1), (2, .int x2)]) (fun _ => rfl) h (fun v4 h => ?_)
        refine k_goto C (tgt := 4) (dkAt dkX1_thereOn 22 (q := (34, .goto (-30), 3)) rfl) (by decide) ?_
        refine k_lv [1, 2, 3, 0] (lv2 := [(0, rA G o0), (1, .int x1), (2, .int x2), (3, .int v4)]) rfl ?_
        exact ih x2 v4 h
      · refine k_iload_n C (pc2 := 26) (dkAt dkX1_thereOn 15 (q := (25, .iload_n 2, 1)) rfl) rfl rfl 2 rfl ?_
        refine k_iconst C (pc2 := 27) (dkAt dkX1_thereOn 16 (q := (26, .iconst 1, 1)) rfl) rfl (v := 1) rfl ?_
        refine k_iload_n C (pc2 := 28) (dkAt dkX1_thereOn 17 (q := (27, .iload_n 3, 1)) rfl) rfl rfl 3 rfl ?_
        refine k_ishl C (pc2 := 29) (dkAt dkX1_thereOn 18 (q := (28, .ishl, 1)) rfl) rfl ?_
        refine k_ior C (pc2 := 30) (dkAt dkX1_thereOn 19 (q := (29, .ior, 1)) rfl) rfl ?_
        refine kb_istore_n C (pc2 := 31) (dkAt dkX1_thereOn 20 (q := (30, .istore_n 2, 1)) rfl) rfl rfl (by decide) (lv2 := fun v5 => [(2, .int v5), (0, rA G o0), (1, .int x1), (3, .int x3)]) (fun _ => rfl) h (fun v5 h => ?_)
        refine kb_iinc C (pc2 := 34) (dkAt dkX1_thereOn 21 (q := (31, .iinc 3 1, 3)) rfl) rfl (j := 3) rfl (v := x3 + 1) rfl (by decide) (lv2 := fun v6 => [(3, .int v6), (2, .int v5), (0, rA G o0), (1, .int x1)]) (fun _ => rfl) h (fun v6 h => ?_)
        refine k_goto C (tgt := 4) (dkAt dkX1_thereOn 22 (q := (34, .goto (-30), 3)) rfl) (by decide) ?_
        refine k_lv [2, 3, 1, 0] (lv2 := [(0, rA G o0), (1, .int x1), (2, .int v5), (3, .int v6)]) rfl ?_
        exact ih v5 v6 h
set_option maxRecDepth 100000 in
set_option maxHeartbeats 4000000 in
theorem ct_X1_thereOn (l : Launch) (G : GG) (sh : Sh) (xs : List va_E) (o0 : Nat) (h0 : isC sh o0) (x1 : Int32) (M : Mm) (r : Int32) (h : f_X1_thereOn o0 x1 M = some r) : Ct l yX1_thereOn cX1_thereOn 4 (some .int) rm_X1_thereOn G [rA G o0, .int x1] sh M xs (some (.int r)) sh M xs 0 0 := by
  refine ct_of (by decide) (Nat.le_of_ble_eq_true rfl) ?_
  intro p e s m args below meth c hnm C
  refine k_lv [0, 1] (lv2 := [(0, rA G o0), (1, .int x1)]) rfl ?_
  unfold f_X1_thereOn at h
  refine k_iconst C (pc2 := 1) (dkAt dkX1_thereOn 0 (q := (0, .iconst 0, 1)) rfl) rfl (v := 0) rfl ?_
  refine k_istore_n C (pc2 := 2) (dkAt dkX1_thereOn 1 (q := (1, .istore_n 2, 1)) rfl) rfl rfl (by decide) (lv2 := [(2, .int 0), (0, rA G o0), (1, .int x1)]) rfl ?_
  refine k_iconst C (pc2 := 3) (dkAt dkX1_thereOn 2 (q := (2, .iconst 0, 1)) rfl) rfl (v := 0) rfl ?_
  refine k_istore_n C (pc2 := 4) (dkAt dkX1_thereOn 3 (q := (3, .istore_n 3, 1)) rfl) rfl rfl (by decide) (lv2 := [(3, .int 0), (2, .int 0), (0, rA G o0), (1, .int x1)]) rfl ?_
  refine k_lv [2, 3, 1, 0] (lv2 := [(0, rA G o0), (1, .int x1), (2, .int 0), (3, .int 0)]) rfl ?_
  obtain ⟨v9, e8, h⟩ := ob_inv h
  refine kl_X1_thereOn_L4 C o0 h0 x1 M v9 ?_ 1000 0 0 e8
  refine k_iload_n C (pc2 := 38) (dkAt dkX1_thereOn 23 (q := (37, .iload_n 2, 1)) rfl) rfl rfl 0 rfl ?_
  exact k_iret C (dkAt dkX1_thereOn 24 (q := (38, .ireturn, 1)) rfl) (Option.some.inj h) rfl rfl rfl
set_option maxRecDepth 100000 in
set_option maxHeartbeats 4000000 in
theorem kl_X0_begin_L2 {p : Program} {l : Launch} {e : Env} {s : State} {m : MethodId} {args : Array Value} {below : List Frame} {meth : Method} {c : Code} {G : GG} {sh : Sh} {xs : List va_E} {Q : State → Prop} (C : Cx p s m c args meth G RX0 cX0_begin 4 none) (o0 : Nat) (h0 : isCh sh o0) (o1 : Nat) (h1 : isC sh o1) (x2 : Int32) (M2 : Mm) (hcont : KW p l e rm_X0_begin s m args below meth c G 4 Q sh xs 0 0 M2 27 [(0, rA G o0), (2, .int x2)] []) : ∀ (n : Nat) (x3 : Int32) (M : Mm), f_X0_begin_L2 o0 o1 x2 n x3 M = some M2 → KW p l e rm_X0_begin s m args below meth c G 4 Q sh xs 0 0 M 2 [(0, rA G o0), (1, rA G o1), (2, .int x2), (3, .int x3)] [] := by
  intro n
  induction n with
  | zero =>
    intro x3 M h
    cases h
  | succ n ih =>
    intro x3 M h
    unfold f_X0_begin_L2 at h
    refine k_iload_n C (pc2 := 3) (dkAt dkX0_begin 2 (q := (2, .iload_n 3, 1)) rfl) rfl rfl 3 rfl ?_
    refine k_aload_n C (pc2 := 4) (dkAt dkX0_begin 3 (q := (3, .aload_n 1, 1)) rfl) rfl rfl 1 rfl ?_
    refine kf_X0_33 C (pc2 := 7) (o := o1) (o2 := 0) h1.1 (dkAt dkX0_begin 4 (q := (4, .getfield 33, 3)) rfl) rfl ?_
    refine k_icmp_ge C (tgt := 27) (pc2 := 10) (dkAt dkX0_begin 5 (q := (7, .if_icmp .ge 20, 3)) rfl) (by decide) rfl h (fun h => ?_) (fun h => ?_)
    · refine k_lv [0, 2] (lv2 := [(0, rA G o0), (2, .int x2)]) rfl ?_
      cases h
      exact hcont
    · refine k_aload_n C (pc2 := 11) (dkAt dkX0_begin 6 (q := (10, .aload_n 0, 1)) rfl) rfl rfl 0 rfl ?_
      refine kf_X0_9 C (pc2 := 14) (o := o0) (o2 := o0 + 1) h0.1 rfl (dkAt dkX0_begin 7 (q := (11, .getfield 9, 3)) rfl) rfl ?_
      refine k_iload_n C (pc2 := 15) (dkAt dkX0_begin 8 (q := (14, .iload_n 3, 1)) rfl) rfl rfl 3 rfl ?_
      refine k_aload_n C (pc2 := 16) (dkAt dkX0_begin 9 (q := (15, .aload_n 1, 1)) rfl) rfl rfl 1 rfl ?_
      refine k_iload_n C (pc2 := 17) (dkAt dkX0_begin 10 (q := (16, .iload_n 3, 1)) rfl) rfl rfl 3 rfl ?_
      obtain ⟨q1, e2, h⟩ := ob_inv h
      refine kc_V C (As := [.int x3]) (st2 := [.int q1, .int x3, rA G (o0 + 1)]) (ct_X1_thereOn l G sh xs o1 h1 x3 M q1 e2) (cl_X0_50 (hts_of C) ⟨Nat.le_of_ble_eq_true rfl, Nat.le_of_ble_eq_true rfl⟩ rfl rfl) h1.1 rfl rfl rfl rfl rfl (Nat.le_of_ble_eq_true rfl) (dkAt dkX0_begin 11 (q := (17, .invokevirtual 50, 3)) rfl) ⟨Nat.zero_le _, Nat.zero_le _⟩ (pc2 := 20) rfl rfl ?_
      refine k_iast C (pc2 := 21) (o := o0 + 1) (nA := 14) h0.2.1 (dkAt dkX0_begin 12 (q := (20, .iastore, 1)) rfl) rfl h (fun M3 h => ?_)
      refine kb_iinc C (pc2 := 24) (dkAt dkX0_begin 13 (q := (21, .iinc 3 1, 3)) rfl) rfl (j := 3) rfl (v := x3 + 1) rfl (by decide) (lv2 := fun v4 => [(3, .int v4), (0, rA G o0), (1, rA G o1), (2, .int x2)]) (fun _ => rfl) h (fun v4 h => ?_)
      refine k_goto C (tgt := 2) (dkAt dkX0_begin 14 (q := (24, .goto (-22), 3)) rfl) (by decide) ?_
      refine k_lv [1, 2, 3, 0] (lv2 := [(0, rA G o0), (1, rA G o1), (2, .int x2), (3, .int v4)]) rfl ?_
      exact ih v4 M3 h
set_option maxRecDepth 100000 in
set_option maxHeartbeats 4000000 in
theorem kl_X0_begin_L29 {p : Program} {l : Launch} {e : Env} {s : State} {m : MethodId} {args : Array Value} {below : List Frame} {meth : Method} {c : Code} {G : GG} {sh : Sh} {xs : List va_E} {Q : State → Prop} (C : Cx p s m c args meth G RX0 cX0_begin 4 none) (o0 : Nat) (h0 : isCh sh o0) (x2 : Int32) (M2 : Mm) (hcont : KW p l e rm_X0_begin s m args below meth c G 4 Q sh xs 0 0 M2 47 [(0, rA G o0)] []) : ∀ (n : Nat) (x3 : Int32) (M : Mm), f_X0_begin_L29 o0 x2 n x3 M = some M2 → KW p l e rm_X0_begin s m args below meth c G 4 Q sh xs 0 0 M 29 [(0, rA G o0), (2, .int x2), (3, .int x3)] [] := by
  intro n
  induction n with
  | zero =>
    intro x3 M h
    cases h
  | succ n ih =>
    intro x3 M h
    unfold f_X0_begin_L29 at h
    refine k_iload_n C (pc2 := 30) (dkAt dkX0_begin 17 (q := (29, .iload_n 3, 1)) rfl) rfl rfl 2 rfl ?_
    refine k_iload_n C (pc2 := 31) (dkAt dkX0_begin 18 (q := (30, .iload_n 2, 1)) rfl) rfl rfl 1 rfl ?_
    refine k_icmp_ge C (tgt := 47) (pc2 := 34) (dkAt dkX0_begin 19 (q := (31, .if_icmp .ge 16, 3)) rfl) (by decide) rfl h (fun h => ?_) (fun h => ?_)
    · refine k_lv [0] (lv2 := [(0, rA G o0)]) rfl ?_
      cases h
      exact hcont
    · refine k_aload_n C (pc2 := 35) (dkAt dkX0_begin 20 (q := (34, .aload_n 0, 1)) rfl) rfl rfl 0 rfl ?_
      refine kf_X0_15 C (pc2 := 38) (o := o0) (o2 := o0 + 2) h0.1 rfl (dkAt dkX0_begin 21 (q := (35, .getfield 15, 3)) rfl) rfl ?_
      refine k_iload_n C (pc2 := 39) (dkAt dkX0_begin 22 (q := (38, .iload_n 3, 1)) rfl) rfl rfl 2 rfl ?_
      refine k_iload_n C (pc2 := 40) (dkAt dkX0_begin 23 (q := (39, .iload_n 3, 1)) rfl) rfl rfl 2 rfl ?_
      refine k_iast C (pc2 := 41) (o := o0 + 2) (nA := 3) h0.2.2.1 (dkAt dkX0_begin 24 (q := (40, .iastore, 1)) rfl) rfl h (fun M8 h => ?_)
      refine kb_iinc C (pc2 := 44) (dkAt dkX0_begin 25 (q := (41, .iinc 3 1, 3)) rfl) rfl (j := 2) rfl (v := x3 + 1) rfl (by decide) (lv2 := fun v9 => [(3, .int v9), (0, rA G o0), (2, .int x2)]) (fun _ => rfl) h (fun v9 h => ?_)
      refine k_goto C (tgt := 29) (dkAt dkX0_begin 26 (q := (44, .goto (-15), 3)) rfl) (by decide) ?_
      refine k_lv [1, 2, 0] (lv2 := [(0, rA G o0), (2, .int x2), (3, .int v9)]) rfl ?_
      exact ih v9 M8 h
set_option maxRecDepth 100000 in
set_option maxHeartbeats 4000000 in
theorem ct_X0_begin (l : Launch) (G : GG) (sh : Sh) (xs : List va_E) (o0 : Nat) (h0 : isCh sh o0) (o1 : Nat) (h1 : isC sh o1) (x2 : Int32) (M : Mm) (r : Mm) (h : f_X0_begin o0 o1 x2 M = some r) : Ct l yX0_begin cX0_begin 4 none rm_X0_begin G [rA G o0, rA G o1, .int x2] sh M xs none sh r xs 0 0 := by
  refine ct_of (by decide) (Nat.le_of_ble_eq_true rfl) ?_
  intro p e s m args below meth c hnm C
  refine k_lv [0, 1, 2] (lv2 := [(0, rA G o0), (1, rA G o1), (2, .int x2)]) rfl ?_
  unfold f_X0_begin at h
  refine k_iconst C (pc2 := 1) (dkAt dkX0_begin 0 (q := (0, .iconst 0, 1)) rfl) rfl (v := 0) rfl ?_
  refine k_istore_n C (pc2 := 2) (dkAt dkX0_begin 1 (q := (1, .istore_n 3, 1)) rfl) rfl rfl (by decide) (lv2 := [(3, .int 0), (0, rA G o0), (1, rA G o1), (2, .int x2)]) rfl ?_
  refine k_lv [1, 2, 3, 0] (lv2 := [(0, rA G o0), (1, rA G o1), (2, .int x2), (3, .int 0)]) rfl ?_
  obtain ⟨M7, e6, h⟩ := ob_inv h
  refine kl_X0_begin_L2 C o0 h0 o1 h1 x2 M7 ?_ 1000 0 M e6
  refine k_iconst C (pc2 := 28) (dkAt dkX0_begin 15 (q := (27, .iconst 0, 1)) rfl) rfl (v := 0) rfl ?_
  refine k_istore_n C (pc2 := 29) (dkAt dkX0_begin 16 (q := (28, .istore_n 3, 1)) rfl) rfl rfl (by decide) (lv2 := [(3, .int 0), (0, rA G o0), (2, .int x2)]) rfl ?_
  refine k_lv [1, 2, 0] (lv2 := [(0, rA G o0), (2, .int x2), (3, .int 0)]) rfl ?_
  obtain ⟨M12, e11, h⟩ := ob_inv h
  refine kl_X0_begin_L29 C o0 h0 x2 M12 ?_ 1000 0 M7 e11
  refine k_aload_n C (pc2 := 48) (dkAt dkX0_begin 27 (q := (47, .aload_n 0, 1)) rfl) rfl rfl 0 rfl ?_
  refine k_ldc C (pc2 := 50) (dkAt dkX0_begin 28 (q := (48, .ldc 53, 2)) rfl) rfl (v := (-1000000)) tK_X0_53 ?_
  refine kp_X0_47 C (pc2 := 53) (o := o0) h0.1 (dkAt dkX0_begin 29 (q := (50, .putfield 47, 3)) rfl) rfl h (fun M13 h => ?_)
  exact k_vret C (dkAt dkX0_begin 30 (q := (53, .return_, 1)) rfl) rfl (Option.some.inj h) rfl
set_option maxRecDepth 100000 in
set_option maxHeartbeats 4000000 in
theorem ct_J6_bitCount_0f7a4 (l : Launch) (G : GG) (sh : Sh) (xs : List va_E) (x0 : Int32) (M : Mm) (r : Int32) (h : f_J6_bitCount_0f7a4 x0 = some r) : Ct l yJ6_bitCount_0f7a4 cJ6_bitCount_0f7a4 1 (some .int) rm_J6_bitCount_0f7a4 G [.int x0] sh M xs (some (.int r)) sh M xs 0 0 := by
  refine ct_of (by decide) (Nat.le_of_ble_eq_true rfl) ?_
  intro p e s m args below meth c hnm C
  refine k_lv [0] (lv2 := [(0, .int x0)]) rfl ?_
  unfold f_J6_bitCount_0f7a4 at h
  refine k_iload_n C (pc2 := 1) (dkAt dkJ6_bitCount_0f7a4 0 (q := (0, .iload_n 0, 1)) rfl) rfl rfl 0 rfl ?_
  refine k_iload_n C (pc2 := 2) (dkAt dkJ6_bitCount_0f7a4 1 (q := (1, .iload_n 0, 1)) rfl) rfl rfl 0 rfl ?_
  refine k_iconst C (pc2 := 3) (dkAt dkJ6_bitCount_0f7a4 2 (q := (2, .iconst 1, 1)) rfl) rfl (v := 1) rfl ?_
  refine k_iushr C (pc2 := 4) (dkAt dkJ6_bitCount_0f7a4 3 (q := (3, .iushr, 1)) rfl) rfl ?_
  refine k_ldcw C (pc2 := 7) (dkAt dkJ6_bitCount_0f7a4 4 (q := (4, .ldc_w 265, 3)) rfl) rfl (v := 1431655765) tK_J6_265 ?_
  refine k_iand C (pc2 := 8) (dkAt dkJ6_bitCount_0f7a4 5 (q := (7, .iand, 1)) rfl) rfl ?_
  refine k_isub C (pc2 := 9) (dkAt dkJ6_bitCount_0f7a4 6 (q := (8, .isub, 1)) rfl) rfl ?_
  refine kb_istore_n C (pc2 := 10) (dkAt dkJ6_bitCount_0f7a4 7 (q := (9, .istore_n 0, 1)) rfl) rfl rfl (by decide) (lv2 := fun v1 => [(0, .int v1)]) (fun _ => rfl) h (fun v1 h => ?_)
  refine k_iload_n C (pc2 := 11) (dkAt dkJ6_bitCount_0f7a4 8 (q := (10, .iload_n 0, 1)) rfl) rfl rfl 0 rfl ?_
  refine k_ldcw C (pc2 := 14) (dkAt dkJ6_bitCount_0f7a4 9 (q := (11, .ldc_w 266, 3)) rfl) rfl (v := 858993459) tK_J6_266 ?_
  refine k_iand C (pc2 := 15) (dkAt dkJ6_bitCount_0f7a4 10 (q := (14, .iand, 1)) rfl) rfl ?_
  refine k_iload_n C (pc2 := 16) (dkAt dkJ6_bitCount_0f7a4 11 (q := (15, .iload_n 0, 1)) rfl) rfl rfl 0 rfl ?_
  refine k_iconst C (pc2 := 17) (dkAt dkJ6_bitCount_0f7a4 12 (q := (16, .iconst 2, 1)) rfl) rfl (v := 2) rfl ?_
  refine k_iushr C (pc2 := 18) (dkAt dkJ6_bitCount_0f7a4 13 (q := (17, .iushr, 1)) rfl) rfl ?_
  refine k_ldcw C (pc2 := 21) (dkAt dkJ6_bitCount_0f7a4 14 (q := (18, .ldc_w 266, 3)) rfl) rfl (v := 858993459) tK_J6_266 ?_
  refine k_iand C (pc2 := 22) (dkAt dkJ6_bitCount_0f7a4 15 (q := (21, .iand, 1)) rfl) rfl ?_
  refine k_iadd C (pc2 := 23) (dkAt dkJ6_bitCount_0f7a4 16 (q := (22, .iadd, 1)) rfl) rfl ?_
  refine kb_istore_n C (pc2 := 24) (dkAt dkJ6_bitCount_0f7a4 17 (q := (23, .istore_n 0, 1)) rfl) rfl rfl (by decide) (lv2 := fun v2 => [(0, .int v2)]) (fun _ => rfl) h (fun v2 h => ?_)
  refine k_iload_n C (pc2 := 25) (dkAt dkJ6_bitCount_0f7a4 18 (q := (24, .iload_n 0, 1)) rfl) rfl rfl 0 rfl ?_
  refine k_iload_n C (pc2 := 26) (dkAt dkJ6_bitCount_0f7a4 19 (q := (25, .iload_n 0, 1)) rfl) rfl rfl 0 rfl ?_
  refine k_iconst C (pc2 := 27) (dkAt dkJ6_bitCount_0f7a4 20 (q := (26, .iconst 4, 1)) rfl) rfl (v := 4) rfl ?_
  refine k_iushr C (pc2 := 28) (dkAt dkJ6_bitCount_0f7a4 21 (q := (27, .iushr, 1)) rfl) rfl ?_
  refine k_iadd C (pc2 := 29) (dkAt dkJ6_bitCount_0f7a4 22 (q := (28, .iadd, 1)) rfl) rfl ?_
  refine k_ldcw C (pc2 := 32) (dkAt dkJ6_bitCount_0f7a4 23 (q := (29, .ldc_w 267, 3)) rfl) rfl (v := 252645135) tK_J6_267 ?_
  refine k_iand C (pc2 := 33) (dkAt dkJ6_bitCount_0f7a4 24 (q := (32, .iand, 1)) rfl) rfl ?_
  refine kb_istore_n C (pc2 := 34) (dkAt dkJ6_bitCount_0f7a4 25 (q := (33, .istore_n 0, 1)) rfl) rfl rfl (by decide) (lv2 := fun v3 => [(0, .int v3)]) (fun _ => rfl) h (fun v3 h => ?_)
  refine k_iload_n C (pc2 := 35) (dkAt dkJ6_bitCount_0f7a4 26 (q := (34, .iload_n 0, 1)) rfl) rfl rfl 0 rfl ?_
  refine k_iload_n C (pc2 := 36) (dkAt dkJ6_bitCount_0f7a4 27 (q := (35, .iload_n 0, 1)) rfl) rfl rfl 0 rfl ?_
  refine k_bipush C (pc2 := 38) (dkAt dkJ6_bitCount_0f7a4 28 (q := (36, .bipush 8, 2)) rfl) rfl (v := 8) rfl ?_
  refine k_iushr C (pc2 := 39) (dkAt dkJ6_bitCount_0f7a4 29 (q := (38, .iushr, 1)) rfl) rfl ?_
  refine k_iadd C (pc2 := 40) (dkAt dkJ6_bitCount_0f7a4 30 (q := (39, .iadd, 1)) rfl) rfl ?_
  refine kb_istore_n C (pc2 := 41) (dkAt dkJ6_bitCount_0f7a4 31 (q := (40, .istore_n 0, 1)) rfl) rfl rfl (by decide) (lv2 := fun v4 => [(0, .int v4)]) (fun _ => rfl) h (fun v4 h => ?_)
  refine k_iload_n C (pc2 := 42) (dkAt dkJ6_bitCount_0f7a4 32 (q := (41, .iload_n 0, 1)) rfl) rfl rfl 0 rfl ?_
  refine k_iload_n C (pc2 := 43) (dkAt dkJ6_bitCount_0f7a4 33 (q := (42, .iload_n 0, 1)) rfl) rfl rfl 0 rfl ?_
  refine k_bipush C (pc2 := 45) (dkAt dkJ6_bitCount_0f7a4 34 (q := (43, .bipush 16, 2)) rfl) rfl (v := 16) rfl ?_
  refine k_iushr C (pc2 := 46) (dkAt dkJ6_bitCount_0f7a4 35 (q := (45, .iushr, 1)) rfl) rfl ?_
  refine k_iadd C (pc2 := 47) (dkAt dkJ6_bitCount_0f7a4 36 (q := (46, .iadd, 1)) rfl) rfl ?_
  refine kb_istore_n C (pc2 := 48) (dkAt dkJ6_bitCount_0f7a4 37 (q := (47, .istore_n 0, 1)) rfl) rfl rfl (by decide) (lv2 := fun v5 => [(0, .int v5)]) (fun _ => rfl) h (fun v5 h => ?_)
  refine k_iload_n C (pc2 := 49) (dkAt dkJ6_bitCount_0f7a4 38 (q := (48, .iload_n 0, 1)) rfl) rfl rfl 0 rfl ?_
  refine k_bipush C (pc2 := 51) (dkAt dkJ6_bitCount_0f7a4 39 (q := (49, .bipush 63, 2)) rfl) rfl (v := 63) rfl ?_
  refine k_iand C (pc2 := 52) (dkAt dkJ6_bitCount_0f7a4 40 (q := (51, .iand, 1)) rfl) rfl ?_
  exact k_iret C (dkAt dkJ6_bitCount_0f7a4 41 (q := (52, .ireturn, 1)) rfl) (Option.some.inj h) rfl rfl rfl
set_option maxRecDepth 100000 in
set_option maxHeartbeats 4000000 in
theorem kl_X0_howManyMeet_L4 {p : Program} {l : Launch} {e : Env} {s : State} {m : MethodId} {args : Array Value} {below : List Frame} {meth : Method} {c : Code} {G : GG} {sh : Sh} {xs : List va_E} {Q : State → Prop} (C : Cx p s m c args meth G RX0 cX0_howManyMeet 4 (some .int)) (o0 : Nat) (h0 : isCh sh o0) (x1 : Int32) (M : Mm) (y2 : Int32) (hcont : KW p l e rm_X0_howManyMeet s m args below meth c G 4 Q sh xs 0 0 M 29 [(2, .int y2)] []) : ∀ (n : Nat) (x2 : Int32) (x3 : Int32), f_X0_howManyMeet_L4 o0 x1 M n x2 x3 = some y2 → KW p l e rm_X0_howManyMeet s m args below meth c G 4 Q sh xs 0 0 M 4 [(0, rA G o0), (1, .int x1), (2, .int x2), (3, .int x3)] [] := by
  intro n
  induction n with
  | zero =>
    intro x2 x3 h
    cases h
  | succ n ih =>
    intro x2 x3 h
    unfold f_X0_howManyMeet_L4 at h
    refine k_iload_n C (pc2 := 5) (dkAt dkX0_howManyMeet 4 (q := (4, .iload_n 3, 1)) rfl) rfl rfl 3 rfl ?_
    refine k_iload_n C (pc2 := 6) (dkAt dkX0_howManyMeet 5 (q := (5, .iload_n 1, 1)) rfl) rfl rfl 1 rfl ?_
    refine k_icmp_ge C (tgt := 29) (pc2 := 9) (dkAt dkX0_howManyMeet 6 (q := (6, .if_icmp .ge 23, 3)) rfl) (by decide) rfl h (fun h => ?_) (fun h => ?_)
    · refine k_lv [2] (lv2 := [(2, .int x2)]) rfl ?_
      cases h
      exact hcont
    · refine k_iload_n C (pc2 := 10) (dkAt dkX0_howManyMeet 7 (q := (9, .iload_n 2, 1)) rfl) rfl rfl 2 rfl ?_
      refine k_aload_n C (pc2 := 11) (dkAt dkX0_howManyMeet 8 (q := (10, .aload_n 0, 1)) rfl) rfl rfl 0 rfl ?_
      refine kf_X0_9 C (pc2 := 14) (o := o0) (o2 := o0 + 1) h0.1 rfl (dkAt dkX0_howManyMeet 9 (q := (11, .getfield 9, 3)) rfl) rfl ?_
      refine k_aload_n C (pc2 := 15) (dkAt dkX0_howManyMeet 10 (q := (14, .aload_n 0, 1)) rfl) rfl rfl 0 rfl ?_
      refine kf_X0_15 C (pc2 := 18) (o := o0) (o2 := o0 + 2) h0.1 rfl (dkAt dkX0_howManyMeet 11 (q := (15, .getfield 15, 3)) rfl) rfl ?_
      refine k_iload_n C (pc2 := 19) (dkAt dkX0_howManyMeet 12 (q := (18, .iload_n 3, 1)) rfl) rfl rfl 3 rfl ?_
      refine k_iald C (pc2 := 20) (o := o0 + 2) (nA := 3) h0.2.2.1 (dkAt dkX0_howManyMeet 13 (q := (19, .iaload, 1)) rfl) rfl h (fun h => ?_)
      refine k_iald C (pc2 := 21) (o := o0 + 1) (nA := 14) h0.2.1 (dkAt dkX0_howManyMeet 14 (q := (20, .iaload, 1)) rfl) rfl h (fun h => ?_)
      refine k_ior C (pc2 := 22) (dkAt dkX0_howManyMeet 15 (q := (21, .ior, 1)) rfl) rfl ?_
      refine kb_istore_n C (pc2 := 23) (dkAt dkX0_howManyMeet 16 (q := (22, .istore_n 2, 1)) rfl) rfl rfl (by decide) (lv2 := fun v1 => [(2, .int v1), (0, rA G o0), (1, .int x1), (3, .int x3)]) (fun _ => rfl) h (fun v1 h => ?_)
      refine kb_iinc C (pc2 := 26) (dkAt dkX0_howManyMeet 17 (q := (23, .iinc 3 1, 3)) rfl) rfl (j := 3) rfl (v := x3 + 1) rfl (by decide) (lv2 := fun v2 => [(3, .int v2), (2, .int v1), (0, rA G o0), (1, .int x1)]) (fun _ => rfl) h (fun v2 h => ?_)
      refine k_goto C (tgt := 4) (dkAt dkX0_howManyMeet 18 (q := (26, .goto (-22), 3)) rfl) (by decide) ?_
      refine k_lv [2, 3, 1, 0] (lv2 := [(0, rA G o0), (1, .int x1), (2, .int v1), (3, .int v2)]) rfl ?_
      exact ih v1 v2 h
set_option maxRecDepth 100000 in
set_option maxHeartbeats 4000000 in
theorem ct_X0_howManyMeet (l : Launch) (G : GG) (sh : Sh) (xs : List va_E) (o0 : Nat) (h0 : isCh sh o0) (x1 : Int32) (M : Mm) (r : Int32) (h : f_X0_howManyMeet o0 x1 M = some r) : Ct l yX0_howManyMeet cX0_howManyMeet 4 (some .int) rm_X0_howManyMeet G [rA G o0, .int x1] sh M xs (some (.int r)) sh M xs 0 0 := by
  refine ct_of (by decide) (Nat.le_of_ble_eq_true rfl) ?_
  intro p e s m args below meth c hnm C
  refine k_lv [0, 1] (lv2 := [(0, rA G o0), (1, .int x1)]) rfl ?_
  unfold f_X0_howManyMeet at h
  refine k_iconst C (pc2 := 1) (dkAt dkX0_howManyMeet 0 (q := (0, .iconst 0, 1)) rfl) rfl (v := 0) rfl ?_
  refine k_istore_n C (pc2 := 2) (dkAt dkX0_howManyMeet 1 (q := (1, .istore_n 2, 1)) rfl) rfl rfl (by decide) (lv2 := [(2, .int 0), (0, rA G o0), (1, .int x1)]) rfl ?_
  refine k_iconst C (pc2 := 3) (dkAt dkX0_howManyMeet 2 (q := (2, .iconst 0, 1)) rfl) rfl (v := 0) rfl ?_
  refine k_istore_n C (pc2 := 4) (dkAt dkX0_howManyMeet 3 (q := (3, .istore_n 3, 1)) rfl) rfl rfl (by decide) (lv2 := [(3, .int 0), (2, .int 0), (0, rA G o0), (1, .int x1)]) rfl ?_
  refine k_lv [2, 3, 1, 0] (lv2 := [(0, rA G o0), (1, .int x1), (2, .int 0), (3, .int 0)]) rfl ?_
  obtain ⟨v5, e4, h⟩ := ob_inv h
  refine kl_X0_howManyMeet_L4 C o0 h0 x1 M v5 ?_ 1000 0 0 e4
  refine k_iload_n C (pc2 := 30) (dkAt dkX0_howManyMeet 19 (q := (29, .iload_n 2, 1)) rfl) rfl rfl 0 rfl ?_
  obtain ⟨q6, e7, h⟩ := ob_inv h
  refine kc_S C (As := [.int v5]) (st2 := [.int q6]) (ct_J6_bitCount_0f7a4 l G sh xs v5 M q6 e7) (cl_X0_60 (hts_of C) ⟨Nat.le_of_ble_eq_true rfl, Nat.le_of_ble_eq_true rfl⟩ rfl rfl) rfl rfl (Nat.le_of_ble_eq_true rfl) (dkAt dkX0_howManyMeet 20 (q := (30, .invokestatic 60, 3)) rfl) ⟨Nat.zero_le _, Nat.zero_le _⟩ (pc2 := 33) rfl rfl ?_
  exact k_iret C (dkAt dkX0_howManyMeet 21 (q := (33, .ireturn, 1)) rfl) (Option.some.inj h) rfl rfl rfl
set_option maxRecDepth 100000 in
set_option maxHeartbeats 4000000 in
theorem ct_X0_keepIfBetter (l : Launch) (G : GG) (sh : Sh) (xs : List va_E) (o0 : Nat) (h0 : isCh sh o0) (x1 : Int32) (M : Mm) (r : Mm) (h : f_X0_keepIfBetter o0 x1 M = some r) : Ct l yX0_keepIfBetter cX0_keepIfBetter 2 none rm_X0_keepIfBetter G [rA G o0, .int x1] sh M xs none sh r xs 0 0 := by
  refine ct_of (by decide) (Nat.le_of_ble_eq_true rfl) ?_
  intro p e s m args below meth c hnm C
  refine k_lv [0, 1] (lv2 := [(0, rA G o0), (1, .int x1)]) rfl ?_
  unfold f_X0_keepIfBetter at h
  refine k_iload_n C (pc2 := 1) (dkAt dkX0_keepIfBetter 0 (q := (0, .iload_n 1, 1)) rfl) rfl rfl 1 rfl ?_
  refine k_aload_n C (pc2 := 2) (dkAt dkX0_keepIfBetter 1 (q := (1, .aload_n 0, 1)) rfl) rfl rfl 0 rfl ?_
  refine kf_X0_47 C (pc2 := 5) (o := o0) (o2 := 0) h0.1 (dkAt dkX0_keepIfBetter 2 (q := (2, .getfield 47, 3)) rfl) rfl ?_
  refine k_icmp_le C (tgt := 27) (pc2 := 8) (dkAt dkX0_keepIfBetter 3 (q := (5, .if_icmp .le 22, 3)) rfl) (by decide) rfl h (fun h => ?_) (fun h => ?_)
  · exact k_vret C (dkAt dkX0_keepIfBetter 15 (q := (27, .return_, 1)) rfl) rfl (Option.some.inj h) rfl
  · refine k_aload_n C (pc2 := 9) (dkAt dkX0_keepIfBetter 4 (q := (8, .aload_n 0, 1)) rfl) rfl rfl 0 rfl ?_
    refine k_iload_n C (pc2 := 10) (dkAt dkX0_keepIfBetter 5 (q := (9, .iload_n 1, 1)) rfl) rfl rfl 1 rfl ?_
    refine kp_X0_47 C (pc2 := 13) (o := o0) h0.1 (dkAt dkX0_keepIfBetter 6 (q := (10, .putfield 47, 3)) rfl) rfl h (fun M1 h => ?_)
    refine k_aload_n C (pc2 := 14) (dkAt dkX0_keepIfBetter 7 (q := (13, .aload_n 0, 1)) rfl) rfl rfl 0 rfl ?_
    refine kf_X0_15 C (pc2 := 17) (o := o0) (o2 := o0 + 2) h0.1 rfl (dkAt dkX0_keepIfBetter 8 (q := (14, .getfield 15, 3)) rfl) rfl ?_
    refine k_iconst C (pc2 := 18) (dkAt dkX0_keepIfBetter 9 (q := (17, .iconst 0, 1)) rfl) rfl (v := 0) rfl ?_
    refine k_aload_n C (pc2 := 19) (dkAt dkX0_keepIfBetter 10 (q := (18, .aload_n 0, 1)) rfl) rfl rfl 0 rfl ?_
    refine kf_X0_18 C (pc2 := 22) (o := o0) (o2 := o0 + 3) h0.1 rfl (dkAt dkX0_keepIfBetter 11 (q := (19, .getfield 18, 3)) rfl) rfl ?_
    refine k_iconst C (pc2 := 23) (dkAt dkX0_keepIfBetter 12 (q := (22, .iconst 0, 1)) rfl) rfl (v := 0) rfl ?_
    refine k_iconst C (pc2 := 24) (dkAt dkX0_keepIfBetter 13 (q := (23, .iconst 3, 1)) rfl) rfl (v := 3) rfl ?_
    refine k_copyi C (pc2 := 27) (o0 := o0 + 2) (o1 := o0 + 3) (n0 := 3) (n1 := 3) tM_X0_54 h0.2.2.1 h0.2.2.2 (Nat.le_of_ble_eq_true rfl) (Nat.le_of_ble_eq_true rfl) (dkAt dkX0_keepIfBetter 14 (q := (24, .invokestatic 54, 3)) rfl) rfl h (fun M2 h => ?_)
    exact k_vret C (dkAt dkX0_keepIfBetter 15 (q := (27, .return_, 1)) rfl) rfl (Option.some.inj h) rfl
set_option maxRecDepth 100000 in
set_option maxHeartbeats 4000000 in
theorem kl_X0_nextRow_L4 {p : Program} {l : Launch} {e : Env} {s : State} {m : MethodId} {args : Array Value} {below : List Frame} {meth : Method} {c : Code} {G : GG} {sh : Sh} {xs : List va_E} {Q : State → Prop} (C : Cx p s m c args meth G RX0 cX0_nextRow 5 (some .boolean)) (o0 : Nat) (h0 : isCh sh o0) (x1 : Int32) (x2 : Int32) (M : Mm) (y3 : Int32) (hcont : KW p l e rm_X0_nextRow s m args below meth c G 5 Q sh xs 0 0 M 28 [(0, rA G o0), (1, .int x1), (3, .int y3)] []) : ∀ (n : Nat) (x3 : Int32), f_X0_nextRow_L4 o0 x1 x2 M n x3 = some y3 → KW p l e rm_X0_nextRow s m args below meth c G 5 Q sh xs 0 0 M 4 [(0, rA G o0), (1, .int x1), (2, .int x2), (3, .int x3)] [] := by
  intro n
  induction n with
  | zero =>
    intro x3 h
    cases h
  | succ n ih =>
    intro x3 h
    unfold f_X0_nextRow_L4 at h
    refine k_iload_n C (pc2 := 5) (dkAt dkX0_nextRow 4 (q := (4, .iload_n 3, 1)) rfl) rfl rfl 3 rfl ?_
    refine k_if_lt C (tgt := 28) (pc2 := 8) (dkAt dkX0_nextRow 5 (q := (5, .ifCond .lt 23, 3)) rfl) (by decide) rfl h (fun h => ?_) (fun h => ?_)
    · refine k_lv [0, 1, 3] (lv2 := [(0, rA G o0), (1, .int x1), (3, .int x3)]) rfl ?_
      cases h
      exact hcont
    · refine k_aload_n C (pc2 := 9) (dkAt dkX0_nextRow 6 (q := (8, .aload_n 0, 1)) rfl) rfl rfl 0 rfl ?_
      refine kf_X0_15 C (pc2 := 12) (o := o0) (o2 := o0 + 2) h0.1 rfl (dkAt dkX0_nextRow 7 (q := (9, .getfield 15, 3)) rfl) rfl ?_
      refine k_iload_n C (pc2 := 13) (dkAt dkX0_nextRow 8 (q := (12, .iload_n 3, 1)) rfl) rfl rfl 3 rfl ?_
      refine k_iald C (pc2 := 14) (o := o0 + 2) (nA := 3) h0.2.2.1 (dkAt dkX0_nextRow 9 (q := (13, .iaload, 1)) rfl) rfl h (fun h => ?_)
      refine k_iload_n C (pc2 := 15) (dkAt dkX0_nextRow 10 (q := (14, .iload_n 2, 1)) rfl) rfl rfl 2 rfl ?_
      refine k_iload_n C (pc2 := 16) (dkAt dkX0_nextRow 11 (q := (15, .iload_n 1, 1)) rfl) rfl rfl 1 rfl ?_
      refine k_isub C (pc2 := 17) (dkAt dkX0_nextRow 12 (q := (16, .isub, 1)) rfl) rfl ?_
      refine k_iload_n C (pc2 := 18) (dkAt dkX0_nextRow 13 (q := (17, .iload_n 3, 1)) rfl) rfl rfl 3 rfl ?_
      refine k_iadd C (pc2 := 19) (dkAt dkX0_nextRow 14 (q := (18, .iadd, 1)) rfl) rfl ?_
      refine k_icmp_lt C (tgt := 28) (pc2 := 22) (dkAt dkX0_nextRow 15 (q := (19, .if_icmp .lt 9, 3)) rfl) (by decide) rfl h (fun h => ?_) (fun h => ?_)
      · refine k_lv [0, 1, 3] (lv2 := [(0, rA G o0), (1, .int x1), (3, .int x3)]) rfl ?_
        cases h
        exact hcont
      · refine kb_iinc C (pc2 := 25) (dkAt dkX0_nextRow 16 (q := (22, .iinc 3 (-1), 3)) rfl) rfl (j := 3) rfl (v := x3 + (-1)) rfl (by decide) (lv2 := fun v2 => [(3, .int v2), (0, rA G o0), (1, .int x1), (2, .int x2)]) (fun _ => rfl) h (fun v2 h => ?_)
        refine k_goto C (tgt := 4) (dkAt dkX0_nextRow 17 (q := (25, .goto (-21), 3)) rfl) (by decide) ?_
        refine k_lv [1, 2, 3, 0] (lv2 := [(0, rA G o0), (1, .int x1), (2, .int x2), (3, .int v2)]) rfl ?_
        exact ih v2 h
set_option maxRecDepth 100000 in
set_option maxHeartbeats 4000000 in
theorem kl_X0_nextRow_L49 {p : Program} {l : Launch} {e : Env} {s : State} {m : MethodId} {args : Array Value} {below : List Frame} {meth : Method} {c : Code} {G : GG} {sh : Sh} {xs : List va_E} {Q : State → Prop} (C : Cx p s m c args meth G RX0 cX0_nextRow 5 (some .boolean)) (o0 : Nat) (h0 : isCh sh o0) (x1 : Int32) (M2 : Mm) (hcont : KW p l e rm_X0_nextRow s m args below meth c G 5 Q sh xs 0 0 M2 79 [] []) : ∀ (n : Nat) (x4 : Int32) (M : Mm), f_X0_nextRow_L49 o0 x1 n x4 M = some M2 → KW p l e rm_X0_nextRow s m args below meth c G 5 Q sh xs 0 0 M 49 [(0, rA G o0), (1, .int x1), (4, .int x4)] [] := by
  intro n
  induction n with
  | zero =>
    intro x4 M h
    cases h
  | succ n ih =>
    intro x4 M h
    unfold f_X0_nextRow_L49 at h
    refine k_iload C (pc2 := 51) (dkAt dkX0_nextRow 34 (q := (49, .iload 4, 2)) rfl) rfl 2 rfl ?_
    refine k_iload_n C (pc2 := 52) (dkAt dkX0_nextRow 35 (q := (51, .iload_n 1, 1)) rfl) rfl rfl 1 rfl ?_
    refine k_icmp_ge C (tgt := 79) (pc2 := 55) (dkAt dkX0_nextRow 36 (q := (52, .if_icmp .ge 27, 3)) rfl) (by decide) rfl h (fun h => ?_) (fun h => ?_)
    · refine k_lv [] (lv2 := []) rfl ?_
      cases h
      exact hcont
    · refine k_aload_n C (pc2 := 56) (dkAt dkX0_nextRow 37 (q := (55, .aload_n 0, 1)) rfl) rfl rfl 0 rfl ?_
      refine kf_X0_15 C (pc2 := 59) (o := o0) (o2 := o0 + 2) h0.1 rfl (dkAt dkX0_nextRow 38 (q := (56, .getfield 15, 3)) rfl) rfl ?_
      refine k_iload C (pc2 := 61) (dkAt dkX0_nextRow 39 (q := (59, .iload 4, 2)) rfl) rfl 2 rfl ?_
      refine k_aload_n C (pc2 := 62) (dkAt dkX0_nextRow 40 (q := (61, .aload_n 0, 1)) rfl) rfl rfl 0 rfl ?_
      refine kf_X0_15 C (pc2 := 65) (o := o0) (o2 := o0 + 2) h0.1 rfl (dkAt dkX0_nextRow 41 (q := (62, .getfield 15, 3)) rfl) rfl ?_
      refine k_iload C (pc2 := 67) (dkAt dkX0_nextRow 42 (q := (65, .iload 4, 2)) rfl) rfl 2 rfl ?_
      refine k_iconst C (pc2 := 68) (dkAt dkX0_nextRow 43 (q := (67, .iconst 1, 1)) rfl) rfl (v := 1) rfl ?_
      refine k_isub C (pc2 := 69) (dkAt dkX0_nextRow 44 (q := (68, .isub, 1)) rfl) rfl ?_
      refine k_iald C (pc2 := 70) (o := o0 + 2) (nA := 3) h0.2.2.1 (dkAt dkX0_nextRow 45 (q := (69, .iaload, 1)) rfl) rfl h (fun h => ?_)
      refine k_iconst C (pc2 := 71) (dkAt dkX0_nextRow 46 (q := (70, .iconst 1, 1)) rfl) rfl (v := 1) rfl ?_
      refine k_iadd C (pc2 := 72) (dkAt dkX0_nextRow 47 (q := (71, .iadd, 1)) rfl) rfl ?_
      refine k_iast C (pc2 := 73) (o := o0 + 2) (nA := 3) h0.2.2.1 (dkAt dkX0_nextRow 48 (q := (72, .iastore, 1)) rfl) rfl h (fun M8 h => ?_)
      refine kb_iinc C (pc2 := 76) (dkAt dkX0_nextRow 49 (q := (73, .iinc 4 1, 3)) rfl) rfl (j := 2) rfl (v := x4 + 1) rfl (by decide) (lv2 := fun v9 => [(4, .int v9), (0, rA G o0), (1, .int x1)]) (fun _ => rfl) h (fun v9 h => ?_)
      refine k_goto C (tgt := 49) (dkAt dkX0_nextRow 50 (q := (76, .goto (-27), 3)) rfl) (by decide) ?_
      refine k_lv [1, 2, 0] (lv2 := [(0, rA G o0), (1, .int x1), (4, .int v9)]) rfl ?_
      exact ih v9 M8 h
set_option maxRecDepth 100000 in
set_option maxHeartbeats 4000000 in
theorem ct_X0_nextRow (l : Launch) (G : GG) (sh : Sh) (xs : List va_E) (o0 : Nat) (h0 : isCh sh o0) (x1 : Int32) (x2 : Int32) (M : Mm) (r : Mm × Int32) (h : f_X0_nextRow o0 x1 x2 M = some r) : Ct l yX0_nextRow cX0_nextRow 5 (some .boolean) rm_X0_nextRow G [rA G o0, .int x1, .int x2] sh M xs (some (.int r.2)) sh r.1 xs 0 0 := by
  refine ct_of (by decide) (Nat.le_of_ble_eq_true rfl) ?_
  intro p e s m args below meth c hnm C
  refine k_lv [0, 1, 2] (lv2 := [(0, rA G o0), (1, .int x1), (2, .int x2)]) rfl ?_
  unfold f_X0_nextRow at h
  refine k_iload_n C (pc2 := 1) (dkAt dkX0_nextRow 0 (q := (0, .iload_n 1, 1)) rfl) rfl rfl 1 rfl ?_
  refine k_iconst C (pc2 := 2) (dkAt dkX0_nextRow 1 (q := (1, .iconst 1, 1)) rfl) rfl (v := 1) rfl ?_
  refine k_isub C (pc2 := 3) (dkAt dkX0_nextRow 2 (q := (2, .isub, 1)) rfl) rfl ?_
  refine kb_istore_n C (pc2 := 4) (dkAt dkX0_nextRow 3 (q := (3, .istore_n 3, 1)) rfl) rfl rfl (by decide) (lv2 := fun v1 => [(3, .int v1), (0, rA G o0), (1, .int x1), (2, .int x2)]) (fun _ => rfl) h (fun v1 h => ?_)
  refine k_lv [1, 2, 3, 0] (lv2 := [(0, rA G o0), (1, .int x1), (2, .int x2), (3, .int v1)]) rfl ?_
  obtain ⟨v5, e4, h⟩ := ob_inv h
  refine kl_X0_nextRow_L4 C o0 h0 x1 x2 M v5 ?_ 1000 v1 e4
  refine k_iload_n C (pc2 := 29) (dkAt dkX0_nextRow 18 (q := (28, .iload_n 3, 1)) rfl) rfl rfl 2 rfl ?_
  refine k_if_ge C (tgt := 34) (pc2 := 32) (dkAt dkX0_nextRow 19 (q := (29, .ifCond .ge 5, 3)) rfl) (by decide) rfl h (fun h => ?_) (fun h => ?_)
  · refine k_aload_n C (pc2 := 35) (dkAt dkX0_nextRow 22 (q := (34, .aload_n 0, 1)) rfl) rfl rfl 0 rfl ?_
    refine kf_X0_15 C (pc2 := 38) (o := o0) (o2 := o0 + 2) h0.1 rfl (dkAt dkX0_nextRow 23 (q := (35, .getfield 15, 3)) rfl) rfl ?_
    refine k_iload_n C (pc2 := 39) (dkAt dkX0_nextRow 24 (q := (38, .iload_n 3, 1)) rfl) rfl rfl 2 rfl ?_
    refine k_dup2 C (pc2 := 40) (dkAt dkX0_nextRow 25 (q := (39, .dup2, 1)) rfl) rfl rfl rfl ?_
    refine k_iald C (pc2 := 41) (o := o0 + 2) (nA := 3) h0.2.2.1 (dkAt dkX0_nextRow 26 (q := (40, .iaload, 1)) rfl) rfl h (fun h => ?_)
    refine k_iconst C (pc2 := 42) (dkAt dkX0_nextRow 27 (q := (41, .iconst 1, 1)) rfl) rfl (v := 1) rfl ?_
    refine k_iadd C (pc2 := 43) (dkAt dkX0_nextRow 28 (q := (42, .iadd, 1)) rfl) rfl ?_
    refine k_iast C (pc2 := 44) (o := o0 + 2) (nA := 3) h0.2.2.1 (dkAt dkX0_nextRow 29 (q := (43, .iastore, 1)) rfl) rfl h (fun M6 h => ?_)
    refine k_iload_n C (pc2 := 45) (dkAt dkX0_nextRow 30 (q := (44, .iload_n 3, 1)) rfl) rfl rfl 2 rfl ?_
    refine k_iconst C (pc2 := 46) (dkAt dkX0_nextRow 31 (q := (45, .iconst 1, 1)) rfl) rfl (v := 1) rfl ?_
    refine k_iadd C (pc2 := 47) (dkAt dkX0_nextRow 32 (q := (46, .iadd, 1)) rfl) rfl ?_
    refine kb_istore C (pc2 := 49) (dkAt dkX0_nextRow 33 (q := (47, .istore 4, 2)) rfl) rfl (by decide) (lv2 := fun v7 => [(4, .int v7), (0, rA G o0), (1, .int x1), (3, .int v5)]) (fun _ => rfl) h (fun v7 h => ?_)
    refine k_lv [1, 2, 0] (lv2 := [(0, rA G o0), (1, .int x1), (4, .int v7)]) rfl ?_
    obtain ⟨M12, e11, h⟩ := ob_inv h
    refine kl_X0_nextRow_L49 C o0 h0 x1 M12 ?_ 1000 v7 M6 e11
    refine k_iconst C (pc2 := 80) (dkAt dkX0_nextRow 51 (q := (79, .iconst 1, 1)) rfl) rfl (v := 1) rfl ?_
    exact k_zret C (dkAt dkX0_nextRow 52 (q := (80, .ireturn, 1)) rfl) rfl (pe2 (Option.some.inj h)) rfl (pe1 (Option.some.inj h)) rfl
  · refine k_iconst C (pc2 := 33) (dkAt dkX0_nextRow 20 (q := (32, .iconst 0, 1)) rfl) rfl (v := 0) rfl ?_
    exact k_zret C (dkAt dkX0_nextRow 21 (q := (33, .ireturn, 1)) rfl) rfl (pe2 (Option.some.inj h)) rfl (pe1 (Option.some.inj h)) rfl
set_option maxRecDepth 100000 in
set_option maxHeartbeats 4000000 in
theorem kl_X0_chooseMeeting_L11 {p : Program} {l : Launch} {e : Env} {s : State} {m : MethodId} {args : Array Value} {below : List Frame} {meth : Method} {c : Code} {G : GG} {sh : Sh} {xs : List va_E} {Q : State → Prop} (C : Cx p s m c args meth G RX0 cX0_chooseMeeting 5 none) (o0 : Nat) (h0 : isCh sh o0) (o1 : Nat) (h1 : isC sh o1) (x2 : Int32) (M2 : Mm) (hcont : KW p l e rm_X0_chooseMeeting s m args below meth c G 5 Q sh xs 0 0 M2 48 [] []) : ∀ (n : Nat) (x3 : Int32) (x4 : Int32) (M : Mm), f_X0_chooseMeeting_L11 o0 o1 x2 n x3 x4 M = some M2 → KW p l e rm_X0_chooseMeeting s m args below meth c G 5 Q sh xs 0 0 M 11 [(0, rA G o0), (1, rA G o1), (2, .int x2), (3, .int x3), (4, .int x4)] [] := by
  intro n
  induction n with
  | zero =>
    intro x3 x4 M h
    cases h
  | succ n ih =>
    intro x3 x4 M h
    unfold f_X0_chooseMeeting_L11 at h
    refine k_iload_n C (pc2 := 12) (dkAt dkX0_chooseMeeting 8 (q := (11, .iload_n 3, 1)) rfl) rfl rfl 3 rfl ?_
    refine k_if_eq C (tgt := 48) (pc2 := 15) (dkAt dkX0_chooseMeeting 9 (q := (12, .ifCond .eq 36, 3)) rfl) (by decide) rfl h (fun h => ?_) (fun h => ?_)
    · refine k_lv [] (lv2 := []) rfl ?_
      cases h
      exact hcont
    · refine k_iload C (pc2 := 17) (dkAt dkX0_chooseMeeting 10 (q := (15, .iload 4, 2)) rfl) rfl 4 rfl ?_
      refine k_sipush C (pc2 := 20) (dkAt dkX0_chooseMeeting 11 (q := (17, .sipush 364, 3)) rfl) rfl (v := 364) rfl ?_
      refine k_icmp_ge C (tgt := 48) (pc2 := 23) (dkAt dkX0_chooseMeeting 12 (q := (20, .if_icmp .ge 28, 3)) rfl) (by decide) rfl h (fun h => ?_) (fun h => ?_)
      · refine k_lv [] (lv2 := []) rfl ?_
        cases h
        exact hcont
      · refine k_aload_n C (pc2 := 24) (dkAt dkX0_chooseMeeting 13 (q := (23, .aload_n 0, 1)) rfl) rfl rfl 0 rfl ?_
        refine k_aload_n C (pc2 := 25) (dkAt dkX0_chooseMeeting 14 (q := (24, .aload_n 0, 1)) rfl) rfl rfl 0 rfl ?_
        refine k_iload_n C (pc2 := 26) (dkAt dkX0_chooseMeeting 15 (q := (25, .iload_n 2, 1)) rfl) rfl rfl 2 rfl ?_
        obtain ⟨q3, e4, h⟩ := ob_inv h
        refine kc_V C (As := [.int x2]) (st2 := [.int q3, rA G o0]) (ct_X0_howManyMeet l G sh xs o0 h0 x2 M q3 e4) (cl_X0_25 (hts_of C) ⟨Nat.le_of_ble_eq_true rfl, Nat.le_of_ble_eq_true rfl⟩ rfl rfl) h0.1 rfl rfl rfl rfl rfl (Nat.le_of_ble_eq_true rfl) (dkAt dkX0_chooseMeeting 16 (q := (26, .invokevirtual 25, 3)) rfl) ⟨Nat.zero_le _, Nat.zero_le _⟩ (pc2 := 29) rfl rfl ?_
        obtain ⟨q5, e6, h⟩ := ob_inv h
        refine kc_V C (As := [.int q3]) (st2 := []) (ct_X0_keepIfBetter l G sh xs o0 h0 q3 M q5 e6) (cl_X0_29 (hts_of C) ⟨Nat.le_of_ble_eq_true rfl, Nat.le_of_ble_eq_true rfl⟩ rfl rfl) h0.1 rfl rfl rfl rfl rfl (Nat.le_of_ble_eq_true rfl) (dkAt dkX0_chooseMeeting 17 (q := (29, .invokevirtual 29, 3)) rfl) ⟨Nat.zero_le _, Nat.zero_le _⟩ (pc2 := 32) rfl rfl ?_
        refine k_aload_n C (pc2 := 33) (dkAt dkX0_chooseMeeting 18 (q := (32, .aload_n 0, 1)) rfl) rfl rfl 0 rfl ?_
        refine k_iload_n C (pc2 := 34) (dkAt dkX0_chooseMeeting 19 (q := (33, .iload_n 2, 1)) rfl) rfl rfl 2 rfl ?_
        refine k_aload_n C (pc2 := 35) (dkAt dkX0_chooseMeeting 20 (q := (34, .aload_n 1, 1)) rfl) rfl rfl 1 rfl ?_
        refine kf_X0_33 C (pc2 := 38) (o := o1) (o2 := 0) h1.1 (dkAt dkX0_chooseMeeting 21 (q := (35, .getfield 33, 3)) rfl) rfl ?_
        obtain ⟨q7, e8, h⟩ := ob_inv h
        refine kc_V C (As := [.int x2, .int (q5.1 o1 0)]) (st2 := [.int q7.2]) (ct_X0_nextRow l G sh xs o0 h0 x2 (q5.1 o1 0) q5 q7 e8) (cl_X0_39 (hts_of C) ⟨Nat.le_of_ble_eq_true rfl, Nat.le_of_ble_eq_true rfl⟩ rfl rfl) h0.1 rfl rfl rfl rfl rfl (Nat.le_of_ble_eq_true rfl) (dkAt dkX0_chooseMeeting 22 (q := (38, .invokevirtual 39, 3)) rfl) ⟨Nat.zero_le _, Nat.zero_le _⟩ (pc2 := 41) rfl rfl ?_
        refine kb_istore_n C (pc2 := 42) (dkAt dkX0_chooseMeeting 23 (q := (41, .istore_n 3, 1)) rfl) rfl rfl (by decide) (lv2 := fun v9 => [(3, .int v9), (0, rA G o0), (1, rA G o1), (2, .int x2), (4, .int x4)]) (fun _ => rfl) h (fun v9 h => ?_)
        refine kb_iinc C (pc2 := 45) (dkAt dkX0_chooseMeeting 24 (q := (42, .iinc 4 1, 3)) rfl) rfl (j := 4) rfl (v := x4 + 1) rfl (by decide) (lv2 := fun v10 => [(4, .int v10), (3, .int v9), (0, rA G o0), (1, rA G o1), (2, .int x2)]) (fun _ => rfl) h (fun v10 h => ?_)
        refine k_goto C (tgt := 11) (dkAt dkX0_chooseMeeting 25 (q := (45, .goto (-34), 3)) rfl) (by decide) ?_
        refine k_lv [2, 3, 4, 1, 0] (lv2 := [(0, rA G o0), (1, rA G o1), (2, .int x2), (3, .int v9), (4, .int v10)]) rfl ?_
        exact ih v9 v10 q7.1 h
set_option maxRecDepth 100000 in
set_option maxHeartbeats 4000000 in
theorem ct_X0_chooseMeeting (l : Launch) (G : GG) (sh : Sh) (xs : List va_E) (o0 : Nat) (h0 : isCh sh o0) (o1 : Nat) (h1 : isC sh o1) (x2 : Int32) (M : Mm) (r : Mm) (h : f_X0_chooseMeeting o0 o1 x2 M = some r) : Ct l yX0_chooseMeeting cX0_chooseMeeting 5 none rm_X0_chooseMeeting G [rA G o0, rA G o1, .int x2] sh M xs none sh r xs 0 0 := by
  refine ct_of (by decide) (Nat.le_of_ble_eq_true rfl) ?_
  intro p e s m args below meth c hnm C
  refine k_lv [0, 1, 2] (lv2 := [(0, rA G o0), (1, rA G o1), (2, .int x2)]) rfl ?_
  unfold f_X0_chooseMeeting at h
  refine k_aload_n C (pc2 := 1) (dkAt dkX0_chooseMeeting 0 (q := (0, .aload_n 0, 1)) rfl) rfl rfl 0 rfl ?_
  refine k_aload_n C (pc2 := 2) (dkAt dkX0_chooseMeeting 1 (q := (1, .aload_n 1, 1)) rfl) rfl rfl 1 rfl ?_
  refine k_iload_n C (pc2 := 3) (dkAt dkX0_chooseMeeting 2 (q := (2, .iload_n 2, 1)) rfl) rfl rfl 2 rfl ?_
  obtain ⟨q1, e2, h⟩ := ob_inv h
  refine kc_V C (As := [rA G o1, .int x2]) (st2 := []) (ct_X0_begin l G sh xs o0 h0 o1 h1 x2 M q1 e2) (cl_X0_21 (hts_of C) ⟨Nat.le_of_ble_eq_true rfl, Nat.le_of_ble_eq_true rfl⟩ rfl rfl) h0.1 rfl rfl rfl rfl rfl (Nat.le_of_ble_eq_true rfl) (dkAt dkX0_chooseMeeting 3 (q := (3, .invokevirtual 21, 3)) rfl) ⟨Nat.zero_le _, Nat.zero_le _⟩ (pc2 := 6) rfl rfl ?_
  refine k_iconst C (pc2 := 7) (dkAt dkX0_chooseMeeting 4 (q := (6, .iconst 1, 1)) rfl) rfl (v := 1) rfl ?_
  refine k_istore_n C (pc2 := 8) (dkAt dkX0_chooseMeeting 5 (q := (7, .istore_n 3, 1)) rfl) rfl rfl (by decide) (lv2 := [(3, .int 1), (0, rA G o0), (1, rA G o1), (2, .int x2)]) rfl ?_
  refine k_iconst C (pc2 := 9) (dkAt dkX0_chooseMeeting 6 (q := (8, .iconst 0, 1)) rfl) rfl (v := 0) rfl ?_
  refine k_istore C (pc2 := 11) (dkAt dkX0_chooseMeeting 7 (q := (9, .istore 4, 2)) rfl) rfl (by decide) (lv2 := [(4, .int 0), (3, .int 1), (0, rA G o0), (1, rA G o1), (2, .int x2)]) rfl ?_
  refine k_lv [2, 3, 4, 1, 0] (lv2 := [(0, rA G o0), (1, rA G o1), (2, .int x2), (3, .int 1), (4, .int 0)]) rfl ?_
  obtain ⟨M13, e12, h⟩ := ob_inv h
  refine kl_X0_chooseMeeting_L11 C o0 h0 o1 h1 x2 M13 ?_ 1000 1 0 q1 e12
  exact k_vret C (dkAt dkX0_chooseMeeting 26 (q := (48, .return_, 1)) rfl) rfl (Option.some.inj h) rfl
set_option maxRecDepth 100000 in
set_option maxHeartbeats 4000000 in
theorem ct_X2_outAfter (l : Launch) (G : GG) (sh : Sh) (xs : List va_E) (o0 : Nat) (h0 : isP sh o0) (x1 : Int32) (M : Mm) (r : Int32) (h : f_X2_outAfter o0 x1 M = some r) : Ct l yX2_outAfter cX2_outAfter 2 (some .int) rm_X2_outAfter G [rA G o0, .int x1] sh M xs (some (.int r)) sh M xs 0 0 := by
  refine ct_of (by decide) (Nat.le_of_ble_eq_true rfl) ?_
  intro p e s m args below meth c hnm C
  refine k_lv [0, 1] (lv2 := [(0, rA G o0), (1, .int x1)]) rfl ?_
  unfold f_X2_outAfter at h
  refine k_bipush C (pc2 := 2) (dkAt dkX2_outAfter 0 (q := (0, .bipush 99, 2)) rfl) rfl (v := 99) rfl ?_
  refine k_aload_n C (pc2 := 3) (dkAt dkX2_outAfter 1 (q := (2, .aload_n 0, 1)) rfl) rfl rfl 0 rfl ?_
  refine kf_X2_24 C (pc2 := 6) (o := o0) (o2 := 0) h0 (dkAt dkX2_outAfter 2 (q := (3, .getfield 24, 3)) rfl) rfl ?_
  refine k_iload_n C (pc2 := 7) (dkAt dkX2_outAfter 3 (q := (6, .iload_n 1, 1)) rfl) rfl rfl 1 rfl ?_
  refine k_iadd C (pc2 := 8) (dkAt dkX2_outAfter 4 (q := (7, .iadd, 1)) rfl) rfl ?_
  refine k_mmin C tM_X2_37 (Nat.le_of_ble_eq_true rfl) (Nat.le_of_ble_eq_true rfl) (Nat.zero_le _) (Nat.zero_le _) (dkAt dkX2_outAfter 5 (q := (8, .invokestatic 37, 3)) rfl) (pc2 := 11) rfl ?_
  exact k_iret C (dkAt dkX2_outAfter 6 (q := (11, .ireturn, 1)) rfl) (Option.some.inj h) rfl rfl rfl
set_option maxRecDepth 100000 in
set_option maxHeartbeats 4000000 in
theorem kl_X0_fairness_L23 {p : Program} {l : Launch} {e : Env} {s : State} {m : MethodId} {args : Array Value} {below : List Frame} {meth : Method} {c : Code} {G : GG} {sh : Sh} {xs : List va_E} {Q : State → Prop} (C : Cx p s m c args meth G RX0 cX0_fairness 8 (some .int)) (o0 : Nat) (h0 : isCh sh o0) (o1 : Nat) (h1 : isC sh o1) (x2 : Int32) (x3 : Int32) (x4 : Int32) (x5 : Int32) (M : Mm) (y6 : Int32) (hcont : KW p l e rm_X0_fairness s m args below meth c G 8 Q sh xs 0 0 M 65 [(0, rA G o0), (1, rA G o1), (2, .int x2), (3, .int x3), (4, .int x4), (5, .int x5), (6, .int y6)] []) : ∀ (n : Nat) (x6 : Int32) (x7 : Int32), f_X0_fairness_L23 o0 o1 x2 x3 x4 x5 M n x6 x7 = some y6 → KW p l e rm_X0_fairness s m args below meth c G 8 Q sh xs 0 0 M 23 [(0, rA G o0), (1, rA G o1), (2, .int x2), (3, .int x3), (4, .int x4), (5, .int x5), (6, .int x6), (7, .int x7)] [] := by
  intro n
  induction n with
  | zero =>
    intro x6 x7 h
    cases h
  | succ n ih =>
    intro x6 x7 h
    unfold f_X0_fairness_L23 at h
    refine k_iload C (pc2 := 25) (dkAt dkX0_fairness 14 (q := (23, .iload 7, 2)) rfl) rfl 7 rfl ?_
    refine k_iload_n C (pc2 := 26) (dkAt dkX0_fairness 15 (q := (25, .iload_n 2, 1)) rfl) rfl rfl 2 rfl ?_
    refine k_icmp_ge C (tgt := 65) (pc2 := 29) (dkAt dkX0_fairness 16 (q := (26, .if_icmp .ge 39, 3)) rfl) (by decide) rfl h (fun h => ?_) (fun h => ?_)
    · refine k_lv [0, 1, 2, 3, 4, 5, 6] (lv2 := [(0, rA G o0), (1, rA G o1), (2, .int x2), (3, .int x3), (4, .int x4), (5, .int x5), (6, .int x6)]) rfl ?_
      cases h
      exact hcont
    · refine k_iload C (pc2 := 31) (dkAt dkX0_fairness 17 (q := (29, .iload 6, 2)) rfl) rfl 6 rfl ?_
      refine k_aload_n C (pc2 := 32) (dkAt dkX0_fairness 18 (q := (31, .aload_n 0, 1)) rfl) rfl rfl 0 rfl ?_
      refine kf_X0_9 C (pc2 := 35) (o := o0) (o2 := o0 + 1) h0.1 rfl (dkAt dkX0_fairness 19 (q := (32, .getfield 9, 3)) rfl) rfl ?_
      refine k_aload_n C (pc2 := 36) (dkAt dkX0_fairness 20 (q := (35, .aload_n 0, 1)) rfl) rfl rfl 0 rfl ?_
      refine kf_X0_15 C (pc2 := 39) (o := o0) (o2 := o0 + 2) h0.1 rfl (dkAt dkX0_fairness 21 (q := (36, .getfield 15, 3)) rfl) rfl ?_
      refine k_iload C (pc2 := 41) (dkAt dkX0_fairness 22 (q := (39, .iload 7, 2)) rfl) rfl 7 rfl ?_
      refine k_iald C (pc2 := 42) (o := o0 + 2) (nA := 3) h0.2.2.1 (dkAt dkX0_fairness 23 (q := (41, .iaload, 1)) rfl) rfl h (fun h => ?_)
      refine k_iald C (pc2 := 43) (o := o0 + 1) (nA := 14) h0.2.1 (dkAt dkX0_fairness 24 (q := (42, .iaload, 1)) rfl) rfl h (fun h => ?_)
      refine k_iload C (pc2 := 45) (dkAt dkX0_fairness 25 (q := (43, .iload 5, 2)) rfl) rfl 5 rfl ?_
      obtain ⟨q1, e2, h⟩ := ob_inv h
      refine kc_SN C (As := [.int (M.1 (o0 + 1) (M.1 (o0 + 2) x7.toNatClampNeg).toNatClampNeg), .int x5]) (st2 := [.int q1, .int x6]) (ct_X7_hasBit l G sh xs (M.1 (o0 + 1) (M.1 (o0 + 2) x7.toNatClampNeg).toNatClampNeg) x5 M q1 e2) (cl_X0_68 (hts_of C) C.2.2.2.2.1 ⟨Nat.le_of_ble_eq_true rfl, Nat.le_of_ble_eq_true rfl⟩ rfl rfl) rfl rfl (Nat.le_of_ble_eq_true rfl) (dkAt dkX0_fairness 26 (q := (45, .invokestatic 68, 3)) rfl) ⟨Nat.zero_le _, Nat.zero_le _⟩ (pc2 := 48) rfl rfl ?_
      refine k_if_eq C (tgt := 55) (pc2 := 51) (dkAt dkX0_fairness 27 (q := (48, .ifCond .eq 7, 3)) rfl) (by decide) rfl h (fun h => ?_) (fun h => ?_)
      · refine k_iconst C (pc2 := 56) (dkAt dkX0_fairness 30 (q := (55, .iconst 1, 1)) rfl) rfl (v := 1) rfl ?_
        refine k_iadd C (pc2 := 57) (dkAt dkX0_fairness 31 (q := (56, .iadd, 1)) rfl) rfl ?_
        refine kb_istore C (pc2 := 59) (dkAt dkX0_fairness 32 (q := (57, .istore 6, 2)) rfl) rfl (by decide) (lv2 := fun v3 => [(6, .int v3), (0, rA G o0), (1, rA G o1), (2, .int x2), (3, .int x3), (4, .int x4), (5, .int x5), (7, .int x7)]) (fun _ => rfl) h (fun v3 h => ?_)
        refine kb_iinc C (pc2 := 62) (dkAt dkX0_fairness 33 (q := (59, .iinc 7 1, 3)) rfl) rfl (j := 7) rfl (v := x7 + 1) rfl (by decide) (lv2 := fun v4 => [(7, .int v4), (6, .int v3), (0, rA G o0), (1, rA G o1), (2, .int x2), (3, .int x3), (4, .int x4), (5, .int x5)]) (fun _ => rfl) h (fun v4 h => ?_)
        refine k_goto C (tgt := 23) (dkAt dkX0_fairness 34 (q := (62, .goto (-39), 3)) rfl) (by decide) ?_
        refine k_lv [2, 3, 4, 5, 6, 7, 1, 0] (lv2 := [(0, rA G o0), (1, rA G o1), (2, .int x2), (3, .int x3), (4, .int x4), (5, .int x5), (6, .int v3), (7, .int v4)]) rfl ?_
        exact ih v3 v4 h
      · refine k_iconst C (pc2 := 52) (dkAt dkX0_fairness 28 (q := (51, .iconst 0, 1)) rfl) rfl (v := 0) rfl ?_
        refine k_goto C (tgt := 56) (dkAt dkX0_fairness 29 (q := (52, .goto 4, 3)) rfl) (by decide) ?_
        refine k_iadd C (pc2 := 57) (dkAt dkX0_fairness 31 (q := (56, .iadd, 1)) rfl) rfl ?_
        refine kb_istore C (pc2 := 59) (dkAt dkX0_fairness 32 (q := (57, .istore 6, 2)) rfl) rfl (by decide) (lv2 := fun v5 => [(6, .int v5), (0, rA G o0), (1, rA G o1), (2, .int x2), (3, .int x3), (4, .int x4), (5, .int x5), (7, .int x7)]) (fun _ => rfl) h (fun v5 h => ?_)
        refine kb_iinc C (pc2 := 62) (dkAt dkX0_fairness 33 (q := (59, .iinc 7 1, 3)) rfl) rfl (j := 7) rfl (v := x7 + 1) rfl (by decide) (lv2 := fun v6 => [(7, .int v6), (6, .int v5), (0, rA G o0), (1, rA G o1), (2, .int x2), (3, .int x3), (4, .int x4), (5, .int x5)]) (fun _ => rfl) h (fun v6 h => ?_)
        refine k_goto C (tgt := 23) (dkAt dkX0_fairness 34 (q := (62, .goto (-39), 3)) rfl) (by decide) ?_
        refine k_lv [2, 3, 4, 5, 6, 7, 1, 0] (lv2 := [(0, rA G o0), (1, rA G o1), (2, .int x2), (3, .int x3), (4, .int x4), (5, .int x5), (6, .int v5), (7, .int v6)]) rfl ?_
        exact ih v5 v6 h
set_option maxRecDepth 100000 in
set_option maxHeartbeats 4000000 in
theorem kl_X0_fairness_L8 {p : Program} {l : Launch} {e : Env} {s : State} {m : MethodId} {args : Array Value} {below : List Frame} {meth : Method} {c : Code} {G : GG} {sh : Sh} {xs : List va_E} {Q : State → Prop} (C : Cx p s m c args meth G RX0 cX0_fairness 8 (some .int)) (o0 : Nat) (h0 : isCh sh o0) (o1 : Nat) (h1 : isC sh o1) (x2 : Int32) (M : Mm) (y3 : Int32) (y4 : Int32) (hcont : KW p l e rm_X0_fairness s m args below meth c G 8 Q sh xs 0 0 M 99 [(3, .int y3), (4, .int y4)] []) : ∀ (n : Nat) (x3 : Int32) (x4 : Int32) (x5 : Int32), f_X0_fairness_L8 o0 o1 x2 M n x3 x4 x5 = some (y3, y4) → KW p l e rm_X0_fairness s m args below meth c G 8 Q sh xs 0 0 M 8 [(0, rA G o0), (1, rA G o1), (2, .int x2), (3, .int x3), (4, .int x4), (5, .int x5)] [] := by
  intro n
  induction n with
  | zero =>
    intro x3 x4 x5 h
    cases h
  | succ n ih =>
    intro x3 x4 x5 h
    unfold f_X0_fairness_L8 at h
    refine k_iload C (pc2 := 10) (dkAt dkX0_fairness 6 (q := (8, .iload 5, 2)) rfl) rfl 5 rfl ?_
    refine k_aload_n C (pc2 := 11) (dkAt dkX0_fairness 7 (q := (10, .aload_n 1, 1)) rfl) rfl rfl 1 rfl ?_
    refine kf_X0_65 C (pc2 := 14) (o := o1) (o2 := 0) h1.1 (dkAt dkX0_fairness 8 (q := (11, .getfield 65, 3)) rfl) rfl ?_
    refine k_icmp_ge C (tgt := 99) (pc2 := 17) (dkAt dkX0_fairness 9 (q := (14, .if_icmp .ge 85, 3)) rfl) (by decide) rfl h (fun h => ?_) (fun h => ?_)
    · refine k_lv [3, 4] (lv2 := [(3, .int x3), (4, .int x4)]) rfl ?_
      cases h
      exact hcont
    · refine k_iconst C (pc2 := 18) (dkAt dkX0_fairness 10 (q := (17, .iconst 0, 1)) rfl) rfl (v := 0) rfl ?_
      refine k_istore C (pc2 := 20) (dkAt dkX0_fairness 11 (q := (18, .istore 6, 2)) rfl) rfl (by decide) (lv2 := [(6, .int 0), (0, rA G o0), (1, rA G o1), (2, .int x2), (3, .int x3), (4, .int x4), (5, .int x5)]) rfl ?_
      refine k_iconst C (pc2 := 21) (dkAt dkX0_fairness 12 (q := (20, .iconst 0, 1)) rfl) rfl (v := 0) rfl ?_
      refine k_istore C (pc2 := 23) (dkAt dkX0_fairness 13 (q := (21, .istore 7, 2)) rfl) rfl (by decide) (lv2 := [(7, .int 0), (6, .int 0), (0, rA G o0), (1, rA G o1), (2, .int x2), (3, .int x3), (4, .int x4), (5, .int x5)]) rfl ?_
      refine k_lv [2, 3, 4, 5, 6, 7, 1, 0] (lv2 := [(0, rA G o0), (1, rA G o1), (2, .int x2), (3, .int x3), (4, .int x4), (5, .int x5), (6, .int 0), (7, .int 0)]) rfl ?_
      obtain ⟨v9, e8, h⟩ := ob_inv h
      refine kl_X0_fairness_L23 C o0 h0 o1 h1 x2 x3 x4 x5 M v9 ?_ 1000 0 0 e8
      refine k_aload_n C (pc2 := 66) (dkAt dkX0_fairness 35 (q := (65, .aload_n 1, 1)) rfl) rfl rfl 1 rfl ?_
      refine kf_X0_71 C (pc2 := 69) (o := o1) (o2 := o1 + 1) h1.1 rfl (dkAt dkX0_fairness 36 (q := (66, .getfield 71, 3)) rfl) rfl ?_
      refine k_iload C (pc2 := 71) (dkAt dkX0_fairness 37 (q := (69, .iload 5, 2)) rfl) rfl 5 rfl ?_
      refine k_aa11 C (pc2 := 72) (o := o1 + 1) (o2 := o1 + 2 + x5.toNatClampNeg) (nA := 8) h1.2.1 rfl (dkAt dkX0_fairness 38 (q := (71, .aaload, 1)) rfl) rfl h (fun h hl10 => ?_)
      refine k_iload C (pc2 := 74) (dkAt dkX0_fairness 39 (q := (72, .iload 6, 2)) rfl) rfl 6 rfl ?_
      obtain ⟨q11, e12, h⟩ := ob_inv h
      refine kc_V C (As := [.int v9]) (st2 := [.int q11]) (ct_X2_outAfter l G sh xs (o1 + 2 + x5.toNatClampNeg) (h1.2.2 _ hl10) v9 M q11 e12) (cl_X0_75 (hts_of C) ⟨Nat.le_of_ble_eq_true rfl, Nat.le_of_ble_eq_true rfl⟩ rfl rfl) (h1.2.2 _ hl10) rfl rfl rfl rfl rfl (Nat.le_of_ble_eq_true rfl) (dkAt dkX0_fairness 40 (q := (74, .invokevirtual 75, 3)) rfl) ⟨Nat.zero_le _, Nat.zero_le _⟩ (pc2 := 77) rfl rfl ?_
      refine k_istore C (pc2 := 79) (dkAt dkX0_fairness 41 (q := (77, .istore 7, 2)) rfl) rfl (by decide) (lv2 := [(7, .int q11), (0, rA G o0), (1, rA G o1), (2, .int x2), (3, .int x3), (4, .int x4), (5, .int x5), (6, .int v9)]) rfl ?_
      refine k_iload_n C (pc2 := 80) (dkAt dkX0_fairness 42 (q := (79, .iload_n 3, 1)) rfl) rfl rfl 4 rfl ?_
      refine k_iload C (pc2 := 82) (dkAt dkX0_fairness 43 (q := (80, .iload 7, 2)) rfl) rfl 0 rfl ?_
      refine k_mmax C tM_X0_80 (Nat.le_of_ble_eq_true rfl) (Nat.le_of_ble_eq_true rfl) (Nat.zero_le _) (Nat.zero_le _) (dkAt dkX0_fairness 44 (q := (82, .invokestatic 80, 3)) rfl) (pc2 := 85) rfl ?_
      refine kb_istore_n C (pc2 := 86) (dkAt dkX0_fairness 45 (q := (85, .istore_n 3, 1)) rfl) rfl rfl (by decide) (lv2 := fun v13 => [(3, .int v13), (7, .int q11), (0, rA G o0), (1, rA G o1), (2, .int x2), (4, .int x4), (5, .int x5), (6, .int v9)]) (fun _ => rfl) h (fun v13 h => ?_)
      refine k_iload C (pc2 := 88) (dkAt dkX0_fairness 46 (q := (86, .iload 4, 2)) rfl) rfl 5 rfl ?_
      refine k_iload C (pc2 := 90) (dkAt dkX0_fairness 47 (q := (88, .iload 7, 2)) rfl) rfl 1 rfl ?_
      refine k_iadd C (pc2 := 91) (dkAt dkX0_fairness 48 (q := (90, .iadd, 1)) rfl) rfl ?_
      refine kb_istore C (pc2 := 93) (dkAt dkX0_fairness 49 (q := (91, .istore 4, 2)) rfl) rfl (by decide) (lv2 := fun v14 => [(4, .int v14), (3, .int v13), (7, .int q11), (0, rA G o0), (1, rA G o1), (2, .int x2), (5, .int x5), (6, .int v9)]) (fun _ => rfl) h (fun v14 h => ?_)
      refine kb_iinc C (pc2 := 96) (dkAt dkX0_fairness 50 (q := (93, .iinc 5 1, 3)) rfl) rfl (j := 6) rfl (v := x5 + 1) rfl (by decide) (lv2 := fun v15 => [(5, .int v15), (4, .int v14), (3, .int v13), (7, .int q11), (0, rA G o0), (1, rA G o1), (2, .int x2), (6, .int v9)]) (fun _ => rfl) h (fun v15 h => ?_)
      refine k_goto C (tgt := 8) (dkAt dkX0_fairness 51 (q := (96, .goto (-88), 3)) rfl) (by decide) ?_
      refine k_lv [4, 5, 6, 2, 1, 0] (lv2 := [(0, rA G o0), (1, rA G o1), (2, .int x2), (3, .int v13), (4, .int v14), (5, .int v15)]) rfl ?_
      exact ih v13 v14 v15 h
set_option maxRecDepth 100000 in
set_option maxHeartbeats 4000000 in
theorem ct_X0_fairness (l : Launch) (G : GG) (sh : Sh) (xs : List va_E) (o0 : Nat) (h0 : isCh sh o0) (o1 : Nat) (h1 : isC sh o1) (x2 : Int32) (M : Mm) (r : Int32) (h : f_X0_fairness o0 o1 x2 M = some r) : Ct l yX0_fairness cX0_fairness 8 (some .int) rm_X0_fairness G [rA G o0, rA G o1, .int x2] sh M xs (some (.int r)) sh M xs 0 0 := by
  refine ct_of (by decide) (Nat.le_of_ble_eq_true rfl) ?_
  intro p e s m args below meth c hnm C
  refine k_lv [0, 1, 2] (lv2 := [(0, rA G o0), (1, rA G o1), (2, .int x2)]) rfl ?_
  unfold f_X0_fairness at h
  refine k_iconst C (pc2 := 1) (dkAt dkX0_fairness 0 (q := (0, .iconst 0, 1)) rfl) rfl (v := 0) rfl ?_
  refine k_istore_n C (pc2 := 2) (dkAt dkX0_fairness 1 (q := (1, .istore_n 3, 1)) rfl) rfl rfl (by decide) (lv2 := [(3, .int 0), (0, rA G o0), (1, rA G o1), (2, .int x2)]) rfl ?_
  refine k_iconst C (pc2 := 3) (dkAt dkX0_fairness 2 (q := (2, .iconst 0, 1)) rfl) rfl (v := 0) rfl ?_
  refine k_istore C (pc2 := 5) (dkAt dkX0_fairness 3 (q := (3, .istore 4, 2)) rfl) rfl (by decide) (lv2 := [(4, .int 0), (3, .int 0), (0, rA G o0), (1, rA G o1), (2, .int x2)]) rfl ?_
  refine k_iconst C (pc2 := 6) (dkAt dkX0_fairness 4 (q := (5, .iconst 0, 1)) rfl) rfl (v := 0) rfl ?_
  refine k_istore C (pc2 := 8) (dkAt dkX0_fairness 5 (q := (6, .istore 5, 2)) rfl) rfl (by decide) (lv2 := [(5, .int 0), (4, .int 0), (3, .int 0), (0, rA G o0), (1, rA G o1), (2, .int x2)]) rfl ?_
  refine k_lv [3, 4, 5, 2, 1, 0] (lv2 := [(0, rA G o0), (1, rA G o1), (2, .int x2), (3, .int 0), (4, .int 0), (5, .int 0)]) rfl ?_
  obtain ⟨v18, v19, e17, h⟩ := ob2_inv h
  refine kl_X0_fairness_L8 C o0 h0 o1 h1 x2 M v18 v19 ?_ 1000 0 0 0 e17
  refine k_iload_n C (pc2 := 100) (dkAt dkX0_fairness 52 (q := (99, .iload_n 3, 1)) rfl) rfl rfl 0 rfl ?_
  refine k_sipush C (pc2 := 103) (dkAt dkX0_fairness 53 (q := (100, .sipush 1000, 3)) rfl) rfl (v := 1000) rfl ?_
  refine k_imul C (pc2 := 104) (dkAt dkX0_fairness 54 (q := (103, .imul, 1)) rfl) rfl ?_
  refine k_iload C (pc2 := 106) (dkAt dkX0_fairness 55 (q := (104, .iload 4, 2)) rfl) rfl 1 rfl ?_
  refine k_iadd C (pc2 := 107) (dkAt dkX0_fairness 56 (q := (106, .iadd, 1)) rfl) rfl ?_
  refine k_ineg C (pc2 := 108) (dkAt dkX0_fairness 57 (q := (107, .ineg, 1)) rfl) rfl ?_
  exact k_iret C (dkAt dkX0_fairness 58 (q := (108, .ireturn, 1)) rfl) (Option.some.inj h) rfl rfl rfl
set_option maxRecDepth 100000 in
set_option maxHeartbeats 4000000 in
theorem kl_X0_chooseFair_L11 {p : Program} {l : Launch} {e : Env} {s : State} {m : MethodId} {args : Array Value} {below : List Frame} {meth : Method} {c : Code} {G : GG} {sh : Sh} {xs : List va_E} {Q : State → Prop} (C : Cx p s m c args meth G RX0 cX0_chooseFair 5 none) (o0 : Nat) (h0 : isCh sh o0) (o1 : Nat) (h1 : isC sh o1) (x2 : Int32) (M2 : Mm) (hcont : KW p l e rm_X0_chooseFair s m args below meth c G 5 Q sh xs 0 0 M2 49 [] []) : ∀ (n : Nat) (x3 : Int32) (x4 : Int32) (M : Mm), f_X0_chooseFair_L11 o0 o1 x2 n x3 x4 M = some M2 → KW p l e rm_X0_chooseFair s m args below meth c G 5 Q sh xs 0 0 M 11 [(0, rA G o0), (1, rA G o1), (2, .int x2), (3, .int x3), (4, .int x4)] [] := by
  intro n
  induction n with
  | zero =>
    intro x3 x4 M h
    cases h
  | succ n ih =>
    intro x3 x4 M h
    unfold f_X0_chooseFair_L11 at h
    refine k_iload_n C (pc2 := 12) (dkAt dkX0_chooseFair 8 (q := (11, .iload_n 3, 1)) rfl) rfl rfl 3 rfl ?_
    refine k_if_eq C (tgt := 49) (pc2 := 15) (dkAt dkX0_chooseFair 9 (q := (12, .ifCond .eq 37, 3)) rfl) (by decide) rfl h (fun h => ?_) (fun h => ?_)
    · refine k_lv [] (lv2 := []) rfl ?_
      cases h
      exact hcont
    · refine k_iload C (pc2 := 17) (dkAt dkX0_chooseFair 10 (q := (15, .iload 4, 2)) rfl) rfl 4 rfl ?_
      refine k_sipush C (pc2 := 20) (dkAt dkX0_chooseFair 11 (q := (17, .sipush 364, 3)) rfl) rfl (v := 364) rfl ?_
      refine k_icmp_ge C (tgt := 49) (pc2 := 23) (dkAt dkX0_chooseFair 12 (q := (20, .if_icmp .ge 29, 3)) rfl) (by decide) rfl h (fun h => ?_) (fun h => ?_)
      · refine k_lv [] (lv2 := []) rfl ?_
        cases h
        exact hcont
      · refine k_aload_n C (pc2 := 24) (dkAt dkX0_chooseFair 13 (q := (23, .aload_n 0, 1)) rfl) rfl rfl 0 rfl ?_
        refine k_aload_n C (pc2 := 25) (dkAt dkX0_chooseFair 14 (q := (24, .aload_n 0, 1)) rfl) rfl rfl 0 rfl ?_
        refine k_aload_n C (pc2 := 26) (dkAt dkX0_chooseFair 15 (q := (25, .aload_n 1, 1)) rfl) rfl rfl 1 rfl ?_
        refine k_iload_n C (pc2 := 27) (dkAt dkX0_chooseFair 16 (q := (26, .iload_n 2, 1)) rfl) rfl rfl 2 rfl ?_
        obtain ⟨q3, e4, h⟩ := ob_inv h
        refine kc_V C (As := [rA G o1, .int x2]) (st2 := [.int q3, rA G o0]) (ct_X0_fairness l G sh xs o0 h0 o1 h1 x2 M q3 e4) (cl_X0_43 (hts_of C) ⟨Nat.le_of_ble_eq_true rfl, Nat.le_of_ble_eq_true rfl⟩ rfl rfl) h0.1 rfl rfl rfl rfl rfl (Nat.le_of_ble_eq_true rfl) (dkAt dkX0_chooseFair 17 (q := (27, .invokevirtual 43, 3)) rfl) ⟨Nat.zero_le _, Nat.zero_le _⟩ (pc2 := 30) rfl rfl ?_
        obtain ⟨q5, e6, h⟩ := ob_inv h
        refine kc_V C (As := [.int q3]) (st2 := []) (ct_X0_keepIfBetter l G sh xs o0 h0 q3 M q5 e6) (cl_X0_29 (hts_of C) ⟨Nat.le_of_ble_eq_true rfl, Nat.le_of_ble_eq_true rfl⟩ rfl rfl) h0.1 rfl rfl rfl rfl rfl (Nat.le_of_ble_eq_true rfl) (dkAt dkX0_chooseFair 18 (q := (30, .invokevirtual 29, 3)) rfl) ⟨Nat.zero_le _, Nat.zero_le _⟩ (pc2 := 33) rfl rfl ?_
        refine k_aload_n C (pc2 := 34) (dkAt dkX0_chooseFair 19 (q := (33, .aload_n 0, 1)) rfl) rfl rfl 0 rfl ?_
        refine k_iload_n C (pc2 := 35) (dkAt dkX0_chooseFair 20 (q := (34, .iload_n 2, 1)) rfl) rfl rfl 2 rfl ?_
        refine k_aload_n C (pc2 := 36) (dkAt dkX0_chooseFair 21 (q := (35, .aload_n 1, 1)) rfl) rfl rfl 1 rfl ?_
        refine kf_X0_33 C (pc2 := 39) (o := o1) (o2 := 0) h1.1 (dkAt dkX0_chooseFair 22 (q := (36, .getfield 33, 3)) rfl) rfl ?_
        obtain ⟨q7, e8, h⟩ := ob_inv h
        refine kc_V C (As := [.int x2, .int (q5.1 o1 0)]) (st2 := [.int q7.2]) (ct_X0_nextRow l G sh xs o0 h0 x2 (q5.1 o1 0) q5 q7 e8) (cl_X0_39 (hts_of C) ⟨Nat.le_of_ble_eq_true rfl, Nat.le_of_ble_eq_true rfl⟩ rfl rfl) h0.1 rfl rfl rfl rfl rfl (Nat.le_of_ble_eq_true rfl) (dkAt dkX0_chooseFair 23 (q := (39, .invokevirtual 39, 3)) rfl) ⟨Nat.zero_le _, Nat.zero_le _⟩ (pc2 := 42) rfl rfl ?_
        refine kb_istore_n C (pc2 := 43) (dkAt dkX0_chooseFair 24 (q := (42, .istore_n 3, 1)) rfl) rfl rfl (by decide) (lv2 := fun v9 => [(3, .int v9), (0, rA G o0), (1, rA G o1), (2, .int x2), (4, .int x4)]) (fun _ => rfl) h (fun v9 h => ?_)
        refine kb_iinc C (pc2 := 46) (dkAt dkX0_chooseFair 25 (q := (43, .iinc 4 1, 3)) rfl) rfl (j := 4) rfl (v := x4 + 1) rfl (by decide) (lv2 := fun v10 => [(4, .int v10), (3, .int v9), (0, rA G o0), (1, rA G o1), (2, .int x2)]) (fun _ => rfl) h (fun v10 h => ?_)
        refine k_goto C (tgt := 11) (dkAt dkX0_chooseFair 26 (q := (46, .goto (-35), 3)) rfl) (by decide) ?_
        refine k_lv [2, 3, 4, 1, 0] (lv2 := [(0, rA G o0), (1, rA G o1), (2, .int x2), (3, .int v9), (4, .int v10)]) rfl ?_
        exact ih v9 v10 q7.1 h
set_option maxRecDepth 100000 in
set_option maxHeartbeats 4000000 in
theorem ct_X0_chooseFair (l : Launch) (G : GG) (sh : Sh) (xs : List va_E) (o0 : Nat) (h0 : isCh sh o0) (o1 : Nat) (h1 : isC sh o1) (x2 : Int32) (M : Mm) (r : Mm) (h : f_X0_chooseFair o0 o1 x2 M = some r) : Ct l yX0_chooseFair cX0_chooseFair 5 none rm_X0_chooseFair G [rA G o0, rA G o1, .int x2] sh M xs none sh r xs 0 0 := by
  refine ct_of (by decide) (Nat.le_of_ble_eq_true rfl) ?_
  intro p e s m args below meth c hnm C
  refine k_lv [0, 1, 2] (lv2 := [(0, rA G o0), (1, rA G o1), (2, .int x2)]) rfl ?_
  unfold f_X0_chooseFair at h
  refine k_aload_n C (pc2 := 1) (dkAt dkX0_chooseFair 0 (q := (0, .aload_n 0, 1)) rfl) rfl rfl 0 rfl ?_
  refine k_aload_n C (pc2 := 2) (dkAt dkX0_chooseFair 1 (q := (1, .aload_n 1, 1)) rfl) rfl rfl 1 rfl ?_
  refine k_iload_n C (pc2 := 3) (dkAt dkX0_chooseFair 2 (q := (2, .iload_n 2, 1)) rfl) rfl rfl 2 rfl ?_
  obtain ⟨q1, e2, h⟩ := ob_inv h
  refine kc_V C (As := [rA G o1, .int x2]) (st2 := []) (ct_X0_begin l G sh xs o0 h0 o1 h1 x2 M q1 e2) (cl_X0_21 (hts_of C) ⟨Nat.le_of_ble_eq_true rfl, Nat.le_of_ble_eq_true rfl⟩ rfl rfl) h0.1 rfl rfl rfl rfl rfl (Nat.le_of_ble_eq_true rfl) (dkAt dkX0_chooseFair 3 (q := (3, .invokevirtual 21, 3)) rfl) ⟨Nat.zero_le _, Nat.zero_le _⟩ (pc2 := 6) rfl rfl ?_
  refine k_iconst C (pc2 := 7) (dkAt dkX0_chooseFair 4 (q := (6, .iconst 1, 1)) rfl) rfl (v := 1) rfl ?_
  refine k_istore_n C (pc2 := 8) (dkAt dkX0_chooseFair 5 (q := (7, .istore_n 3, 1)) rfl) rfl rfl (by decide) (lv2 := [(3, .int 1), (0, rA G o0), (1, rA G o1), (2, .int x2)]) rfl ?_
  refine k_iconst C (pc2 := 9) (dkAt dkX0_chooseFair 6 (q := (8, .iconst 0, 1)) rfl) rfl (v := 0) rfl ?_
  refine k_istore C (pc2 := 11) (dkAt dkX0_chooseFair 7 (q := (9, .istore 4, 2)) rfl) rfl (by decide) (lv2 := [(4, .int 0), (3, .int 1), (0, rA G o0), (1, rA G o1), (2, .int x2)]) rfl ?_
  refine k_lv [2, 3, 4, 1, 0] (lv2 := [(0, rA G o0), (1, rA G o1), (2, .int x2), (3, .int 1), (4, .int 0)]) rfl ?_
  obtain ⟨M13, e12, h⟩ := ob_inv h
  refine kl_X0_chooseFair_L11 C o0 h0 o1 h1 x2 M13 ?_ 1000 1 0 q1 e12
  exact k_vret C (dkAt dkX0_chooseFair 27 (q := (49, .return_, 1)) rfl) rfl (Option.some.inj h) rfl
set_option maxRecDepth 100000 in
set_option maxHeartbeats 4000000 in
theorem ct_X0_greatestOut (l : Launch) (G : GG) (sh : Sh) (xs : List va_E) (o0 : Nat) (h0 : isCh sh o0) (M : Mm) (r : Int32) (h : f_X0_greatestOut o0 M = some r) : Ct l yX0_greatestOut cX0_greatestOut 1 (some .int) rm_X0_greatestOut G [rA G o0] sh M xs (some (.int r)) sh M xs 0 0 := by
  refine ct_of (by decide) (Nat.le_of_ble_eq_true rfl) ?_
  intro p e s m args below meth c hnm C
  refine k_lv [0] (lv2 := [(0, rA G o0)]) rfl ?_
  unfold f_X0_greatestOut at h
  refine k_aload_n C (pc2 := 1) (dkAt dkX0_greatestOut 0 (q := (0, .aload_n 0, 1)) rfl) rfl rfl 0 rfl ?_
  refine kf_X0_47 C (pc2 := 4) (o := o0) (o2 := 0) h0.1 (dkAt dkX0_greatestOut 1 (q := (1, .getfield 47, 3)) rfl) rfl ?_
  refine k_ineg C (pc2 := 5) (dkAt dkX0_greatestOut 2 (q := (4, .ineg, 1)) rfl) rfl ?_
  refine k_sipush C (pc2 := 8) (dkAt dkX0_greatestOut 3 (q := (5, .sipush 1000, 3)) rfl) rfl (v := 1000) rfl ?_
  refine k_idivc C (pc2 := 9) (dkAt dkX0_greatestOut 4 (q := (8, .idiv, 1)) rfl) rfl (by decide) ?_
  exact k_iret C (dkAt dkX0_greatestOut 5 (q := (9, .ireturn, 1)) rfl) (Option.some.inj h) rfl rfl rfl
set_option maxRecDepth 100000 in
set_option maxHeartbeats 4000000 in
theorem ct_X2_become (l : Launch) (G : GG) (sh : Sh) (xs : List va_E) (o0 : Nat) (h0 : isP sh o0) (o1 : Nat) (h1 : isP sh o1) (M : Mm) (r : Mm) (h : f_X2_become o0 o1 M = some r) : Ct l yX2_become cX2_become 2 none rm_X2_become G [rA G o0, rA G o1] sh M xs none sh r xs 0 0 := by
  refine ct_of (by decide) (Nat.le_of_ble_eq_true rfl) ?_
  intro p e s m args below meth c hnm C
  refine k_lv [0, 1] (lv2 := [(0, rA G o0), (1, rA G o1)]) rfl ?_
  unfold f_X2_become at h
  refine k_aload_n C (pc2 := 1) (dkAt dkX2_become 0 (q := (0, .aload_n 0, 1)) rfl) rfl rfl 0 rfl ?_
  refine k_aload_n C (pc2 := 2) (dkAt dkX2_become 1 (q := (1, .aload_n 1, 1)) rfl) rfl rfl 1 rfl ?_
  refine kf_X2_9 C (pc2 := 5) (o := o1) (o2 := 0) h1 (dkAt dkX2_become 2 (q := (2, .getfield 9, 3)) rfl) rfl ?_
  refine kp_X2_9 C (pc2 := 8) (o := o0) h0 (dkAt dkX2_become 3 (q := (5, .putfield 9, 3)) rfl) rfl h (fun M1 h => ?_)
  refine k_aload_n C (pc2 := 9) (dkAt dkX2_become 4 (q := (8, .aload_n 0, 1)) rfl) rfl rfl 0 rfl ?_
  refine k_aload_n C (pc2 := 10) (dkAt dkX2_become 5 (q := (9, .aload_n 1, 1)) rfl) rfl rfl 1 rfl ?_
  refine kf_X2_15 C (pc2 := 13) (o := o1) (o2 := 0) h1 (dkAt dkX2_become 6 (q := (10, .getfield 15, 3)) rfl) rfl ?_
  refine kp_X2_15 C (pc2 := 16) (o := o0) h0 (dkAt dkX2_become 7 (q := (13, .putfield 15, 3)) rfl) rfl h (fun M2 h => ?_)
  refine k_aload_n C (pc2 := 17) (dkAt dkX2_become 8 (q := (16, .aload_n 0, 1)) rfl) rfl rfl 0 rfl ?_
  refine k_aload_n C (pc2 := 18) (dkAt dkX2_become 9 (q := (17, .aload_n 1, 1)) rfl) rfl rfl 1 rfl ?_
  refine kf_X2_18 C (pc2 := 21) (o := o1) (o2 := 0) h1 (dkAt dkX2_become 10 (q := (18, .getfield 18, 3)) rfl) rfl ?_
  refine kp_X2_18 C (pc2 := 24) (o := o0) h0 (dkAt dkX2_become 11 (q := (21, .putfield 18, 3)) rfl) rfl h (fun M3 h => ?_)
  refine k_aload_n C (pc2 := 25) (dkAt dkX2_become 12 (q := (24, .aload_n 0, 1)) rfl) rfl rfl 0 rfl ?_
  refine k_aload_n C (pc2 := 26) (dkAt dkX2_become 13 (q := (25, .aload_n 1, 1)) rfl) rfl rfl 1 rfl ?_
  refine kf_X2_21 C (pc2 := 29) (o := o1) (o2 := 0) h1 (dkAt dkX2_become 14 (q := (26, .getfield 21, 3)) rfl) rfl ?_
  refine kp_X2_21 C (pc2 := 32) (o := o0) h0 (dkAt dkX2_become 15 (q := (29, .putfield 21, 3)) rfl) rfl h (fun M4 h => ?_)
  refine k_aload_n C (pc2 := 33) (dkAt dkX2_become 16 (q := (32, .aload_n 0, 1)) rfl) rfl rfl 0 rfl ?_
  refine k_aload_n C (pc2 := 34) (dkAt dkX2_become 17 (q := (33, .aload_n 1, 1)) rfl) rfl rfl 1 rfl ?_
  refine kf_X2_24 C (pc2 := 37) (o := o1) (o2 := 0) h1 (dkAt dkX2_become 18 (q := (34, .getfield 24, 3)) rfl) rfl ?_
  refine kp_X2_24 C (pc2 := 40) (o := o0) h0 (dkAt dkX2_become 19 (q := (37, .putfield 24, 3)) rfl) rfl h (fun M5 h => ?_)
  exact k_vret C (dkAt dkX2_become 20 (q := (40, .return_, 1)) rfl) rfl (Option.some.inj h) rfl
set_option maxRecDepth 100000 in
set_option maxHeartbeats 4000000 in
theorem kl_X1_takeOver_L58 {p : Program} {l : Launch} {e : Env} {s : State} {m : MethodId} {args : Array Value} {below : List Frame} {meth : Method} {c : Code} {G : GG} {sh : Sh} {xs : List va_E} {Q : State → Prop} (C : Cx p s m c args meth G RX1 cX1_takeOver 3 none) (o0 : Nat) (h0 : isC sh o0) (o1 : Nat) (h1 : isC sh o1) (M2 : Mm) (hcont : KW p l e rm_X1_takeOver s m args below meth c G 3 Q sh xs 0 0 M2 85 [] []) : ∀ (n : Nat) (x2 : Int32) (M : Mm), f_X1_takeOver_L58 o0 o1 n x2 M = some M2 → KW p l e rm_X1_takeOver s m args below meth c G 3 Q sh xs 0 0 M 58 [(0, rA G o0), (1, rA G o1), (2, .int x2)] [] := by
  intro n
  induction n with
  | zero =>
    intro x2 M h
    cases h
  | succ n ih =>
    intro x2 M h
    unfold f_X1_takeOver_L58 at h
    refine k_iload_n C (pc2 := 59) (dkAt dkX1_takeOver 30 (q := (58, .iload_n 2, 1)) rfl) rfl rfl 2 rfl ?_
    refine k_bipush C (pc2 := 61) (dkAt dkX1_takeOver 31 (q := (59, .bipush 8, 2)) rfl) rfl (v := 8) rfl ?_
    refine k_icmp_ge C (tgt := 85) (pc2 := 64) (dkAt dkX1_takeOver 32 (q := (61, .if_icmp .ge 24, 3)) rfl) (by decide) rfl h (fun h => ?_) (fun h => ?_)
    · refine k_lv [] (lv2 := []) rfl ?_
      cases h
      exact hcont
    · refine k_aload_n C (pc2 := 65) (dkAt dkX1_takeOver 33 (q := (64, .aload_n 0, 1)) rfl) rfl rfl 0 rfl ?_
      refine kf_X1_26 C (pc2 := 68) (o := o0) (o2 := o0 + 1) h0.1 rfl (dkAt dkX1_takeOver 34 (q := (65, .getfield 26, 3)) rfl) rfl ?_
      refine k_iload_n C (pc2 := 69) (dkAt dkX1_takeOver 35 (q := (68, .iload_n 2, 1)) rfl) rfl rfl 2 rfl ?_
      refine k_aa11 C (pc2 := 70) (o := o0 + 1) (o2 := o0 + 2 + x2.toNatClampNeg) (nA := 8) h0.2.1 rfl (dkAt dkX1_takeOver 36 (q := (69, .aaload, 1)) rfl) rfl h (fun h hl8 => ?_)
      refine k_aload_n C (pc2 := 71) (dkAt dkX1_takeOver 37 (q := (70, .aload_n 1, 1)) rfl) rfl rfl 1 rfl ?_
      refine kf_X1_26 C (pc2 := 74) (o := o1) (o2 := o1 + 1) h1.1 rfl (dkAt dkX1_takeOver 38 (q := (71, .getfield 26, 3)) rfl) rfl ?_
      refine k_iload_n C (pc2 := 75) (dkAt dkX1_takeOver 39 (q := (74, .iload_n 2, 1)) rfl) rfl rfl 2 rfl ?_
      refine k_aa11 C (pc2 := 76) (o := o1 + 1) (o2 := o1 + 2 + x2.toNatClampNeg) (nA := 8) h1.2.1 rfl (dkAt dkX1_takeOver 40 (q := (75, .aaload, 1)) rfl) rfl h (fun h hl9 => ?_)
      obtain ⟨q10, e11, h⟩ := ob_inv h
      refine kc_V C (As := [rA G (o1 + 2 + x2.toNatClampNeg)]) (st2 := []) (ct_X2_become l G sh xs (o0 + 2 + x2.toNatClampNeg) (h0.2.2 _ hl8) (o1 + 2 + x2.toNatClampNeg) (h1.2.2 _ hl9) M q10 e11) (cl_X1_40 (hts_of C) ⟨Nat.le_of_ble_eq_true rfl, Nat.le_of_ble_eq_true rfl⟩ rfl rfl) (h0.2.2 _ hl8) rfl rfl rfl rfl rfl (Nat.le_of_ble_eq_true rfl) (dkAt dkX1_takeOver 41 (q := (76, .invokevirtual 40, 3)) rfl) ⟨Nat.zero_le _, Nat.zero_le _⟩ (pc2 := 79) rfl rfl ?_
      refine kb_iinc C (pc2 := 82) (dkAt dkX1_takeOver 42 (q := (79, .iinc 2 1, 3)) rfl) rfl (j := 2) rfl (v := x2 + 1) rfl (by decide) (lv2 := fun v12 => [(2, .int v12), (0, rA G o0), (1, rA G o1)]) (fun _ => rfl) h (fun v12 h => ?_)
      refine k_goto C (tgt := 58) (dkAt dkX1_takeOver 43 (q := (82, .goto (-24), 3)) rfl) (by decide) ?_
      refine k_lv [1, 2, 0] (lv2 := [(0, rA G o0), (1, rA G o1), (2, .int v12)]) rfl ?_
      exact ih v12 q10 h
set_option maxRecDepth 100000 in
set_option maxHeartbeats 4000000 in
theorem ct_X1_takeOver (l : Launch) (G : GG) (sh : Sh) (xs : List va_E) (o0 : Nat) (h0 : isC sh o0) (o1 : Nat) (h1 : isC sh o1) (M : Mm) (r : Mm) (h : f_X1_takeOver o0 o1 M = some r) : Ct l yX1_takeOver cX1_takeOver 3 none rm_X1_takeOver G [rA G o0, rA G o1] sh M xs none sh r xs 0 0 := by
  refine ct_of (by decide) (Nat.le_of_ble_eq_true rfl) ?_
  intro p e s m args below meth c hnm C
  refine k_lv [0, 1] (lv2 := [(0, rA G o0), (1, rA G o1)]) rfl ?_
  unfold f_X1_takeOver at h
  refine k_aload_n C (pc2 := 1) (dkAt dkX1_takeOver 0 (q := (0, .aload_n 0, 1)) rfl) rfl rfl 0 rfl ?_
  refine k_aload_n C (pc2 := 2) (dkAt dkX1_takeOver 1 (q := (1, .aload_n 1, 1)) rfl) rfl rfl 1 rfl ?_
  refine kf_X1_9 C (pc2 := 5) (o := o1) (o2 := 0) h1.1 (dkAt dkX1_takeOver 2 (q := (2, .getfield 9, 3)) rfl) rfl ?_
  refine kp_X1_9 C (pc2 := 8) (o := o0) h0.1 (dkAt dkX1_takeOver 3 (q := (5, .putfield 9, 3)) rfl) rfl h (fun M1 h => ?_)
  refine k_aload_n C (pc2 := 9) (dkAt dkX1_takeOver 4 (q := (8, .aload_n 0, 1)) rfl) rfl rfl 0 rfl ?_
  refine k_aload_n C (pc2 := 10) (dkAt dkX1_takeOver 5 (q := (9, .aload_n 1, 1)) rfl) rfl rfl 1 rfl ?_
  refine kf_X1_31 C (pc2 := 13) (o := o1) (o2 := 0) h1.1 (dkAt dkX1_takeOver 6 (q := (10, .getfield 31, 3)) rfl) rfl ?_
  refine kp_X1_31 C (pc2 := 16) (o := o0) h0.1 (dkAt dkX1_takeOver 7 (q := (13, .putfield 31, 3)) rfl) rfl h (fun M2 h => ?_)
  refine k_aload_n C (pc2 := 17) (dkAt dkX1_takeOver 8 (q := (16, .aload_n 0, 1)) rfl) rfl rfl 0 rfl ?_
  refine k_aload_n C (pc2 := 18) (dkAt dkX1_takeOver 9 (q := (17, .aload_n 1, 1)) rfl) rfl rfl 1 rfl ?_
  refine kf_X1_34 C (pc2 := 21) (o := o1) (o2 := 0) h1.1 (dkAt dkX1_takeOver 10 (q := (18, .getfield 34, 3)) rfl) rfl ?_
  refine kp_X1_34 C (pc2 := 24) (o := o0) h0.1 (dkAt dkX1_takeOver 11 (q := (21, .putfield 34, 3)) rfl) rfl h (fun M3 h => ?_)
  refine k_aload_n C (pc2 := 25) (dkAt dkX1_takeOver 12 (q := (24, .aload_n 0, 1)) rfl) rfl rfl 0 rfl ?_
  refine k_aload_n C (pc2 := 26) (dkAt dkX1_takeOver 13 (q := (25, .aload_n 1, 1)) rfl) rfl rfl 1 rfl ?_
  refine kf_X1_15 C (pc2 := 29) (o := o1) (o2 := 0) h1.1 (dkAt dkX1_takeOver 14 (q := (26, .getfield 15, 3)) rfl) rfl ?_
  refine kp_X1_15 C (pc2 := 32) (o := o0) h0.1 (dkAt dkX1_takeOver 15 (q := (29, .putfield 15, 3)) rfl) rfl h (fun M4 h => ?_)
  refine k_aload_n C (pc2 := 33) (dkAt dkX1_takeOver 16 (q := (32, .aload_n 0, 1)) rfl) rfl rfl 0 rfl ?_
  refine k_aload_n C (pc2 := 34) (dkAt dkX1_takeOver 17 (q := (33, .aload_n 1, 1)) rfl) rfl rfl 1 rfl ?_
  refine kf_X1_18 C (pc2 := 37) (o := o1) (o2 := 0) h1.1 (dkAt dkX1_takeOver 18 (q := (34, .getfield 18, 3)) rfl) rfl ?_
  refine kp_X1_18 C (pc2 := 40) (o := o0) h0.1 (dkAt dkX1_takeOver 19 (q := (37, .putfield 18, 3)) rfl) rfl h (fun M5 h => ?_)
  refine k_aload_n C (pc2 := 41) (dkAt dkX1_takeOver 20 (q := (40, .aload_n 0, 1)) rfl) rfl rfl 0 rfl ?_
  refine k_aload_n C (pc2 := 42) (dkAt dkX1_takeOver 21 (q := (41, .aload_n 1, 1)) rfl) rfl rfl 1 rfl ?_
  refine kf_X1_37 C (pc2 := 45) (o := o1) (o2 := 0) h1.1 (dkAt dkX1_takeOver 22 (q := (42, .getfield 37, 3)) rfl) rfl ?_
  refine kp_X1_37 C (pc2 := 48) (o := o0) h0.1 (dkAt dkX1_takeOver 23 (q := (45, .putfield 37, 3)) rfl) rfl h (fun M6 h => ?_)
  refine k_aload_n C (pc2 := 49) (dkAt dkX1_takeOver 24 (q := (48, .aload_n 0, 1)) rfl) rfl rfl 0 rfl ?_
  refine k_aload_n C (pc2 := 50) (dkAt dkX1_takeOver 25 (q := (49, .aload_n 1, 1)) rfl) rfl rfl 1 rfl ?_
  refine kf_X1_21 C (pc2 := 53) (o := o1) (o2 := 0) h1.1 (dkAt dkX1_takeOver 26 (q := (50, .getfield 21, 3)) rfl) rfl ?_
  refine kp_X1_21 C (pc2 := 56) (o := o0) h0.1 (dkAt dkX1_takeOver 27 (q := (53, .putfield 21, 3)) rfl) rfl h (fun M7 h => ?_)
  refine k_iconst C (pc2 := 57) (dkAt dkX1_takeOver 28 (q := (56, .iconst 0, 1)) rfl) rfl (v := 0) rfl ?_
  refine k_istore_n C (pc2 := 58) (dkAt dkX1_takeOver 29 (q := (57, .istore_n 2, 1)) rfl) rfl rfl (by decide) (lv2 := [(2, .int 0), (0, rA G o0), (1, rA G o1)]) rfl ?_
  refine k_lv [1, 2, 0] (lv2 := [(0, rA G o0), (1, rA G o1), (2, .int 0)]) rfl ?_
  obtain ⟨M15, e14, h⟩ := ob_inv h
  refine kl_X1_takeOver_L58 C o0 h0 o1 h1 M15 ?_ 1000 0 M7 e14
  exact k_vret C (dkAt dkX1_takeOver 44 (q := (85, .return_, 1)) rfl) rfl (Option.some.inj h) rfl
set_option maxRecDepth 100000 in
set_option maxHeartbeats 4000000 in
theorem ct_X7_within (l : Launch) (G : GG) (sh : Sh) (xs : List va_E) (x0 : Int32) (x1 : Int32) (x2 : Int32) (M : Mm) (r : Int32) (h : f_X7_within x0 x1 x2 = some r) : Ct l yX7_within cX7_within 3 (some .boolean) rm_X7_within G [.int x0, .int x1, .int x2] sh M xs (some (.int r)) sh M xs 0 0 := by
  refine ct_of (by decide) (Nat.le_of_ble_eq_true rfl) ?_
  intro p e s m args below meth c hnm C
  refine k_lv [0, 1, 2] (lv2 := [(0, .int x0), (1, .int x1), (2, .int x2)]) rfl ?_
  unfold f_X7_within at h
  refine k_iload_n C (pc2 := 1) (dkAt dkX7_within 0 (q := (0, .iload_n 0, 1)) rfl) rfl rfl 0 rfl ?_
  refine k_iload_n C (pc2 := 2) (dkAt dkX7_within 1 (q := (1, .iload_n 1, 1)) rfl) rfl rfl 1 rfl ?_
  refine k_icmp_lt C (tgt := 14) (pc2 := 5) (dkAt dkX7_within 2 (q := (2, .if_icmp .lt 12, 3)) rfl) (by decide) rfl h (fun h => ?_) (fun h => ?_)
  · refine k_iconst C (pc2 := 15) (dkAt dkX7_within 8 (q := (14, .iconst 0, 1)) rfl) rfl (v := 0) rfl ?_
    exact k_zret C (dkAt dkX7_within 9 (q := (15, .ireturn, 1)) rfl) rfl (Option.some.inj h) rfl rfl rfl
  · refine k_iload_n C (pc2 := 6) (dkAt dkX7_within 3 (q := (5, .iload_n 0, 1)) rfl) rfl rfl 0 rfl ?_
    refine k_iload_n C (pc2 := 7) (dkAt dkX7_within 4 (q := (6, .iload_n 2, 1)) rfl) rfl rfl 2 rfl ?_
    refine k_icmp_gt C (tgt := 14) (pc2 := 10) (dkAt dkX7_within 5 (q := (7, .if_icmp .gt 7, 3)) rfl) (by decide) rfl h (fun h => ?_) (fun h => ?_)
    · refine k_iconst C (pc2 := 15) (dkAt dkX7_within 8 (q := (14, .iconst 0, 1)) rfl) rfl (v := 0) rfl ?_
      exact k_zret C (dkAt dkX7_within 9 (q := (15, .ireturn, 1)) rfl) rfl (Option.some.inj h) rfl rfl rfl
    · refine k_iconst C (pc2 := 11) (dkAt dkX7_within 6 (q := (10, .iconst 1, 1)) rfl) rfl (v := 1) rfl ?_
      refine k_goto C (tgt := 15) (dkAt dkX7_within 7 (q := (11, .goto 4, 3)) rfl) (by decide) ?_
      exact k_zret C (dkAt dkX7_within 9 (q := (15, .ireturn, 1)) rfl) rfl (Option.some.inj h) rfl rfl rfl
set_option maxRecDepth 100000 in
set_option maxHeartbeats 4000000 in
theorem ct_X1_hasDay (l : Launch) (G : GG) (sh : Sh) (xs : List va_E) (o0 : Nat) (h0 : isC sh o0) (x1 : Int32) (M : Mm) (r : Int32) (h : f_X1_hasDay o0 x1 M = some r) : Ct l yX1_hasDay cX1_hasDay 2 (some .boolean) rm_X1_hasDay G [rA G o0, .int x1] sh M xs (some (.int r)) sh M xs 0 0 := by
  refine ct_of (by decide) (Nat.le_of_ble_eq_true rfl) ?_
  intro p e s m args below meth c hnm C
  refine k_lv [0, 1] (lv2 := [(0, rA G o0), (1, .int x1)]) rfl ?_
  unfold f_X1_hasDay at h
  refine k_iload_n C (pc2 := 1) (dkAt dkX1_hasDay 0 (q := (0, .iload_n 1, 1)) rfl) rfl rfl 1 rfl ?_
  refine k_iconst C (pc2 := 2) (dkAt dkX1_hasDay 1 (q := (1, .iconst 0, 1)) rfl) rfl (v := 0) rfl ?_
  refine k_aload_n C (pc2 := 3) (dkAt dkX1_hasDay 2 (q := (2, .aload_n 0, 1)) rfl) rfl rfl 0 rfl ?_
  refine kf_X1_9 C (pc2 := 6) (o := o0) (o2 := 0) h0.1 (dkAt dkX1_hasDay 3 (q := (3, .getfield 9, 3)) rfl) rfl ?_
  refine k_iconst C (pc2 := 7) (dkAt dkX1_hasDay 4 (q := (6, .iconst 1, 1)) rfl) rfl (v := 1) rfl ?_
  refine k_isub C (pc2 := 8) (dkAt dkX1_hasDay 5 (q := (7, .isub, 1)) rfl) rfl ?_
  obtain ⟨q1, e2, h⟩ := ob_inv h
  refine kc_SN C (As := [.int x1, .int 0, .int ((M.1 o0 0) - 1)]) (st2 := [.int q1]) (ct_X7_within l G sh xs x1 0 ((M.1 o0 0) - 1) M q1 e2) (cl_X1_44 (hts_of C) C.2.2.2.2.1 ⟨Nat.le_of_ble_eq_true rfl, Nat.le_of_ble_eq_true rfl⟩ rfl rfl) rfl rfl (Nat.le_of_ble_eq_true rfl) (dkAt dkX1_hasDay 6 (q := (8, .invokestatic 44, 3)) rfl) ⟨Nat.zero_le _, Nat.zero_le _⟩ (pc2 := 11) rfl rfl ?_
  obtain ⟨hb, h⟩ := chb_inv h
  exact k_zret C (dkAt dkX1_hasDay 7 (q := (11, .ireturn, 1)) rfl) hb (Option.some.inj h) rfl rfl rfl
set_option maxRecDepth 100000 in
set_option maxHeartbeats 4000000 in
theorem ct_X1_hasPerson (l : Launch) (G : GG) (sh : Sh) (xs : List va_E) (o0 : Nat) (h0 : isC sh o0) (x1 : Int32) (M : Mm) (r : Int32) (h : f_X1_hasPerson o0 x1 M = some r) : Ct l yX1_hasPerson cX1_hasPerson 2 (some .boolean) rm_X1_hasPerson G [rA G o0, .int x1] sh M xs (some (.int r)) sh M xs 0 0 := by
  refine ct_of (by decide) (Nat.le_of_ble_eq_true rfl) ?_
  intro p e s m args below meth c hnm C
  refine k_lv [0, 1] (lv2 := [(0, rA G o0), (1, .int x1)]) rfl ?_
  unfold f_X1_hasPerson at h
  refine k_iload_n C (pc2 := 1) (dkAt dkX1_hasPerson 0 (q := (0, .iload_n 1, 1)) rfl) rfl rfl 1 rfl ?_
  refine k_iconst C (pc2 := 2) (dkAt dkX1_hasPerson 1 (q := (1, .iconst 0, 1)) rfl) rfl (v := 0) rfl ?_
  refine k_aload_n C (pc2 := 3) (dkAt dkX1_hasPerson 2 (q := (2, .aload_n 0, 1)) rfl) rfl rfl 0 rfl ?_
  refine kf_X1_31 C (pc2 := 6) (o := o0) (o2 := 0) h0.1 (dkAt dkX1_hasPerson 3 (q := (3, .getfield 31, 3)) rfl) rfl ?_
  refine k_iconst C (pc2 := 7) (dkAt dkX1_hasPerson 4 (q := (6, .iconst 1, 1)) rfl) rfl (v := 1) rfl ?_
  refine k_isub C (pc2 := 8) (dkAt dkX1_hasPerson 5 (q := (7, .isub, 1)) rfl) rfl ?_
  obtain ⟨q1, e2, h⟩ := ob_inv h
  refine kc_SN C (As := [.int x1, .int 0, .int ((M.1 o0 1) - 1)]) (st2 := [.int q1]) (ct_X7_within l G sh xs x1 0 ((M.1 o0 1) - 1) M q1 e2) (cl_X1_44 (hts_of C) C.2.2.2.2.1 ⟨Nat.le_of_ble_eq_true rfl, Nat.le_of_ble_eq_true rfl⟩ rfl rfl) rfl rfl (Nat.le_of_ble_eq_true rfl) (dkAt dkX1_hasPerson 6 (q := (8, .invokestatic 44, 3)) rfl) ⟨Nat.zero_le _, Nat.zero_le _⟩ (pc2 := 11) rfl rfl ?_
  obtain ⟨hb, h⟩ := chb_inv h
  exact k_zret C (dkAt dkX1_hasPerson 7 (q := (11, .ireturn, 1)) rfl) hb (Option.some.inj h) rfl rfl rfl
set_option maxRecDepth 100000 in
set_option maxHeartbeats 4000000 in
theorem ct_X1_isFull (l : Launch) (G : GG) (sh : Sh) (xs : List va_E) (o0 : Nat) (h0 : isC sh o0) (M : Mm) (r : Int32) (h : f_X1_isFull o0 M = some r) : Ct l yX1_isFull cX1_isFull 1 (some .boolean) rm_X1_isFull G [rA G o0] sh M xs (some (.int r)) sh M xs 0 0 := by
  refine ct_of (by decide) (Nat.le_of_ble_eq_true rfl) ?_
  intro p e s m args below meth c hnm C
  refine k_lv [0] (lv2 := [(0, rA G o0)]) rfl ?_
  unfold f_X1_isFull at h
  refine k_aload_n C (pc2 := 1) (dkAt dkX1_isFull 0 (q := (0, .aload_n 0, 1)) rfl) rfl rfl 0 rfl ?_
  refine kf_X1_31 C (pc2 := 4) (o := o0) (o2 := 0) h0.1 (dkAt dkX1_isFull 1 (q := (1, .getfield 31, 3)) rfl) rfl ?_
  refine k_bipush C (pc2 := 6) (dkAt dkX1_isFull 2 (q := (4, .bipush 8, 2)) rfl) rfl (v := 8) rfl ?_
  refine k_icmp_lt C (tgt := 13) (pc2 := 9) (dkAt dkX1_isFull 3 (q := (6, .if_icmp .lt 7, 3)) rfl) (by decide) rfl h (fun h => ?_) (fun h => ?_)
  · refine k_iconst C (pc2 := 14) (dkAt dkX1_isFull 6 (q := (13, .iconst 0, 1)) rfl) rfl (v := 0) rfl ?_
    exact k_zret C (dkAt dkX1_isFull 7 (q := (14, .ireturn, 1)) rfl) rfl (Option.some.inj h) rfl rfl rfl
  · refine k_iconst C (pc2 := 10) (dkAt dkX1_isFull 4 (q := (9, .iconst 1, 1)) rfl) rfl (v := 1) rfl ?_
    refine k_goto C (tgt := 14) (dkAt dkX1_isFull 5 (q := (10, .goto 4, 3)) rfl) (by decide) ?_
    exact k_zret C (dkAt dkX1_isFull 7 (q := (14, .ireturn, 1)) rfl) rfl (Option.some.inj h) rfl rfl rfl
set_option maxRecDepth 100000 in
set_option maxHeartbeats 4000000 in
theorem ct_X1_allDays (l : Launch) (G : GG) (sh : Sh) (xs : List va_E) (o0 : Nat) (h0 : isC sh o0) (M : Mm) (r : Int32) (h : f_X1_allDays o0 M = some r) : Ct l yX1_allDays cX1_allDays 1 (some .int) rm_X1_allDays G [rA G o0] sh M xs (some (.int r)) sh M xs 0 0 := by
  refine ct_of (by decide) (Nat.le_of_ble_eq_true rfl) ?_
  intro p e s m args below meth c hnm C
  refine k_lv [0] (lv2 := [(0, rA G o0)]) rfl ?_
  unfold f_X1_allDays at h
  refine k_iconst C (pc2 := 1) (dkAt dkX1_allDays 0 (q := (0, .iconst 1, 1)) rfl) rfl (v := 1) rfl ?_
  refine k_aload_n C (pc2 := 2) (dkAt dkX1_allDays 1 (q := (1, .aload_n 0, 1)) rfl) rfl rfl 0 rfl ?_
  refine kf_X1_9 C (pc2 := 5) (o := o0) (o2 := 0) h0.1 (dkAt dkX1_allDays 2 (q := (2, .getfield 9, 3)) rfl) rfl ?_
  refine k_ishl C (pc2 := 6) (dkAt dkX1_allDays 3 (q := (5, .ishl, 1)) rfl) rfl ?_
  refine k_iconst C (pc2 := 7) (dkAt dkX1_allDays 4 (q := (6, .iconst 1, 1)) rfl) rfl (v := 1) rfl ?_
  refine k_isub C (pc2 := 8) (dkAt dkX1_allDays 5 (q := (7, .isub, 1)) rfl) rfl ?_
  exact k_iret C (dkAt dkX1_allDays 6 (q := (8, .ireturn, 1)) rfl) (Option.some.inj h) rfl rfl rfl
set_option maxRecDepth 100000 in
set_option maxHeartbeats 4000000 in
theorem kl_X1_changeDays_L7 {p : Program} {l : Launch} {e : Env} {s : State} {m : MethodId} {args : Array Value} {below : List Frame} {meth : Method} {c : Code} {G : GG} {sh : Sh} {xs : List va_E} {Q : State → Prop} (C : Cx p s m c args meth G RX1 cX1_changeDays 3 none) (o0 : Nat) (h0 : isC sh o0) (M2 : Mm) (hcont : KW p l e rm_X1_changeDays s m args below meth c G 3 Q sh xs 0 0 M2 39 [] []) : ∀ (n : Nat) (x2 : Int32) (M : Mm), f_X1_changeDays_L7 o0 n x2 M = some M2 → KW p l e rm_X1_changeDays s m args below meth c G 3 Q sh xs 0 0 M 7 [(0, rA G o0), (2, .int x2)] [] := by
  intro n
  induction n with
  | zero =>
    intro x2 M h
    cases h
  | succ n ih =>
    intro x2 M h
    unfold f_X1_changeDays_L7 at h
    refine k_iload_n C (pc2 := 8) (dkAt dkX1_changeDays 5 (q := (7, .iload_n 2, 1)) rfl) rfl rfl 1 rfl ?_
    refine k_aload_n C (pc2 := 9) (dkAt dkX1_changeDays 6 (q := (8, .aload_n 0, 1)) rfl) rfl rfl 0 rfl ?_
    refine kf_X1_31 C (pc2 := 12) (o := o0) (o2 := 0) h0.1 (dkAt dkX1_changeDays 7 (q := (9, .getfield 31, 3)) rfl) rfl ?_
    refine k_icmp_ge C (tgt := 39) (pc2 := 15) (dkAt dkX1_changeDays 8 (q := (12, .if_icmp .ge 27, 3)) rfl) (by decide) rfl h (fun h => ?_) (fun h => ?_)
    · refine k_lv [] (lv2 := []) rfl ?_
      cases h
      exact hcont
    · refine k_aload_n C (pc2 := 16) (dkAt dkX1_changeDays 9 (q := (15, .aload_n 0, 1)) rfl) rfl rfl 0 rfl ?_
      refine kf_X1_26 C (pc2 := 19) (o := o0) (o2 := o0 + 1) h0.1 rfl (dkAt dkX1_changeDays 10 (q := (16, .getfield 26, 3)) rfl) rfl ?_
      refine k_iload_n C (pc2 := 20) (dkAt dkX1_changeDays 11 (q := (19, .iload_n 2, 1)) rfl) rfl rfl 1 rfl ?_
      refine k_aa11 C (pc2 := 21) (o := o0 + 1) (o2 := o0 + 2 + x2.toNatClampNeg) (nA := 8) h0.2.1 rfl (dkAt dkX1_changeDays 12 (q := (20, .aaload, 1)) rfl) rfl h (fun h hl2 => ?_)
      refine k_dup C (pc2 := 22) (dkAt dkX1_changeDays 13 (q := (21, .dup, 1)) rfl) rfl rfl ?_
      refine kf_X1_48 C (pc2 := 25) (o := o0 + 2 + x2.toNatClampNeg) (o2 := 0) (h0.2.2 _ hl2) (dkAt dkX1_changeDays 14 (q := (22, .getfield 48, 3)) rfl) rfl ?_
      refine k_aload_n C (pc2 := 26) (dkAt dkX1_changeDays 15 (q := (25, .aload_n 0, 1)) rfl) rfl rfl 0 rfl ?_
      obtain ⟨q3, e4, h⟩ := ob_inv h
      refine kc_V C (As := []) (st2 := [.int q3, .int (M.1 (o0 + 2 + x2.toNatClampNeg) 3), rA G (o0 + 2 + x2.toNatClampNeg)]) (ct_X1_allDays l G sh xs o0 h0 M q3 e4) (cl_X1_51 (hts_of C) ⟨Nat.le_of_ble_eq_true rfl, Nat.le_of_ble_eq_true rfl⟩ rfl rfl) h0.1 rfl rfl rfl rfl rfl (Nat.le_of_ble_eq_true rfl) (dkAt dkX1_changeDays 16 (q := (26, .invokevirtual 51, 3)) rfl) ⟨Nat.zero_le _, Nat.zero_le _⟩ (pc2 := 29) rfl rfl ?_
      refine k_iand C (pc2 := 30) (dkAt dkX1_changeDays 17 (q := (29, .iand, 1)) rfl) rfl ?_
      refine kp_X1_48 C (pc2 := 33) (o := o0 + 2 + x2.toNatClampNeg) (h0.2.2 _ hl2) (dkAt dkX1_changeDays 18 (q := (30, .putfield 48, 3)) rfl) rfl h (fun M5 h => ?_)
      refine kb_iinc C (pc2 := 36) (dkAt dkX1_changeDays 19 (q := (33, .iinc 2 1, 3)) rfl) rfl (j := 1) rfl (v := x2 + 1) rfl (by decide) (lv2 := fun v6 => [(2, .int v6), (0, rA G o0)]) (fun _ => rfl) h (fun v6 h => ?_)
      refine k_goto C (tgt := 7) (dkAt dkX1_changeDays 20 (q := (36, .goto (-29), 3)) rfl) (by decide) ?_
      refine k_lv [1, 0] (lv2 := [(0, rA G o0), (2, .int v6)]) rfl ?_
      exact ih v6 M5 h
set_option maxRecDepth 100000 in
set_option maxHeartbeats 4000000 in
theorem ct_X1_changeDays (l : Launch) (G : GG) (sh : Sh) (xs : List va_E) (o0 : Nat) (h0 : isC sh o0) (x1 : Int32) (M : Mm) (r : Mm) (h : f_X1_changeDays o0 x1 M = some r) : Ct l yX1_changeDays cX1_changeDays 3 none rm_X1_changeDays G [rA G o0, .int x1] sh M xs none sh r xs 0 0 := by
  refine ct_of (by decide) (Nat.le_of_ble_eq_true rfl) ?_
  intro p e s m args below meth c hnm C
  refine k_lv [0, 1] (lv2 := [(0, rA G o0), (1, .int x1)]) rfl ?_
  unfold f_X1_changeDays at h
  refine k_aload_n C (pc2 := 1) (dkAt dkX1_changeDays 0 (q := (0, .aload_n 0, 1)) rfl) rfl rfl 0 rfl ?_
  refine k_iload_n C (pc2 := 2) (dkAt dkX1_changeDays 1 (q := (1, .iload_n 1, 1)) rfl) rfl rfl 1 rfl ?_
  refine kp_X1_9 C (pc2 := 5) (o := o0) h0.1 (dkAt dkX1_changeDays 2 (q := (2, .putfield 9, 3)) rfl) rfl h (fun M1 h => ?_)
  refine k_iconst C (pc2 := 6) (dkAt dkX1_changeDays 3 (q := (5, .iconst 0, 1)) rfl) rfl (v := 0) rfl ?_
  refine k_istore_n C (pc2 := 7) (dkAt dkX1_changeDays 4 (q := (6, .istore_n 2, 1)) rfl) rfl rfl (by decide) (lv2 := [(2, .int 0), (0, rA G o0), (1, .int x1)]) rfl ?_
  refine k_lv [1, 0] (lv2 := [(0, rA G o0), (2, .int 0)]) rfl ?_
  obtain ⟨M9, e8, h⟩ := ob_inv h
  refine kl_X1_changeDays_L7 C o0 h0 M9 ?_ 1000 0 M1 e8
  exact k_vret C (dkAt dkX1_changeDays 21 (q := (39, .return_, 1)) rfl) rfl (Option.some.inj h) rfl
set_option maxRecDepth 100000 in
set_option maxHeartbeats 4000000 in
theorem ct_X2_begin (l : Launch) (G : GG) (sh : Sh) (xs : List va_E) (o0 : Nat) (h0 : isP sh o0) (x1 : Int32) (x2 : Int32) (x3 : Int32) (M : Mm) (r : Mm) (h : f_X2_begin o0 x1 x2 x3 M = some r) : Ct l yX2_begin cX2_begin 4 none rm_X2_begin G [rA G o0, .int x1, .int x2, .int x3] sh M xs none sh r xs 0 0 := by
  refine ct_of (by decide) (Nat.le_of_ble_eq_true rfl) ?_
  intro p e s m args below meth c hnm C
  refine k_lv [0, 1, 2, 3] (lv2 := [(0, rA G o0), (1, .int x1), (2, .int x2), (3, .int x3)]) rfl ?_
  unfold f_X2_begin at h
  refine k_aload_n C (pc2 := 1) (dkAt dkX2_begin 0 (q := (0, .aload_n 0, 1)) rfl) rfl rfl 0 rfl ?_
  refine k_iload_n C (pc2 := 2) (dkAt dkX2_begin 1 (q := (1, .iload_n 1, 1)) rfl) rfl rfl 1 rfl ?_
  refine kp_X2_9 C (pc2 := 5) (o := o0) h0 (dkAt dkX2_begin 2 (q := (2, .putfield 9, 3)) rfl) rfl h (fun M1 h => ?_)
  refine k_aload_n C (pc2 := 6) (dkAt dkX2_begin 3 (q := (5, .aload_n 0, 1)) rfl) rfl rfl 0 rfl ?_
  refine k_iload_n C (pc2 := 7) (dkAt dkX2_begin 4 (q := (6, .iload_n 2, 1)) rfl) rfl rfl 2 rfl ?_
  refine kp_X2_15 C (pc2 := 10) (o := o0) h0 (dkAt dkX2_begin 5 (q := (7, .putfield 15, 3)) rfl) rfl h (fun M2 h => ?_)
  refine k_aload_n C (pc2 := 11) (dkAt dkX2_begin 6 (q := (10, .aload_n 0, 1)) rfl) rfl rfl 0 rfl ?_
  refine k_iload_n C (pc2 := 12) (dkAt dkX2_begin 7 (q := (11, .iload_n 3, 1)) rfl) rfl rfl 3 rfl ?_
  refine kp_X2_18 C (pc2 := 15) (o := o0) h0 (dkAt dkX2_begin 8 (q := (12, .putfield 18, 3)) rfl) rfl h (fun M3 h => ?_)
  refine k_aload_n C (pc2 := 16) (dkAt dkX2_begin 9 (q := (15, .aload_n 0, 1)) rfl) rfl rfl 0 rfl ?_
  refine k_iconst C (pc2 := 17) (dkAt dkX2_begin 10 (q := (16, .iconst 0, 1)) rfl) rfl (v := 0) rfl ?_
  refine kp_X2_21 C (pc2 := 20) (o := o0) h0 (dkAt dkX2_begin 11 (q := (17, .putfield 21, 3)) rfl) rfl h (fun M4 h => ?_)
  refine k_aload_n C (pc2 := 21) (dkAt dkX2_begin 12 (q := (20, .aload_n 0, 1)) rfl) rfl rfl 0 rfl ?_
  refine k_iconst C (pc2 := 22) (dkAt dkX2_begin 13 (q := (21, .iconst 0, 1)) rfl) rfl (v := 0) rfl ?_
  refine kp_X2_24 C (pc2 := 25) (o := o0) h0 (dkAt dkX2_begin 14 (q := (22, .putfield 24, 3)) rfl) rfl h (fun M5 h => ?_)
  exact k_vret C (dkAt dkX2_begin 15 (q := (25, .return_, 1)) rfl) rfl (Option.some.inj h) rfl
set_option maxRecDepth 100000 in
set_option maxHeartbeats 4000000 in
theorem ct_X1_takeIn (l : Launch) (G : GG) (sh : Sh) (xs : List va_E) (o0 : Nat) (h0 : isC sh o0) (x1 : Int32) (x2 : Int32) (x3 : Int32) (M : Mm) (r : Mm × Int32) (h : f_X1_takeIn o0 x1 x2 x3 M = some r) : Ct l yX1_takeIn cX1_takeIn 4 (some .int) rm_X1_takeIn G [rA G o0, .int x1, .int x2, .int x3] sh M xs (some (.int r.2)) sh r.1 xs 0 0 := by
  refine ct_of (by decide) (Nat.le_of_ble_eq_true rfl) ?_
  intro p e s m args below meth c hnm C
  refine k_lv [0, 1, 2, 3] (lv2 := [(0, rA G o0), (1, .int x1), (2, .int x2), (3, .int x3)]) rfl ?_
  unfold f_X1_takeIn at h
  refine k_aload_n C (pc2 := 1) (dkAt dkX1_takeIn 0 (q := (0, .aload_n 0, 1)) rfl) rfl rfl 0 rfl ?_
  obtain ⟨q1, e2, h⟩ := ob_inv h
  refine kc_V C (As := []) (st2 := [.int q1]) (ct_X1_isFull l G sh xs o0 h0 M q1 e2) (cl_X1_55 (hts_of C) ⟨Nat.le_of_ble_eq_true rfl, Nat.le_of_ble_eq_true rfl⟩ rfl rfl) h0.1 rfl rfl rfl rfl rfl (Nat.le_of_ble_eq_true rfl) (dkAt dkX1_takeIn 1 (q := (1, .invokevirtual 55, 3)) rfl) ⟨Nat.zero_le _, Nat.zero_le _⟩ (pc2 := 4) rfl rfl ?_
  refine k_if_eq C (tgt := 9) (pc2 := 7) (dkAt dkX1_takeIn 2 (q := (4, .ifCond .eq 5, 3)) rfl) (by decide) rfl h (fun h => ?_) (fun h => ?_)
  · refine k_aload_n C (pc2 := 10) (dkAt dkX1_takeIn 5 (q := (9, .aload_n 0, 1)) rfl) rfl rfl 0 rfl ?_
    refine kf_X1_26 C (pc2 := 13) (o := o0) (o2 := o0 + 1) h0.1 rfl (dkAt dkX1_takeIn 6 (q := (10, .getfield 26, 3)) rfl) rfl ?_
    refine k_aload_n C (pc2 := 14) (dkAt dkX1_takeIn 7 (q := (13, .aload_n 0, 1)) rfl) rfl rfl 0 rfl ?_
    refine kf_X1_31 C (pc2 := 17) (o := o0) (o2 := 0) h0.1 (dkAt dkX1_takeIn 8 (q := (14, .getfield 31, 3)) rfl) rfl ?_
    refine k_aa11 C (pc2 := 18) (o := o0 + 1) (o2 := o0 + 2 + (M.1 o0 1).toNatClampNeg) (nA := 8) h0.2.1 rfl (dkAt dkX1_takeIn 9 (q := (17, .aaload, 1)) rfl) rfl h (fun h hl3 => ?_)
    refine k_iload_n C (pc2 := 19) (dkAt dkX1_takeIn 10 (q := (18, .iload_n 1, 1)) rfl) rfl rfl 1 rfl ?_
    refine k_iload_n C (pc2 := 20) (dkAt dkX1_takeIn 11 (q := (19, .iload_n 2, 1)) rfl) rfl rfl 2 rfl ?_
    refine k_iload_n C (pc2 := 21) (dkAt dkX1_takeIn 12 (q := (20, .iload_n 3, 1)) rfl) rfl rfl 3 rfl ?_
    obtain ⟨q4, e5, h⟩ := ob_inv h
    refine kc_V C (As := [.int x1, .int x2, .int x3]) (st2 := []) (ct_X2_begin l G sh xs (o0 + 2 + (M.1 o0 1).toNatClampNeg) (h0.2.2 _ hl3) x1 x2 x3 M q4 e5) (cl_X1_59 (hts_of C) ⟨Nat.le_of_ble_eq_true rfl, Nat.le_of_ble_eq_true rfl⟩ rfl rfl) (h0.2.2 _ hl3) rfl rfl rfl rfl rfl (Nat.le_of_ble_eq_true rfl) (dkAt dkX1_takeIn 13 (q := (21, .invokevirtual 59, 3)) rfl) ⟨Nat.zero_le _, Nat.zero_le _⟩ (pc2 := 24) rfl rfl ?_
    refine k_aload_n C (pc2 := 25) (dkAt dkX1_takeIn 14 (q := (24, .aload_n 0, 1)) rfl) rfl rfl 0 rfl ?_
    refine k_dup C (pc2 := 26) (dkAt dkX1_takeIn 15 (q := (25, .dup, 1)) rfl) rfl rfl ?_
    refine kf_X1_31 C (pc2 := 29) (o := o0) (o2 := 0) h0.1 (dkAt dkX1_takeIn 16 (q := (26, .getfield 31, 3)) rfl) rfl ?_
    refine k_iconst C (pc2 := 30) (dkAt dkX1_takeIn 17 (q := (29, .iconst 1, 1)) rfl) rfl (v := 1) rfl ?_
    refine k_iadd C (pc2 := 31) (dkAt dkX1_takeIn 18 (q := (30, .iadd, 1)) rfl) rfl ?_
    refine kp_X1_31 C (pc2 := 34) (o := o0) h0.1 (dkAt dkX1_takeIn 19 (q := (31, .putfield 31, 3)) rfl) rfl h (fun M6 h => ?_)
    refine k_aload_n C (pc2 := 35) (dkAt dkX1_takeIn 20 (q := (34, .aload_n 0, 1)) rfl) rfl rfl 0 rfl ?_
    refine kf_X1_31 C (pc2 := 38) (o := o0) (o2 := 0) h0.1 (dkAt dkX1_takeIn 21 (q := (35, .getfield 31, 3)) rfl) rfl ?_
    refine k_iconst C (pc2 := 39) (dkAt dkX1_takeIn 22 (q := (38, .iconst 1, 1)) rfl) rfl (v := 1) rfl ?_
    refine k_isub C (pc2 := 40) (dkAt dkX1_takeIn 23 (q := (39, .isub, 1)) rfl) rfl ?_
    exact k_iret C (dkAt dkX1_takeIn 24 (q := (40, .ireturn, 1)) rfl) (pe2 (Option.some.inj h)) rfl (pe1 (Option.some.inj h)) rfl
  · refine k_iconst C (pc2 := 8) (dkAt dkX1_takeIn 3 (q := (7, .iconst (-1), 1)) rfl) rfl (v := (-1)) rfl ?_
    exact k_iret C (dkAt dkX1_takeIn 4 (q := (8, .ireturn, 1)) rfl) (pe2 (Option.some.inj h)) rfl (pe1 (Option.some.inj h)) rfl
set_option maxRecDepth 100000 in
set_option maxHeartbeats 4000000 in
theorem ct_X1_howManyOn (l : Launch) (G : GG) (sh : Sh) (xs : List va_E) (o0 : Nat) (h0 : isC sh o0) (x1 : Int32) (M : Mm) (r : Int32) (h : f_X1_howManyOn o0 x1 M = some r) : Ct l yX1_howManyOn cX1_howManyOn 2 (some .int) rm_X1_howManyOn G [rA G o0, .int x1] sh M xs (some (.int r)) sh M xs 0 0 := by
  refine ct_of (by decide) (Nat.le_of_ble_eq_true rfl) ?_
  intro p e s m args below meth c hnm C
  refine k_lv [0, 1] (lv2 := [(0, rA G o0), (1, .int x1)]) rfl ?_
  unfold f_X1_howManyOn at h
  refine k_aload_n C (pc2 := 1) (dkAt dkX1_howManyOn 0 (q := (0, .aload_n 0, 1)) rfl) rfl rfl 0 rfl ?_
  refine k_iload_n C (pc2 := 2) (dkAt dkX1_howManyOn 1 (q := (1, .iload_n 1, 1)) rfl) rfl rfl 1 rfl ?_
  obtain ⟨q1, e2, h⟩ := ob_inv h
  refine kc_V C (As := [.int x1]) (st2 := [.int q1]) (ct_X1_thereOn l G sh xs o0 h0 x1 M q1 e2) (cl_X1_67 (hts_of C) ⟨Nat.le_of_ble_eq_true rfl, Nat.le_of_ble_eq_true rfl⟩ rfl rfl) h0.1 rfl rfl rfl rfl rfl (Nat.le_of_ble_eq_true rfl) (dkAt dkX1_howManyOn 2 (q := (2, .invokevirtual 67, 3)) rfl) ⟨Nat.zero_le _, Nat.zero_le _⟩ (pc2 := 5) rfl rfl ?_
  obtain ⟨q3, e4, h⟩ := ob_inv h
  refine kc_S C (As := [.int q1]) (st2 := [.int q3]) (ct_J6_bitCount_0f7a4 l G sh xs q1 M q3 e4) (cl_X1_71 (hts_of C) ⟨Nat.le_of_ble_eq_true rfl, Nat.le_of_ble_eq_true rfl⟩ rfl rfl) rfl rfl (Nat.le_of_ble_eq_true rfl) (dkAt dkX1_howManyOn 3 (q := (5, .invokestatic 71, 3)) rfl) ⟨Nat.zero_le _, Nat.zero_le _⟩ (pc2 := 8) rfl rfl ?_
  exact k_iret C (dkAt dkX1_howManyOn 4 (q := (8, .ireturn, 1)) rfl) (Option.some.inj h) rfl rfl rfl
set_option maxRecDepth 100000 in
set_option maxHeartbeats 4000000 in
theorem kl_X1_totalOnWeekday_L4 {p : Program} {l : Launch} {e : Env} {s : State} {m : MethodId} {args : Array Value} {below : List Frame} {meth : Method} {c : Code} {G : GG} {sh : Sh} {xs : List va_E} {Q : State → Prop} (C : Cx p s m c args meth G RX1 cX1_totalOnWeekday 4 (some .int)) (o0 : Nat) (h0 : isC sh o0) (M : Mm) (y2 : Int32) (hcont : KW p l e rm_X1_totalOnWeekday s m args below meth c G 4 Q sh xs 0 0 M 26 [(2, .int y2)] []) : ∀ (n : Nat) (x2 : Int32) (x3 : Int32), f_X1_totalOnWeekday_L4 o0 M n x2 x3 = some y2 → KW p l e rm_X1_totalOnWeekday s m args below meth c G 4 Q sh xs 0 0 M 4 [(0, rA G o0), (2, .int x2), (3, .int x3)] [] := by
  intro n
  induction n with
  | zero =>
    intro x2 x3 h
    cases h
  | succ n ih =>
    intro x2 x3 h
    unfold f_X1_totalOnWeekday_L4 at h
    refine k_iload_n C (pc2 := 5) (dkAt dkX1_totalOnWeekday 4 (q := (4, .iload_n 3, 1)) rfl) rfl rfl 2 rfl ?_
    refine k_aload_n C (pc2 := 6) (dkAt dkX1_totalOnWeekday 5 (q := (5, .aload_n 0, 1)) rfl) rfl rfl 0 rfl ?_
    refine kf_X1_9 C (pc2 := 9) (o := o0) (o2 := 0) h0.1 (dkAt dkX1_totalOnWeekday 6 (q := (6, .getfield 9, 3)) rfl) rfl ?_
    refine k_icmp_ge C (tgt := 26) (pc2 := 12) (dkAt dkX1_totalOnWeekday 7 (q := (9, .if_icmp .ge 17, 3)) rfl) (by decide) rfl h (fun h => ?_) (fun h => ?_)
    · refine k_lv [1] (lv2 := [(2, .int x2)]) rfl ?_
      cases h
      exact hcont
    · refine k_iload_n C (pc2 := 13) (dkAt dkX1_totalOnWeekday 8 (q := (12, .iload_n 2, 1)) rfl) rfl rfl 1 rfl ?_
      refine k_aload_n C (pc2 := 14) (dkAt dkX1_totalOnWeekday 9 (q := (13, .aload_n 0, 1)) rfl) rfl rfl 0 rfl ?_
      refine k_iload_n C (pc2 := 15) (dkAt dkX1_totalOnWeekday 10 (q := (14, .iload_n 3, 1)) rfl) rfl rfl 2 rfl ?_
      obtain ⟨q1, e2, h⟩ := ob_inv h
      refine kc_V C (As := [.int x3]) (st2 := [.int q1, .int x2]) (ct_X1_howManyOn l G sh xs o0 h0 x3 M q1 e2) (cl_X1_76 (hts_of C) ⟨Nat.le_of_ble_eq_true rfl, Nat.le_of_ble_eq_true rfl⟩ rfl rfl) h0.1 rfl rfl rfl rfl rfl (Nat.le_of_ble_eq_true rfl) (dkAt dkX1_totalOnWeekday 11 (q := (15, .invokevirtual 76, 3)) rfl) ⟨Nat.zero_le _, Nat.zero_le _⟩ (pc2 := 18) rfl rfl ?_
      refine k_iadd C (pc2 := 19) (dkAt dkX1_totalOnWeekday 12 (q := (18, .iadd, 1)) rfl) rfl ?_
      refine kb_istore_n C (pc2 := 20) (dkAt dkX1_totalOnWeekday 13 (q := (19, .istore_n 2, 1)) rfl) rfl rfl (by decide) (lv2 := fun v3 => [(2, .int v3), (0, rA G o0), (3, .int x3)]) (fun _ => rfl) h (fun v3 h => ?_)
      refine kb_iinc C (pc2 := 23) (dkAt dkX1_totalOnWeekday 14 (q := (20, .iinc 3 7, 3)) rfl) rfl (j := 2) rfl (v := x3 + 7) rfl (by decide) (lv2 := fun v4 => [(3, .int v4), (2, .int v3), (0, rA G o0)]) (fun _ => rfl) h (fun v4 h => ?_)
      refine k_goto C (tgt := 4) (dkAt dkX1_totalOnWeekday 15 (q := (23, .goto (-19), 3)) rfl) (by decide) ?_
      refine k_lv [2, 1, 0] (lv2 := [(0, rA G o0), (2, .int v3), (3, .int v4)]) rfl ?_
      exact ih v3 v4 h
set_option maxRecDepth 100000 in
set_option maxHeartbeats 4000000 in
theorem ct_X1_totalOnWeekday (l : Launch) (G : GG) (sh : Sh) (xs : List va_E) (o0 : Nat) (h0 : isC sh o0) (x1 : Int32) (M : Mm) (r : Int32) (h : f_X1_totalOnWeekday o0 x1 M = some r) : Ct l yX1_totalOnWeekday cX1_totalOnWeekday 4 (some .int) rm_X1_totalOnWeekday G [rA G o0, .int x1] sh M xs (some (.int r)) sh M xs 0 0 := by
  refine ct_of (by decide) (Nat.le_of_ble_eq_true rfl) ?_
  intro p e s m args below meth c hnm C
  refine k_lv [0, 1] (lv2 := [(0, rA G o0), (1, .int x1)]) rfl ?_
  unfold f_X1_totalOnWeekday at h
  refine k_iconst C (pc2 := 1) (dkAt dkX1_totalOnWeekday 0 (q := (0, .iconst 0, 1)) rfl) rfl (v := 0) rfl ?_
  refine k_istore_n C (pc2 := 2) (dkAt dkX1_totalOnWeekday 1 (q := (1, .istore_n 2, 1)) rfl) rfl rfl (by decide) (lv2 := [(2, .int 0), (0, rA G o0), (1, .int x1)]) rfl ?_
  refine k_iload_n C (pc2 := 3) (dkAt dkX1_totalOnWeekday 2 (q := (2, .iload_n 1, 1)) rfl) rfl rfl 2 rfl ?_
  refine k_istore_n C (pc2 := 4) (dkAt dkX1_totalOnWeekday 3 (q := (3, .istore_n 3, 1)) rfl) rfl rfl (by decide) (lv2 := [(3, .int x1), (2, .int 0), (0, rA G o0), (1, .int x1)]) rfl ?_
  refine k_lv [2, 1, 0] (lv2 := [(0, rA G o0), (2, .int 0), (3, .int x1)]) rfl ?_
  obtain ⟨v7, e6, h⟩ := ob_inv h
  refine kl_X1_totalOnWeekday_L4 C o0 h0 M v7 ?_ 1000 0 x1 e6
  refine k_iload_n C (pc2 := 27) (dkAt dkX1_totalOnWeekday 16 (q := (26, .iload_n 2, 1)) rfl) rfl rfl 0 rfl ?_
  exact k_iret C (dkAt dkX1_totalOnWeekday 17 (q := (27, .ireturn, 1)) rfl) (Option.some.inj h) rfl rfl rfl
set_option maxRecDepth 100000 in
set_option maxHeartbeats 4000000 in
theorem kl_X1_daysWithAtLeast_L4 {p : Program} {l : Launch} {e : Env} {s : State} {m : MethodId} {args : Array Value} {below : List Frame} {meth : Method} {c : Code} {G : GG} {sh : Sh} {xs : List va_E} {Q : State → Prop} (C : Cx p s m c args meth G RX1 cX1_daysWithAtLeast 4 (some .int)) (o0 : Nat) (h0 : isC sh o0) (x1 : Int32) (M : Mm) (y2 : Int32) (hcont : KW p l e rm_X1_daysWithAtLeast s m args below meth c G 4 Q sh xs 0 0 M 33 [(2, .int y2)] []) : ∀ (n : Nat) (x2 : Int32) (x3 : Int32), f_X1_daysWithAtLeast_L4 o0 x1 M n x2 x3 = some y2 → KW p l e rm_X1_daysWithAtLeast s m args below meth c G 4 Q sh xs 0 0 M 4 [(0, rA G o0), (1, .int x1), (2, .int x2), (3, .int x3)] [] := by
  intro n
  induction n with
  | zero =>
    intro x2 x3 h
    cases h
  | succ n ih =>
    intro x2 x3 h
    unfold f_X1_daysWithAtLeast_L4 at h
    refine k_iload_n C (pc2 := 5) (dkAt dkX1_daysWithAtLeast 4 (q := (4, .iload_n 3, 1)) rfl) rfl rfl 3 rfl ?_
    refine k_aload_n C (pc2 := 6) (dkAt dkX1_daysWithAtLeast 5 (q := (5, .aload_n 0, 1)) rfl) rfl rfl 0 rfl ?_
    refine kf_X1_9 C (pc2 := 9) (o := o0) (o2 := 0) h0.1 (dkAt dkX1_daysWithAtLeast 6 (q := (6, .getfield 9, 3)) rfl) rfl ?_
    refine k_icmp_ge C (tgt := 33) (pc2 := 12) (dkAt dkX1_daysWithAtLeast 7 (q := (9, .if_icmp .ge 24, 3)) rfl) (by decide) rfl h (fun h => ?_) (fun h => ?_)
    · refine k_lv [2] (lv2 := [(2, .int x2)]) rfl ?_
      cases h
      exact hcont
    · refine k_aload_n C (pc2 := 13) (dkAt dkX1_daysWithAtLeast 8 (q := (12, .aload_n 0, 1)) rfl) rfl rfl 0 rfl ?_
      refine k_iload_n C (pc2 := 14) (dkAt dkX1_daysWithAtLeast 9 (q := (13, .iload_n 3, 1)) rfl) rfl rfl 3 rfl ?_
      obtain ⟨q1, e2, h⟩ := ob_inv h
      refine kc_V C (As := [.int x3]) (st2 := [.int q1]) (ct_X1_howManyOn l G sh xs o0 h0 x3 M q1 e2) (cl_X1_76 (hts_of C) ⟨Nat.le_of_ble_eq_true rfl, Nat.le_of_ble_eq_true rfl⟩ rfl rfl) h0.1 rfl rfl rfl rfl rfl (Nat.le_of_ble_eq_true rfl) (dkAt dkX1_daysWithAtLeast 10 (q := (14, .invokevirtual 76, 3)) rfl) ⟨Nat.zero_le _, Nat.zero_le _⟩ (pc2 := 17) rfl rfl ?_
      refine k_iload_n C (pc2 := 18) (dkAt dkX1_daysWithAtLeast 11 (q := (17, .iload_n 1, 1)) rfl) rfl rfl 1 rfl ?_
      refine k_icmp_lt C (tgt := 27) (pc2 := 21) (dkAt dkX1_daysWithAtLeast 12 (q := (18, .if_icmp .lt 9, 3)) rfl) (by decide) rfl h (fun h => ?_) (fun h => ?_)
      · refine kb_iinc C (pc2 := 30) (dkAt dkX1_daysWithAtLeast 19 (q := (27, .iinc 3 1, 3)) rfl) rfl (j := 3) rfl (v := x3 + 1) rfl (by decide) (lv2 := fun v3 => [(3, .int v3), (0, rA G o0), (1, .int x1), (2, .int x2)]) (fun _ => rfl) h (fun v3 h => ?_)
        refine k_goto C (tgt := 4) (dkAt dkX1_daysWithAtLeast 20 (q := (30, .goto (-26), 3)) rfl) (by decide) ?_
        refine k_lv [1, 2, 3, 0] (lv2 := [(0, rA G o0), (1, .int x1), (2, .int x2), (3, .int v3)]) rfl ?_
        exact ih x2 v3 h
      · refine k_iload_n C (pc2 := 22) (dkAt dkX1_daysWithAtLeast 13 (q := (21, .iload_n 2, 1)) rfl) rfl rfl 2 rfl ?_
        refine k_iconst C (pc2 := 23) (dkAt dkX1_daysWithAtLeast 14 (q := (22, .iconst 1, 1)) rfl) rfl (v := 1) rfl ?_
        refine k_iload_n C (pc2 := 24) (dkAt dkX1_daysWithAtLeast 15 (q := (23, .iload_n 3, 1)) rfl) rfl rfl 3 rfl ?_
        refine k_ishl C (pc2 := 25) (dkAt dkX1_daysWithAtLeast 16 (q := (24, .ishl, 1)) rfl) rfl ?_
        refine k_ior C (pc2 := 26) (dkAt dkX1_daysWithAtLeast 17 (q := (25, .ior, 1)) rfl) rfl ?_
        refine kb_istore_n C (pc2 := 27) (dkAt dkX1_daysWithAtLeast 18 (q := (26, .istore_n 2, 1)) rfl) rfl rfl (by decide) (lv2 := fun v4 => [(2, .int v4), (0, rA G o0), (1, .int x1), (3, .int x3)]) (fun _ => rfl) h (fun v4 h => ?_)
        refine kb_iinc C (pc2 := 30) (dkAt dkX1_daysWithAtLeast 19 (q := (27, .iinc 3 1, 3)) rfl) rfl (j := 3) rfl (v := x3 + 1) rfl (by decide) (lv2 := fun v5 => [(3, .int v5), (2, .int v4), (0, rA G o0), (1, .int x1)]) (fun _ => rfl) h (fun v5 h => ?_)
        refine k_goto C (tgt := 4) (dkAt dkX1_daysWithAtLeast 20 (q := (30, .goto (-26), 3)) rfl) (by decide) ?_
        refine k_lv [2, 3, 1, 0] (lv2 := [(0, rA G o0), (1, .int x1), (2, .int v4), (3, .int v5)]) rfl ?_
        exact ih v4 v5 h
set_option maxRecDepth 100000 in
set_option maxHeartbeats 4000000 in
theorem ct_X1_daysWithAtLeast (l : Launch) (G : GG) (sh : Sh) (xs : List va_E) (o0 : Nat) (h0 : isC sh o0) (x1 : Int32) (M : Mm) (r : Int32) (h : f_X1_daysWithAtLeast o0 x1 M = some r) : Ct l yX1_daysWithAtLeast cX1_daysWithAtLeast 4 (some .int) rm_X1_daysWithAtLeast G [rA G o0, .int x1] sh M xs (some (.int r)) sh M xs 0 0 := by
  refine ct_of (by decide) (Nat.le_of_ble_eq_true rfl) ?_
  intro p e s m args below meth c hnm C
  refine k_lv [0, 1] (lv2 := [(0, rA G o0), (1, .int x1)]) rfl ?_
  unfold f_X1_daysWithAtLeast at h
  refine k_iconst C (pc2 := 1) (dkAt dkX1_daysWithAtLeast 0 (q := (0, .iconst 0, 1)) rfl) rfl (v := 0) rfl ?_
  refine k_istore_n C (pc2 := 2) (dkAt dkX1_daysWithAtLeast 1 (q := (1, .istore_n 2, 1)) rfl) rfl rfl (by decide) (lv2 := [(2, .int 0), (0, rA G o0), (1, .int x1)]) rfl ?_
  refine k_iconst C (pc2 := 3) (dkAt dkX1_daysWithAtLeast 2 (q := (2, .iconst 0, 1)) rfl) rfl (v := 0) rfl ?_
  refine k_istore_n C (pc2 := 4) (dkAt dkX1_daysWithAtLeast 3 (q := (3, .istore_n 3, 1)) rfl) rfl rfl (by decide) (lv2 := [(3, .int 0), (2, .int 0), (0, rA G o0), (1, .int x1)]) rfl ?_
  refine k_lv [2, 3, 1, 0] (lv2 := [(0, rA G o0), (1, .int x1), (2, .int 0), (3, .int 0)]) rfl ?_
  obtain ⟨v8, e7, h⟩ := ob_inv h
  refine kl_X1_daysWithAtLeast_L4 C o0 h0 x1 M v8 ?_ 1000 0 0 e7
  refine k_iload_n C (pc2 := 34) (dkAt dkX1_daysWithAtLeast 21 (q := (33, .iload_n 2, 1)) rfl) rfl rfl 0 rfl ?_
  exact k_iret C (dkAt dkX1_daysWithAtLeast 22 (q := (34, .ireturn, 1)) rfl) (Option.some.inj h) rfl rfl rfl
set_option maxRecDepth 100000 in
set_option maxHeartbeats 4000000 in
theorem kl_X1_daysOfAllBut_L7 {p : Program} {l : Launch} {e : Env} {s : State} {m : MethodId} {args : Array Value} {below : List Frame} {meth : Method} {c : Code} {G : GG} {sh : Sh} {xs : List va_E} {Q : State → Prop} (C : Cx p s m c args meth G RX1 cX1_daysOfAllBut 4 (some .int)) (o0 : Nat) (h0 : isC sh o0) (x1 : Int32) (M : Mm) (y2 : Int32) (hcont : KW p l e rm_X1_daysOfAllBut s m args below meth c G 4 Q sh xs 0 0 M 38 [(2, .int y2)] []) : ∀ (n : Nat) (x2 : Int32) (x3 : Int32), f_X1_daysOfAllBut_L7 o0 x1 M n x2 x3 = some y2 → KW p l e rm_X1_daysOfAllBut s m args below meth c G 4 Q sh xs 0 0 M 7 [(0, rA G o0), (1, .int x1), (2, .int x2), (3, .int x3)] [] := by
  intro n
  induction n with
  | zero =>
    intro x2 x3 h
    cases h
  | succ n ih =>
    intro x2 x3 h
    unfold f_X1_daysOfAllBut_L7 at h
    refine k_iload_n C (pc2 := 8) (dkAt dkX1_daysOfAllBut 5 (q := (7, .iload_n 3, 1)) rfl) rfl rfl 3 rfl ?_
    refine k_aload_n C (pc2 := 9) (dkAt dkX1_daysOfAllBut 6 (q := (8, .aload_n 0, 1)) rfl) rfl rfl 0 rfl ?_
    refine kf_X1_31 C (pc2 := 12) (o := o0) (o2 := 0) h0.1 (dkAt dkX1_daysOfAllBut 7 (q := (9, .getfield 31, 3)) rfl) rfl ?_
    refine k_icmp_ge C (tgt := 38) (pc2 := 15) (dkAt dkX1_daysOfAllBut 8 (q := (12, .if_icmp .ge 26, 3)) rfl) (by decide) rfl h (fun h => ?_) (fun h => ?_)
    · refine k_lv [2] (lv2 := [(2, .int x2)]) rfl ?_
      cases h
      exact hcont
    · refine k_iload_n C (pc2 := 16) (dkAt dkX1_daysOfAllBut 9 (q := (15, .iload_n 3, 1)) rfl) rfl rfl 3 rfl ?_
      refine k_iload_n C (pc2 := 17) (dkAt dkX1_daysOfAllBut 10 (q := (16, .iload_n 1, 1)) rfl) rfl rfl 1 rfl ?_
      refine k_icmp_eq C (tgt := 32) (pc2 := 20) (dkAt dkX1_daysOfAllBut 11 (q := (17, .if_icmp .eq 15, 3)) rfl) (by decide) rfl h (fun h => ?_) (fun h => ?_)
      · refine kb_iinc C (pc2 := 35) (dkAt dkX1_daysOfAllBut 20 (q := (32, .iinc 3 1, 3)) rfl) rfl (j := 3) rfl (v := x3 + 1) rfl (by decide) (lv2 := fun v3 => [(3, .int v3), (0, rA G o0), (1, .int x1), (2, .int x2)]) (fun _ => rfl) h (fun v3 h => ?_)
        refine k_goto C (tgt := 7) (dkAt dkX1_daysOfAllBut 21 (q := (35, .goto (-28), 3)) rfl) (by decide) ?_
        refine k_lv [1, 2, 3, 0] (lv2 := [(0, rA G o0), (1, .int x1), (2, .int x2), (3, .int v3)]) rfl ?_
        exact ih x2 v3 h
      · refine k_iload_n C (pc2 := 21) (dkAt dkX1_daysOfAllBut 12 (q := (20, .iload_n 2, 1)) rfl) rfl rfl 2 rfl ?_
        refine k_aload_n C (pc2 := 22) (dkAt dkX1_daysOfAllBut 13 (q := (21, .aload_n 0, 1)) rfl) rfl rfl 0 rfl ?_
        refine kf_X1_26 C (pc2 := 25) (o := o0) (o2 := o0 + 1) h0.1 rfl (dkAt dkX1_daysOfAllBut 14 (q := (22, .getfield 26, 3)) rfl) rfl ?_
        refine k_iload_n C (pc2 := 26) (dkAt dkX1_daysOfAllBut 15 (q := (25, .iload_n 3, 1)) rfl) rfl rfl 3 rfl ?_
        refine k_aa11 C (pc2 := 27) (o := o0 + 1) (o2 := o0 + 2 + x3.toNatClampNeg) (nA := 8) h0.2.1 rfl (dkAt dkX1_daysOfAllBut 16 (q := (26, .aaload, 1)) rfl) rfl h (fun h hl4 => ?_)
        refine kf_X1_48 C (pc2 := 30) (o := o0 + 2 + x3.toNatClampNeg) (o2 := 0) (h0.2.2 _ hl4) (dkAt dkX1_daysOfAllBut 17 (q := (27, .getfield 48, 3)) rfl) rfl ?_
        refine k_iand C (pc2 := 31) (dkAt dkX1_daysOfAllBut 18 (q := (30, .iand, 1)) rfl) rfl ?_
        refine kb_istore_n C (pc2 := 32) (dkAt dkX1_daysOfAllBut 19 (q := (31, .istore_n 2, 1)) rfl) rfl rfl (by decide) (lv2 := fun v5 => [(2, .int v5), (0, rA G o0), (1, .int x1), (3, .int x3)]) (fun _ => rfl) h (fun v5 h => ?_)
        refine kb_iinc C (pc2 := 35) (dkAt dkX1_daysOfAllBut 20 (q := (32, .iinc 3 1, 3)) rfl) rfl (j := 3) rfl (v := x3 + 1) rfl (by decide) (lv2 := fun v6 => [(3, .int v6), (2, .int v5), (0, rA G o0), (1, .int x1)]) (fun _ => rfl) h (fun v6 h => ?_)
        refine k_goto C (tgt := 7) (dkAt dkX1_daysOfAllBut 21 (q := (35, .goto (-28), 3)) rfl) (by decide) ?_
        refine k_lv [2, 3, 1, 0] (lv2 := [(0, rA G o0), (1, .int x1), (2, .int v5), (3, .int v6)]) rfl ?_
        exact ih v5 v6 h
set_option maxRecDepth 100000 in
set_option maxHeartbeats 4000000 in
theorem ct_X1_daysOfAllBut (l : Launch) (G : GG) (sh : Sh) (xs : List va_E) (o0 : Nat) (h0 : isC sh o0) (x1 : Int32) (M : Mm) (r : Int32) (h : f_X1_daysOfAllBut o0 x1 M = some r) : Ct l yX1_daysOfAllBut cX1_daysOfAllBut 4 (some .int) rm_X1_daysOfAllBut G [rA G o0, .int x1] sh M xs (some (.int r)) sh M xs 0 0 := by
  refine ct_of (by decide) (Nat.le_of_ble_eq_true rfl) ?_
  intro p e s m args below meth c hnm C
  refine k_lv [0, 1] (lv2 := [(0, rA G o0), (1, .int x1)]) rfl ?_
  unfold f_X1_daysOfAllBut at h
  refine k_aload_n C (pc2 := 1) (dkAt dkX1_daysOfAllBut 0 (q := (0, .aload_n 0, 1)) rfl) rfl rfl 0 rfl ?_
  obtain ⟨q1, e2, h⟩ := ob_inv h
  refine kc_V C (As := []) (st2 := [.int q1]) (ct_X1_allDays l G sh xs o0 h0 M q1 e2) (cl_X1_51 (hts_of C) ⟨Nat.le_of_ble_eq_true rfl, Nat.le_of_ble_eq_true rfl⟩ rfl rfl) h0.1 rfl rfl rfl rfl rfl (Nat.le_of_ble_eq_true rfl) (dkAt dkX1_daysOfAllBut 1 (q := (1, .invokevirtual 51, 3)) rfl) ⟨Nat.zero_le _, Nat.zero_le _⟩ (pc2 := 4) rfl rfl ?_
  refine k_istore_n C (pc2 := 5) (dkAt dkX1_daysOfAllBut 2 (q := (4, .istore_n 2, 1)) rfl) rfl rfl (by decide) (lv2 := [(2, .int q1), (0, rA G o0), (1, .int x1)]) rfl ?_
  refine k_iconst C (pc2 := 6) (dkAt dkX1_daysOfAllBut 3 (q := (5, .iconst 0, 1)) rfl) rfl (v := 0) rfl ?_
  refine k_istore_n C (pc2 := 7) (dkAt dkX1_daysOfAllBut 4 (q := (6, .istore_n 3, 1)) rfl) rfl rfl (by decide) (lv2 := [(3, .int 0), (2, .int q1), (0, rA G o0), (1, .int x1)]) rfl ?_
  refine k_lv [2, 3, 1, 0] (lv2 := [(0, rA G o0), (1, .int x1), (2, .int q1), (3, .int 0)]) rfl ?_
  obtain ⟨v9, e8, h⟩ := ob_inv h
  refine kl_X1_daysOfAllBut_L7 C o0 h0 x1 M v9 ?_ 1000 q1 0 e8
  refine k_iload_n C (pc2 := 39) (dkAt dkX1_daysOfAllBut 22 (q := (38, .iload_n 2, 1)) rfl) rfl rfl 0 rfl ?_
  exact k_iret C (dkAt dkX1_daysOfAllBut 23 (q := (39, .ireturn, 1)) rfl) (Option.some.inj h) rfl rfl rfl
set_option maxRecDepth 100000 in
set_option maxHeartbeats 4000000 in
theorem kl_X1_howManyShare_L4 {p : Program} {l : Launch} {e : Env} {s : State} {m : MethodId} {args : Array Value} {below : List Frame} {meth : Method} {c : Code} {G : GG} {sh : Sh} {xs : List va_E} {Q : State → Prop} (C : Cx p s m c args meth G RX1 cX1_howManyShare 4 (some .int)) (o0 : Nat) (h0 : isC sh o0) (x1 : Int32) (M : Mm) (y2 : Int32) (hcont : KW p l e rm_X1_howManyShare s m args below meth c G 4 Q sh xs 0 0 M 48 [(2, .int y2)] []) : ∀ (n : Nat) (x2 : Int32) (x3 : Int32), f_X1_howManyShare_L4 o0 x1 M n x2 x3 = some y2 → KW p l e rm_X1_howManyShare s m args below meth c G 4 Q sh xs 0 0 M 4 [(0, rA G o0), (1, .int x1), (2, .int x2), (3, .int x3)] [] := by
  intro n
  induction n with
  | zero =>
    intro x2 x3 h
    cases h
  | succ n ih =>
    intro x2 x3 h
    unfold f_X1_howManyShare_L4 at h
    refine k_iload_n C (pc2 := 5) (dkAt dkX1_howManyShare 4 (q := (4, .iload_n 3, 1)) rfl) rfl rfl 3 rfl ?_
    refine k_aload_n C (pc2 := 6) (dkAt dkX1_howManyShare 5 (q := (5, .aload_n 0, 1)) rfl) rfl rfl 0 rfl ?_
    refine kf_X1_31 C (pc2 := 9) (o := o0) (o2 := 0) h0.1 (dkAt dkX1_howManyShare 6 (q := (6, .getfield 31, 3)) rfl) rfl ?_
    refine k_icmp_ge C (tgt := 48) (pc2 := 12) (dkAt dkX1_howManyShare 7 (q := (9, .if_icmp .ge 39, 3)) rfl) (by decide) rfl h (fun h => ?_) (fun h => ?_)
    · refine k_lv [2] (lv2 := [(2, .int x2)]) rfl ?_
      cases h
      exact hcont
    · refine k_iload_n C (pc2 := 13) (dkAt dkX1_howManyShare 8 (q := (12, .iload_n 3, 1)) rfl) rfl rfl 3 rfl ?_
      refine k_iload_n C (pc2 := 14) (dkAt dkX1_howManyShare 9 (q := (13, .iload_n 1, 1)) rfl) rfl rfl 1 rfl ?_
      refine k_icmp_eq C (tgt := 42) (pc2 := 17) (dkAt dkX1_howManyShare 10 (q := (14, .if_icmp .eq 28, 3)) rfl) (by decide) rfl h (fun h => ?_) (fun h => ?_)
      · refine kb_iinc C (pc2 := 45) (dkAt dkX1_howManyShare 24 (q := (42, .iinc 3 1, 3)) rfl) rfl (j := 3) rfl (v := x3 + 1) rfl (by decide) (lv2 := fun v1 => [(3, .int v1), (0, rA G o0), (1, .int x1), (2, .int x2)]) (fun _ => rfl) h (fun v1 h => ?_)
        refine k_goto C (tgt := 4) (dkAt dkX1_howManyShare 25 (q := (45, .goto (-41), 3)) rfl) (by decide) ?_
        refine k_lv [1, 2, 3, 0] (lv2 := [(0, rA G o0), (1, .int x1), (2, .int x2), (3, .int v1)]) rfl ?_
        exact ih x2 v1 h
      · refine k_aload_n C (pc2 := 18) (dkAt dkX1_howManyShare 11 (q := (17, .aload_n 0, 1)) rfl) rfl rfl 0 rfl ?_
        refine kf_X1_26 C (pc2 := 21) (o := o0) (o2 := o0 + 1) h0.1 rfl (dkAt dkX1_howManyShare 12 (q := (18, .getfield 26, 3)) rfl) rfl ?_
        refine k_iload_n C (pc2 := 22) (dkAt dkX1_howManyShare 13 (q := (21, .iload_n 3, 1)) rfl) rfl rfl 3 rfl ?_
        refine k_aa11 C (pc2 := 23) (o := o0 + 1) (o2 := o0 + 2 + x3.toNatClampNeg) (nA := 8) h0.2.1 rfl (dkAt dkX1_howManyShare 14 (q := (22, .aaload, 1)) rfl) rfl h (fun h hl2 => ?_)
        refine kf_X1_48 C (pc2 := 26) (o := o0 + 2 + x3.toNatClampNeg) (o2 := 0) (h0.2.2 _ hl2) (dkAt dkX1_howManyShare 15 (q := (23, .getfield 48, 3)) rfl) rfl ?_
        refine k_aload_n C (pc2 := 27) (dkAt dkX1_howManyShare 16 (q := (26, .aload_n 0, 1)) rfl) rfl rfl 0 rfl ?_
        refine kf_X1_26 C (pc2 := 30) (o := o0) (o2 := o0 + 1) h0.1 rfl (dkAt dkX1_howManyShare 17 (q := (27, .getfield 26, 3)) rfl) rfl ?_
        refine k_iload_n C (pc2 := 31) (dkAt dkX1_howManyShare 18 (q := (30, .iload_n 1, 1)) rfl) rfl rfl 1 rfl ?_
        refine k_aa11 C (pc2 := 32) (o := o0 + 1) (o2 := o0 + 2 + x1.toNatClampNeg) (nA := 8) h0.2.1 rfl (dkAt dkX1_howManyShare 19 (q := (31, .aaload, 1)) rfl) rfl h (fun h hl3 => ?_)
        refine kf_X1_48 C (pc2 := 35) (o := o0 + 2 + x1.toNatClampNeg) (o2 := 0) (h0.2.2 _ hl3) (dkAt dkX1_howManyShare 20 (q := (32, .getfield 48, 3)) rfl) rfl ?_
        refine k_iand C (pc2 := 36) (dkAt dkX1_howManyShare 21 (q := (35, .iand, 1)) rfl) rfl ?_
        refine k_if_eq C (tgt := 42) (pc2 := 39) (dkAt dkX1_howManyShare 22 (q := (36, .ifCond .eq 6, 3)) rfl) (by decide) rfl h (fun h => ?_) (fun h => ?_)
        · refine kb_iinc C (pc2 := 45) (dkAt dkX1_howManyShare 24 (q := (42, .iinc 3 1, 3)) rfl) rfl (j := 3) rfl (v := x3 + 1) rfl (by decide) (lv2 := fun v4 => [(3, .int v4), (0, rA G o0), (1, .int x1), (2, .int x2)]) (fun _ => rfl) h (fun v4 h => ?_)
          refine k_goto C (tgt := 4) (dkAt dkX1_howManyShare 25 (q := (45, .goto (-41), 3)) rfl) (by decide) ?_
          refine k_lv [1, 2, 3, 0] (lv2 := [(0, rA G o0), (1, .int x1), (2, .int x2), (3, .int v4)]) rfl ?_
          exact ih x2 v4 h
        · refine kb_iinc C (pc2 := 42) (dkAt dkX1_howManyShare 23 (q := (39, .iinc 2 1, 3)) rfl) rfl (j := 2) rfl (v := x2 + 1) rfl (by decide) (lv2 := fun v5 => [(2, .int v5), (0, rA G o0), (1, .int x1), (3, .int x3)]) (fun _ => rfl) h (fun v5 h => ?_)
          refine kb_iinc C (pc2 := 45) (dkAt dkX1_howManyShare 24 (q := (42, .iinc 3 1, 3)) rfl) rfl (j := 3) rfl (v := x3 + 1) rfl (by decide) (lv2 := fun v6 => [(3, .int v6), (2, .int v5), (0, rA G o0), (1, .int x1)]) (fun _ => rfl) h (fun v6 h => ?_)
          refine k_goto C (tgt := 4) (dkAt dkX1_howManyShare 25 (q := (45, .goto (-41), 3)) rfl) (by decide) ?_
          refine k_lv [2, 3, 1, 0] (lv2 := [(0, rA G o0), (1, .int x1), (2, .int v5), (3, .int v6)]) rfl ?_
          exact ih v5 v6 h
set_option maxRecDepth 100000 in
set_option maxHeartbeats 4000000 in
theorem ct_X1_howManyShare (l : Launch) (G : GG) (sh : Sh) (xs : List va_E) (o0 : Nat) (h0 : isC sh o0) (x1 : Int32) (M : Mm) (r : Int32) (h : f_X1_howManyShare o0 x1 M = some r) : Ct l yX1_howManyShare cX1_howManyShare 4 (some .int) rm_X1_howManyShare G [rA G o0, .int x1] sh M xs (some (.int r)) sh M xs 0 0 := by
  refine ct_of (by decide) (Nat.le_of_ble_eq_true rfl) ?_
  intro p e s m args below meth c hnm C
  refine k_lv [0, 1] (lv2 := [(0, rA G o0), (1, .int x1)]) rfl ?_
  unfold f_X1_howManyShare at h
  refine k_iconst C (pc2 := 1) (dkAt dkX1_howManyShare 0 (q := (0, .iconst 0, 1)) rfl) rfl (v := 0) rfl ?_
  refine k_istore_n C (pc2 := 2) (dkAt dkX1_howManyShare 1 (q := (1, .istore_n 2, 1)) rfl) rfl rfl (by decide) (lv2 := [(2, .int 0), (0, rA G o0), (1, .int x1)]) rfl ?_
  refine k_iconst C (pc2 := 3) (dkAt dkX1_howManyShare 2 (q := (2, .iconst 0, 1)) rfl) rfl (v := 0) rfl ?_
  refine k_istore_n C (pc2 := 4) (dkAt dkX1_howManyShare 3 (q := (3, .istore_n 3, 1)) rfl) rfl rfl (by decide) (lv2 := [(3, .int 0), (2, .int 0), (0, rA G o0), (1, .int x1)]) rfl ?_
  refine k_lv [2, 3, 1, 0] (lv2 := [(0, rA G o0), (1, .int x1), (2, .int 0), (3, .int 0)]) rfl ?_
  obtain ⟨v9, e8, h⟩ := ob_inv h
  refine kl_X1_howManyShare_L4 C o0 h0 x1 M v9 ?_ 1000 0 0 e8
  refine k_iload_n C (pc2 := 49) (dkAt dkX1_howManyShare 26 (q := (48, .iload_n 2, 1)) rfl) rfl rfl 0 rfl ?_
  exact k_iret C (dkAt dkX1_howManyShare 27 (q := (49, .ireturn, 1)) rfl) (Option.some.inj h) rfl rfl rfl
set_option maxRecDepth 100000 in
set_option maxHeartbeats 4000000 in
theorem kl_X1_outTogether_L4 {p : Program} {l : Launch} {e : Env} {s : State} {m : MethodId} {args : Array Value} {below : List Frame} {meth : Method} {c : Code} {G : GG} {sh : Sh} {xs : List va_E} {Q : State → Prop} (C : Cx p s m c args meth G RX1 cX1_outTogether 3 (some .int)) (o0 : Nat) (h0 : isC sh o0) (M : Mm) (y1 : Int32) (hcont : KW p l e rm_X1_outTogether s m args below meth c G 3 Q sh xs 0 0 M 30 [(1, .int y1)] []) : ∀ (n : Nat) (x1 : Int32) (x2 : Int32), f_X1_outTogether_L4 o0 M n x1 x2 = some y1 → KW p l e rm_X1_outTogether s m args below meth c G 3 Q sh xs 0 0 M 4 [(0, rA G o0), (1, .int x1), (2, .int x2)] [] := by
  intro n
  induction n with
  | zero =>
    intro x1 x2 h
    cases h
  | succ n ih =>
    intro x1 x2 h
    unfold f_X1_outTogether_L4 at h
    refine k_iload_n C (pc2 := 5) (dkAt dkX1_outTogether 4 (q := (4, .iload_n 2, 1)) rfl) rfl rfl 2 rfl ?_
    refine k_aload_n C (pc2 := 6) (dkAt dkX1_outTogether 5 (q := (5, .aload_n 0, 1)) rfl) rfl rfl 0 rfl ?_
    refine kf_X1_31 C (pc2 := 9) (o := o0) (o2 := 0) h0.1 (dkAt dkX1_outTogether 6 (q := (6, .getfield 31, 3)) rfl) rfl ?_
    refine k_icmp_ge C (tgt := 30) (pc2 := 12) (dkAt dkX1_outTogether 7 (q := (9, .if_icmp .ge 21, 3)) rfl) (by decide) rfl h (fun h => ?_) (fun h => ?_)
    · refine k_lv [1] (lv2 := [(1, .int x1)]) rfl ?_
      cases h
      exact hcont
    · refine k_iload_n C (pc2 := 13) (dkAt dkX1_outTogether 8 (q := (12, .iload_n 1, 1)) rfl) rfl rfl 1 rfl ?_
      refine k_aload_n C (pc2 := 14) (dkAt dkX1_outTogether 9 (q := (13, .aload_n 0, 1)) rfl) rfl rfl 0 rfl ?_
      refine kf_X1_26 C (pc2 := 17) (o := o0) (o2 := o0 + 1) h0.1 rfl (dkAt dkX1_outTogether 10 (q := (14, .getfield 26, 3)) rfl) rfl ?_
      refine k_iload_n C (pc2 := 18) (dkAt dkX1_outTogether 11 (q := (17, .iload_n 2, 1)) rfl) rfl rfl 2 rfl ?_
      refine k_aa11 C (pc2 := 19) (o := o0 + 1) (o2 := o0 + 2 + x2.toNatClampNeg) (nA := 8) h0.2.1 rfl (dkAt dkX1_outTogether 12 (q := (18, .aaload, 1)) rfl) rfl h (fun h hl1 => ?_)
      refine kf_X1_79 C (pc2 := 22) (o := o0 + 2 + x2.toNatClampNeg) (o2 := 0) (h0.2.2 _ hl1) (dkAt dkX1_outTogether 13 (q := (19, .getfield 79, 3)) rfl) rfl ?_
      refine k_iadd C (pc2 := 23) (dkAt dkX1_outTogether 14 (q := (22, .iadd, 1)) rfl) rfl ?_
      refine kb_istore_n C (pc2 := 24) (dkAt dkX1_outTogether 15 (q := (23, .istore_n 1, 1)) rfl) rfl rfl (by decide) (lv2 := fun v2 => [(1, .int v2), (0, rA G o0), (2, .int x2)]) (fun _ => rfl) h (fun v2 h => ?_)
      refine kb_iinc C (pc2 := 27) (dkAt dkX1_outTogether 16 (q := (24, .iinc 2 1, 3)) rfl) rfl (j := 2) rfl (v := x2 + 1) rfl (by decide) (lv2 := fun v3 => [(2, .int v3), (1, .int v2), (0, rA G o0)]) (fun _ => rfl) h (fun v3 h => ?_)
      refine k_goto C (tgt := 4) (dkAt dkX1_outTogether 17 (q := (27, .goto (-23), 3)) rfl) (by decide) ?_
      refine k_lv [2, 1, 0] (lv2 := [(0, rA G o0), (1, .int v2), (2, .int v3)]) rfl ?_
      exact ih v2 v3 h
set_option maxRecDepth 100000 in
set_option maxHeartbeats 4000000 in
theorem ct_X1_outTogether (l : Launch) (G : GG) (sh : Sh) (xs : List va_E) (o0 : Nat) (h0 : isC sh o0) (M : Mm) (r : Int32) (h : f_X1_outTogether o0 M = some r) : Ct l yX1_outTogether cX1_outTogether 3 (some .int) rm_X1_outTogether G [rA G o0] sh M xs (some (.int r)) sh M xs 0 0 := by
  refine ct_of (by decide) (Nat.le_of_ble_eq_true rfl) ?_
  intro p e s m args below meth c hnm C
  refine k_lv [0] (lv2 := [(0, rA G o0)]) rfl ?_
  unfold f_X1_outTogether at h
  refine k_iconst C (pc2 := 1) (dkAt dkX1_outTogether 0 (q := (0, .iconst 0, 1)) rfl) rfl (v := 0) rfl ?_
  refine k_istore_n C (pc2 := 2) (dkAt dkX1_outTogether 1 (q := (1, .istore_n 1, 1)) rfl) rfl rfl (by decide) (lv2 := [(1, .int 0), (0, rA G o0)]) rfl ?_
  refine k_iconst C (pc2 := 3) (dkAt dkX1_outTogether 2 (q := (2, .iconst 0, 1)) rfl) rfl (v := 0) rfl ?_
  refine k_istore_n C (pc2 := 4) (dkAt dkX1_outTogether 3 (q := (3, .istore_n 2, 1)) rfl) rfl rfl (by decide) (lv2 := [(2, .int 0), (1, .int 0), (0, rA G o0)]) rfl ?_
  refine k_lv [2, 1, 0] (lv2 := [(0, rA G o0), (1, .int 0), (2, .int 0)]) rfl ?_
  obtain ⟨v6, e5, h⟩ := ob_inv h
  refine kl_X1_outTogether_L4 C o0 h0 M v6 ?_ 1000 0 0 e5
  refine k_iload_n C (pc2 := 31) (dkAt dkX1_outTogether 18 (q := (30, .iload_n 1, 1)) rfl) rfl rfl 0 rfl ?_
  exact k_iret C (dkAt dkX1_outTogether 19 (q := (31, .ireturn, 1)) rfl) (Option.some.inj h) rfl rfl rfl
set_option maxRecDepth 100000 in
set_option maxHeartbeats 4000000 in
theorem ct_X1_oddsToday (l : Launch) (G : GG) (sh : Sh) (xs : List va_E) (o0 : Nat) (h0 : isC sh o0) (x1 : Int32) (M : Mm) (r : Int32) (h : f_X1_oddsToday o0 x1 M = some r) : Ct l yX1_oddsToday cX1_oddsToday 2 (some .int) rm_X1_oddsToday G [rA G o0, .int x1] sh M xs (some (.int r)) sh M xs 0 0 := by
  refine ct_of (by decide) (Nat.le_of_ble_eq_true rfl) ?_
  intro p e s m args below meth c hnm C
  refine k_lv [0, 1] (lv2 := [(0, rA G o0), (1, .int x1)]) rfl ?_
  unfold f_X1_oddsToday at h
  refine k_aload_n C (pc2 := 1) (dkAt dkX1_oddsToday 0 (q := (0, .aload_n 0, 1)) rfl) rfl rfl 0 rfl ?_
  refine k_iload_n C (pc2 := 2) (dkAt dkX1_oddsToday 1 (q := (1, .iload_n 1, 1)) rfl) rfl rfl 1 rfl ?_
  obtain ⟨q1, e2, h⟩ := ob_inv h
  refine kc_V C (As := [.int x1]) (st2 := [.int q1]) (ct_X1_howManyOn l G sh xs o0 h0 x1 M q1 e2) (cl_X1_76 (hts_of C) ⟨Nat.le_of_ble_eq_true rfl, Nat.le_of_ble_eq_true rfl⟩ rfl rfl) h0.1 rfl rfl rfl rfl rfl (Nat.le_of_ble_eq_true rfl) (dkAt dkX1_oddsToday 2 (q := (2, .invokevirtual 76, 3)) rfl) ⟨Nat.zero_le _, Nat.zero_le _⟩ (pc2 := 5) rfl rfl ?_
  refine k_aload_n C (pc2 := 6) (dkAt dkX1_oddsToday 3 (q := (5, .aload_n 0, 1)) rfl) rfl rfl 0 rfl ?_
  refine kf_X1_31 C (pc2 := 9) (o := o0) (o2 := 0) h0.1 (dkAt dkX1_oddsToday 4 (q := (6, .getfield 31, 3)) rfl) rfl ?_
  refine k_icmp_ne C (tgt := 17) (pc2 := 12) (dkAt dkX1_oddsToday 5 (q := (9, .if_icmp .ne 8, 3)) rfl) (by decide) rfl h (fun h => ?_) (fun h => ?_)
  · refine k_iconst C (pc2 := 18) (dkAt dkX1_oddsToday 8 (q := (17, .iconst 0, 1)) rfl) rfl (v := 0) rfl ?_
    exact k_iret C (dkAt dkX1_oddsToday 9 (q := (18, .ireturn, 1)) rfl) (Option.some.inj h) rfl rfl rfl
  · refine k_ldc C (pc2 := 14) (dkAt dkX1_oddsToday 6 (q := (12, .ldc 82, 2)) rfl) rfl (v := 1000000) tK_X1_82 ?_
    refine k_goto C (tgt := 18) (dkAt dkX1_oddsToday 7 (q := (14, .goto 4, 3)) rfl) (by decide) ?_
    exact k_iret C (dkAt dkX1_oddsToday 9 (q := (18, .ireturn, 1)) rfl) (Option.some.inj h) rfl rfl rfl
set_option maxRecDepth 100000 in
set_option maxHeartbeats 4000000 in
theorem ct_X7_twelfths (l : Launch) (G : GG) (sh : Sh) (xs : List va_E) (x0 : Int32) (x1 : Int32) (M : Mm) (r : Int32) (h : f_X7_twelfths x0 x1 = some r) : Ct l yX7_twelfths cX7_twelfths 2 (some .int) rm_X7_twelfths G [.int x0, .int x1] sh M xs (some (.int r)) sh M xs 0 0 := by
  refine ct_of (by decide) (Nat.le_of_ble_eq_true rfl) ?_
  intro p e s m args below meth c hnm C
  refine k_lv [0, 1] (lv2 := [(0, .int x0), (1, .int x1)]) rfl ?_
  unfold f_X7_twelfths at h
  refine k_iload_n C (pc2 := 1) (dkAt dkX7_twelfths 0 (q := (0, .iload_n 0, 1)) rfl) rfl rfl 0 rfl ?_
  refine k_iload_n C (pc2 := 2) (dkAt dkX7_twelfths 1 (q := (1, .iload_n 1, 1)) rfl) rfl rfl 1 rfl ?_
  refine k_imul C (pc2 := 3) (dkAt dkX7_twelfths 2 (q := (2, .imul, 1)) rfl) rfl ?_
  refine k_bipush C (pc2 := 5) (dkAt dkX7_twelfths 3 (q := (3, .bipush 12, 2)) rfl) rfl (v := 12) rfl ?_
  refine k_idivc C (pc2 := 6) (dkAt dkX7_twelfths 4 (q := (5, .idiv, 1)) rfl) rfl (by decide) ?_
  exact k_iret C (dkAt dkX7_twelfths 5 (q := (6, .ireturn, 1)) rfl) (Option.some.inj h) rfl rfl rfl
set_option maxRecDepth 100000 in
set_option maxHeartbeats 4000000 in
theorem kl_X1_oddsNextDay_L4 {p : Program} {l : Launch} {e : Env} {s : State} {m : MethodId} {args : Array Value} {below : List Frame} {meth : Method} {c : Code} {G : GG} {sh : Sh} {xs : List va_E} {Q : State → Prop} (C : Cx p s m c args meth G RX1 cX1_oddsNextDay 4 (some .int)) (o0 : Nat) (h0 : isC sh o0) (M : Mm) (y2 : Int32) (hcont : KW p l e rm_X1_oddsNextDay s m args below meth c G 4 Q sh xs 0 0 M 30 [(2, .int y2)] []) : ∀ (n : Nat) (x2 : Int32) (x3 : Int32), f_X1_oddsNextDay_L4 o0 M n x2 x3 = some y2 → KW p l e rm_X1_oddsNextDay s m args below meth c G 4 Q sh xs 0 0 M 4 [(0, rA G o0), (2, .int x2), (3, .int x3)] [] := by
  intro n
  induction n with
  | zero =>
    intro x2 x3 h
    cases h
  | succ n ih =>
    intro x2 x3 h
    unfold f_X1_oddsNextDay_L4 at h
    refine k_iload_n C (pc2 := 5) (dkAt dkX1_oddsNextDay 4 (q := (4, .iload_n 3, 1)) rfl) rfl rfl 2 rfl ?_
    refine k_aload_n C (pc2 := 6) (dkAt dkX1_oddsNextDay 5 (q := (5, .aload_n 0, 1)) rfl) rfl rfl 0 rfl ?_
    refine kf_X1_31 C (pc2 := 9) (o := o0) (o2 := 0) h0.1 (dkAt dkX1_oddsNextDay 6 (q := (6, .getfield 31, 3)) rfl) rfl ?_
    refine k_icmp_ge C (tgt := 30) (pc2 := 12) (dkAt dkX1_oddsNextDay 7 (q := (9, .if_icmp .ge 21, 3)) rfl) (by decide) rfl h (fun h => ?_) (fun h => ?_)
    · refine k_lv [1] (lv2 := [(2, .int x2)]) rfl ?_
      cases h
      exact hcont
    · refine k_iload_n C (pc2 := 13) (dkAt dkX1_oddsNextDay 8 (q := (12, .iload_n 2, 1)) rfl) rfl rfl 1 rfl ?_
      refine k_bipush C (pc2 := 15) (dkAt dkX1_oddsNextDay 9 (q := (13, .bipush 12, 2)) rfl) rfl (v := 12) rfl ?_
      refine k_aload_n C (pc2 := 16) (dkAt dkX1_oddsNextDay 10 (q := (15, .aload_n 0, 1)) rfl) rfl rfl 0 rfl ?_
      refine kf_X1_18 C (pc2 := 19) (o := o0) (o2 := 0) h0.1 (dkAt dkX1_oddsNextDay 11 (q := (16, .getfield 18, 3)) rfl) rfl ?_
      refine k_isub C (pc2 := 20) (dkAt dkX1_oddsNextDay 12 (q := (19, .isub, 1)) rfl) rfl ?_
      obtain ⟨q1, e2, h⟩ := ob_inv h
      refine kc_SN C (As := [.int x2, .int (12 - (M.1 o0 4))]) (st2 := [.int q1]) (ct_X7_twelfths l G sh xs x2 (12 - (M.1 o0 4)) M q1 e2) (cl_X1_83 (hts_of C) C.2.2.2.2.1 ⟨Nat.le_of_ble_eq_true rfl, Nat.le_of_ble_eq_true rfl⟩ rfl rfl) rfl rfl (Nat.le_of_ble_eq_true rfl) (dkAt dkX1_oddsNextDay 13 (q := (20, .invokestatic 83, 3)) rfl) ⟨Nat.zero_le _, Nat.zero_le _⟩ (pc2 := 23) rfl rfl ?_
      refine k_istore_n C (pc2 := 24) (dkAt dkX1_oddsNextDay 14 (q := (23, .istore_n 2, 1)) rfl) rfl rfl (by decide) (lv2 := [(2, .int q1), (0, rA G o0), (3, .int x3)]) rfl ?_
      refine kb_iinc C (pc2 := 27) (dkAt dkX1_oddsNextDay 15 (q := (24, .iinc 3 1, 3)) rfl) rfl (j := 2) rfl (v := x3 + 1) rfl (by decide) (lv2 := fun v3 => [(3, .int v3), (2, .int q1), (0, rA G o0)]) (fun _ => rfl) h (fun v3 h => ?_)
      refine k_goto C (tgt := 4) (dkAt dkX1_oddsNextDay 16 (q := (27, .goto (-23), 3)) rfl) (by decide) ?_
      refine k_lv [2, 1, 0] (lv2 := [(0, rA G o0), (2, .int q1), (3, .int v3)]) rfl ?_
      exact ih q1 v3 h
set_option maxRecDepth 100000 in
set_option maxHeartbeats 4000000 in
theorem ct_X1_oddsNextDay (l : Launch) (G : GG) (sh : Sh) (xs : List va_E) (o0 : Nat) (h0 : isC sh o0) (x1 : Int32) (M : Mm) (r : Int32) (h : f_X1_oddsNextDay o0 x1 M = some r) : Ct l yX1_oddsNextDay cX1_oddsNextDay 4 (some .int) rm_X1_oddsNextDay G [rA G o0, .int x1] sh M xs (some (.int r)) sh M xs 0 0 := by
  refine ct_of (by decide) (Nat.le_of_ble_eq_true rfl) ?_
  intro p e s m args below meth c hnm C
  refine k_lv [0, 1] (lv2 := [(0, rA G o0), (1, .int x1)]) rfl ?_
  unfold f_X1_oddsNextDay at h
  refine k_iload_n C (pc2 := 1) (dkAt dkX1_oddsNextDay 0 (q := (0, .iload_n 1, 1)) rfl) rfl rfl 1 rfl ?_
  refine k_istore_n C (pc2 := 2) (dkAt dkX1_oddsNextDay 1 (q := (1, .istore_n 2, 1)) rfl) rfl rfl (by decide) (lv2 := [(2, .int x1), (0, rA G o0), (1, .int x1)]) rfl ?_
  refine k_iconst C (pc2 := 3) (dkAt dkX1_oddsNextDay 2 (q := (2, .iconst 0, 1)) rfl) rfl (v := 0) rfl ?_
  refine k_istore_n C (pc2 := 4) (dkAt dkX1_oddsNextDay 3 (q := (3, .istore_n 3, 1)) rfl) rfl rfl (by decide) (lv2 := [(3, .int 0), (2, .int x1), (0, rA G o0), (1, .int x1)]) rfl ?_
  refine k_lv [2, 1, 0] (lv2 := [(0, rA G o0), (2, .int x1), (3, .int 0)]) rfl ?_
  obtain ⟨v6, e5, h⟩ := ob_inv h
  refine kl_X1_oddsNextDay_L4 C o0 h0 M v6 ?_ 1000 x1 0 e5
  refine k_iload_n C (pc2 := 31) (dkAt dkX1_oddsNextDay 17 (q := (30, .iload_n 2, 1)) rfl) rfl rfl 0 rfl ?_
  exact k_iret C (dkAt dkX1_oddsNextDay 18 (q := (31, .ireturn, 1)) rfl) (Option.some.inj h) rfl rfl rfl
set_option maxRecDepth 100000 in
set_option maxHeartbeats 4000000 in
theorem kl_X1_howManyAskedBefore_L4 {p : Program} {l : Launch} {e : Env} {s : State} {m : MethodId} {args : Array Value} {below : List Frame} {meth : Method} {c : Code} {G : GG} {sh : Sh} {xs : List va_E} {Q : State → Prop} (C : Cx p s m c args meth G RX1 cX1_howManyAskedBefore 5 (some .int)) (o0 : Nat) (h0 : isC sh o0) (x1 : Int32) (M : Mm) (y2 : Int32) (hcont : KW p l e rm_X1_howManyAskedBefore s m args below meth c G 5 Q sh xs 0 0 M 57 [(2, .int y2)] []) : ∀ (n : Nat) (x2 : Int32) (x3 : Int32), f_X1_howManyAskedBefore_L4 o0 x1 M n x2 x3 = some y2 → KW p l e rm_X1_howManyAskedBefore s m args below meth c G 5 Q sh xs 0 0 M 4 [(0, rA G o0), (1, .int x1), (2, .int x2), (3, .int x3)] [] := by
  intro n
  induction n with
  | zero =>
    intro x2 x3 h
    cases h
  | succ n ih =>
    intro x2 x3 h
    unfold f_X1_howManyAskedBefore_L4 at h
    refine k_iload_n C (pc2 := 5) (dkAt dkX1_howManyAskedBefore 4 (q := (4, .iload_n 3, 1)) rfl) rfl rfl 3 rfl ?_
    refine k_aload_n C (pc2 := 6) (dkAt dkX1_howManyAskedBefore 5 (q := (5, .aload_n 0, 1)) rfl) rfl rfl 0 rfl ?_
    refine kf_X1_31 C (pc2 := 9) (o := o0) (o2 := 0) h0.1 (dkAt dkX1_howManyAskedBefore 6 (q := (6, .getfield 31, 3)) rfl) rfl ?_
    refine k_icmp_ge C (tgt := 57) (pc2 := 12) (dkAt dkX1_howManyAskedBefore 7 (q := (9, .if_icmp .ge 48, 3)) rfl) (by decide) rfl h (fun h => ?_) (fun h => ?_)
    · refine k_lv [2] (lv2 := [(2, .int x2)]) rfl ?_
      cases h
      exact hcont
    · refine k_aload_n C (pc2 := 13) (dkAt dkX1_howManyAskedBefore 8 (q := (12, .aload_n 0, 1)) rfl) rfl rfl 0 rfl ?_
      refine kf_X1_26 C (pc2 := 16) (o := o0) (o2 := o0 + 1) h0.1 rfl (dkAt dkX1_howManyAskedBefore 9 (q := (13, .getfield 26, 3)) rfl) rfl ?_
      refine k_iload_n C (pc2 := 17) (dkAt dkX1_howManyAskedBefore 10 (q := (16, .iload_n 3, 1)) rfl) rfl rfl 3 rfl ?_
      refine k_aa11 C (pc2 := 18) (o := o0 + 1) (o2 := o0 + 2 + x3.toNatClampNeg) (nA := 8) h0.2.1 rfl (dkAt dkX1_howManyAskedBefore 11 (q := (17, .aaload, 1)) rfl) rfl h (fun h hl1 => ?_)
      refine kf_X1_90 C (pc2 := 21) (o := o0 + 2 + x3.toNatClampNeg) (o2 := 0) (h0.2.2 _ hl1) (dkAt dkX1_howManyAskedBefore 12 (q := (18, .getfield 90, 3)) rfl) rfl ?_
      refine k_aload_n C (pc2 := 22) (dkAt dkX1_howManyAskedBefore 13 (q := (21, .aload_n 0, 1)) rfl) rfl rfl 0 rfl ?_
      refine kf_X1_26 C (pc2 := 25) (o := o0) (o2 := o0 + 1) h0.1 rfl (dkAt dkX1_howManyAskedBefore 14 (q := (22, .getfield 26, 3)) rfl) rfl ?_
      refine k_iload_n C (pc2 := 26) (dkAt dkX1_howManyAskedBefore 15 (q := (25, .iload_n 1, 1)) rfl) rfl rfl 1 rfl ?_
      refine k_aa11 C (pc2 := 27) (o := o0 + 1) (o2 := o0 + 2 + x1.toNatClampNeg) (nA := 8) h0.2.1 rfl (dkAt dkX1_howManyAskedBefore 16 (q := (26, .aaload, 1)) rfl) rfl h (fun h hl2 => ?_)
      refine kf_X1_90 C (pc2 := 30) (o := o0 + 2 + x1.toNatClampNeg) (o2 := 0) (h0.2.2 _ hl2) (dkAt dkX1_howManyAskedBefore 17 (q := (27, .getfield 90, 3)) rfl) rfl ?_
      refine k_isub C (pc2 := 31) (dkAt dkX1_howManyAskedBefore 18 (q := (30, .isub, 1)) rfl) rfl ?_
      refine kb_istore C (pc2 := 33) (dkAt dkX1_howManyAskedBefore 19 (q := (31, .istore 4, 2)) rfl) rfl (by decide) (lv2 := fun v3 => [(4, .int v3), (0, rA G o0), (1, .int x1), (2, .int x2), (3, .int x3)]) (fun _ => rfl) h (fun v3 h => ?_)
      refine k_iload C (pc2 := 35) (dkAt dkX1_howManyAskedBefore 20 (q := (33, .iload 4, 2)) rfl) rfl 0 rfl ?_
      refine k_if_lt C (tgt := 48) (pc2 := 38) (dkAt dkX1_howManyAskedBefore 21 (q := (35, .ifCond .lt 13, 3)) rfl) (by decide) rfl h (fun h => ?_) (fun h => ?_)
      · refine kb_iinc C (pc2 := 51) (dkAt dkX1_howManyAskedBefore 27 (q := (48, .iinc 2 1, 3)) rfl) rfl (j := 3) rfl (v := x2 + 1) rfl (by decide) (lv2 := fun v4 => [(2, .int v4), (4, .int v3), (0, rA G o0), (1, .int x1), (3, .int x3)]) (fun _ => rfl) h (fun v4 h => ?_)
        refine kb_iinc C (pc2 := 54) (dkAt dkX1_howManyAskedBefore 28 (q := (51, .iinc 3 1, 3)) rfl) rfl (j := 4) rfl (v := x3 + 1) rfl (by decide) (lv2 := fun v5 => [(3, .int v5), (2, .int v4), (4, .int v3), (0, rA G o0), (1, .int x1)]) (fun _ => rfl) h (fun v5 h => ?_)
        refine k_goto C (tgt := 4) (dkAt dkX1_howManyAskedBefore 29 (q := (54, .goto (-50), 3)) rfl) (by decide) ?_
        refine k_lv [3, 4, 1, 0] (lv2 := [(0, rA G o0), (1, .int x1), (2, .int v4), (3, .int v5)]) rfl ?_
        exact ih v4 v5 h
      · refine k_iload C (pc2 := 40) (dkAt dkX1_howManyAskedBefore 22 (q := (38, .iload 4, 2)) rfl) rfl 0 rfl ?_
        refine k_if_ne C (tgt := 51) (pc2 := 43) (dkAt dkX1_howManyAskedBefore 23 (q := (40, .ifCond .ne 11, 3)) rfl) (by decide) rfl h (fun h => ?_) (fun h => ?_)
        · refine kb_iinc C (pc2 := 54) (dkAt dkX1_howManyAskedBefore 28 (q := (51, .iinc 3 1, 3)) rfl) rfl (j := 4) rfl (v := x3 + 1) rfl (by decide) (lv2 := fun v6 => [(3, .int v6), (4, .int v3), (0, rA G o0), (1, .int x1), (2, .int x2)]) (fun _ => rfl) h (fun v6 h => ?_)
          refine k_goto C (tgt := 4) (dkAt dkX1_howManyAskedBefore 29 (q := (54, .goto (-50), 3)) rfl) (by decide) ?_
          refine k_lv [2, 3, 4, 0] (lv2 := [(0, rA G o0), (1, .int x1), (2, .int x2), (3, .int v6)]) rfl ?_
          exact ih x2 v6 h
        · refine k_iload_n C (pc2 := 44) (dkAt dkX1_howManyAskedBefore 24 (q := (43, .iload_n 3, 1)) rfl) rfl rfl 4 rfl ?_
          refine k_iload_n C (pc2 := 45) (dkAt dkX1_howManyAskedBefore 25 (q := (44, .iload_n 1, 1)) rfl) rfl rfl 2 rfl ?_
          refine k_icmp_ge C (tgt := 51) (pc2 := 48) (dkAt dkX1_howManyAskedBefore 26 (q := (45, .if_icmp .ge 6, 3)) rfl) (by decide) rfl h (fun h => ?_) (fun h => ?_)
          · refine kb_iinc C (pc2 := 54) (dkAt dkX1_howManyAskedBefore 28 (q := (51, .iinc 3 1, 3)) rfl) rfl (j := 4) rfl (v := x3 + 1) rfl (by decide) (lv2 := fun v7 => [(3, .int v7), (4, .int v3), (0, rA G o0), (1, .int x1), (2, .int x2)]) (fun _ => rfl) h (fun v7 h => ?_)
            refine k_goto C (tgt := 4) (dkAt dkX1_howManyAskedBefore 29 (q := (54, .goto (-50), 3)) rfl) (by decide) ?_
            refine k_lv [2, 3, 4, 0] (lv2 := [(0, rA G o0), (1, .int x1), (2, .int x2), (3, .int v7)]) rfl ?_
            exact ih x2 v7 h
          · refine kb_iinc C (pc2 := 51) (dkAt dkX1_howManyAskedBefore 27 (q := (48, .iinc 2 1, 3)) rfl) rfl (j := 3) rfl (v := x2 + 1) rfl (by decide) (lv2 := fun v8 => [(2, .int v8), (4, .int v3), (0, rA G o0), (1, .int x1), (3, .int x3)]) (fun _ => rfl) h (fun v8 h => ?_)
            refine kb_iinc C (pc2 := 54) (dkAt dkX1_howManyAskedBefore 28 (q := (51, .iinc 3 1, 3)) rfl) rfl (j := 4) rfl (v := x3 + 1) rfl (by decide) (lv2 := fun v9 => [(3, .int v9), (2, .int v8), (4, .int v3), (0, rA G o0), (1, .int x1)]) (fun _ => rfl) h (fun v9 h => ?_)
            refine k_goto C (tgt := 4) (dkAt dkX1_howManyAskedBefore 29 (q := (54, .goto (-50), 3)) rfl) (by decide) ?_
            refine k_lv [3, 4, 1, 0] (lv2 := [(0, rA G o0), (1, .int x1), (2, .int v8), (3, .int v9)]) rfl ?_
            exact ih v8 v9 h
set_option maxRecDepth 100000 in
set_option maxHeartbeats 4000000 in
theorem ct_X1_howManyAskedBefore (l : Launch) (G : GG) (sh : Sh) (xs : List va_E) (o0 : Nat) (h0 : isC sh o0) (x1 : Int32) (M : Mm) (r : Int32) (h : f_X1_howManyAskedBefore o0 x1 M = some r) : Ct l yX1_howManyAskedBefore cX1_howManyAskedBefore 5 (some .int) rm_X1_howManyAskedBefore G [rA G o0, .int x1] sh M xs (some (.int r)) sh M xs 0 0 := by
  refine ct_of (by decide) (Nat.le_of_ble_eq_true rfl) ?_
  intro p e s m args below meth c hnm C
  refine k_lv [0, 1] (lv2 := [(0, rA G o0), (1, .int x1)]) rfl ?_
  unfold f_X1_howManyAskedBefore at h
  refine k_iconst C (pc2 := 1) (dkAt dkX1_howManyAskedBefore 0 (q := (0, .iconst 0, 1)) rfl) rfl (v := 0) rfl ?_
  refine k_istore_n C (pc2 := 2) (dkAt dkX1_howManyAskedBefore 1 (q := (1, .istore_n 2, 1)) rfl) rfl rfl (by decide) (lv2 := [(2, .int 0), (0, rA G o0), (1, .int x1)]) rfl ?_
  refine k_iconst C (pc2 := 3) (dkAt dkX1_howManyAskedBefore 2 (q := (2, .iconst 0, 1)) rfl) rfl (v := 0) rfl ?_
  refine k_istore_n C (pc2 := 4) (dkAt dkX1_howManyAskedBefore 3 (q := (3, .istore_n 3, 1)) rfl) rfl rfl (by decide) (lv2 := [(3, .int 0), (2, .int 0), (0, rA G o0), (1, .int x1)]) rfl ?_
  refine k_lv [2, 3, 1, 0] (lv2 := [(0, rA G o0), (1, .int x1), (2, .int 0), (3, .int 0)]) rfl ?_
  obtain ⟨v12, e11, h⟩ := ob_inv h
  refine kl_X1_howManyAskedBefore_L4 C o0 h0 x1 M v12 ?_ 1000 0 0 e11
  refine k_iload_n C (pc2 := 58) (dkAt dkX1_howManyAskedBefore 30 (q := (57, .iload_n 2, 1)) rfl) rfl rfl 0 rfl ?_
  exact k_iret C (dkAt dkX1_howManyAskedBefore 31 (q := (58, .ireturn, 1)) rfl) (Option.some.inj h) rfl rfl rfl
set_option maxRecDepth 100000 in
set_option maxHeartbeats 4000000 in
theorem kl_X1_placeByLikely_L2 {p : Program} {l : Launch} {e : Env} {s : State} {m : MethodId} {args : Array Value} {below : List Frame} {meth : Method} {c : Code} {G : GG} {sh : Sh} {xs : List va_E} (C : Cx p s m c args meth G RX1 cX1_placeByLikely 3 (some .int)) (o0 : Nat) (h0 : isC sh o0) (x1 : Int32) (M : Mm) (r : Int32) (t : (Unit) ⊕ (Int32)) (hcont : t = Sum.inl () → KW p l e rm_X1_placeByLikely s m args below meth c G 3 (MQ below (QO G (some (.int r)) sh M xs) args s 0 0 (gA G)) sh xs 0 0 M 27 [] []) (hres : ∀ z, t = Sum.inr z → z = r) : ∀ (n : Nat) (x2 : Int32), f_X1_placeByLikely_L2 o0 x1 M n x2 = some t → KW p l e rm_X1_placeByLikely s m args below meth c G 3 (MQ below (QO G (some (.int r)) sh M xs) args s 0 0 (gA G)) sh xs 0 0 M 2 [(0, rA G o0), (1, .int x1), (2, .int x2)] [] := by
  intro n
  induction n with
  | zero =>
    intro x2 h
    cases h
  | succ n ih =>
    intro x2 h
    unfold f_X1_placeByLikely_L2 at h
    refine k_iload_n C (pc2 := 3) (dkAt dkX1_placeByLikely 2 (q := (2, .iload_n 2, 1)) rfl) rfl rfl 2 rfl ?_
    refine k_aload_n C (pc2 := 4) (dkAt dkX1_placeByLikely 3 (q := (3, .aload_n 0, 1)) rfl) rfl rfl 0 rfl ?_
    refine kf_X1_31 C (pc2 := 7) (o := o0) (o2 := 0) h0.1 (dkAt dkX1_placeByLikely 4 (q := (4, .getfield 31, 3)) rfl) rfl ?_
    refine k_icmp_ge C (tgt := 27) (pc2 := 10) (dkAt dkX1_placeByLikely 5 (q := (7, .if_icmp .ge 20, 3)) rfl) (by decide) rfl h (fun h => ?_) (fun h => ?_)
    · refine k_lv [] (lv2 := []) rfl ?_
      exact hcont (Option.some.inj h).symm
    · refine k_aload_n C (pc2 := 11) (dkAt dkX1_placeByLikely 6 (q := (10, .aload_n 0, 1)) rfl) rfl rfl 0 rfl ?_
      refine k_iload_n C (pc2 := 12) (dkAt dkX1_placeByLikely 7 (q := (11, .iload_n 2, 1)) rfl) rfl rfl 2 rfl ?_
      obtain ⟨q1, e2, h⟩ := ob_inv h
      refine kc_V C (As := [.int x2]) (st2 := [.int q1]) (ct_X1_howManyAskedBefore l G sh xs o0 h0 x2 M q1 e2) (cl_X1_87 (hts_of C) ⟨Nat.le_of_ble_eq_true rfl, Nat.le_of_ble_eq_true rfl⟩ rfl rfl) h0.1 rfl rfl rfl rfl rfl (Nat.le_of_ble_eq_true rfl) (dkAt dkX1_placeByLikely 8 (q := (12, .invokevirtual 87, 3)) rfl) ⟨Nat.zero_le _, Nat.zero_le _⟩ (pc2 := 15) rfl rfl ?_
      refine k_iload_n C (pc2 := 16) (dkAt dkX1_placeByLikely 9 (q := (15, .iload_n 1, 1)) rfl) rfl rfl 1 rfl ?_
      refine k_icmp_ne C (tgt := 21) (pc2 := 19) (dkAt dkX1_placeByLikely 10 (q := (16, .if_icmp .ne 5, 3)) rfl) (by decide) rfl h (fun h => ?_) (fun h => ?_)
      · refine kb_iinc C (pc2 := 24) (dkAt dkX1_placeByLikely 13 (q := (21, .iinc 2 1, 3)) rfl) rfl (j := 2) rfl (v := x2 + 1) rfl (by decide) (lv2 := fun v3 => [(2, .int v3), (0, rA G o0), (1, .int x1)]) (fun _ => rfl) h (fun v3 h => ?_)
        refine k_goto C (tgt := 2) (dkAt dkX1_placeByLikely 14 (q := (24, .goto (-22), 3)) rfl) (by decide) ?_
        refine k_lv [1, 2, 0] (lv2 := [(0, rA G o0), (1, .int x1), (2, .int v3)]) rfl ?_
        exact ih v3 h
      · refine k_iload_n C (pc2 := 20) (dkAt dkX1_placeByLikely 11 (q := (19, .iload_n 2, 1)) rfl) rfl rfl 2 rfl ?_
        exact k_iret C (dkAt dkX1_placeByLikely 12 (q := (20, .ireturn, 1)) rfl) (hres _ (Option.some.inj h).symm) rfl rfl rfl
set_option maxRecDepth 100000 in
set_option maxHeartbeats 4000000 in
theorem ct_X1_placeByLikely (l : Launch) (G : GG) (sh : Sh) (xs : List va_E) (o0 : Nat) (h0 : isC sh o0) (x1 : Int32) (M : Mm) (r : Int32) (h : f_X1_placeByLikely o0 x1 M = some r) : Ct l yX1_placeByLikely cX1_placeByLikely 3 (some .int) rm_X1_placeByLikely G [rA G o0, .int x1] sh M xs (some (.int r)) sh M xs 0 0 := by
  refine ct_of (by decide) (Nat.le_of_ble_eq_true rfl) ?_
  intro p e s m args below meth c hnm C
  refine k_lv [0, 1] (lv2 := [(0, rA G o0), (1, .int x1)]) rfl ?_
  unfold f_X1_placeByLikely at h
  refine k_iconst C (pc2 := 1) (dkAt dkX1_placeByLikely 0 (q := (0, .iconst 0, 1)) rfl) rfl (v := 0) rfl ?_
  refine k_istore_n C (pc2 := 2) (dkAt dkX1_placeByLikely 1 (q := (1, .istore_n 2, 1)) rfl) rfl rfl (by decide) (lv2 := [(2, .int 0), (0, rA G o0), (1, .int x1)]) rfl ?_
  refine k_lv [1, 2, 0] (lv2 := [(0, rA G o0), (1, .int x1), (2, .int 0)]) rfl ?_
  obtain ⟨t4, e5, hA, hB⟩ := obS_inv h
  refine kl_X1_placeByLikely_L2 C o0 h0 x1 M r t4 ?_ ?_ 1000 0 e5
  · intro et
    have h := hA _ et
    refine k_iconst C (pc2 := 28) (dkAt dkX1_placeByLikely 15 (q := (27, .iconst (-1), 1)) rfl) rfl (v := (-1)) rfl ?_
    exact k_iret C (dkAt dkX1_placeByLikely 16 (q := (28, .ireturn, 1)) rfl) (Option.some.inj h) rfl rfl rfl
  · intro z et
    have h := hB _ et
    exact Option.some.inj h
set_option maxRecDepth 100000 in
set_option maxHeartbeats 4000000 in
theorem kl_X1_meanAsked_L4 {p : Program} {l : Launch} {e : Env} {s : State} {m : MethodId} {args : Array Value} {below : List Frame} {meth : Method} {c : Code} {G : GG} {sh : Sh} {xs : List va_E} {Q : State → Prop} (C : Cx p s m c args meth G RX1 cX1_meanAsked 9 (some .int)) (o0 : Nat) (h0 : isC sh o0) (M : Mm) (y1 : Int64) (hcont : KW p l e rm_X1_meanAsked s m args below meth c G 9 Q sh xs 0 0 M 24 [(0, rA G o0), (1, .long y1)] []) : ∀ (n : Nat) (x1 : Int64) (x3 : Int32), f_X1_meanAsked_L4 o0 M n x1 x3 = some y1 → KW p l e rm_X1_meanAsked s m args below meth c G 9 Q sh xs 0 0 M 4 [(0, rA G o0), (1, .long x1), (3, .int x3)] [] := by
  intro n
  induction n with
  | zero =>
    intro x1 x3 h
    cases h
  | succ n ih =>
    intro x1 x3 h
    unfold f_X1_meanAsked_L4 at h
    refine k_iload_n C (pc2 := 5) (dkAt dkX1_meanAsked 4 (q := (4, .iload_n 3, 1)) rfl) rfl rfl 2 rfl ?_
    refine k_aload_n C (pc2 := 6) (dkAt dkX1_meanAsked 5 (q := (5, .aload_n 0, 1)) rfl) rfl rfl 0 rfl ?_
    refine kf_X1_31 C (pc2 := 9) (o := o0) (o2 := 0) h0.1 (dkAt dkX1_meanAsked 6 (q := (6, .getfield 31, 3)) rfl) rfl ?_
    refine k_icmp_ge C (tgt := 24) (pc2 := 12) (dkAt dkX1_meanAsked 7 (q := (9, .if_icmp .ge 15, 3)) rfl) (by decide) rfl h (fun h => ?_) (fun h => ?_)
    · refine k_lv [0, 1] (lv2 := [(0, rA G o0), (1, .long x1)]) rfl ?_
      cases h
      exact hcont
    · refine k_lload_n C (pc2 := 13) (dkAt dkX1_meanAsked 8 (q := (12, .lload_n 1, 1)) rfl) rfl rfl 1 rfl ?_
      refine k_ldc2 C (pc2 := 16) (dkAt dkX1_meanAsked 9 (q := (13, .ldc2_w 93, 3)) rfl) rfl (v := 12) tL_X1_93 ?_
      refine k_lmul C (pc2 := 17) (dkAt dkX1_meanAsked 10 (q := (16, .lmul, 1)) rfl) rfl ?_
      refine kb_lstore_n C (pc2 := 18) (dkAt dkX1_meanAsked 11 (q := (17, .lstore_n 1, 1)) rfl) rfl rfl (by decide) (lv2 := fun v1 => [(1, .long v1), (0, rA G o0), (3, .int x3)]) (fun _ => rfl) h (fun v1 h => ?_)
      refine kb_iinc C (pc2 := 21) (dkAt dkX1_meanAsked 12 (q := (18, .iinc 3 1, 3)) rfl) rfl (j := 2) rfl (v := x3 + 1) rfl (by decide) (lv2 := fun v2 => [(3, .int v2), (1, .long v1), (0, rA G o0)]) (fun _ => rfl) h (fun v2 h => ?_)
      refine k_goto C (tgt := 4) (dkAt dkX1_meanAsked 13 (q := (21, .goto (-17), 3)) rfl) (by decide) ?_
      refine k_lv [2, 1, 0] (lv2 := [(0, rA G o0), (1, .long v1), (3, .int v2)]) rfl ?_
      exact ih v1 v2 h
set_option maxRecDepth 100000 in
set_option maxHeartbeats 4000000 in
theorem kl_X1_meanAsked_L32 {p : Program} {l : Launch} {e : Env} {s : State} {m : MethodId} {args : Array Value} {below : List Frame} {meth : Method} {c : Code} {G : GG} {sh : Sh} {xs : List va_E} {Q : State → Prop} (C : Cx p s m c args meth G RX1 cX1_meanAsked 9 (some .int)) (o0 : Nat) (h0 : isC sh o0) (x1 : Int64) (M : Mm) (y5 : Int64) (hcont : KW p l e rm_X1_meanAsked s m args below meth c G 9 Q sh xs 0 0 M 92 [(1, .long x1), (5, .long y5)] []) : ∀ (n : Nat) (x3 : Int64) (x5 : Int64) (x7 : Int32), f_X1_meanAsked_L32 o0 x1 M n x3 x5 x7 = some y5 → KW p l e rm_X1_meanAsked s m args below meth c G 9 Q sh xs 0 0 M 32 [(0, rA G o0), (1, .long x1), (3, .long x3), (5, .long x5), (7, .int x7)] [] := by
  intro n
  induction n with
  | zero =>
    intro x3 x5 x7 h
    cases h
  | succ n ih =>
    intro x3 x5 x7 h
    unfold f_X1_meanAsked_L32 at h
    refine k_iload C (pc2 := 34) (dkAt dkX1_meanAsked 20 (q := (32, .iload 7, 2)) rfl) rfl 4 rfl ?_
    refine k_aload_n C (pc2 := 35) (dkAt dkX1_meanAsked 21 (q := (34, .aload_n 0, 1)) rfl) rfl rfl 0 rfl ?_
    refine kf_X1_31 C (pc2 := 38) (o := o0) (o2 := 0) h0.1 (dkAt dkX1_meanAsked 22 (q := (35, .getfield 31, 3)) rfl) rfl ?_
    refine k_icmp_ge C (tgt := 92) (pc2 := 41) (dkAt dkX1_meanAsked 23 (q := (38, .if_icmp .ge 54, 3)) rfl) (by decide) rfl h (fun h => ?_) (fun h => ?_)
    · refine k_lv [1, 3] (lv2 := [(1, .long x1), (5, .long x5)]) rfl ?_
      cases h
      exact hcont
    · refine k_lload C (pc2 := 43) (dkAt dkX1_meanAsked 24 (q := (41, .lload 5, 2)) rfl) rfl 3 rfl ?_
      refine k_lload_n C (pc2 := 44) (dkAt dkX1_meanAsked 25 (q := (43, .lload_n 3, 1)) rfl) rfl rfl 2 rfl ?_
      refine k_ladd C (pc2 := 45) (dkAt dkX1_meanAsked 26 (q := (44, .ladd, 1)) rfl) rfl ?_
      refine kb_lstore C (pc2 := 47) (dkAt dkX1_meanAsked 27 (q := (45, .lstore 5, 2)) rfl) rfl (by decide) (lv2 := fun v6 => [(5, .long v6), (0, rA G o0), (1, .long x1), (3, .long x3), (7, .int x7)]) (fun _ => rfl) h (fun v6 h => ?_)
      refine k_aload_n C (pc2 := 48) (dkAt dkX1_meanAsked 28 (q := (47, .aload_n 0, 1)) rfl) rfl rfl 1 rfl ?_
      refine k_iload C (pc2 := 50) (dkAt dkX1_meanAsked 29 (q := (48, .iload 7, 2)) rfl) rfl 4 rfl ?_
      obtain ⟨q7, e8, h⟩ := ob_inv h
      refine kc_V C (As := [.int x7]) (st2 := [.int q7]) (ct_X1_placeByLikely l G sh xs o0 h0 x7 M q7 e8) (cl_X1_95 (hts_of C) ⟨Nat.le_of_ble_eq_true rfl, Nat.le_of_ble_eq_true rfl⟩ rfl rfl) h0.1 rfl rfl rfl rfl rfl (Nat.le_of_ble_eq_true rfl) (dkAt dkX1_meanAsked 30 (q := (50, .invokevirtual 95, 3)) rfl) ⟨Nat.zero_le _, Nat.zero_le _⟩ (pc2 := 53) rfl rfl ?_
      refine k_istore C (pc2 := 55) (dkAt dkX1_meanAsked 31 (q := (53, .istore 8, 2)) rfl) rfl (by decide) (lv2 := [(8, .int q7), (5, .long v6), (0, rA G o0), (1, .long x1), (3, .long x3), (7, .int x7)]) rfl ?_
      refine k_aload_n C (pc2 := 56) (dkAt dkX1_meanAsked 32 (q := (55, .aload_n 0, 1)) rfl) rfl rfl 2 rfl ?_
      refine k_iload C (pc2 := 58) (dkAt dkX1_meanAsked 33 (q := (56, .iload 8, 2)) rfl) rfl 0 rfl ?_
      obtain ⟨q9, e10, h⟩ := ob_inv h
      refine kc_V C (As := [.int q7]) (st2 := [.int q9]) (ct_X1_hasPerson l G sh xs o0 h0 q7 M q9 e10) (cl_X1_98 (hts_of C) ⟨Nat.le_of_ble_eq_true rfl, Nat.le_of_ble_eq_true rfl⟩ rfl rfl) h0.1 rfl rfl rfl rfl rfl (Nat.le_of_ble_eq_true rfl) (dkAt dkX1_meanAsked 34 (q := (58, .invokevirtual 98, 3)) rfl) ⟨Nat.zero_le _, Nat.zero_le _⟩ (pc2 := 61) rfl rfl ?_
      refine k_if_eq C (tgt := 84) (pc2 := 64) (dkAt dkX1_meanAsked 35 (q := (61, .ifCond .eq 23, 3)) rfl) (by decide) rfl h (fun h => ?_) (fun h => ?_)
      · refine k_lconst C (pc2 := 85) (dkAt dkX1_meanAsked 47 (q := (84, .lconst 0, 1)) rfl) rfl (v := 0) rfl ?_
        refine k_lstore_n C (pc2 := 86) (dkAt dkX1_meanAsked 48 (q := (85, .lstore_n 3, 1)) rfl) rfl rfl (by decide) (lv2 := [(3, .long 0), (8, .int q7), (5, .long v6), (0, rA G o0), (1, .long x1), (7, .int x7)]) rfl ?_
        refine kb_iinc C (pc2 := 89) (dkAt dkX1_meanAsked 49 (q := (86, .iinc 7 1, 3)) rfl) rfl (j := 5) rfl (v := x7 + 1) rfl (by decide) (lv2 := fun v11 => [(7, .int v11), (3, .long 0), (8, .int q7), (5, .long v6), (0, rA G o0), (1, .long x1)]) (fun _ => rfl) h (fun v11 h => ?_)
        refine k_goto C (tgt := 32) (dkAt dkX1_meanAsked 50 (q := (89, .goto (-57), 3)) rfl) (by decide) ?_
        refine k_lv [4, 5, 1, 3, 0] (lv2 := [(0, rA G o0), (1, .long x1), (3, .long 0), (5, .long v6), (7, .int v11)]) rfl ?_
        exact ih 0 v6 v11 h
      · refine k_lload_n C (pc2 := 65) (dkAt dkX1_meanAsked 36 (q := (64, .lload_n 3, 1)) rfl) rfl rfl 4 rfl ?_
        refine k_aload_n C (pc2 := 66) (dkAt dkX1_meanAsked 37 (q := (65, .aload_n 0, 1)) rfl) rfl rfl 2 rfl ?_
        refine kf_X1_26 C (pc2 := 69) (o := o0) (o2 := o0 + 1) h0.1 rfl (dkAt dkX1_meanAsked 38 (q := (66, .getfield 26, 3)) rfl) rfl ?_
        refine k_iload C (pc2 := 71) (dkAt dkX1_meanAsked 39 (q := (69, .iload 8, 2)) rfl) rfl 0 rfl ?_
        refine k_aa11 C (pc2 := 72) (o := o0 + 1) (o2 := o0 + 2 + q7.toNatClampNeg) (nA := 8) h0.2.1 rfl (dkAt dkX1_meanAsked 40 (q := (71, .aaload, 1)) rfl) rfl h (fun h hl12 => ?_)
        refine kf_X1_90 C (pc2 := 75) (o := o0 + 2 + q7.toNatClampNeg) (o2 := 0) (h0.2.2 _ hl12) (dkAt dkX1_meanAsked 41 (q := (72, .getfield 90, 3)) rfl) rfl ?_
        refine k_i2l C (pc2 := 76) (dkAt dkX1_meanAsked 42 (q := (75, .i2l, 1)) rfl) rfl ?_
        refine k_lmul C (pc2 := 77) (dkAt dkX1_meanAsked 43 (q := (76, .lmul, 1)) rfl) rfl ?_
        refine k_ldc2 C (pc2 := 80) (dkAt dkX1_meanAsked 44 (q := (77, .ldc2_w 93, 3)) rfl) rfl (v := 12) tL_X1_93 ?_
        refine k_ldivc C (pc2 := 81) (dkAt dkX1_meanAsked 45 (q := (80, .ldiv, 1)) rfl) rfl (by decide) ?_
        refine k_goto C (tgt := 85) (dkAt dkX1_meanAsked 46 (q := (81, .goto 4, 3)) rfl) (by decide) ?_
        refine kb_lstore_n C (pc2 := 86) (dkAt dkX1_meanAsked 48 (q := (85, .lstore_n 3, 1)) rfl) rfl rfl (by decide) (lv2 := fun v13 => [(3, .long v13), (8, .int q7), (5, .long v6), (0, rA G o0), (1, .long x1), (7, .int x7)]) (fun _ => rfl) h (fun v13 h => ?_)
        refine kb_iinc C (pc2 := 89) (dkAt dkX1_meanAsked 49 (q := (86, .iinc 7 1, 3)) rfl) rfl (j := 5) rfl (v := x7 + 1) rfl (by decide) (lv2 := fun v14 => [(7, .int v14), (3, .long v13), (8, .int q7), (5, .long v6), (0, rA G o0), (1, .long x1)]) (fun _ => rfl) h (fun v14 h => ?_)
        refine k_goto C (tgt := 32) (dkAt dkX1_meanAsked 50 (q := (89, .goto (-57), 3)) rfl) (by decide) ?_
        refine k_lv [4, 5, 1, 3, 0] (lv2 := [(0, rA G o0), (1, .long x1), (3, .long v13), (5, .long v6), (7, .int v14)]) rfl ?_
        exact ih v13 v6 v14 h
set_option maxRecDepth 100000 in
set_option maxHeartbeats 4000000 in
theorem ct_X1_meanAsked (l : Launch) (G : GG) (sh : Sh) (xs : List va_E) (o0 : Nat) (h0 : isC sh o0) (M : Mm) (r : Int32) (h : f_X1_meanAsked o0 M = some r) : Ct l yX1_meanAsked cX1_meanAsked 9 (some .int) rm_X1_meanAsked G [rA G o0] sh M xs (some (.int r)) sh M xs 0 0 := by
  refine ct_of (by decide) (Nat.le_of_ble_eq_true rfl) ?_
  intro p e s m args below meth c hnm C
  refine k_lv [0] (lv2 := [(0, rA G o0)]) rfl ?_
  unfold f_X1_meanAsked at h
  refine k_lconst C (pc2 := 1) (dkAt dkX1_meanAsked 0 (q := (0, .lconst 1, 1)) rfl) rfl (v := 1) rfl ?_
  refine k_lstore_n C (pc2 := 2) (dkAt dkX1_meanAsked 1 (q := (1, .lstore_n 1, 1)) rfl) rfl rfl (by decide) (lv2 := [(1, .long 1), (0, rA G o0)]) rfl ?_
  refine k_iconst C (pc2 := 3) (dkAt dkX1_meanAsked 2 (q := (2, .iconst 0, 1)) rfl) rfl (v := 0) rfl ?_
  refine k_istore_n C (pc2 := 4) (dkAt dkX1_meanAsked 3 (q := (3, .istore_n 3, 1)) rfl) rfl rfl (by decide) (lv2 := [(3, .int 0), (1, .long 1), (0, rA G o0)]) rfl ?_
  refine k_lv [2, 1, 0] (lv2 := [(0, rA G o0), (1, .long 1), (3, .int 0)]) rfl ?_
  obtain ⟨v5, e4, h⟩ := ob_inv h
  refine kl_X1_meanAsked_L4 C o0 h0 M v5 ?_ 1000 1 0 e4
  refine k_lload_n C (pc2 := 25) (dkAt dkX1_meanAsked 14 (q := (24, .lload_n 1, 1)) rfl) rfl rfl 1 rfl ?_
  refine k_lstore_n C (pc2 := 26) (dkAt dkX1_meanAsked 15 (q := (25, .lstore_n 3, 1)) rfl) rfl rfl (by decide) (lv2 := [(3, .long v5), (0, rA G o0), (1, .long v5)]) rfl ?_
  refine k_lconst C (pc2 := 27) (dkAt dkX1_meanAsked 16 (q := (26, .lconst 0, 1)) rfl) rfl (v := 0) rfl ?_
  refine k_lstore C (pc2 := 29) (dkAt dkX1_meanAsked 17 (q := (27, .lstore 5, 2)) rfl) rfl (by decide) (lv2 := [(5, .long 0), (3, .long v5), (0, rA G o0), (1, .long v5)]) rfl ?_
  refine k_iconst C (pc2 := 30) (dkAt dkX1_meanAsked 18 (q := (29, .iconst 0, 1)) rfl) rfl (v := 0) rfl ?_
  refine k_istore C (pc2 := 32) (dkAt dkX1_meanAsked 19 (q := (30, .istore 7, 2)) rfl) rfl (by decide) (lv2 := [(7, .int 0), (5, .long 0), (3, .long v5), (0, rA G o0), (1, .long v5)]) rfl ?_
  refine k_lv [3, 4, 2, 1, 0] (lv2 := [(0, rA G o0), (1, .long v5), (3, .long v5), (5, .long 0), (7, .int 0)]) rfl ?_
  obtain ⟨v17, e16, h⟩ := ob_inv h
  refine kl_X1_meanAsked_L32 C o0 h0 v5 M v17 ?_ 1000 v5 0 0 e16
  refine k_ldc2 C (pc2 := 95) (dkAt dkX1_meanAsked 51 (q := (92, .ldc2_w 101, 3)) rfl) rfl (v := 1000) tL_X1_101 ?_
  refine k_lload C (pc2 := 97) (dkAt dkX1_meanAsked 52 (q := (95, .lload 5, 2)) rfl) rfl 1 rfl ?_
  refine k_lmul C (pc2 := 98) (dkAt dkX1_meanAsked 53 (q := (97, .lmul, 1)) rfl) rfl ?_
  refine k_lload_n C (pc2 := 99) (dkAt dkX1_meanAsked 54 (q := (98, .lload_n 1, 1)) rfl) rfl rfl 0 rfl ?_
  obtain ⟨hz, h⟩ := chZ_inv h
  refine k_ldivc C (pc2 := 100) (dkAt dkX1_meanAsked 55 (q := (99, .ldiv, 1)) rfl) rfl hz ?_
  refine k_l2i C (pc2 := 101) (dkAt dkX1_meanAsked 56 (q := (100, .l2i, 1)) rfl) rfl ?_
  exact k_iret C (dkAt dkX1_meanAsked 57 (q := (101, .ireturn, 1)) rfl) (Option.some.inj h) rfl rfl rfl
set_option maxRecDepth 100000 in
set_option maxHeartbeats 4000000 in
theorem kl_X1_dinnerOn_L2 {p : Program} {l : Launch} {e : Env} {s : State} {m : MethodId} {args : Array Value} {below : List Frame} {meth : Method} {c : Code} {G : GG} {sh : Sh} {xs : List va_E} {Q : State → Prop} (C : Cx p s m c args meth G RX1 cX1_dinnerOn 3 none) (o0 : Nat) (h0 : isC sh o0) (x1 : Int32) (M2 : Mm) (hcont : KW p l e rm_X1_dinnerOn s m args below meth c G 3 Q sh xs 0 0 M2 48 [(0, rA G o0)] []) : ∀ (n : Nat) (x2 : Int32) (M : Mm), f_X1_dinnerOn_L2 o0 x1 n x2 M = some M2 → KW p l e rm_X1_dinnerOn s m args below meth c G 3 Q sh xs 0 0 M 2 [(0, rA G o0), (1, .int x1), (2, .int x2)] [] := by
  intro n
  induction n with
  | zero =>
    intro x2 M h
    cases h
  | succ n ih =>
    intro x2 M h
    unfold f_X1_dinnerOn_L2 at h
    refine k_iload_n C (pc2 := 3) (dkAt dkX1_dinnerOn 2 (q := (2, .iload_n 2, 1)) rfl) rfl rfl 2 rfl ?_
    refine k_aload_n C (pc2 := 4) (dkAt dkX1_dinnerOn 3 (q := (3, .aload_n 0, 1)) rfl) rfl rfl 0 rfl ?_
    refine kf_X1_31 C (pc2 := 7) (o := o0) (o2 := 0) h0.1 (dkAt dkX1_dinnerOn 4 (q := (4, .getfield 31, 3)) rfl) rfl ?_
    refine k_icmp_ge C (tgt := 48) (pc2 := 10) (dkAt dkX1_dinnerOn 5 (q := (7, .if_icmp .ge 41, 3)) rfl) (by decide) rfl h (fun h => ?_) (fun h => ?_)
    · refine k_lv [0] (lv2 := [(0, rA G o0)]) rfl ?_
      cases h
      exact hcont
    · refine k_aload_n C (pc2 := 11) (dkAt dkX1_dinnerOn 6 (q := (10, .aload_n 0, 1)) rfl) rfl rfl 0 rfl ?_
      refine kf_X1_26 C (pc2 := 14) (o := o0) (o2 := o0 + 1) h0.1 rfl (dkAt dkX1_dinnerOn 7 (q := (11, .getfield 26, 3)) rfl) rfl ?_
      refine k_iload_n C (pc2 := 15) (dkAt dkX1_dinnerOn 8 (q := (14, .iload_n 2, 1)) rfl) rfl rfl 2 rfl ?_
      refine k_aa11 C (pc2 := 16) (o := o0 + 1) (o2 := o0 + 2 + x2.toNatClampNeg) (nA := 8) h0.2.1 rfl (dkAt dkX1_dinnerOn 9 (q := (15, .aaload, 1)) rfl) rfl h (fun h hl1 => ?_)
      refine k_iload_n C (pc2 := 17) (dkAt dkX1_dinnerOn 10 (q := (16, .iload_n 1, 1)) rfl) rfl rfl 1 rfl ?_
      obtain ⟨q2, e3, h⟩ := ob_inv h
      refine kc_V C (As := [.int x1]) (st2 := [.int q2]) (ct_X2_isFree l G sh xs (o0 + 2 + x2.toNatClampNeg) (h0.2.2 _ hl1) x1 M q2 e3) (cl_X1_63 (hts_of C) ⟨Nat.le_of_ble_eq_true rfl, Nat.le_of_ble_eq_true rfl⟩ rfl rfl) (h0.2.2 _ hl1) rfl rfl rfl rfl rfl (Nat.le_of_ble_eq_true rfl) (dkAt dkX1_dinnerOn 11 (q := (17, .invokevirtual 63, 3)) rfl) ⟨Nat.zero_le _, Nat.zero_le _⟩ (pc2 := 20) rfl rfl ?_
      refine k_if_ne C (tgt := 42) (pc2 := 23) (dkAt dkX1_dinnerOn 12 (q := (20, .ifCond .ne 22, 3)) rfl) (by decide) rfl h (fun h => ?_) (fun h => ?_)
      · refine kb_iinc C (pc2 := 45) (dkAt dkX1_dinnerOn 24 (q := (42, .iinc 2 1, 3)) rfl) rfl (j := 2) rfl (v := x2 + 1) rfl (by decide) (lv2 := fun v4 => [(2, .int v4), (0, rA G o0), (1, .int x1)]) (fun _ => rfl) h (fun v4 h => ?_)
        refine k_goto C (tgt := 2) (dkAt dkX1_dinnerOn 25 (q := (45, .goto (-43), 3)) rfl) (by decide) ?_
        refine k_lv [1, 2, 0] (lv2 := [(0, rA G o0), (1, .int x1), (2, .int v4)]) rfl ?_
        exact ih v4 M h
      · refine k_aload_n C (pc2 := 24) (dkAt dkX1_dinnerOn 13 (q := (23, .aload_n 0, 1)) rfl) rfl rfl 0 rfl ?_
        refine kf_X1_26 C (pc2 := 27) (o := o0) (o2 := o0 + 1) h0.1 rfl (dkAt dkX1_dinnerOn 14 (q := (24, .getfield 26, 3)) rfl) rfl ?_
        refine k_iload_n C (pc2 := 28) (dkAt dkX1_dinnerOn 15 (q := (27, .iload_n 2, 1)) rfl) rfl rfl 2 rfl ?_
        refine k_aa11 C (pc2 := 29) (o := o0 + 1) (o2 := o0 + 2 + x2.toNatClampNeg) (nA := 8) h0.2.1 rfl (dkAt dkX1_dinnerOn 16 (q := (28, .aaload, 1)) rfl) rfl h (fun h hl5 => ?_)
        refine k_aload_n C (pc2 := 30) (dkAt dkX1_dinnerOn 17 (q := (29, .aload_n 0, 1)) rfl) rfl rfl 0 rfl ?_
        refine kf_X1_26 C (pc2 := 33) (o := o0) (o2 := o0 + 1) h0.1 rfl (dkAt dkX1_dinnerOn 18 (q := (30, .getfield 26, 3)) rfl) rfl ?_
        refine k_iload_n C (pc2 := 34) (dkAt dkX1_dinnerOn 19 (q := (33, .iload_n 2, 1)) rfl) rfl rfl 2 rfl ?_
        refine k_aa11 C (pc2 := 35) (o := o0 + 1) (o2 := o0 + 2 + x2.toNatClampNeg) (nA := 8) h0.2.1 rfl (dkAt dkX1_dinnerOn 20 (q := (34, .aaload, 1)) rfl) rfl h (fun h hl6 => ?_)
        refine k_iconst C (pc2 := 36) (dkAt dkX1_dinnerOn 21 (q := (35, .iconst 1, 1)) rfl) rfl (v := 1) rfl ?_
        obtain ⟨q7, e8, h⟩ := ob_inv h
        refine kc_V C (As := [.int 1]) (st2 := [.int q7, rA G (o0 + 2 + x2.toNatClampNeg)]) (ct_X2_outAfter l G sh xs (o0 + 2 + x2.toNatClampNeg) (h0.2.2 _ hl6) 1 M q7 e8) (cl_X1_103 (hts_of C) ⟨Nat.le_of_ble_eq_true rfl, Nat.le_of_ble_eq_true rfl⟩ rfl rfl) (h0.2.2 _ hl6) rfl rfl rfl rfl rfl (Nat.le_of_ble_eq_true rfl) (dkAt dkX1_dinnerOn 22 (q := (36, .invokevirtual 103, 3)) rfl) ⟨Nat.zero_le _, Nat.zero_le _⟩ (pc2 := 39) rfl rfl ?_
        refine kp_X1_79 C (pc2 := 42) (o := o0 + 2 + x2.toNatClampNeg) (h0.2.2 _ hl5) (dkAt dkX1_dinnerOn 23 (q := (39, .putfield 79, 3)) rfl) rfl h (fun M9 h => ?_)
        refine kb_iinc C (pc2 := 45) (dkAt dkX1_dinnerOn 24 (q := (42, .iinc 2 1, 3)) rfl) rfl (j := 2) rfl (v := x2 + 1) rfl (by decide) (lv2 := fun v10 => [(2, .int v10), (0, rA G o0), (1, .int x1)]) (fun _ => rfl) h (fun v10 h => ?_)
        refine k_goto C (tgt := 2) (dkAt dkX1_dinnerOn 25 (q := (45, .goto (-43), 3)) rfl) (by decide) ?_
        refine k_lv [1, 2, 0] (lv2 := [(0, rA G o0), (1, .int x1), (2, .int v10)]) rfl ?_
        exact ih v10 M9 h
set_option maxRecDepth 100000 in
set_option maxHeartbeats 4000000 in
theorem ct_X1_dinnerOn (l : Launch) (G : GG) (sh : Sh) (xs : List va_E) (o0 : Nat) (h0 : isC sh o0) (x1 : Int32) (M : Mm) (r : Mm) (h : f_X1_dinnerOn o0 x1 M = some r) : Ct l yX1_dinnerOn cX1_dinnerOn 3 none rm_X1_dinnerOn G [rA G o0, .int x1] sh M xs none sh r xs 0 0 := by
  refine ct_of (by decide) (Nat.le_of_ble_eq_true rfl) ?_
  intro p e s m args below meth c hnm C
  refine k_lv [0, 1] (lv2 := [(0, rA G o0), (1, .int x1)]) rfl ?_
  unfold f_X1_dinnerOn at h
  refine k_iconst C (pc2 := 1) (dkAt dkX1_dinnerOn 0 (q := (0, .iconst 0, 1)) rfl) rfl (v := 0) rfl ?_
  refine k_istore_n C (pc2 := 2) (dkAt dkX1_dinnerOn 1 (q := (1, .istore_n 2, 1)) rfl) rfl rfl (by decide) (lv2 := [(2, .int 0), (0, rA G o0), (1, .int x1)]) rfl ?_
  refine k_lv [1, 2, 0] (lv2 := [(0, rA G o0), (1, .int x1), (2, .int 0)]) rfl ?_
  obtain ⟨M13, e12, h⟩ := ob_inv h
  refine kl_X1_dinnerOn_L2 C o0 h0 x1 M13 ?_ 1000 0 M e12
  refine k_aload_n C (pc2 := 49) (dkAt dkX1_dinnerOn 26 (q := (48, .aload_n 0, 1)) rfl) rfl rfl 0 rfl ?_
  refine k_dup C (pc2 := 50) (dkAt dkX1_dinnerOn 27 (q := (49, .dup, 1)) rfl) rfl rfl ?_
  refine kf_X1_37 C (pc2 := 53) (o := o0) (o2 := 0) h0.1 (dkAt dkX1_dinnerOn 28 (q := (50, .getfield 37, 3)) rfl) rfl ?_
  refine k_iconst C (pc2 := 54) (dkAt dkX1_dinnerOn 29 (q := (53, .iconst 1, 1)) rfl) rfl (v := 1) rfl ?_
  refine k_iadd C (pc2 := 55) (dkAt dkX1_dinnerOn 30 (q := (54, .iadd, 1)) rfl) rfl ?_
  refine kp_X1_37 C (pc2 := 58) (o := o0) h0.1 (dkAt dkX1_dinnerOn 31 (q := (55, .putfield 37, 3)) rfl) rfl h (fun M14 h => ?_)
  exact k_vret C (dkAt dkX1_dinnerOn 32 (q := (58, .return_, 1)) rfl) rfl (Option.some.inj h) rfl
set_option maxRecDepth 100000 in
set_option maxHeartbeats 4000000 in
theorem ct_X1_drawTwelfth (l : Launch) (G : GG) (sh : Sh) (xs : List va_E) (o0 : Nat) (h0 : isC sh o0) (M : Mm) (r : Mm × Int32) (h : f_X1_drawTwelfth o0 M = some r) : Ct l yX1_drawTwelfth cX1_drawTwelfth 1 (some .int) rm_X1_drawTwelfth G [rA G o0] sh M xs (some (.int r.2)) sh r.1 xs 0 0 := by
  refine ct_of (by decide) (Nat.le_of_ble_eq_true rfl) ?_
  intro p e s m args below meth c hnm C
  refine k_lv [0] (lv2 := [(0, rA G o0)]) rfl ?_
  unfold f_X1_drawTwelfth at h
  refine k_aload_n C (pc2 := 1) (dkAt dkX1_drawTwelfth 0 (q := (0, .aload_n 0, 1)) rfl) rfl rfl 0 rfl ?_
  refine k_aload_n C (pc2 := 2) (dkAt dkX1_drawTwelfth 1 (q := (1, .aload_n 0, 1)) rfl) rfl rfl 0 rfl ?_
  refine kf_X1_21 C (pc2 := 5) (o := o0) (o2 := 0) h0.1 (dkAt dkX1_drawTwelfth 2 (q := (2, .getfield 21, 3)) rfl) rfl ?_
  refine k_ldc C (pc2 := 7) (dkAt dkX1_drawTwelfth 3 (q := (5, .ldc 106, 2)) rfl) rfl (v := 1103515245) tK_X1_106 ?_
  refine k_imul C (pc2 := 8) (dkAt dkX1_drawTwelfth 4 (q := (7, .imul, 1)) rfl) rfl ?_
  refine k_sipush C (pc2 := 11) (dkAt dkX1_drawTwelfth 5 (q := (8, .sipush 12345, 3)) rfl) rfl (v := 12345) rfl ?_
  refine k_iadd C (pc2 := 12) (dkAt dkX1_drawTwelfth 6 (q := (11, .iadd, 1)) rfl) rfl ?_
  refine kp_X1_21 C (pc2 := 15) (o := o0) h0.1 (dkAt dkX1_drawTwelfth 7 (q := (12, .putfield 21, 3)) rfl) rfl h (fun M1 h => ?_)
  refine k_aload_n C (pc2 := 16) (dkAt dkX1_drawTwelfth 8 (q := (15, .aload_n 0, 1)) rfl) rfl rfl 0 rfl ?_
  refine kf_X1_21 C (pc2 := 19) (o := o0) (o2 := 0) h0.1 (dkAt dkX1_drawTwelfth 9 (q := (16, .getfield 21, 3)) rfl) rfl ?_
  refine k_bipush C (pc2 := 21) (dkAt dkX1_drawTwelfth 10 (q := (19, .bipush 16, 2)) rfl) rfl (v := 16) rfl ?_
  refine k_iushr C (pc2 := 22) (dkAt dkX1_drawTwelfth 11 (q := (21, .iushr, 1)) rfl) rfl ?_
  refine k_bipush C (pc2 := 24) (dkAt dkX1_drawTwelfth 12 (q := (22, .bipush 12, 2)) rfl) rfl (v := 12) rfl ?_
  refine k_iremc C (pc2 := 25) (dkAt dkX1_drawTwelfth 13 (q := (24, .irem, 1)) rfl) rfl (by decide) ?_
  exact k_iret C (dkAt dkX1_drawTwelfth 14 (q := (25, .ireturn, 1)) rfl) (pe2 (Option.some.inj h)) rfl (pe1 (Option.some.inj h)) rfl
set_option maxRecDepth 100000 in
set_option maxHeartbeats 4000000 in
theorem ct_X2_changeFree (l : Launch) (G : GG) (sh : Sh) (xs : List va_E) (o0 : Nat) (h0 : isP sh o0) (x1 : Int32) (x2 : Int32) (M : Mm) (r : Mm) (h : f_X2_changeFree o0 x1 x2 M = some r) : Ct l yX2_changeFree cX2_changeFree 3 none rm_X2_changeFree G [rA G o0, .int x1, .int x2] sh M xs none sh r xs 0 0 := by
  refine ct_of (by decide) (Nat.le_of_ble_eq_true rfl) ?_
  intro p e s m args below meth c hnm C
  refine k_lv [0, 1, 2] (lv2 := [(0, rA G o0), (1, .int x1), (2, .int x2)]) rfl ?_
  unfold f_X2_changeFree at h
  refine k_aload_n C (pc2 := 1) (dkAt dkX2_changeFree 0 (q := (0, .aload_n 0, 1)) rfl) rfl rfl 0 rfl ?_
  refine k_iload_n C (pc2 := 2) (dkAt dkX2_changeFree 1 (q := (1, .iload_n 2, 1)) rfl) rfl rfl 2 rfl ?_
  refine k_if_eq C (tgt := 16) (pc2 := 5) (dkAt dkX2_changeFree 2 (q := (2, .ifCond .eq 14, 3)) rfl) (by decide) rfl h (fun h => ?_) (fun h => ?_)
  · refine k_aload_n C (pc2 := 17) (dkAt dkX2_changeFree 10 (q := (16, .aload_n 0, 1)) rfl) rfl rfl 0 rfl ?_
    refine kf_X2_21 C (pc2 := 20) (o := o0) (o2 := 0) h0 (dkAt dkX2_changeFree 11 (q := (17, .getfield 21, 3)) rfl) rfl ?_
    refine k_iconst C (pc2 := 21) (dkAt dkX2_changeFree 12 (q := (20, .iconst 1, 1)) rfl) rfl (v := 1) rfl ?_
    refine k_iload_n C (pc2 := 22) (dkAt dkX2_changeFree 13 (q := (21, .iload_n 1, 1)) rfl) rfl rfl 1 rfl ?_
    refine k_ishl C (pc2 := 23) (dkAt dkX2_changeFree 14 (q := (22, .ishl, 1)) rfl) rfl ?_
    refine k_iconst C (pc2 := 24) (dkAt dkX2_changeFree 15 (q := (23, .iconst (-1), 1)) rfl) rfl (v := (-1)) rfl ?_
    refine k_ixor C (pc2 := 25) (dkAt dkX2_changeFree 16 (q := (24, .ixor, 1)) rfl) rfl ?_
    refine k_iand C (pc2 := 26) (dkAt dkX2_changeFree 17 (q := (25, .iand, 1)) rfl) rfl ?_
    refine kp_X2_21 C (pc2 := 29) (o := o0) h0 (dkAt dkX2_changeFree 18 (q := (26, .putfield 21, 3)) rfl) rfl h (fun M1 h => ?_)
    exact k_vret C (dkAt dkX2_changeFree 19 (q := (29, .return_, 1)) rfl) rfl (Option.some.inj h) rfl
  · refine k_aload_n C (pc2 := 6) (dkAt dkX2_changeFree 3 (q := (5, .aload_n 0, 1)) rfl) rfl rfl 0 rfl ?_
    refine kf_X2_21 C (pc2 := 9) (o := o0) (o2 := 0) h0 (dkAt dkX2_changeFree 4 (q := (6, .getfield 21, 3)) rfl) rfl ?_
    refine k_iconst C (pc2 := 10) (dkAt dkX2_changeFree 5 (q := (9, .iconst 1, 1)) rfl) rfl (v := 1) rfl ?_
    refine k_iload_n C (pc2 := 11) (dkAt dkX2_changeFree 6 (q := (10, .iload_n 1, 1)) rfl) rfl rfl 1 rfl ?_
    refine k_ishl C (pc2 := 12) (dkAt dkX2_changeFree 7 (q := (11, .ishl, 1)) rfl) rfl ?_
    refine k_ior C (pc2 := 13) (dkAt dkX2_changeFree 8 (q := (12, .ior, 1)) rfl) rfl ?_
    refine k_goto C (tgt := 26) (dkAt dkX2_changeFree 9 (q := (13, .goto 13, 3)) rfl) (by decide) ?_
    refine kp_X2_21 C (pc2 := 29) (o := o0) h0 (dkAt dkX2_changeFree 18 (q := (26, .putfield 21, 3)) rfl) rfl h (fun M2 h => ?_)
    exact k_vret C (dkAt dkX2_changeFree 19 (q := (29, .return_, 1)) rfl) rfl (Option.some.inj h) rfl
set_option maxRecDepth 100000 in
set_option maxHeartbeats 4000000 in
theorem kl_X1_passDay_L14 {p : Program} {l : Launch} {e : Env} {s : State} {m : MethodId} {args : Array Value} {below : List Frame} {meth : Method} {c : Code} {G : GG} {sh : Sh} {xs : List va_E} {Q : State → Prop} (C : Cx p s m c args meth G RX1 cX1_passDay 4 (some .int)) (o0 : Nat) (h0 : isC sh o0) (x2 : Int32) (y1 : Int32) (M2 : Mm) (hcont : KW p l e rm_X1_passDay s m args below meth c G 4 Q sh xs 0 0 M2 66 [(0, rA G o0), (1, .int y1), (2, .int x2)] []) : ∀ (n : Nat) (x1 : Int32) (x3 : Int32) (M : Mm), f_X1_passDay_L14 o0 x2 n x1 x3 M = some (y1, M2) → KW p l e rm_X1_passDay s m args below meth c G 4 Q sh xs 0 0 M 14 [(0, rA G o0), (1, .int x1), (2, .int x2), (3, .int x3)] [] := by
  intro n
  induction n with
  | zero =>
    intro x1 x3 M h
    cases h
  | succ n ih =>
    intro x1 x3 M h
    unfold f_X1_passDay_L14 at h
    refine k_iload_n C (pc2 := 15) (dkAt dkX1_passDay 10 (q := (14, .iload_n 3, 1)) rfl) rfl rfl 3 rfl ?_
    refine k_aload_n C (pc2 := 16) (dkAt dkX1_passDay 11 (q := (15, .aload_n 0, 1)) rfl) rfl rfl 0 rfl ?_
    refine kf_X1_9 C (pc2 := 19) (o := o0) (o2 := 0) h0.1 (dkAt dkX1_passDay 12 (q := (16, .getfield 9, 3)) rfl) rfl ?_
    refine k_icmp_ge C (tgt := 66) (pc2 := 22) (dkAt dkX1_passDay 13 (q := (19, .if_icmp .ge 47, 3)) rfl) (by decide) rfl h (fun h => ?_) (fun h => ?_)
    · refine k_lv [0, 1, 2] (lv2 := [(0, rA G o0), (1, .int x1), (2, .int x2)]) rfl ?_
      cases h
      exact hcont
    · refine k_aload_n C (pc2 := 23) (dkAt dkX1_passDay 14 (q := (22, .aload_n 0, 1)) rfl) rfl rfl 0 rfl ?_
      refine kf_X1_26 C (pc2 := 26) (o := o0) (o2 := o0 + 1) h0.1 rfl (dkAt dkX1_passDay 15 (q := (23, .getfield 26, 3)) rfl) rfl ?_
      refine k_iload_n C (pc2 := 27) (dkAt dkX1_passDay 16 (q := (26, .iload_n 2, 1)) rfl) rfl rfl 2 rfl ?_
      refine k_aa11 C (pc2 := 28) (o := o0 + 1) (o2 := o0 + 2 + x2.toNatClampNeg) (nA := 8) h0.2.1 rfl (dkAt dkX1_passDay 17 (q := (27, .aaload, 1)) rfl) rfl h (fun h hl1 => ?_)
      refine k_iload_n C (pc2 := 29) (dkAt dkX1_passDay 18 (q := (28, .iload_n 3, 1)) rfl) rfl rfl 3 rfl ?_
      obtain ⟨q2, e3, h⟩ := ob_inv h
      refine kc_V C (As := [.int x3]) (st2 := [.int q2]) (ct_X2_isFree l G sh xs (o0 + 2 + x2.toNatClampNeg) (h0.2.2 _ hl1) x3 M q2 e3) (cl_X1_63 (hts_of C) ⟨Nat.le_of_ble_eq_true rfl, Nat.le_of_ble_eq_true rfl⟩ rfl rfl) (h0.2.2 _ hl1) rfl rfl rfl rfl rfl (Nat.le_of_ble_eq_true rfl) (dkAt dkX1_passDay 19 (q := (29, .invokevirtual 63, 3)) rfl) ⟨Nat.zero_le _, Nat.zero_le _⟩ (pc2 := 32) rfl rfl ?_
      refine k_if_eq C (tgt := 60) (pc2 := 35) (dkAt dkX1_passDay 20 (q := (32, .ifCond .eq 28, 3)) rfl) (by decide) rfl h (fun h => ?_) (fun h => ?_)
      · refine kb_iinc C (pc2 := 63) (dkAt dkX1_passDay 34 (q := (60, .iinc 3 1, 3)) rfl) rfl (j := 3) rfl (v := x3 + 1) rfl (by decide) (lv2 := fun v4 => [(3, .int v4), (0, rA G o0), (1, .int x1), (2, .int x2)]) (fun _ => rfl) h (fun v4 h => ?_)
        refine k_goto C (tgt := 14) (dkAt dkX1_passDay 35 (q := (63, .goto (-49), 3)) rfl) (by decide) ?_
        refine k_lv [1, 2, 3, 0] (lv2 := [(0, rA G o0), (1, .int x1), (2, .int x2), (3, .int v4)]) rfl ?_
        exact ih x1 v4 M h
      · refine k_aload_n C (pc2 := 36) (dkAt dkX1_passDay 21 (q := (35, .aload_n 0, 1)) rfl) rfl rfl 0 rfl ?_
        obtain ⟨q5, e6, h⟩ := ob_inv h
        refine kc_V C (As := []) (st2 := [.int q5.2]) (ct_X1_drawTwelfth l G sh xs o0 h0 M q5 e6) (cl_X1_107 (hts_of C) ⟨Nat.le_of_ble_eq_true rfl, Nat.le_of_ble_eq_true rfl⟩ rfl rfl) h0.1 rfl rfl rfl rfl rfl (Nat.le_of_ble_eq_true rfl) (dkAt dkX1_passDay 22 (q := (36, .invokevirtual 107, 3)) rfl) ⟨Nat.zero_le _, Nat.zero_le _⟩ (pc2 := 39) rfl rfl ?_
        refine k_aload_n C (pc2 := 40) (dkAt dkX1_passDay 23 (q := (39, .aload_n 0, 1)) rfl) rfl rfl 0 rfl ?_
        refine kf_X1_18 C (pc2 := 43) (o := o0) (o2 := 0) h0.1 (dkAt dkX1_passDay 24 (q := (40, .getfield 18, 3)) rfl) rfl ?_
        refine k_icmp_ge C (tgt := 60) (pc2 := 46) (dkAt dkX1_passDay 25 (q := (43, .if_icmp .ge 17, 3)) rfl) (by decide) rfl h (fun h => ?_) (fun h => ?_)
        · refine kb_iinc C (pc2 := 63) (dkAt dkX1_passDay 34 (q := (60, .iinc 3 1, 3)) rfl) rfl (j := 3) rfl (v := x3 + 1) rfl (by decide) (lv2 := fun v7 => [(3, .int v7), (0, rA G o0), (1, .int x1), (2, .int x2)]) (fun _ => rfl) h (fun v7 h => ?_)
          refine k_goto C (tgt := 14) (dkAt dkX1_passDay 35 (q := (63, .goto (-49), 3)) rfl) (by decide) ?_
          refine k_lv [1, 2, 3, 0] (lv2 := [(0, rA G o0), (1, .int x1), (2, .int x2), (3, .int v7)]) rfl ?_
          exact ih x1 v7 q5.1 h
        · refine k_aload_n C (pc2 := 47) (dkAt dkX1_passDay 26 (q := (46, .aload_n 0, 1)) rfl) rfl rfl 0 rfl ?_
          refine kf_X1_26 C (pc2 := 50) (o := o0) (o2 := o0 + 1) h0.1 rfl (dkAt dkX1_passDay 27 (q := (47, .getfield 26, 3)) rfl) rfl ?_
          refine k_iload_n C (pc2 := 51) (dkAt dkX1_passDay 28 (q := (50, .iload_n 2, 1)) rfl) rfl rfl 2 rfl ?_
          refine k_aa11 C (pc2 := 52) (o := o0 + 1) (o2 := o0 + 2 + x2.toNatClampNeg) (nA := 8) h0.2.1 rfl (dkAt dkX1_passDay 29 (q := (51, .aaload, 1)) rfl) rfl h (fun h hl8 => ?_)
          refine k_iload_n C (pc2 := 53) (dkAt dkX1_passDay 30 (q := (52, .iload_n 3, 1)) rfl) rfl rfl 3 rfl ?_
          refine k_iconst C (pc2 := 54) (dkAt dkX1_passDay 31 (q := (53, .iconst 0, 1)) rfl) rfl (v := 0) rfl ?_
          obtain ⟨q9, e10, h⟩ := ob_inv h
          refine kc_V C (As := [.int x3, .int 0]) (st2 := []) (ct_X2_changeFree l G sh xs (o0 + 2 + x2.toNatClampNeg) (h0.2.2 _ hl8) x3 0 q5.1 q9 e10) (cl_X1_110 (hts_of C) ⟨Nat.le_of_ble_eq_true rfl, Nat.le_of_ble_eq_true rfl⟩ rfl rfl) (h0.2.2 _ hl8) rfl rfl rfl rfl rfl (Nat.le_of_ble_eq_true rfl) (dkAt dkX1_passDay 32 (q := (54, .invokevirtual 110, 3)) rfl) ⟨Nat.zero_le _, Nat.zero_le _⟩ (pc2 := 57) rfl rfl ?_
          refine kb_iinc C (pc2 := 60) (dkAt dkX1_passDay 33 (q := (57, .iinc 1 1, 3)) rfl) rfl (j := 1) rfl (v := x1 + 1) rfl (by decide) (lv2 := fun v11 => [(1, .int v11), (0, rA G o0), (2, .int x2), (3, .int x3)]) (fun _ => rfl) h (fun v11 h => ?_)
          refine kb_iinc C (pc2 := 63) (dkAt dkX1_passDay 34 (q := (60, .iinc 3 1, 3)) rfl) rfl (j := 3) rfl (v := x3 + 1) rfl (by decide) (lv2 := fun v12 => [(3, .int v12), (1, .int v11), (0, rA G o0), (2, .int x2)]) (fun _ => rfl) h (fun v12 h => ?_)
          refine k_goto C (tgt := 14) (dkAt dkX1_passDay 35 (q := (63, .goto (-49), 3)) rfl) (by decide) ?_
          refine k_lv [2, 1, 3, 0] (lv2 := [(0, rA G o0), (1, .int v11), (2, .int x2), (3, .int v12)]) rfl ?_
          exact ih v11 v12 q9 h
set_option maxRecDepth 100000 in
set_option maxHeartbeats 4000000 in
theorem kl_X1_passDay_L4 {p : Program} {l : Launch} {e : Env} {s : State} {m : MethodId} {args : Array Value} {below : List Frame} {meth : Method} {c : Code} {G : GG} {sh : Sh} {xs : List va_E} {Q : State → Prop} (C : Cx p s m c args meth G RX1 cX1_passDay 4 (some .int)) (o0 : Nat) (h0 : isC sh o0) (y1 : Int32) (M2 : Mm) (hcont : KW p l e rm_X1_passDay s m args below meth c G 4 Q sh xs 0 0 M2 72 [(1, .int y1)] []) : ∀ (n : Nat) (x1 : Int32) (x2 : Int32) (M : Mm), f_X1_passDay_L4 o0 n x1 x2 M = some (y1, M2) → KW p l e rm_X1_passDay s m args below meth c G 4 Q sh xs 0 0 M 4 [(0, rA G o0), (1, .int x1), (2, .int x2)] [] := by
  intro n
  induction n with
  | zero =>
    intro x1 x2 M h
    cases h
  | succ n ih =>
    intro x1 x2 M h
    unfold f_X1_passDay_L4 at h
    refine k_iload_n C (pc2 := 5) (dkAt dkX1_passDay 4 (q := (4, .iload_n 2, 1)) rfl) rfl rfl 2 rfl ?_
    refine k_aload_n C (pc2 := 6) (dkAt dkX1_passDay 5 (q := (5, .aload_n 0, 1)) rfl) rfl rfl 0 rfl ?_
    refine kf_X1_31 C (pc2 := 9) (o := o0) (o2 := 0) h0.1 (dkAt dkX1_passDay 6 (q := (6, .getfield 31, 3)) rfl) rfl ?_
    refine k_icmp_ge C (tgt := 72) (pc2 := 12) (dkAt dkX1_passDay 7 (q := (9, .if_icmp .ge 63, 3)) rfl) (by decide) rfl h (fun h => ?_) (fun h => ?_)
    · refine k_lv [1] (lv2 := [(1, .int x1)]) rfl ?_
      cases h
      exact hcont
    · refine k_iconst C (pc2 := 13) (dkAt dkX1_passDay 8 (q := (12, .iconst 0, 1)) rfl) rfl (v := 0) rfl ?_
      refine k_istore_n C (pc2 := 14) (dkAt dkX1_passDay 9 (q := (13, .istore_n 3, 1)) rfl) rfl rfl (by decide) (lv2 := [(3, .int 0), (0, rA G o0), (1, .int x1), (2, .int x2)]) rfl ?_
      refine k_lv [1, 2, 3, 0] (lv2 := [(0, rA G o0), (1, .int x1), (2, .int x2), (3, .int 0)]) rfl ?_
      obtain ⟨v15, M16, e14, h⟩ := ob2_inv h
      refine kl_X1_passDay_L14 C o0 h0 x2 v15 M16 ?_ 1000 x1 0 M e14
      refine kb_iinc C (pc2 := 69) (dkAt dkX1_passDay 36 (q := (66, .iinc 2 1, 3)) rfl) rfl (j := 2) rfl (v := x2 + 1) rfl (by decide) (lv2 := fun v17 => [(2, .int v17), (0, rA G o0), (1, .int v15)]) (fun _ => rfl) h (fun v17 h => ?_)
      refine k_goto C (tgt := 4) (dkAt dkX1_passDay 37 (q := (69, .goto (-65), 3)) rfl) (by decide) ?_
      refine k_lv [1, 2, 0] (lv2 := [(0, rA G o0), (1, .int v15), (2, .int v17)]) rfl ?_
      exact ih v15 v17 M16 h
set_option maxRecDepth 100000 in
set_option maxHeartbeats 4000000 in
theorem ct_X1_passDay (l : Launch) (G : GG) (sh : Sh) (xs : List va_E) (o0 : Nat) (h0 : isC sh o0) (M : Mm) (r : Mm × Int32) (h : f_X1_passDay o0 M = some r) : Ct l yX1_passDay cX1_passDay 4 (some .int) rm_X1_passDay G [rA G o0] sh M xs (some (.int r.2)) sh r.1 xs 0 0 := by
  refine ct_of (by decide) (Nat.le_of_ble_eq_true rfl) ?_
  intro p e s m args below meth c hnm C
  refine k_lv [0] (lv2 := [(0, rA G o0)]) rfl ?_
  unfold f_X1_passDay at h
  refine k_iconst C (pc2 := 1) (dkAt dkX1_passDay 0 (q := (0, .iconst 0, 1)) rfl) rfl (v := 0) rfl ?_
  refine k_istore_n C (pc2 := 2) (dkAt dkX1_passDay 1 (q := (1, .istore_n 1, 1)) rfl) rfl rfl (by decide) (lv2 := [(1, .int 0), (0, rA G o0)]) rfl ?_
  refine k_iconst C (pc2 := 3) (dkAt dkX1_passDay 2 (q := (2, .iconst 0, 1)) rfl) rfl (v := 0) rfl ?_
  refine k_istore_n C (pc2 := 4) (dkAt dkX1_passDay 3 (q := (3, .istore_n 2, 1)) rfl) rfl rfl (by decide) (lv2 := [(2, .int 0), (1, .int 0), (0, rA G o0)]) rfl ?_
  refine k_lv [2, 1, 0] (lv2 := [(0, rA G o0), (1, .int 0), (2, .int 0)]) rfl ?_
  obtain ⟨v20, M21, e19, h⟩ := ob2_inv h
  refine kl_X1_passDay_L4 C o0 h0 v20 M21 ?_ 1000 0 0 M e19
  refine k_iload_n C (pc2 := 73) (dkAt dkX1_passDay 38 (q := (72, .iload_n 1, 1)) rfl) rfl rfl 0 rfl ?_
  exact k_iret C (dkAt dkX1_passDay 39 (q := (73, .ireturn, 1)) rfl) (pe2 (Option.some.inj h)) rfl (pe1 (Option.some.inj h)) rfl
