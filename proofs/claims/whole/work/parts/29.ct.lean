set_option maxRecDepth 100000 in
set_option maxHeartbeats 4000000 in
theorem kl_X8_daysWith_L4 {p : Program} {l : Launch} {e : Env} {s : State} {m : MethodId} {args : Array Value} {below : List Frame} {meth : Method} {c : Code} {G : GG} {sh : Sh} {xs : List va_E} {Q : State → Prop} (C : Cx p s m c args meth G RX8 cX8_daysWith 4 (some .int)) (o0 : Nat) (h0 : isM sh o0) (x1 : Int32) (M : Mm) (y2 : Int32) (hcont : KW p l e rm_X8_daysWith s m args below meth c G 4 Q sh xs 0 0 M 40 [(2, .int y2)] []) : ∀ (n : Nat) (x2 : Int32) (x3 : Int32), f_X8_daysWith_L4 o0 x1 M n x2 x3 = some y2 → KW p l e rm_X8_daysWith s m args below meth c G 4 Q sh xs 0 0 M 4 [(0, rA G o0), (1, .int x1), (2, .int x2), (3, .int x3)] [] := by
  intro n
  induction n with
  | zero =>
    intro x2 x3 h
    cases h
  | succ n ih =>
    intro x2 x3 h
    unfold f_X8_daysWith_L4 at h
    refine k_iload_n C (pc2 := 5) (dkAt dkX8_daysWith 4 (q := (4, .iload_n 3, 1)) rfl) rfl rfl 3 rfl ?_
    refine k_aload_n C (pc2 := 6) (dkAt dkX8_daysWith 5 (q := (5, .aload_n 0, 1)) rfl) rfl rfl 0 rfl ?_
    refine kf_X8_37 C (pc2 := 9) (o := o0) (o2 := 0) h0.1 (dkAt dkX8_daysWith 6 (q := (6, .getfield 37, 3)) rfl) rfl ?_
    refine k_icmp_ge C (tgt := 40) (pc2 := 12) (dkAt dkX8_daysWith 7 (q := (9, .if_icmp .ge 31, 3)) rfl) (by decide) rfl h (fun h => ?_) (fun h => ?_)
    · refine k_lv [2] (lv2 := [(2, .int x2)]) rfl ?_
      cases h
      exact hcont
    · refine k_iload_n C (pc2 := 13) (dkAt dkX8_daysWith 8 (q := (12, .iload_n 2, 1)) rfl) rfl rfl 2 rfl ?_
      refine k_aload_n C (pc2 := 14) (dkAt dkX8_daysWith 9 (q := (13, .aload_n 0, 1)) rfl) rfl rfl 0 rfl ?_
      refine k_iload_n C (pc2 := 15) (dkAt dkX8_daysWith 10 (q := (14, .iload_n 3, 1)) rfl) rfl rfl 3 rfl ?_
      obtain ⟨q1, e2, h⟩ := ob_inv h
      refine kc_V C (As := [.int x3]) (st2 := [.int q1, .int x2]) (ct_X8_thereOn l G sh xs o0 h0 x3 M q1 e2) (cl_X8_263 (hts_of C) ⟨Nat.le_of_ble_eq_true rfl, Nat.le_of_ble_eq_true rfl⟩ rfl rfl) h0.1 rfl rfl rfl rfl rfl (Nat.le_of_ble_eq_true rfl) (dkAt dkX8_daysWith 11 (q := (15, .invokevirtual 263, 3)) rfl) ⟨Nat.zero_le _, Nat.zero_le _⟩ (pc2 := 18) rfl rfl ?_
      obtain ⟨q3, e4, h⟩ := ob_inv h
      refine kc_S C (As := [.int q1]) (st2 := [.int q3, .int x2]) (ct_X8_bits l G sh xs q1 M q3 e4) (cl_X8_118 (hts_of C) ⟨Nat.le_of_ble_eq_true rfl, Nat.le_of_ble_eq_true rfl⟩ rfl rfl) rfl rfl (Nat.le_of_ble_eq_true rfl) (dkAt dkX8_daysWith 12 (q := (18, .invokestatic 118, 3)) rfl) ⟨Nat.zero_le _, Nat.zero_le _⟩ (pc2 := 21) rfl rfl ?_
      refine k_iload_n C (pc2 := 22) (dkAt dkX8_daysWith 13 (q := (21, .iload_n 1, 1)) rfl) rfl rfl 1 rfl ?_
      refine k_icmp_lt C (tgt := 31) (pc2 := 25) (dkAt dkX8_daysWith 14 (q := (22, .if_icmp .lt 9, 3)) rfl) (by decide) rfl h (fun h => ?_) (fun h => ?_)
      · refine k_iconst C (pc2 := 32) (dkAt dkX8_daysWith 19 (q := (31, .iconst 0, 1)) rfl) rfl (v := 0) rfl ?_
        refine k_ior C (pc2 := 33) (dkAt dkX8_daysWith 20 (q := (32, .ior, 1)) rfl) rfl ?_
        refine kb_istore_n C (pc2 := 34) (dkAt dkX8_daysWith 21 (q := (33, .istore_n 2, 1)) rfl) rfl rfl (by decide) (lv2 := fun v5 => [(2, .int v5), (0, rA G o0), (1, .int x1), (3, .int x3)]) (fun _ => rfl) h (fun v5 h => ?_)
        refine kb_iinc C (pc2 := 37) (dkAt dkX8_daysWith 22 (q := (34, .iinc 3 1, 3)) rfl) rfl (j := 3) rfl (v := x3 + 1) rfl (by decide) (lv2 := fun v6 => [(3, .int v6), (2, .int v5), (0, rA G o0), (1, .int x1)]) (fun _ => rfl) h (fun v6 h => ?_)
        refine k_goto C (tgt := 4) (dkAt dkX8_daysWith 23 (q := (37, .goto (-33), 3)) rfl) (by decide) ?_
        refine k_lv [2, 3, 1, 0] (lv2 := [(0, rA G o0), (1, .int x1), (2, .int v5), (3, .int v6)]) rfl ?_
        exact ih v5 v6 h
      · refine k_iconst C (pc2 := 26) (dkAt dkX8_daysWith 15 (q := (25, .iconst 1, 1)) rfl) rfl (v := 1) rfl ?_
        refine k_iload_n C (pc2 := 27) (dkAt dkX8_daysWith 16 (q := (26, .iload_n 3, 1)) rfl) rfl rfl 3 rfl ?_
        refine k_ishl C (pc2 := 28) (dkAt dkX8_daysWith 17 (q := (27, .ishl, 1)) rfl) rfl ?_
        refine k_goto C (tgt := 32) (dkAt dkX8_daysWith 18 (q := (28, .goto 4, 3)) rfl) (by decide) ?_
        refine k_ior C (pc2 := 33) (dkAt dkX8_daysWith 20 (q := (32, .ior, 1)) rfl) rfl ?_
        refine kb_istore_n C (pc2 := 34) (dkAt dkX8_daysWith 21 (q := (33, .istore_n 2, 1)) rfl) rfl rfl (by decide) (lv2 := fun v7 => [(2, .int v7), (0, rA G o0), (1, .int x1), (3, .int x3)]) (fun _ => rfl) h (fun v7 h => ?_)
        refine kb_iinc C (pc2 := 37) (dkAt dkX8_daysWith 22 (q := (34, .iinc 3 1, 3)) rfl) rfl (j := 3) rfl (v := x3 + 1) rfl (by decide) (lv2 := fun v8 => [(3, .int v8), (2, .int v7), (0, rA G o0), (1, .int x1)]) (fun _ => rfl) h (fun v8 h => ?_)
        refine k_goto C (tgt := 4) (dkAt dkX8_daysWith 23 (q := (37, .goto (-33), 3)) rfl) (by decide) ?_
        refine k_lv [2, 3, 1, 0] (lv2 := [(0, rA G o0), (1, .int x1), (2, .int v7), (3, .int v8)]) rfl ?_
        exact ih v7 v8 h
set_option maxRecDepth 100000 in
set_option maxHeartbeats 4000000 in
theorem ct_X8_daysWith (l : Launch) (G : GG) (sh : Sh) (xs : List va_E) (o0 : Nat) (h0 : isM sh o0) (x1 : Int32) (M : Mm) (r : Int32) (h : f_X8_daysWith o0 x1 M = some r) : Ct l yX8_daysWith cX8_daysWith 4 (some .int) rm_X8_daysWith G [rA G o0, .int x1] sh M xs (some (.int r)) sh M xs 0 0 := by
  refine ct_of (by decide) (Nat.le_of_ble_eq_true rfl) ?_
  intro p e s m args below meth c hnm C
  refine k_lv [0, 1] (lv2 := [(0, rA G o0), (1, .int x1)]) rfl ?_
  unfold f_X8_daysWith at h
  refine k_iconst C (pc2 := 1) (dkAt dkX8_daysWith 0 (q := (0, .iconst 0, 1)) rfl) rfl (v := 0) rfl ?_
  refine k_istore_n C (pc2 := 2) (dkAt dkX8_daysWith 1 (q := (1, .istore_n 2, 1)) rfl) rfl rfl (by decide) (lv2 := [(2, .int 0), (0, rA G o0), (1, .int x1)]) rfl ?_
  refine k_iconst C (pc2 := 3) (dkAt dkX8_daysWith 2 (q := (2, .iconst 0, 1)) rfl) rfl (v := 0) rfl ?_
  refine k_istore_n C (pc2 := 4) (dkAt dkX8_daysWith 3 (q := (3, .istore_n 3, 1)) rfl) rfl rfl (by decide) (lv2 := [(3, .int 0), (2, .int 0), (0, rA G o0), (1, .int x1)]) rfl ?_
  refine k_lv [2, 3, 1, 0] (lv2 := [(0, rA G o0), (1, .int x1), (2, .int 0), (3, .int 0)]) rfl ?_
  obtain ⟨v11, e10, h⟩ := ob_inv h
  refine kl_X8_daysWith_L4 C o0 h0 x1 M v11 ?_ 1000 0 0 e10
  refine k_iload_n C (pc2 := 41) (dkAt dkX8_daysWith 24 (q := (40, .iload_n 2, 1)) rfl) rfl rfl 0 rfl ?_
  exact k_iret C (dkAt dkX8_daysWith 25 (q := (41, .ireturn, 1)) rfl) (Option.some.inj h) rfl rfl rfl
set_option maxRecDepth 100000 in
set_option maxHeartbeats 4000000 in
theorem ct_X8_with (l : Launch) (G : GG) (sh : Sh) (xs : List va_E) (o0 : Nat) (h0 : isM sh o0) (x1 : Int32) (M : Mm) (r : Mm × Int32) (h : f_X8_with o0 x1 M = some r) : Ct l yX8_with cX8_with 2 (some .int) rm_X8_with G [rA G o0, .int x1] sh M xs (some (.int r.2)) sh r.1 xs 0 0 := by
  refine ct_of (by decide) (Nat.le_of_ble_eq_true rfl) ?_
  intro p e s m args below meth c hnm C
  refine k_lv [0, 1] (lv2 := [(0, rA G o0), (1, .int x1)]) rfl ?_
  unfold f_X8_with at h
  refine k_iload_n C (pc2 := 1) (dkAt dkX8_with 0 (q := (0, .iload_n 1, 1)) rfl) rfl rfl 1 rfl ?_
  refine k_i2l C (pc2 := 2) (dkAt dkX8_with 1 (q := (1, .i2l, 1)) rfl) rfl ?_
  refine k_lconst C (pc2 := 3) (dkAt dkX8_with 2 (q := (2, .lconst 0, 1)) rfl) rfl (v := 0) rfl ?_
  refine k_ldc2 C (pc2 := 6) (dkAt dkX8_with 3 (q := (3, .ldc2_w 146, 3)) rfl) rfl (v := 8) tL_X8_146 ?_
  obtain ⟨q1, e2, h⟩ := ob_inv h
  refine kc_S C (As := [.long x1.toInt64, .long 0, .long 8]) (st2 := [.int q1]) (ct_X8_in l G sh xs x1.toInt64 0 8 M q1 e2) (cl_X8_85 (hts_of C) ⟨Nat.le_of_ble_eq_true rfl, Nat.le_of_ble_eq_true rfl⟩ rfl rfl) rfl rfl (Nat.le_of_ble_eq_true rfl) (dkAt dkX8_with 4 (q := (6, .invokestatic 85, 3)) rfl) ⟨Nat.zero_le _, Nat.zero_le _⟩ (pc2 := 9) rfl rfl ?_
  refine k_if_eq C (tgt := 20) (pc2 := 12) (dkAt dkX8_with 5 (q := (9, .ifCond .eq 11, 3)) rfl) (by decide) rfl h (fun h => ?_) (fun h => ?_)
  · refine k_aload_n C (pc2 := 21) (dkAt dkX8_with 10 (q := (20, .aload_n 0, 1)) rfl) rfl rfl 0 rfl ?_
    refine k_bipush C (pc2 := 23) (dkAt dkX8_with 11 (q := (21, .bipush (-2), 2)) rfl) rfl (v := (-2)) rfl ?_
    obtain ⟨q3, e4, h⟩ := ob_inv h
    refine kc_V C (As := [.int (-2)]) (st2 := [.int q3.2]) (ct_X8_refuse l G sh xs o0 h0 (-2) M q3 e4) (cl_X8_97 (hts_of C) ⟨Nat.le_of_ble_eq_true rfl, Nat.le_of_ble_eq_true rfl⟩ rfl rfl) h0.1 rfl rfl rfl rfl rfl (Nat.le_of_ble_eq_true rfl) (dkAt dkX8_with 12 (q := (23, .invokevirtual 97, 3)) rfl) ⟨Nat.zero_le _, Nat.zero_le _⟩ (pc2 := 26) rfl rfl ?_
    exact k_iret C (dkAt dkX8_with 13 (q := (26, .ireturn, 1)) rfl) (pe2 (Option.some.inj h)) rfl (pe1 (Option.some.inj h)) rfl
  · refine k_aload_n C (pc2 := 13) (dkAt dkX8_with 6 (q := (12, .aload_n 0, 1)) rfl) rfl rfl 0 rfl ?_
    refine k_iload_n C (pc2 := 14) (dkAt dkX8_with 7 (q := (13, .iload_n 1, 1)) rfl) rfl rfl 1 rfl ?_
    obtain ⟨q5, e6, h⟩ := ob_inv h
    refine kc_V C (As := [.int x1]) (st2 := [.int q5]) (ct_X8_daysWith l G sh xs o0 h0 x1 M q5 e6) (cl_X8_277 (hts_of C) ⟨Nat.le_of_ble_eq_true rfl, Nat.le_of_ble_eq_true rfl⟩ rfl rfl) h0.1 rfl rfl rfl rfl rfl (Nat.le_of_ble_eq_true rfl) (dkAt dkX8_with 8 (q := (14, .invokevirtual 277, 3)) rfl) ⟨Nat.zero_le _, Nat.zero_le _⟩ (pc2 := 17) rfl rfl ?_
    refine k_goto C (tgt := 26) (dkAt dkX8_with 9 (q := (17, .goto 9, 3)) rfl) (by decide) ?_
    exact k_iret C (dkAt dkX8_with 13 (q := (26, .ireturn, 1)) rfl) (pe2 (Option.some.inj h)) rfl (pe1 (Option.some.inj h)) rfl
set_option maxRecDepth 100000 in
set_option maxHeartbeats 4000000 in
theorem ct_X8_mayDine (l : Launch) (G : GG) (sh : Sh) (xs : List va_E) (o0 : Nat) (h0 : isM sh o0) (x1 : Int32) (M : Mm) (r : Int32) (h : f_X8_mayDine o0 x1 M = some r) : Ct l yX8_mayDine cX8_mayDine 2 (some .boolean) rm_X8_mayDine G [rA G o0, .int x1] sh M xs (some (.int r)) sh M xs 0 0 := by
  refine ct_of (by decide) (Nat.le_of_ble_eq_true rfl) ?_
  intro p e s m args below meth c hnm C
  refine k_lv [0, 1] (lv2 := [(0, rA G o0), (1, .int x1)]) rfl ?_
  unfold f_X8_mayDine at h
  refine k_aload_n C (pc2 := 1) (dkAt dkX8_mayDine 0 (q := (0, .aload_n 0, 1)) rfl) rfl rfl 0 rfl ?_
  refine k_iload_n C (pc2 := 2) (dkAt dkX8_mayDine 1 (q := (1, .iload_n 1, 1)) rfl) rfl rfl 1 rfl ?_
  obtain ⟨q1, e2, h⟩ := ob_inv h
  refine kc_V C (As := [.int x1]) (st2 := [.int q1]) (ct_X8_thereOn l G sh xs o0 h0 x1 M q1 e2) (cl_X8_263 (hts_of C) ⟨Nat.le_of_ble_eq_true rfl, Nat.le_of_ble_eq_true rfl⟩ rfl rfl) h0.1 rfl rfl rfl rfl rfl (Nat.le_of_ble_eq_true rfl) (dkAt dkX8_mayDine 2 (q := (2, .invokevirtual 263, 3)) rfl) ⟨Nat.zero_le _, Nat.zero_le _⟩ (pc2 := 5) rfl rfl ?_
  obtain ⟨q3, e4, h⟩ := ob_inv h
  refine kc_S C (As := [.int q1]) (st2 := [.int q3]) (ct_X8_bits l G sh xs q1 M q3 e4) (cl_X8_118 (hts_of C) ⟨Nat.le_of_ble_eq_true rfl, Nat.le_of_ble_eq_true rfl⟩ rfl rfl) rfl rfl (Nat.le_of_ble_eq_true rfl) (dkAt dkX8_mayDine 3 (q := (5, .invokestatic 118, 3)) rfl) ⟨Nat.zero_le _, Nat.zero_le _⟩ (pc2 := 8) rfl rfl ?_
  refine k_aload_n C (pc2 := 9) (dkAt dkX8_mayDine 4 (q := (8, .aload_n 0, 1)) rfl) rfl rfl 0 rfl ?_
  refine kf_X8_56 C (pc2 := 12) (o := o0) (o2 := o0 + 22) h0.1 rfl (dkAt dkX8_mayDine 5 (q := (9, .getfield 56, 3)) rfl) rfl ?_
  refine k_iconst C (pc2 := 13) (dkAt dkX8_mayDine 6 (q := (12, .iconst 1, 1)) rfl) rfl (v := 1) rfl ?_
  refine k_ialdc C (pc2 := 14) (o := o0 + 22) (nA := 3) (j := 1) (isM_asked h0) (dkAt dkX8_mayDine 7 (q := (13, .iaload, 1)) rfl) rfl (by unfold vp_in; decide) (by decide) ?_
  refine k_icmp_lt C (tgt := 21) (pc2 := 17) (dkAt dkX8_mayDine 8 (q := (14, .if_icmp .lt 7, 3)) rfl) (by decide) rfl h (fun h => ?_) (fun h => ?_)
  · refine k_iconst C (pc2 := 22) (dkAt dkX8_mayDine 11 (q := (21, .iconst 0, 1)) rfl) rfl (v := 0) rfl ?_
    exact k_zret C (dkAt dkX8_mayDine 12 (q := (22, .ireturn, 1)) rfl) rfl (Option.some.inj h) rfl rfl rfl
  · refine k_iconst C (pc2 := 18) (dkAt dkX8_mayDine 9 (q := (17, .iconst 1, 1)) rfl) rfl (v := 1) rfl ?_
    refine k_goto C (tgt := 22) (dkAt dkX8_mayDine 10 (q := (18, .goto 4, 3)) rfl) (by decide) ?_
    exact k_zret C (dkAt dkX8_mayDine 12 (q := (22, .ireturn, 1)) rfl) rfl (Option.some.inj h) rfl rfl rfl
set_option maxRecDepth 100000 in
set_option maxHeartbeats 4000000 in
theorem kl_X8_run_L6 {p : Program} {l : Launch} {e : Env} {s : State} {m : MethodId} {args : Array Value} {below : List Frame} {meth : Method} {c : Code} {G : GG} {sh : Sh} {xs : List va_E} {Q : State → Prop} (C : Cx p s m c args meth G RX8 cX8_run 4 (some .int)) (o0 : Nat) (h0 : isM sh o0) (M : Mm) (y1 : Int32) (hcont : KW p l e rm_X8_run s m args below meth c G 4 Q sh xs 0 0 M 47 [(1, .int y1)] []) : ∀ (n : Nat) (x1 : Int32) (x2 : Int32) (x3 : Int32), f_X8_run_L6 o0 M n x1 x2 x3 = some y1 → KW p l e rm_X8_run s m args below meth c G 4 Q sh xs 0 0 M 6 [(0, rA G o0), (1, .int x1), (2, .int x2), (3, .int x3)] [] := by
  intro n
  induction n with
  | zero =>
    intro x1 x2 x3 h
    cases h
  | succ n ih =>
    intro x1 x2 x3 h
    unfold f_X8_run_L6 at h
    refine k_iload_n C (pc2 := 7) (dkAt dkX8_run 6 (q := (6, .iload_n 3, 1)) rfl) rfl rfl 3 rfl ?_
    refine k_aload_n C (pc2 := 8) (dkAt dkX8_run 7 (q := (7, .aload_n 0, 1)) rfl) rfl rfl 0 rfl ?_
    refine kf_X8_37 C (pc2 := 11) (o := o0) (o2 := 0) h0.1 (dkAt dkX8_run 8 (q := (8, .getfield 37, 3)) rfl) rfl ?_
    refine k_icmp_ge C (tgt := 47) (pc2 := 14) (dkAt dkX8_run 9 (q := (11, .if_icmp .ge 36, 3)) rfl) (by decide) rfl h (fun h => ?_) (fun h => ?_)
    · refine k_lv [1] (lv2 := [(1, .int x1)]) rfl ?_
      cases h
      exact hcont
    · refine k_aload_n C (pc2 := 15) (dkAt dkX8_run 10 (q := (14, .aload_n 0, 1)) rfl) rfl rfl 0 rfl ?_
      refine k_iload_n C (pc2 := 16) (dkAt dkX8_run 11 (q := (15, .iload_n 3, 1)) rfl) rfl rfl 3 rfl ?_
      obtain ⟨q1, e2, h⟩ := ob_inv h
      refine kc_V C (As := [.int x3]) (st2 := [.int q1]) (ct_X8_mayDine l G sh xs o0 h0 x3 M q1 e2) (cl_X8_280 (hts_of C) ⟨Nat.le_of_ble_eq_true rfl, Nat.le_of_ble_eq_true rfl⟩ rfl rfl) h0.1 rfl rfl rfl rfl rfl (Nat.le_of_ble_eq_true rfl) (dkAt dkX8_run 12 (q := (16, .invokevirtual 280, 3)) rfl) ⟨Nat.zero_le _, Nat.zero_le _⟩ (pc2 := 19) rfl rfl ?_
      refine k_if_eq C (tgt := 28) (pc2 := 22) (dkAt dkX8_run 13 (q := (19, .ifCond .eq 9, 3)) rfl) (by decide) rfl h (fun h => ?_) (fun h => ?_)
      · refine k_iconst C (pc2 := 29) (dkAt dkX8_run 18 (q := (28, .iconst 0, 1)) rfl) rfl (v := 0) rfl ?_
        refine k_istore_n C (pc2 := 30) (dkAt dkX8_run 19 (q := (29, .istore_n 2, 1)) rfl) rfl rfl (by decide) (lv2 := [(2, .int 0), (0, rA G o0), (1, .int x1), (3, .int x3)]) rfl ?_
        refine k_iload_n C (pc2 := 31) (dkAt dkX8_run 20 (q := (30, .iload_n 2, 1)) rfl) rfl rfl 0 rfl ?_
        refine k_iload_n C (pc2 := 32) (dkAt dkX8_run 21 (q := (31, .iload_n 1, 1)) rfl) rfl rfl 2 rfl ?_
        refine k_icmp_le C (tgt := 39) (pc2 := 35) (dkAt dkX8_run 22 (q := (32, .if_icmp .le 7, 3)) rfl) (by decide) rfl h (fun h => ?_) (fun h => ?_)
        · refine k_iload_n C (pc2 := 40) (dkAt dkX8_run 25 (q := (39, .iload_n 1, 1)) rfl) rfl rfl 2 rfl ?_
          refine k_istore_n C (pc2 := 41) (dkAt dkX8_run 26 (q := (40, .istore_n 1, 1)) rfl) rfl rfl (by decide) (lv2 := [(1, .int x1), (2, .int 0), (0, rA G o0), (3, .int x3)]) rfl ?_
          refine kb_iinc C (pc2 := 44) (dkAt dkX8_run 27 (q := (41, .iinc 3 1, 3)) rfl) rfl (j := 3) rfl (v := x3 + 1) rfl (by decide) (lv2 := fun v3 => [(3, .int v3), (1, .int x1), (2, .int 0), (0, rA G o0)]) (fun _ => rfl) h (fun v3 h => ?_)
          refine k_goto C (tgt := 6) (dkAt dkX8_run 28 (q := (44, .goto (-38), 3)) rfl) (by decide) ?_
          refine k_lv [3, 1, 2, 0] (lv2 := [(0, rA G o0), (1, .int x1), (2, .int 0), (3, .int v3)]) rfl ?_
          exact ih x1 0 v3 h
        · refine k_iload_n C (pc2 := 36) (dkAt dkX8_run 23 (q := (35, .iload_n 2, 1)) rfl) rfl rfl 0 rfl ?_
          refine k_goto C (tgt := 40) (dkAt dkX8_run 24 (q := (36, .goto 4, 3)) rfl) (by decide) ?_
          refine k_istore_n C (pc2 := 41) (dkAt dkX8_run 26 (q := (40, .istore_n 1, 1)) rfl) rfl rfl (by decide) (lv2 := [(1, .int 0), (2, .int 0), (0, rA G o0), (3, .int x3)]) rfl ?_
          refine kb_iinc C (pc2 := 44) (dkAt dkX8_run 27 (q := (41, .iinc 3 1, 3)) rfl) rfl (j := 3) rfl (v := x3 + 1) rfl (by decide) (lv2 := fun v4 => [(3, .int v4), (1, .int 0), (2, .int 0), (0, rA G o0)]) (fun _ => rfl) h (fun v4 h => ?_)
          refine k_goto C (tgt := 6) (dkAt dkX8_run 28 (q := (44, .goto (-38), 3)) rfl) (by decide) ?_
          refine k_lv [3, 1, 2, 0] (lv2 := [(0, rA G o0), (1, .int 0), (2, .int 0), (3, .int v4)]) rfl ?_
          exact ih 0 0 v4 h
      · refine k_iload_n C (pc2 := 23) (dkAt dkX8_run 14 (q := (22, .iload_n 2, 1)) rfl) rfl rfl 2 rfl ?_
        refine k_iconst C (pc2 := 24) (dkAt dkX8_run 15 (q := (23, .iconst 1, 1)) rfl) rfl (v := 1) rfl ?_
        refine k_iadd C (pc2 := 25) (dkAt dkX8_run 16 (q := (24, .iadd, 1)) rfl) rfl ?_
        refine k_goto C (tgt := 29) (dkAt dkX8_run 17 (q := (25, .goto 4, 3)) rfl) (by decide) ?_
        refine kb_istore_n C (pc2 := 30) (dkAt dkX8_run 19 (q := (29, .istore_n 2, 1)) rfl) rfl rfl (by decide) (lv2 := fun v5 => [(2, .int v5), (0, rA G o0), (1, .int x1), (3, .int x3)]) (fun _ => rfl) h (fun v5 h => ?_)
        refine k_iload_n C (pc2 := 31) (dkAt dkX8_run 20 (q := (30, .iload_n 2, 1)) rfl) rfl rfl 0 rfl ?_
        refine k_iload_n C (pc2 := 32) (dkAt dkX8_run 21 (q := (31, .iload_n 1, 1)) rfl) rfl rfl 2 rfl ?_
        refine k_icmp_le C (tgt := 39) (pc2 := 35) (dkAt dkX8_run 22 (q := (32, .if_icmp .le 7, 3)) rfl) (by decide) rfl h (fun h => ?_) (fun h => ?_)
        · refine k_iload_n C (pc2 := 40) (dkAt dkX8_run 25 (q := (39, .iload_n 1, 1)) rfl) rfl rfl 2 rfl ?_
          refine k_istore_n C (pc2 := 41) (dkAt dkX8_run 26 (q := (40, .istore_n 1, 1)) rfl) rfl rfl (by decide) (lv2 := [(1, .int x1), (2, .int v5), (0, rA G o0), (3, .int x3)]) rfl ?_
          refine kb_iinc C (pc2 := 44) (dkAt dkX8_run 27 (q := (41, .iinc 3 1, 3)) rfl) rfl (j := 3) rfl (v := x3 + 1) rfl (by decide) (lv2 := fun v6 => [(3, .int v6), (1, .int x1), (2, .int v5), (0, rA G o0)]) (fun _ => rfl) h (fun v6 h => ?_)
          refine k_goto C (tgt := 6) (dkAt dkX8_run 28 (q := (44, .goto (-38), 3)) rfl) (by decide) ?_
          refine k_lv [3, 1, 2, 0] (lv2 := [(0, rA G o0), (1, .int x1), (2, .int v5), (3, .int v6)]) rfl ?_
          exact ih x1 v5 v6 h
        · refine k_iload_n C (pc2 := 36) (dkAt dkX8_run 23 (q := (35, .iload_n 2, 1)) rfl) rfl rfl 0 rfl ?_
          refine k_goto C (tgt := 40) (dkAt dkX8_run 24 (q := (36, .goto 4, 3)) rfl) (by decide) ?_
          refine k_istore_n C (pc2 := 41) (dkAt dkX8_run 26 (q := (40, .istore_n 1, 1)) rfl) rfl rfl (by decide) (lv2 := [(1, .int v5), (2, .int v5), (0, rA G o0), (3, .int x3)]) rfl ?_
          refine kb_iinc C (pc2 := 44) (dkAt dkX8_run 27 (q := (41, .iinc 3 1, 3)) rfl) rfl (j := 3) rfl (v := x3 + 1) rfl (by decide) (lv2 := fun v7 => [(3, .int v7), (1, .int v5), (2, .int v5), (0, rA G o0)]) (fun _ => rfl) h (fun v7 h => ?_)
          refine k_goto C (tgt := 6) (dkAt dkX8_run 28 (q := (44, .goto (-38), 3)) rfl) (by decide) ?_
          refine k_lv [3, 1, 2, 0] (lv2 := [(0, rA G o0), (1, .int v5), (2, .int v5), (3, .int v7)]) rfl ?_
          exact ih v5 v5 v7 h
set_option maxRecDepth 100000 in
set_option maxHeartbeats 4000000 in
theorem ct_X8_run (l : Launch) (G : GG) (sh : Sh) (xs : List va_E) (o0 : Nat) (h0 : isM sh o0) (M : Mm) (r : Int32) (h : f_X8_run o0 M = some r) : Ct l yX8_run cX8_run 4 (some .int) rm_X8_run G [rA G o0] sh M xs (some (.int r)) sh M xs 0 0 := by
  refine ct_of (by decide) (Nat.le_of_ble_eq_true rfl) ?_
  intro p e s m args below meth c hnm C
  refine k_lv [0] (lv2 := [(0, rA G o0)]) rfl ?_
  unfold f_X8_run at h
  refine k_iconst C (pc2 := 1) (dkAt dkX8_run 0 (q := (0, .iconst 0, 1)) rfl) rfl (v := 0) rfl ?_
  refine k_istore_n C (pc2 := 2) (dkAt dkX8_run 1 (q := (1, .istore_n 1, 1)) rfl) rfl rfl (by decide) (lv2 := [(1, .int 0), (0, rA G o0)]) rfl ?_
  refine k_iconst C (pc2 := 3) (dkAt dkX8_run 2 (q := (2, .iconst 0, 1)) rfl) rfl (v := 0) rfl ?_
  refine k_istore_n C (pc2 := 4) (dkAt dkX8_run 3 (q := (3, .istore_n 2, 1)) rfl) rfl rfl (by decide) (lv2 := [(2, .int 0), (1, .int 0), (0, rA G o0)]) rfl ?_
  refine k_iconst C (pc2 := 5) (dkAt dkX8_run 4 (q := (4, .iconst 0, 1)) rfl) rfl (v := 0) rfl ?_
  refine k_istore_n C (pc2 := 6) (dkAt dkX8_run 5 (q := (5, .istore_n 3, 1)) rfl) rfl rfl (by decide) (lv2 := [(3, .int 0), (2, .int 0), (1, .int 0), (0, rA G o0)]) rfl ?_
  refine k_lv [3, 2, 1, 0] (lv2 := [(0, rA G o0), (1, .int 0), (2, .int 0), (3, .int 0)]) rfl ?_
  obtain ⟨v10, e9, h⟩ := ob_inv h
  refine kl_X8_run_L6 C o0 h0 M v10 ?_ 1000 0 0 0 e9
  refine k_iload_n C (pc2 := 48) (dkAt dkX8_run 29 (q := (47, .iload_n 1, 1)) rfl) rfl rfl 0 rfl ?_
  exact k_iret C (dkAt dkX8_run 30 (q := (48, .ireturn, 1)) rfl) (Option.some.inj h) rfl rfl rfl
set_option maxRecDepth 100000 in
set_option maxHeartbeats 4000000 in
theorem kl_X8_later_L18 {p : Program} {l : Launch} {e : Env} {s : State} {m : MethodId} {args : Array Value} {below : List Frame} {meth : Method} {c : Code} {G : GG} {sh : Sh} {xs : List va_E} (C : Cx p s m c args meth G RX8 cX8_later 3 (some .int)) (o0 : Nat) (h0 : isM sh o0) (M : Mm) (r : Mm × Int32) (t : (Unit) ⊕ (Mm × Int32)) (hcont : t = Sum.inl () → KW p l e rm_X8_later s m args below meth c G 3 (MQ below (QO G (some (.int r.2)) sh r.1 xs) args s 0 0 (gA G)) sh xs 0 0 M 42 [] []) (hres : ∀ z, t = Sum.inr z → z = r) : ∀ (n : Nat) (x2 : Int32), f_X8_later_L18 o0 M n x2 = some t → KW p l e rm_X8_later s m args below meth c G 3 (MQ below (QO G (some (.int r.2)) sh r.1 xs) args s 0 0 (gA G)) sh xs 0 0 M 18 [(0, rA G o0), (2, .int x2)] [] := by
  intro n
  induction n with
  | zero =>
    intro x2 h
    cases h
  | succ n ih =>
    intro x2 h
    unfold f_X8_later_L18 at h
    refine k_iload_n C (pc2 := 19) (dkAt dkX8_later 11 (q := (18, .iload_n 2, 1)) rfl) rfl rfl 1 rfl ?_
    refine k_aload_n C (pc2 := 20) (dkAt dkX8_later 12 (q := (19, .aload_n 0, 1)) rfl) rfl rfl 0 rfl ?_
    refine kf_X8_37 C (pc2 := 23) (o := o0) (o2 := 0) h0.1 (dkAt dkX8_later 13 (q := (20, .getfield 37, 3)) rfl) rfl ?_
    refine k_icmp_ge C (tgt := 42) (pc2 := 26) (dkAt dkX8_later 14 (q := (23, .if_icmp .ge 19, 3)) rfl) (by decide) rfl h (fun h => ?_) (fun h => ?_)
    · refine k_lv [] (lv2 := []) rfl ?_
      exact hcont (Option.some.inj h).symm
    · refine k_aload_n C (pc2 := 27) (dkAt dkX8_later 15 (q := (26, .aload_n 0, 1)) rfl) rfl rfl 0 rfl ?_
      refine k_iload_n C (pc2 := 28) (dkAt dkX8_later 16 (q := (27, .iload_n 2, 1)) rfl) rfl rfl 1 rfl ?_
      obtain ⟨q3, e4, h⟩ := ob_inv h
      refine kc_V C (As := [.int x2]) (st2 := [.int q3]) (ct_X8_mayDine l G sh xs o0 h0 x2 M q3 e4) (cl_X8_280 (hts_of C) ⟨Nat.le_of_ble_eq_true rfl, Nat.le_of_ble_eq_true rfl⟩ rfl rfl) h0.1 rfl rfl rfl rfl rfl (Nat.le_of_ble_eq_true rfl) (dkAt dkX8_later 17 (q := (28, .invokevirtual 280, 3)) rfl) ⟨Nat.zero_le _, Nat.zero_le _⟩ (pc2 := 31) rfl rfl ?_
      refine k_if_eq C (tgt := 36) (pc2 := 34) (dkAt dkX8_later 18 (q := (31, .ifCond .eq 5, 3)) rfl) (by decide) rfl h (fun h => ?_) (fun h => ?_)
      · refine kb_iinc C (pc2 := 39) (dkAt dkX8_later 21 (q := (36, .iinc 2 1, 3)) rfl) rfl (j := 1) rfl (v := x2 + 1) rfl (by decide) (lv2 := fun v5 => [(2, .int v5), (0, rA G o0)]) (fun _ => rfl) h (fun v5 h => ?_)
        refine k_goto C (tgt := 18) (dkAt dkX8_later 22 (q := (39, .goto (-21), 3)) rfl) (by decide) ?_
        refine k_lv [1, 0] (lv2 := [(0, rA G o0), (2, .int v5)]) rfl ?_
        exact ih v5 h
      · refine k_iload_n C (pc2 := 35) (dkAt dkX8_later 19 (q := (34, .iload_n 2, 1)) rfl) rfl rfl 1 rfl ?_
        exact k_iret C (dkAt dkX8_later 20 (q := (35, .ireturn, 1)) rfl) (pe2 (hres _ (Option.some.inj h).symm)) rfl (pe1 (hres _ (Option.some.inj h).symm)) rfl
set_option maxRecDepth 100000 in
set_option maxHeartbeats 4000000 in
theorem ct_X8_later (l : Launch) (G : GG) (sh : Sh) (xs : List va_E) (o0 : Nat) (h0 : isM sh o0) (x1 : Int32) (M : Mm) (r : Mm × Int32) (h : f_X8_later o0 x1 M = some r) : Ct l yX8_later cX8_later 3 (some .int) rm_X8_later G [rA G o0, .int x1] sh M xs (some (.int r.2)) sh r.1 xs 0 0 := by
  refine ct_of (by decide) (Nat.le_of_ble_eq_true rfl) ?_
  intro p e s m args below meth c hnm C
  refine k_lv [0, 1] (lv2 := [(0, rA G o0), (1, .int x1)]) rfl ?_
  unfold f_X8_later at h
  refine k_aload_n C (pc2 := 1) (dkAt dkX8_later 0 (q := (0, .aload_n 0, 1)) rfl) rfl rfl 0 rfl ?_
  refine k_iload_n C (pc2 := 2) (dkAt dkX8_later 1 (q := (1, .iload_n 1, 1)) rfl) rfl rfl 1 rfl ?_
  refine k_i2l C (pc2 := 3) (dkAt dkX8_later 2 (q := (2, .i2l, 1)) rfl) rfl ?_
  obtain ⟨q1, e2, h⟩ := ob_inv h
  refine kc_V C (As := [.long x1.toInt64]) (st2 := [.int q1]) (ct_X8_isDay l G sh xs o0 h0 x1.toInt64 M q1 e2) (cl_X8_135 (hts_of C) ⟨Nat.le_of_ble_eq_true rfl, Nat.le_of_ble_eq_true rfl⟩ rfl rfl) h0.1 rfl rfl rfl rfl rfl (Nat.le_of_ble_eq_true rfl) (dkAt dkX8_later 3 (q := (3, .invokevirtual 135, 3)) rfl) ⟨Nat.zero_le _, Nat.zero_le _⟩ (pc2 := 6) rfl rfl ?_
  refine k_if_ne C (tgt := 16) (pc2 := 9) (dkAt dkX8_later 4 (q := (6, .ifCond .ne 10, 3)) rfl) (by decide) rfl h (fun h => ?_) (fun h => ?_)
  · refine k_iload_n C (pc2 := 17) (dkAt dkX8_later 9 (q := (16, .iload_n 1, 1)) rfl) rfl rfl 1 rfl ?_
    refine k_istore_n C (pc2 := 18) (dkAt dkX8_later 10 (q := (17, .istore_n 2, 1)) rfl) rfl rfl (by decide) (lv2 := [(2, .int x1), (0, rA G o0), (1, .int x1)]) rfl ?_
    refine k_lv [1, 0] (lv2 := [(0, rA G o0), (2, .int x1)]) rfl ?_
    obtain ⟨t6, e7, hA, hB⟩ := obS_inv h
    refine kl_X8_later_L18 C o0 h0 M r t6 ?_ ?_ 1000 x1 e7
    · intro et
      have h := hA _ et
      refine k_iconst C (pc2 := 43) (dkAt dkX8_later 23 (q := (42, .iconst (-1), 1)) rfl) rfl (v := (-1)) rfl ?_
      exact k_iret C (dkAt dkX8_later 24 (q := (43, .ireturn, 1)) rfl) (pe2 (Option.some.inj h)) rfl (pe1 (Option.some.inj h)) rfl
    · intro z et
      have h := hB _ et
      exact Option.some.inj h
  · refine k_aload_n C (pc2 := 10) (dkAt dkX8_later 5 (q := (9, .aload_n 0, 1)) rfl) rfl rfl 0 rfl ?_
    refine k_bipush C (pc2 := 12) (dkAt dkX8_later 6 (q := (10, .bipush (-2), 2)) rfl) rfl (v := (-2)) rfl ?_
    obtain ⟨q8, e9, h⟩ := ob_inv h
    refine kc_V C (As := [.int (-2)]) (st2 := [.int q8.2]) (ct_X8_refuse l G sh xs o0 h0 (-2) M q8 e9) (cl_X8_97 (hts_of C) ⟨Nat.le_of_ble_eq_true rfl, Nat.le_of_ble_eq_true rfl⟩ rfl rfl) h0.1 rfl rfl rfl rfl rfl (Nat.le_of_ble_eq_true rfl) (dkAt dkX8_later 7 (q := (12, .invokevirtual 97, 3)) rfl) ⟨Nat.zero_le _, Nat.zero_le _⟩ (pc2 := 15) rfl rfl ?_
    exact k_iret C (dkAt dkX8_later 8 (q := (15, .ireturn, 1)) rfl) (pe2 (Option.some.inj h)) rfl (pe1 (Option.some.inj h)) rfl
set_option maxRecDepth 100000 in
set_option maxHeartbeats 4000000 in
theorem kl_X8_weeks_L23 {p : Program} {l : Launch} {e : Env} {s : State} {m : MethodId} {args : Array Value} {below : List Frame} {meth : Method} {c : Code} {G : GG} {sh : Sh} {xs : List va_E} {Q : State → Prop} (C : Cx p s m c args meth G RX8 cX8_weeks 4 (some .int)) (o0 : Nat) (h0 : isM sh o0) (M : Mm) (y2 : Int32) (hcont : KW p l e rm_X8_weeks s m args below meth c G 4 Q sh xs 0 0 M 48 [(2, .int y2)] []) : ∀ (n : Nat) (x2 : Int32) (x3 : Int32), f_X8_weeks_L23 o0 M n x2 x3 = some y2 → KW p l e rm_X8_weeks s m args below meth c G 4 Q sh xs 0 0 M 23 [(0, rA G o0), (2, .int x2), (3, .int x3)] [] := by
  intro n
  induction n with
  | zero =>
    intro x2 x3 h
    cases h
  | succ n ih =>
    intro x2 x3 h
    unfold f_X8_weeks_L23 at h
    refine k_iload_n C (pc2 := 24) (dkAt dkX8_weeks 14 (q := (23, .iload_n 3, 1)) rfl) rfl rfl 2 rfl ?_
    refine k_aload_n C (pc2 := 25) (dkAt dkX8_weeks 15 (q := (24, .aload_n 0, 1)) rfl) rfl rfl 0 rfl ?_
    refine kf_X8_37 C (pc2 := 28) (o := o0) (o2 := 0) h0.1 (dkAt dkX8_weeks 16 (q := (25, .getfield 37, 3)) rfl) rfl ?_
    refine k_icmp_ge C (tgt := 48) (pc2 := 31) (dkAt dkX8_weeks 17 (q := (28, .if_icmp .ge 20, 3)) rfl) (by decide) rfl h (fun h => ?_) (fun h => ?_)
    · refine k_lv [1] (lv2 := [(2, .int x2)]) rfl ?_
      cases h
      exact hcont
    · refine k_iload_n C (pc2 := 32) (dkAt dkX8_weeks 18 (q := (31, .iload_n 2, 1)) rfl) rfl rfl 1 rfl ?_
      refine k_aload_n C (pc2 := 33) (dkAt dkX8_weeks 19 (q := (32, .aload_n 0, 1)) rfl) rfl rfl 0 rfl ?_
      refine k_iload_n C (pc2 := 34) (dkAt dkX8_weeks 20 (q := (33, .iload_n 3, 1)) rfl) rfl rfl 2 rfl ?_
      obtain ⟨q3, e4, h⟩ := ob_inv h
      refine kc_V C (As := [.int x3]) (st2 := [.int q3, .int x2]) (ct_X8_thereOn l G sh xs o0 h0 x3 M q3 e4) (cl_X8_263 (hts_of C) ⟨Nat.le_of_ble_eq_true rfl, Nat.le_of_ble_eq_true rfl⟩ rfl rfl) h0.1 rfl rfl rfl rfl rfl (Nat.le_of_ble_eq_true rfl) (dkAt dkX8_weeks 21 (q := (34, .invokevirtual 263, 3)) rfl) ⟨Nat.zero_le _, Nat.zero_le _⟩ (pc2 := 37) rfl rfl ?_
      obtain ⟨q5, e6, h⟩ := ob_inv h
      refine kc_S C (As := [.int q3]) (st2 := [.int q5, .int x2]) (ct_X8_bits l G sh xs q3 M q5 e6) (cl_X8_118 (hts_of C) ⟨Nat.le_of_ble_eq_true rfl, Nat.le_of_ble_eq_true rfl⟩ rfl rfl) rfl rfl (Nat.le_of_ble_eq_true rfl) (dkAt dkX8_weeks 22 (q := (37, .invokestatic 118, 3)) rfl) ⟨Nat.zero_le _, Nat.zero_le _⟩ (pc2 := 40) rfl rfl ?_
      refine k_iadd C (pc2 := 41) (dkAt dkX8_weeks 23 (q := (40, .iadd, 1)) rfl) rfl ?_
      refine kb_istore_n C (pc2 := 42) (dkAt dkX8_weeks 24 (q := (41, .istore_n 2, 1)) rfl) rfl rfl (by decide) (lv2 := fun v7 => [(2, .int v7), (0, rA G o0), (3, .int x3)]) (fun _ => rfl) h (fun v7 h => ?_)
      refine kb_iinc C (pc2 := 45) (dkAt dkX8_weeks 25 (q := (42, .iinc 3 7, 3)) rfl) rfl (j := 2) rfl (v := x3 + 7) rfl (by decide) (lv2 := fun v8 => [(3, .int v8), (2, .int v7), (0, rA G o0)]) (fun _ => rfl) h (fun v8 h => ?_)
      refine k_goto C (tgt := 23) (dkAt dkX8_weeks 26 (q := (45, .goto (-22), 3)) rfl) (by decide) ?_
      refine k_lv [2, 1, 0] (lv2 := [(0, rA G o0), (2, .int v7), (3, .int v8)]) rfl ?_
      exact ih v7 v8 h
set_option maxRecDepth 100000 in
set_option maxHeartbeats 4000000 in
theorem ct_X8_weeks (l : Launch) (G : GG) (sh : Sh) (xs : List va_E) (o0 : Nat) (h0 : isM sh o0) (x1 : Int32) (M : Mm) (r : Mm × Int32) (h : f_X8_weeks o0 x1 M = some r) : Ct l yX8_weeks cX8_weeks 4 (some .int) rm_X8_weeks G [rA G o0, .int x1] sh M xs (some (.int r.2)) sh r.1 xs 0 0 := by
  refine ct_of (by decide) (Nat.le_of_ble_eq_true rfl) ?_
  intro p e s m args below meth c hnm C
  refine k_lv [0, 1] (lv2 := [(0, rA G o0), (1, .int x1)]) rfl ?_
  unfold f_X8_weeks at h
  refine k_iload_n C (pc2 := 1) (dkAt dkX8_weeks 0 (q := (0, .iload_n 1, 1)) rfl) rfl rfl 1 rfl ?_
  refine k_i2l C (pc2 := 2) (dkAt dkX8_weeks 1 (q := (1, .i2l, 1)) rfl) rfl ?_
  refine k_lconst C (pc2 := 3) (dkAt dkX8_weeks 2 (q := (2, .lconst 0, 1)) rfl) rfl (v := 0) rfl ?_
  refine k_ldc2 C (pc2 := 6) (dkAt dkX8_weeks 3 (q := (3, .ldc2_w 283, 3)) rfl) rfl (v := 6) tL_X8_283 ?_
  obtain ⟨q1, e2, h⟩ := ob_inv h
  refine kc_S C (As := [.long x1.toInt64, .long 0, .long 6]) (st2 := [.int q1]) (ct_X8_in l G sh xs x1.toInt64 0 6 M q1 e2) (cl_X8_85 (hts_of C) ⟨Nat.le_of_ble_eq_true rfl, Nat.le_of_ble_eq_true rfl⟩ rfl rfl) rfl rfl (Nat.le_of_ble_eq_true rfl) (dkAt dkX8_weeks 4 (q := (6, .invokestatic 85, 3)) rfl) ⟨Nat.zero_le _, Nat.zero_le _⟩ (pc2 := 9) rfl rfl ?_
  refine k_if_ne C (tgt := 19) (pc2 := 12) (dkAt dkX8_weeks 5 (q := (9, .ifCond .ne 10, 3)) rfl) (by decide) rfl h (fun h => ?_) (fun h => ?_)
  · refine k_iconst C (pc2 := 20) (dkAt dkX8_weeks 10 (q := (19, .iconst 0, 1)) rfl) rfl (v := 0) rfl ?_
    refine k_istore_n C (pc2 := 21) (dkAt dkX8_weeks 11 (q := (20, .istore_n 2, 1)) rfl) rfl rfl (by decide) (lv2 := [(2, .int 0), (0, rA G o0), (1, .int x1)]) rfl ?_
    refine k_iload_n C (pc2 := 22) (dkAt dkX8_weeks 12 (q := (21, .iload_n 1, 1)) rfl) rfl rfl 2 rfl ?_
    refine k_istore_n C (pc2 := 23) (dkAt dkX8_weeks 13 (q := (22, .istore_n 3, 1)) rfl) rfl rfl (by decide) (lv2 := [(3, .int x1), (2, .int 0), (0, rA G o0), (1, .int x1)]) rfl ?_
    refine k_lv [2, 1, 0] (lv2 := [(0, rA G o0), (2, .int 0), (3, .int x1)]) rfl ?_
    obtain ⟨v11, e10, h⟩ := ob_inv h
    refine kl_X8_weeks_L23 C o0 h0 M v11 ?_ 1000 0 x1 e10
    refine k_iload_n C (pc2 := 49) (dkAt dkX8_weeks 27 (q := (48, .iload_n 2, 1)) rfl) rfl rfl 0 rfl ?_
    exact k_iret C (dkAt dkX8_weeks 28 (q := (49, .ireturn, 1)) rfl) (pe2 (Option.some.inj h)) rfl (pe1 (Option.some.inj h)) rfl
  · refine k_aload_n C (pc2 := 13) (dkAt dkX8_weeks 6 (q := (12, .aload_n 0, 1)) rfl) rfl rfl 0 rfl ?_
    refine k_bipush C (pc2 := 15) (dkAt dkX8_weeks 7 (q := (13, .bipush (-2), 2)) rfl) rfl (v := (-2)) rfl ?_
    obtain ⟨q12, e13, h⟩ := ob_inv h
    refine kc_V C (As := [.int (-2)]) (st2 := [.int q12.2]) (ct_X8_refuse l G sh xs o0 h0 (-2) M q12 e13) (cl_X8_97 (hts_of C) ⟨Nat.le_of_ble_eq_true rfl, Nat.le_of_ble_eq_true rfl⟩ rfl rfl) h0.1 rfl rfl rfl rfl rfl (Nat.le_of_ble_eq_true rfl) (dkAt dkX8_weeks 8 (q := (15, .invokevirtual 97, 3)) rfl) ⟨Nat.zero_le _, Nat.zero_le _⟩ (pc2 := 18) rfl rfl ?_
    exact k_iret C (dkAt dkX8_weeks 9 (q := (18, .ireturn, 1)) rfl) (pe2 (Option.some.inj h)) rfl (pe1 (Option.some.inj h)) rfl
set_option maxRecDepth 100000 in
set_option maxHeartbeats 4000000 in
theorem kl_X8_freeNow_L4 {p : Program} {l : Launch} {e : Env} {s : State} {m : MethodId} {args : Array Value} {below : List Frame} {meth : Method} {c : Code} {G : GG} {sh : Sh} {xs : List va_E} {Q : State → Prop} (C : Cx p s m c args meth G RX8 cX8_freeNow 3 (some .int)) (o0 : Nat) (h0 : isM sh o0) (M : Mm) (y1 : Int32) (hcont : KW p l e rm_X8_freeNow s m args below meth c G 3 Q sh xs 0 0 M 30 [(1, .int y1)] []) : ∀ (n : Nat) (x1 : Int32) (x2 : Int32), f_X8_freeNow_L4 o0 M n x1 x2 = some y1 → KW p l e rm_X8_freeNow s m args below meth c G 3 Q sh xs 0 0 M 4 [(0, rA G o0), (1, .int x1), (2, .int x2)] [] := by
  intro n
  induction n with
  | zero =>
    intro x1 x2 h
    cases h
  | succ n ih =>
    intro x1 x2 h
    unfold f_X8_freeNow_L4 at h
    refine k_iload_n C (pc2 := 5) (dkAt dkX8_freeNow 4 (q := (4, .iload_n 2, 1)) rfl) rfl rfl 2 rfl ?_
    refine k_aload_n C (pc2 := 6) (dkAt dkX8_freeNow 5 (q := (5, .aload_n 0, 1)) rfl) rfl rfl 0 rfl ?_
    refine kf_X8_82 C (pc2 := 9) (o := o0) (o2 := 0) h0.1 (dkAt dkX8_freeNow 6 (q := (6, .getfield 82, 3)) rfl) rfl ?_
    refine k_icmp_ge C (tgt := 30) (pc2 := 12) (dkAt dkX8_freeNow 7 (q := (9, .if_icmp .ge 21, 3)) rfl) (by decide) rfl h (fun h => ?_) (fun h => ?_)
    · refine k_lv [1] (lv2 := [(1, .int x1)]) rfl ?_
      cases h
      exact hcont
    · refine k_iload_n C (pc2 := 13) (dkAt dkX8_freeNow 8 (q := (12, .iload_n 1, 1)) rfl) rfl rfl 1 rfl ?_
      refine k_aload_n C (pc2 := 14) (dkAt dkX8_freeNow 9 (q := (13, .aload_n 0, 1)) rfl) rfl rfl 0 rfl ?_
      refine kf_X8_50 C (pc2 := 17) (o := o0) (o2 := o0 + 20) h0.1 rfl (dkAt dkX8_freeNow 10 (q := (14, .getfield 50, 3)) rfl) rfl ?_
      refine k_iload_n C (pc2 := 18) (dkAt dkX8_freeNow 11 (q := (17, .iload_n 2, 1)) rfl) rfl rfl 2 rfl ?_
      refine k_iald C (pc2 := 19) (o := o0 + 20) (nA := 8) (isM_can h0) (dkAt dkX8_freeNow 12 (q := (18, .iaload, 1)) rfl) rfl h (fun h => ?_)
      obtain ⟨q1, e2, h⟩ := ob_inv h
      refine kc_S C (As := [.int (M.1 (o0 + 20) x2.toNatClampNeg)]) (st2 := [.int q1, .int x1]) (ct_X8_bits l G sh xs (M.1 (o0 + 20) x2.toNatClampNeg) M q1 e2) (cl_X8_118 (hts_of C) ⟨Nat.le_of_ble_eq_true rfl, Nat.le_of_ble_eq_true rfl⟩ rfl rfl) rfl rfl (Nat.le_of_ble_eq_true rfl) (dkAt dkX8_freeNow 13 (q := (19, .invokestatic 118, 3)) rfl) ⟨Nat.zero_le _, Nat.zero_le _⟩ (pc2 := 22) rfl rfl ?_
      refine k_iadd C (pc2 := 23) (dkAt dkX8_freeNow 14 (q := (22, .iadd, 1)) rfl) rfl ?_
      refine kb_istore_n C (pc2 := 24) (dkAt dkX8_freeNow 15 (q := (23, .istore_n 1, 1)) rfl) rfl rfl (by decide) (lv2 := fun v3 => [(1, .int v3), (0, rA G o0), (2, .int x2)]) (fun _ => rfl) h (fun v3 h => ?_)
      refine kb_iinc C (pc2 := 27) (dkAt dkX8_freeNow 16 (q := (24, .iinc 2 1, 3)) rfl) rfl (j := 2) rfl (v := x2 + 1) rfl (by decide) (lv2 := fun v4 => [(2, .int v4), (1, .int v3), (0, rA G o0)]) (fun _ => rfl) h (fun v4 h => ?_)
      refine k_goto C (tgt := 4) (dkAt dkX8_freeNow 17 (q := (27, .goto (-23), 3)) rfl) (by decide) ?_
      refine k_lv [2, 1, 0] (lv2 := [(0, rA G o0), (1, .int v3), (2, .int v4)]) rfl ?_
      exact ih v3 v4 h
set_option maxRecDepth 100000 in
set_option maxHeartbeats 4000000 in
theorem ct_X8_freeNow (l : Launch) (G : GG) (sh : Sh) (xs : List va_E) (o0 : Nat) (h0 : isM sh o0) (M : Mm) (r : Int32) (h : f_X8_freeNow o0 M = some r) : Ct l yX8_freeNow cX8_freeNow 3 (some .int) rm_X8_freeNow G [rA G o0] sh M xs (some (.int r)) sh M xs 0 0 := by
  refine ct_of (by decide) (Nat.le_of_ble_eq_true rfl) ?_
  intro p e s m args below meth c hnm C
  refine k_lv [0] (lv2 := [(0, rA G o0)]) rfl ?_
  unfold f_X8_freeNow at h
  refine k_iconst C (pc2 := 1) (dkAt dkX8_freeNow 0 (q := (0, .iconst 0, 1)) rfl) rfl (v := 0) rfl ?_
  refine k_istore_n C (pc2 := 2) (dkAt dkX8_freeNow 1 (q := (1, .istore_n 1, 1)) rfl) rfl rfl (by decide) (lv2 := [(1, .int 0), (0, rA G o0)]) rfl ?_
  refine k_iconst C (pc2 := 3) (dkAt dkX8_freeNow 2 (q := (2, .iconst 0, 1)) rfl) rfl (v := 0) rfl ?_
  refine k_istore_n C (pc2 := 4) (dkAt dkX8_freeNow 3 (q := (3, .istore_n 2, 1)) rfl) rfl rfl (by decide) (lv2 := [(2, .int 0), (1, .int 0), (0, rA G o0)]) rfl ?_
  refine k_lv [2, 1, 0] (lv2 := [(0, rA G o0), (1, .int 0), (2, .int 0)]) rfl ?_
  obtain ⟨v7, e6, h⟩ := ob_inv h
  refine kl_X8_freeNow_L4 C o0 h0 M v7 ?_ 1000 0 0 e6
  refine k_iload_n C (pc2 := 31) (dkAt dkX8_freeNow 18 (q := (30, .iload_n 1, 1)) rfl) rfl rfl 0 rfl ?_
  exact k_iret C (dkAt dkX8_freeNow 19 (q := (31, .ireturn, 1)) rfl) (Option.some.inj h) rfl rfl rfl
set_option maxRecDepth 100000 in
set_option maxHeartbeats 4000000 in
theorem ct_X8_mean (l : Launch) (G : GG) (sh : Sh) (xs : List va_E) (o0 : Nat) (h0 : isM sh o0) (M : Mm) (r : Int32) (h : f_X8_mean o0 M = some r) : Ct l yX8_mean cX8_mean 1 (some .int) rm_X8_mean G [rA G o0] sh M xs (some (.int r)) sh M xs 0 0 := by
  refine ct_of (by decide) (Nat.le_of_ble_eq_true rfl) ?_
  intro p e s m args below meth c hnm C
  refine k_lv [0] (lv2 := [(0, rA G o0)]) rfl ?_
  unfold f_X8_mean at h
  refine k_sipush C (pc2 := 3) (dkAt dkX8_mean 0 (q := (0, .sipush 1000, 3)) rfl) rfl (v := 1000) rfl ?_
  refine k_aload_n C (pc2 := 4) (dkAt dkX8_mean 1 (q := (3, .aload_n 0, 1)) rfl) rfl rfl 0 rfl ?_
  obtain ⟨q1, e2, h⟩ := ob_inv h
  refine kc_V C (As := []) (st2 := [.int q1, .int 1000]) (ct_X8_freeNow l G sh xs o0 h0 M q1 e2) (cl_X8_285 (hts_of C) ⟨Nat.le_of_ble_eq_true rfl, Nat.le_of_ble_eq_true rfl⟩ rfl rfl) h0.1 rfl rfl rfl rfl rfl (Nat.le_of_ble_eq_true rfl) (dkAt dkX8_mean 2 (q := (4, .invokevirtual 285, 3)) rfl) ⟨Nat.zero_le _, Nat.zero_le _⟩ (pc2 := 7) rfl rfl ?_
  refine k_imul C (pc2 := 8) (dkAt dkX8_mean 3 (q := (7, .imul, 1)) rfl) rfl ?_
  refine k_aload_n C (pc2 := 9) (dkAt dkX8_mean 4 (q := (8, .aload_n 0, 1)) rfl) rfl rfl 0 rfl ?_
  refine kf_X8_37 C (pc2 := 12) (o := o0) (o2 := 0) h0.1 (dkAt dkX8_mean 5 (q := (9, .getfield 37, 3)) rfl) rfl ?_
  obtain ⟨hz, h⟩ := chz_inv h
  refine k_idivc C (pc2 := 13) (dkAt dkX8_mean 6 (q := (12, .idiv, 1)) rfl) rfl hz ?_
  exact k_iret C (dkAt dkX8_mean 7 (q := (13, .ireturn, 1)) rfl) (Option.some.inj h) rfl rfl rfl
set_option maxRecDepth 100000 in
set_option maxHeartbeats 4000000 in
theorem kl_X8_spread_L7 {p : Program} {l : Launch} {e : Env} {s : State} {m : MethodId} {args : Array Value} {below : List Frame} {meth : Method} {c : Code} {G : GG} {sh : Sh} {xs : List va_E} {Q : State → Prop} (C : Cx p s m c args meth G RX8 cX8_spread 4 (some .int)) (o0 : Nat) (h0 : isM sh o0) (M : Mm) (y1 : Int32) (y2 : Int32) (hcont : KW p l e rm_X8_spread s m args below meth c G 4 Q sh xs 0 0 M 63 [(0, rA G o0), (1, .int y1), (2, .int y2)] []) : ∀ (n : Nat) (x1 : Int32) (x2 : Int32) (x3 : Int32), f_X8_spread_L7 o0 M n x1 x2 x3 = some (y1, y2) → KW p l e rm_X8_spread s m args below meth c G 4 Q sh xs 0 0 M 7 [(0, rA G o0), (1, .int x1), (2, .int x2), (3, .int x3)] [] := by
  intro n
  induction n with
  | zero =>
    intro x1 x2 x3 h
    cases h
  | succ n ih =>
    intro x1 x2 x3 h
    unfold f_X8_spread_L7 at h
    refine k_iload_n C (pc2 := 8) (dkAt dkX8_spread 6 (q := (7, .iload_n 3, 1)) rfl) rfl rfl 3 rfl ?_
    refine k_aload_n C (pc2 := 9) (dkAt dkX8_spread 7 (q := (8, .aload_n 0, 1)) rfl) rfl rfl 0 rfl ?_
    refine kf_X8_82 C (pc2 := 12) (o := o0) (o2 := 0) h0.1 (dkAt dkX8_spread 8 (q := (9, .getfield 82, 3)) rfl) rfl ?_
    refine k_icmp_ge C (tgt := 63) (pc2 := 15) (dkAt dkX8_spread 9 (q := (12, .if_icmp .ge 51, 3)) rfl) (by decide) rfl h (fun h => ?_) (fun h => ?_)
    · refine k_lv [0, 1, 2] (lv2 := [(0, rA G o0), (1, .int x1), (2, .int x2)]) rfl ?_
      cases h
      exact hcont
    · refine k_aload_n C (pc2 := 16) (dkAt dkX8_spread 10 (q := (15, .aload_n 0, 1)) rfl) rfl rfl 0 rfl ?_
      refine kf_X8_53 C (pc2 := 19) (o := o0) (o2 := o0 + 21) h0.1 rfl (dkAt dkX8_spread 11 (q := (16, .getfield 53, 3)) rfl) rfl ?_
      refine k_iload_n C (pc2 := 20) (dkAt dkX8_spread 12 (q := (19, .iload_n 3, 1)) rfl) rfl rfl 3 rfl ?_
      refine k_iald C (pc2 := 21) (o := o0 + 21) (nA := 8) (isM_left h0) (dkAt dkX8_spread 13 (q := (20, .iaload, 1)) rfl) rfl h (fun h => ?_)
      refine k_iload_n C (pc2 := 22) (dkAt dkX8_spread 14 (q := (21, .iload_n 1, 1)) rfl) rfl rfl 1 rfl ?_
      refine k_icmp_ge C (tgt := 34) (pc2 := 25) (dkAt dkX8_spread 15 (q := (22, .if_icmp .ge 12, 3)) rfl) (by decide) rfl h (fun h => ?_) (fun h => ?_)
      · refine k_iload_n C (pc2 := 35) (dkAt dkX8_spread 21 (q := (34, .iload_n 1, 1)) rfl) rfl rfl 1 rfl ?_
        refine k_istore_n C (pc2 := 36) (dkAt dkX8_spread 22 (q := (35, .istore_n 1, 1)) rfl) rfl rfl (by decide) (lv2 := [(1, .int x1), (0, rA G o0), (2, .int x2), (3, .int x3)]) rfl ?_
        refine k_aload_n C (pc2 := 37) (dkAt dkX8_spread 23 (q := (36, .aload_n 0, 1)) rfl) rfl rfl 1 rfl ?_
        refine kf_X8_53 C (pc2 := 40) (o := o0) (o2 := o0 + 21) h0.1 rfl (dkAt dkX8_spread 24 (q := (37, .getfield 53, 3)) rfl) rfl ?_
        refine k_iload_n C (pc2 := 41) (dkAt dkX8_spread 25 (q := (40, .iload_n 3, 1)) rfl) rfl rfl 3 rfl ?_
        refine k_iald C (pc2 := 42) (o := o0 + 21) (nA := 8) (isM_left h0) (dkAt dkX8_spread 26 (q := (41, .iaload, 1)) rfl) rfl h (fun h => ?_)
        refine k_iload_n C (pc2 := 43) (dkAt dkX8_spread 27 (q := (42, .iload_n 2, 1)) rfl) rfl rfl 2 rfl ?_
        refine k_icmp_le C (tgt := 55) (pc2 := 46) (dkAt dkX8_spread 28 (q := (43, .if_icmp .le 12, 3)) rfl) (by decide) rfl h (fun h => ?_) (fun h => ?_)
        · refine k_iload_n C (pc2 := 56) (dkAt dkX8_spread 34 (q := (55, .iload_n 2, 1)) rfl) rfl rfl 2 rfl ?_
          refine k_istore_n C (pc2 := 57) (dkAt dkX8_spread 35 (q := (56, .istore_n 2, 1)) rfl) rfl rfl (by decide) (lv2 := [(2, .int x2), (1, .int x1), (0, rA G o0), (3, .int x3)]) rfl ?_
          refine kb_iinc C (pc2 := 60) (dkAt dkX8_spread 36 (q := (57, .iinc 3 1, 3)) rfl) rfl (j := 3) rfl (v := x3 + 1) rfl (by decide) (lv2 := fun v1 => [(3, .int v1), (2, .int x2), (1, .int x1), (0, rA G o0)]) (fun _ => rfl) h (fun v1 h => ?_)
          refine k_goto C (tgt := 7) (dkAt dkX8_spread 37 (q := (60, .goto (-53), 3)) rfl) (by decide) ?_
          refine k_lv [3, 2, 1, 0] (lv2 := [(0, rA G o0), (1, .int x1), (2, .int x2), (3, .int v1)]) rfl ?_
          exact ih x1 x2 v1 h
        · refine k_aload_n C (pc2 := 47) (dkAt dkX8_spread 29 (q := (46, .aload_n 0, 1)) rfl) rfl rfl 1 rfl ?_
          refine kf_X8_53 C (pc2 := 50) (o := o0) (o2 := o0 + 21) h0.1 rfl (dkAt dkX8_spread 30 (q := (47, .getfield 53, 3)) rfl) rfl ?_
          refine k_iload_n C (pc2 := 51) (dkAt dkX8_spread 31 (q := (50, .iload_n 3, 1)) rfl) rfl rfl 3 rfl ?_
          refine k_iald C (pc2 := 52) (o := o0 + 21) (nA := 8) (isM_left h0) (dkAt dkX8_spread 32 (q := (51, .iaload, 1)) rfl) rfl h (fun h => ?_)
          refine k_goto C (tgt := 56) (dkAt dkX8_spread 33 (q := (52, .goto 4, 3)) rfl) (by decide) ?_
          refine kb_istore_n C (pc2 := 57) (dkAt dkX8_spread 35 (q := (56, .istore_n 2, 1)) rfl) rfl rfl (by decide) (lv2 := fun v2 => [(2, .int v2), (1, .int x1), (0, rA G o0), (3, .int x3)]) (fun _ => rfl) h (fun v2 h => ?_)
          refine kb_iinc C (pc2 := 60) (dkAt dkX8_spread 36 (q := (57, .iinc 3 1, 3)) rfl) rfl (j := 3) rfl (v := x3 + 1) rfl (by decide) (lv2 := fun v3 => [(3, .int v3), (2, .int v2), (1, .int x1), (0, rA G o0)]) (fun _ => rfl) h (fun v3 h => ?_)
          refine k_goto C (tgt := 7) (dkAt dkX8_spread 37 (q := (60, .goto (-53), 3)) rfl) (by decide) ?_
          refine k_lv [3, 2, 1, 0] (lv2 := [(0, rA G o0), (1, .int x1), (2, .int v2), (3, .int v3)]) rfl ?_
          exact ih x1 v2 v3 h
      · refine k_aload_n C (pc2 := 26) (dkAt dkX8_spread 16 (q := (25, .aload_n 0, 1)) rfl) rfl rfl 0 rfl ?_
        refine kf_X8_53 C (pc2 := 29) (o := o0) (o2 := o0 + 21) h0.1 rfl (dkAt dkX8_spread 17 (q := (26, .getfield 53, 3)) rfl) rfl ?_
        refine k_iload_n C (pc2 := 30) (dkAt dkX8_spread 18 (q := (29, .iload_n 3, 1)) rfl) rfl rfl 3 rfl ?_
        refine k_iald C (pc2 := 31) (o := o0 + 21) (nA := 8) (isM_left h0) (dkAt dkX8_spread 19 (q := (30, .iaload, 1)) rfl) rfl h (fun h => ?_)
        refine k_goto C (tgt := 35) (dkAt dkX8_spread 20 (q := (31, .goto 4, 3)) rfl) (by decide) ?_
        refine kb_istore_n C (pc2 := 36) (dkAt dkX8_spread 22 (q := (35, .istore_n 1, 1)) rfl) rfl rfl (by decide) (lv2 := fun v4 => [(1, .int v4), (0, rA G o0), (2, .int x2), (3, .int x3)]) (fun _ => rfl) h (fun v4 h => ?_)
        refine k_aload_n C (pc2 := 37) (dkAt dkX8_spread 23 (q := (36, .aload_n 0, 1)) rfl) rfl rfl 1 rfl ?_
        refine kf_X8_53 C (pc2 := 40) (o := o0) (o2 := o0 + 21) h0.1 rfl (dkAt dkX8_spread 24 (q := (37, .getfield 53, 3)) rfl) rfl ?_
        refine k_iload_n C (pc2 := 41) (dkAt dkX8_spread 25 (q := (40, .iload_n 3, 1)) rfl) rfl rfl 3 rfl ?_
        refine k_iald C (pc2 := 42) (o := o0 + 21) (nA := 8) (isM_left h0) (dkAt dkX8_spread 26 (q := (41, .iaload, 1)) rfl) rfl h (fun h => ?_)
        refine k_iload_n C (pc2 := 43) (dkAt dkX8_spread 27 (q := (42, .iload_n 2, 1)) rfl) rfl rfl 2 rfl ?_
        refine k_icmp_le C (tgt := 55) (pc2 := 46) (dkAt dkX8_spread 28 (q := (43, .if_icmp .le 12, 3)) rfl) (by decide) rfl h (fun h => ?_) (fun h => ?_)
        · refine k_iload_n C (pc2 := 56) (dkAt dkX8_spread 34 (q := (55, .iload_n 2, 1)) rfl) rfl rfl 2 rfl ?_
          refine k_istore_n C (pc2 := 57) (dkAt dkX8_spread 35 (q := (56, .istore_n 2, 1)) rfl) rfl rfl (by decide) (lv2 := [(2, .int x2), (1, .int v4), (0, rA G o0), (3, .int x3)]) rfl ?_
          refine kb_iinc C (pc2 := 60) (dkAt dkX8_spread 36 (q := (57, .iinc 3 1, 3)) rfl) rfl (j := 3) rfl (v := x3 + 1) rfl (by decide) (lv2 := fun v5 => [(3, .int v5), (2, .int x2), (1, .int v4), (0, rA G o0)]) (fun _ => rfl) h (fun v5 h => ?_)
          refine k_goto C (tgt := 7) (dkAt dkX8_spread 37 (q := (60, .goto (-53), 3)) rfl) (by decide) ?_
          refine k_lv [3, 2, 1, 0] (lv2 := [(0, rA G o0), (1, .int v4), (2, .int x2), (3, .int v5)]) rfl ?_
          exact ih v4 x2 v5 h
        · refine k_aload_n C (pc2 := 47) (dkAt dkX8_spread 29 (q := (46, .aload_n 0, 1)) rfl) rfl rfl 1 rfl ?_
          refine kf_X8_53 C (pc2 := 50) (o := o0) (o2 := o0 + 21) h0.1 rfl (dkAt dkX8_spread 30 (q := (47, .getfield 53, 3)) rfl) rfl ?_
          refine k_iload_n C (pc2 := 51) (dkAt dkX8_spread 31 (q := (50, .iload_n 3, 1)) rfl) rfl rfl 3 rfl ?_
          refine k_iald C (pc2 := 52) (o := o0 + 21) (nA := 8) (isM_left h0) (dkAt dkX8_spread 32 (q := (51, .iaload, 1)) rfl) rfl h (fun h => ?_)
          refine k_goto C (tgt := 56) (dkAt dkX8_spread 33 (q := (52, .goto 4, 3)) rfl) (by decide) ?_
          refine kb_istore_n C (pc2 := 57) (dkAt dkX8_spread 35 (q := (56, .istore_n 2, 1)) rfl) rfl rfl (by decide) (lv2 := fun v6 => [(2, .int v6), (1, .int v4), (0, rA G o0), (3, .int x3)]) (fun _ => rfl) h (fun v6 h => ?_)
          refine kb_iinc C (pc2 := 60) (dkAt dkX8_spread 36 (q := (57, .iinc 3 1, 3)) rfl) rfl (j := 3) rfl (v := x3 + 1) rfl (by decide) (lv2 := fun v7 => [(3, .int v7), (2, .int v6), (1, .int v4), (0, rA G o0)]) (fun _ => rfl) h (fun v7 h => ?_)
          refine k_goto C (tgt := 7) (dkAt dkX8_spread 37 (q := (60, .goto (-53), 3)) rfl) (by decide) ?_
          refine k_lv [3, 2, 1, 0] (lv2 := [(0, rA G o0), (1, .int v4), (2, .int v6), (3, .int v7)]) rfl ?_
          exact ih v4 v6 v7 h
set_option maxRecDepth 100000 in
set_option maxHeartbeats 4000000 in
theorem ct_X8_spread (l : Launch) (G : GG) (sh : Sh) (xs : List va_E) (o0 : Nat) (h0 : isM sh o0) (M : Mm) (r : Int32) (h : f_X8_spread o0 M = some r) : Ct l yX8_spread cX8_spread 4 (some .int) rm_X8_spread G [rA G o0] sh M xs (some (.int r)) sh M xs 0 0 := by
  refine ct_of (by decide) (Nat.le_of_ble_eq_true rfl) ?_
  intro p e s m args below meth c hnm C
  refine k_lv [0] (lv2 := [(0, rA G o0)]) rfl ?_
  unfold f_X8_spread at h
  refine k_bipush C (pc2 := 2) (dkAt dkX8_spread 0 (q := (0, .bipush 99, 2)) rfl) rfl (v := 99) rfl ?_
  refine k_istore_n C (pc2 := 3) (dkAt dkX8_spread 1 (q := (2, .istore_n 1, 1)) rfl) rfl rfl (by decide) (lv2 := [(1, .int 99), (0, rA G o0)]) rfl ?_
  refine k_iconst C (pc2 := 4) (dkAt dkX8_spread 2 (q := (3, .iconst 0, 1)) rfl) rfl (v := 0) rfl ?_
  refine k_istore_n C (pc2 := 5) (dkAt dkX8_spread 3 (q := (4, .istore_n 2, 1)) rfl) rfl rfl (by decide) (lv2 := [(2, .int 0), (1, .int 99), (0, rA G o0)]) rfl ?_
  refine k_iconst C (pc2 := 6) (dkAt dkX8_spread 4 (q := (5, .iconst 0, 1)) rfl) rfl (v := 0) rfl ?_
  refine k_istore_n C (pc2 := 7) (dkAt dkX8_spread 5 (q := (6, .istore_n 3, 1)) rfl) rfl rfl (by decide) (lv2 := [(3, .int 0), (2, .int 0), (1, .int 99), (0, rA G o0)]) rfl ?_
  refine k_lv [3, 2, 1, 0] (lv2 := [(0, rA G o0), (1, .int 99), (2, .int 0), (3, .int 0)]) rfl ?_
  obtain ⟨v10, v11, e9, h⟩ := ob2_inv h
  refine kl_X8_spread_L7 C o0 h0 M v10 v11 ?_ 1000 99 0 0 e9
  refine k_aload_n C (pc2 := 64) (dkAt dkX8_spread 38 (q := (63, .aload_n 0, 1)) rfl) rfl rfl 0 rfl ?_
  refine kf_X8_82 C (pc2 := 67) (o := o0) (o2 := 0) h0.1 (dkAt dkX8_spread 39 (q := (64, .getfield 82, 3)) rfl) rfl ?_
  refine k_if_ne C (tgt := 74) (pc2 := 70) (dkAt dkX8_spread 40 (q := (67, .ifCond .ne 7, 3)) rfl) (by decide) rfl h (fun h => ?_) (fun h => ?_)
  · refine k_iload_n C (pc2 := 75) (dkAt dkX8_spread 43 (q := (74, .iload_n 2, 1)) rfl) rfl rfl 2 rfl ?_
    refine k_iload_n C (pc2 := 76) (dkAt dkX8_spread 44 (q := (75, .iload_n 1, 1)) rfl) rfl rfl 1 rfl ?_
    refine k_isub C (pc2 := 77) (dkAt dkX8_spread 45 (q := (76, .isub, 1)) rfl) rfl ?_
    exact k_iret C (dkAt dkX8_spread 46 (q := (77, .ireturn, 1)) rfl) (Option.some.inj h) rfl rfl rfl
  · refine k_iconst C (pc2 := 71) (dkAt dkX8_spread 41 (q := (70, .iconst 0, 1)) rfl) rfl (v := 0) rfl ?_
    refine k_goto C (tgt := 77) (dkAt dkX8_spread 42 (q := (71, .goto 6, 3)) rfl) (by decide) ?_
    exact k_iret C (dkAt dkX8_spread 46 (q := (77, .ireturn, 1)) rfl) (Option.some.inj h) rfl rfl rfl
set_option maxRecDepth 100000 in
set_option maxHeartbeats 4000000 in
theorem kl_X8_withHost_L36 {p : Program} {l : Launch} {e : Env} {s : State} {m : MethodId} {args : Array Value} {below : List Frame} {meth : Method} {c : Code} {G : GG} {sh : Sh} {xs : List va_E} (C : Cx p s m c args meth G RX8 cX8_withHost 4 (some .int)) (o0 : Nat) (h0 : isM sh o0) (x2 : Int32) (M : Mm) (r : Mm × Int32) (t : (Unit) ⊕ (Mm × Int32)) (hcont : t = Sum.inl () → KW p l e rm_X8_withHost s m args below meth c G 4 (MQ below (QO G (some (.int r.2)) sh r.1 xs) args s 0 0 (gA G)) sh xs 0 0 M 60 [] []) (hres : ∀ z, t = Sum.inr z → z = r) : ∀ (n : Nat) (x3 : Int32), f_X8_withHost_L36 o0 x2 M n x3 = some t → KW p l e rm_X8_withHost s m args below meth c G 4 (MQ below (QO G (some (.int r.2)) sh r.1 xs) args s 0 0 (gA G)) sh xs 0 0 M 36 [(0, rA G o0), (2, .int x2), (3, .int x3)] [] := by
  intro n
  induction n with
  | zero =>
    intro x3 h
    cases h
  | succ n ih =>
    intro x3 h
    unfold f_X8_withHost_L36 at h
    refine k_iload_n C (pc2 := 37) (dkAt dkX8_withHost 23 (q := (36, .iload_n 3, 1)) rfl) rfl rfl 2 rfl ?_
    refine k_aload_n C (pc2 := 38) (dkAt dkX8_withHost 24 (q := (37, .aload_n 0, 1)) rfl) rfl rfl 0 rfl ?_
    refine kf_X8_37 C (pc2 := 41) (o := o0) (o2 := 0) h0.1 (dkAt dkX8_withHost 25 (q := (38, .getfield 37, 3)) rfl) rfl ?_
    refine k_icmp_ge C (tgt := 60) (pc2 := 44) (dkAt dkX8_withHost 26 (q := (41, .if_icmp .ge 19, 3)) rfl) (by decide) rfl h (fun h => ?_) (fun h => ?_)
    · refine k_lv [] (lv2 := []) rfl ?_
      exact hcont (Option.some.inj h).symm
    · refine k_iload_n C (pc2 := 45) (dkAt dkX8_withHost 27 (q := (44, .iload_n 2, 1)) rfl) rfl rfl 1 rfl ?_
      refine k_iload_n C (pc2 := 46) (dkAt dkX8_withHost 28 (q := (45, .iload_n 3, 1)) rfl) rfl rfl 2 rfl ?_
      refine k_ishr C (pc2 := 47) (dkAt dkX8_withHost 29 (q := (46, .ishr, 1)) rfl) rfl ?_
      refine k_iconst C (pc2 := 48) (dkAt dkX8_withHost 30 (q := (47, .iconst 1, 1)) rfl) rfl (v := 1) rfl ?_
      refine k_iand C (pc2 := 49) (dkAt dkX8_withHost 31 (q := (48, .iand, 1)) rfl) rfl ?_
      refine k_if_eq C (tgt := 54) (pc2 := 52) (dkAt dkX8_withHost 32 (q := (49, .ifCond .eq 5, 3)) rfl) (by decide) rfl h (fun h => ?_) (fun h => ?_)
      · refine kb_iinc C (pc2 := 57) (dkAt dkX8_withHost 35 (q := (54, .iinc 3 1, 3)) rfl) rfl (j := 2) rfl (v := x3 + 1) rfl (by decide) (lv2 := fun v4 => [(3, .int v4), (0, rA G o0), (2, .int x2)]) (fun _ => rfl) h (fun v4 h => ?_)
        refine k_goto C (tgt := 36) (dkAt dkX8_withHost 36 (q := (57, .goto (-21), 3)) rfl) (by decide) ?_
        refine k_lv [1, 2, 0] (lv2 := [(0, rA G o0), (2, .int x2), (3, .int v4)]) rfl ?_
        exact ih v4 h
      · refine k_iload_n C (pc2 := 53) (dkAt dkX8_withHost 33 (q := (52, .iload_n 3, 1)) rfl) rfl rfl 2 rfl ?_
        exact k_iret C (dkAt dkX8_withHost 34 (q := (53, .ireturn, 1)) rfl) (pe2 (hres _ (Option.some.inj h).symm)) rfl (pe1 (hres _ (Option.some.inj h).symm)) rfl
set_option maxRecDepth 100000 in
set_option maxHeartbeats 4000000 in
theorem ct_X8_withHost (l : Launch) (G : GG) (sh : Sh) (xs : List va_E) (o0 : Nat) (h0 : isM sh o0) (x1 : Int32) (M : Mm) (r : Mm × Int32) (h : f_X8_withHost o0 x1 M = some r) : Ct l yX8_withHost cX8_withHost 4 (some .int) rm_X8_withHost G [rA G o0, .int x1] sh M xs (some (.int r.2)) sh r.1 xs 0 0 := by
  refine ct_of (by decide) (Nat.le_of_ble_eq_true rfl) ?_
  intro p e s m args below meth c hnm C
  refine k_lv [0, 1] (lv2 := [(0, rA G o0), (1, .int x1)]) rfl ?_
  unfold f_X8_withHost at h
  refine k_aload_n C (pc2 := 1) (dkAt dkX8_withHost 0 (q := (0, .aload_n 0, 1)) rfl) rfl rfl 0 rfl ?_
  refine k_iload_n C (pc2 := 2) (dkAt dkX8_withHost 1 (q := (1, .iload_n 1, 1)) rfl) rfl rfl 1 rfl ?_
  obtain ⟨q1, e2, h⟩ := ob_inv h
  refine kc_V C (As := [.int x1]) (st2 := [.int q1]) (ct_X8_isOne l G sh xs o0 h0 x1 M q1 e2) (cl_X8_108 (hts_of C) ⟨Nat.le_of_ble_eq_true rfl, Nat.le_of_ble_eq_true rfl⟩ rfl rfl) h0.1 rfl rfl rfl rfl rfl (Nat.le_of_ble_eq_true rfl) (dkAt dkX8_withHost 2 (q := (2, .invokevirtual 108, 3)) rfl) ⟨Nat.zero_le _, Nat.zero_le _⟩ (pc2 := 5) rfl rfl ?_
  refine k_if_ne C (tgt := 15) (pc2 := 8) (dkAt dkX8_withHost 3 (q := (5, .ifCond .ne 10, 3)) rfl) (by decide) rfl h (fun h => ?_) (fun h => ?_)
  · refine k_aload_n C (pc2 := 16) (dkAt dkX8_withHost 8 (q := (15, .aload_n 0, 1)) rfl) rfl rfl 0 rfl ?_
    refine kf_X8_50 C (pc2 := 19) (o := o0) (o2 := o0 + 20) h0.1 rfl (dkAt dkX8_withHost 9 (q := (16, .getfield 50, 3)) rfl) rfl ?_
    refine k_iload_n C (pc2 := 20) (dkAt dkX8_withHost 10 (q := (19, .iload_n 1, 1)) rfl) rfl rfl 1 rfl ?_
    refine k_iald C (pc2 := 21) (o := o0 + 20) (nA := 8) (isM_can h0) (dkAt dkX8_withHost 11 (q := (20, .iaload, 1)) rfl) rfl h (fun h => ?_)
    refine k_aload_n C (pc2 := 22) (dkAt dkX8_withHost 12 (q := (21, .aload_n 0, 1)) rfl) rfl rfl 0 rfl ?_
    refine kf_X8_50 C (pc2 := 25) (o := o0) (o2 := o0 + 20) h0.1 rfl (dkAt dkX8_withHost 13 (q := (22, .getfield 50, 3)) rfl) rfl ?_
    refine k_aload_n C (pc2 := 26) (dkAt dkX8_withHost 14 (q := (25, .aload_n 0, 1)) rfl) rfl rfl 0 rfl ?_
    refine kf_X8_56 C (pc2 := 29) (o := o0) (o2 := o0 + 22) h0.1 rfl (dkAt dkX8_withHost 15 (q := (26, .getfield 56, 3)) rfl) rfl ?_
    refine k_iconst C (pc2 := 30) (dkAt dkX8_withHost 16 (q := (29, .iconst 0, 1)) rfl) rfl (v := 0) rfl ?_
    refine k_ialdc C (pc2 := 31) (o := o0 + 22) (nA := 3) (j := 0) (isM_asked h0) (dkAt dkX8_withHost 17 (q := (30, .iaload, 1)) rfl) rfl (by unfold vp_in; decide) (by decide) ?_
    refine k_iald C (pc2 := 32) (o := o0 + 20) (nA := 8) (isM_can h0) (dkAt dkX8_withHost 18 (q := (31, .iaload, 1)) rfl) rfl h (fun h => ?_)
    refine k_iand C (pc2 := 33) (dkAt dkX8_withHost 19 (q := (32, .iand, 1)) rfl) rfl ?_
    refine kb_istore_n C (pc2 := 34) (dkAt dkX8_withHost 20 (q := (33, .istore_n 2, 1)) rfl) rfl rfl (by decide) (lv2 := fun v3 => [(2, .int v3), (0, rA G o0), (1, .int x1)]) (fun _ => rfl) h (fun v3 h => ?_)
    refine k_iconst C (pc2 := 35) (dkAt dkX8_withHost 21 (q := (34, .iconst 0, 1)) rfl) rfl (v := 0) rfl ?_
    refine k_istore_n C (pc2 := 36) (dkAt dkX8_withHost 22 (q := (35, .istore_n 3, 1)) rfl) rfl rfl (by decide) (lv2 := [(3, .int 0), (2, .int v3), (0, rA G o0), (1, .int x1)]) rfl ?_
    refine k_lv [2, 1, 0] (lv2 := [(0, rA G o0), (2, .int v3), (3, .int 0)]) rfl ?_
    obtain ⟨t5, e6, hA, hB⟩ := obS_inv h
    refine kl_X8_withHost_L36 C o0 h0 v3 M r t5 ?_ ?_ 1000 0 e6
    · intro et
      have h := hA _ et
      refine k_iconst C (pc2 := 61) (dkAt dkX8_withHost 37 (q := (60, .iconst (-1), 1)) rfl) rfl (v := (-1)) rfl ?_
      exact k_iret C (dkAt dkX8_withHost 38 (q := (61, .ireturn, 1)) rfl) (pe2 (Option.some.inj h)) rfl (pe1 (Option.some.inj h)) rfl
    · intro z et
      have h := hB _ et
      exact Option.some.inj h
  · refine k_aload_n C (pc2 := 9) (dkAt dkX8_withHost 4 (q := (8, .aload_n 0, 1)) rfl) rfl rfl 0 rfl ?_
    refine k_bipush C (pc2 := 11) (dkAt dkX8_withHost 5 (q := (9, .bipush (-2), 2)) rfl) rfl (v := (-2)) rfl ?_
    obtain ⟨q7, e8, h⟩ := ob_inv h
    refine kc_V C (As := [.int (-2)]) (st2 := [.int q7.2]) (ct_X8_refuse l G sh xs o0 h0 (-2) M q7 e8) (cl_X8_97 (hts_of C) ⟨Nat.le_of_ble_eq_true rfl, Nat.le_of_ble_eq_true rfl⟩ rfl rfl) h0.1 rfl rfl rfl rfl rfl (Nat.le_of_ble_eq_true rfl) (dkAt dkX8_withHost 6 (q := (11, .invokevirtual 97, 3)) rfl) ⟨Nat.zero_le _, Nat.zero_le _⟩ (pc2 := 14) rfl rfl ?_
    exact k_iret C (dkAt dkX8_withHost 7 (q := (14, .ireturn, 1)) rfl) (pe2 (Option.some.inj h)) rfl (pe1 (Option.some.inj h)) rfl
set_option maxRecDepth 100000 in
set_option maxHeartbeats 4000000 in
theorem ct_X8_clear (l : Launch) (G : GG) (sh : Sh) (xs : List va_E) (o0 : Nat) (h0 : isM sh o0) (x1 : Int32) (M : Mm) (r : Mm × Int32) (h : f_X8_clear o0 x1 M = some r) : Ct l yX8_clear cX8_clear 3 (some .int) rm_X8_clear G [rA G o0, .int x1] sh M xs (some (.int r.2)) sh r.1 xs 0 0 := by
  refine ct_of (by decide) (Nat.le_of_ble_eq_true rfl) ?_
  intro p e s m args below meth c hnm C
  refine k_lv [0, 1] (lv2 := [(0, rA G o0), (1, .int x1)]) rfl ?_
  unfold f_X8_clear at h
  refine k_aload_n C (pc2 := 1) (dkAt dkX8_clear 0 (q := (0, .aload_n 0, 1)) rfl) rfl rfl 0 rfl ?_
  refine k_iload_n C (pc2 := 2) (dkAt dkX8_clear 1 (q := (1, .iload_n 1, 1)) rfl) rfl rfl 1 rfl ?_
  obtain ⟨q1, e2, h⟩ := ob_inv h
  refine kc_V C (As := [.int x1]) (st2 := [.int q1]) (ct_X8_isOne l G sh xs o0 h0 x1 M q1 e2) (cl_X8_108 (hts_of C) ⟨Nat.le_of_ble_eq_true rfl, Nat.le_of_ble_eq_true rfl⟩ rfl rfl) h0.1 rfl rfl rfl rfl rfl (Nat.le_of_ble_eq_true rfl) (dkAt dkX8_clear 2 (q := (2, .invokevirtual 108, 3)) rfl) ⟨Nat.zero_le _, Nat.zero_le _⟩ (pc2 := 5) rfl rfl ?_
  refine k_if_ne C (tgt := 15) (pc2 := 8) (dkAt dkX8_clear 3 (q := (5, .ifCond .ne 10, 3)) rfl) (by decide) rfl h (fun h => ?_) (fun h => ?_)
  · refine k_aload_n C (pc2 := 16) (dkAt dkX8_clear 8 (q := (15, .aload_n 0, 1)) rfl) rfl rfl 0 rfl ?_
    refine kf_X8_50 C (pc2 := 19) (o := o0) (o2 := o0 + 20) h0.1 rfl (dkAt dkX8_clear 9 (q := (16, .getfield 50, 3)) rfl) rfl ?_
    refine k_iload_n C (pc2 := 20) (dkAt dkX8_clear 10 (q := (19, .iload_n 1, 1)) rfl) rfl rfl 1 rfl ?_
    refine k_iald C (pc2 := 21) (o := o0 + 20) (nA := 8) (isM_can h0) (dkAt dkX8_clear 11 (q := (20, .iaload, 1)) rfl) rfl h (fun h => ?_)
    obtain ⟨q3, e4, h⟩ := ob_inv h
    refine kc_S C (As := [.int (M.1 (o0 + 20) x1.toNatClampNeg)]) (st2 := [.int q3]) (ct_X8_bits l G sh xs (M.1 (o0 + 20) x1.toNatClampNeg) M q3 e4) (cl_X8_118 (hts_of C) ⟨Nat.le_of_ble_eq_true rfl, Nat.le_of_ble_eq_true rfl⟩ rfl rfl) rfl rfl (Nat.le_of_ble_eq_true rfl) (dkAt dkX8_clear 12 (q := (21, .invokestatic 118, 3)) rfl) ⟨Nat.zero_le _, Nat.zero_le _⟩ (pc2 := 24) rfl rfl ?_
    refine k_istore_n C (pc2 := 25) (dkAt dkX8_clear 13 (q := (24, .istore_n 2, 1)) rfl) rfl rfl (by decide) (lv2 := [(2, .int q3), (0, rA G o0), (1, .int x1)]) rfl ?_
    refine k_aload_n C (pc2 := 26) (dkAt dkX8_clear 14 (q := (25, .aload_n 0, 1)) rfl) rfl rfl 1 rfl ?_
    refine kf_X8_50 C (pc2 := 29) (o := o0) (o2 := o0 + 20) h0.1 rfl (dkAt dkX8_clear 15 (q := (26, .getfield 50, 3)) rfl) rfl ?_
    refine k_iload_n C (pc2 := 30) (dkAt dkX8_clear 16 (q := (29, .iload_n 1, 1)) rfl) rfl rfl 2 rfl ?_
    refine k_iconst C (pc2 := 31) (dkAt dkX8_clear 17 (q := (30, .iconst 0, 1)) rfl) rfl (v := 0) rfl ?_
    refine k_iast C (pc2 := 32) (o := o0 + 20) (nA := 8) (isM_can h0) (dkAt dkX8_clear 18 (q := (31, .iastore, 1)) rfl) rfl h (fun M5 h => ?_)
    refine k_iload_n C (pc2 := 33) (dkAt dkX8_clear 19 (q := (32, .iload_n 2, 1)) rfl) rfl rfl 0 rfl ?_
    exact k_iret C (dkAt dkX8_clear 20 (q := (33, .ireturn, 1)) rfl) (pe2 (Option.some.inj h)) rfl (pe1 (Option.some.inj h)) rfl
  · refine k_aload_n C (pc2 := 9) (dkAt dkX8_clear 4 (q := (8, .aload_n 0, 1)) rfl) rfl rfl 0 rfl ?_
    refine k_bipush C (pc2 := 11) (dkAt dkX8_clear 5 (q := (9, .bipush (-2), 2)) rfl) rfl (v := (-2)) rfl ?_
    obtain ⟨q6, e7, h⟩ := ob_inv h
    refine kc_V C (As := [.int (-2)]) (st2 := [.int q6.2]) (ct_X8_refuse l G sh xs o0 h0 (-2) M q6 e7) (cl_X8_97 (hts_of C) ⟨Nat.le_of_ble_eq_true rfl, Nat.le_of_ble_eq_true rfl⟩ rfl rfl) h0.1 rfl rfl rfl rfl rfl (Nat.le_of_ble_eq_true rfl) (dkAt dkX8_clear 6 (q := (11, .invokevirtual 97, 3)) rfl) ⟨Nat.zero_le _, Nat.zero_le _⟩ (pc2 := 14) rfl rfl ?_
    exact k_iret C (dkAt dkX8_clear 7 (q := (14, .ireturn, 1)) rfl) (pe2 (Option.some.inj h)) rfl (pe1 (Option.some.inj h)) rfl
set_option maxRecDepth 100000 in
set_option maxHeartbeats 4000000 in
theorem kl_X8_three_L68 {p : Program} {l : Launch} {e : Env} {s : State} {m : MethodId} {args : Array Value} {below : List Frame} {meth : Method} {c : Code} {G : GG} {sh : Sh} {xs : List va_E} {Q : State → Prop} (C : Cx p s m c args meth G RX8 cX8_three 7 (some .int)) (o0 : Nat) (h0 : isM sh o0) (x1 : Int32) (x3 : Int32) (x4 : Int32) (y2 : Int32) (M2 : Mm) (hcont : KW p l e rm_X8_three s m args below meth c G 7 Q sh xs 0 0 M2 139 [(0, rA G o0), (1, .int x1), (2, .int y2), (3, .int x3), (4, .int x4)] []) : ∀ (n : Nat) (x2 : Int32) (x5 : Int32) (M : Mm), f_X8_three_L68 o0 x1 x3 x4 n x2 x5 M = some (y2, M2) → KW p l e rm_X8_three s m args below meth c G 7 Q sh xs 0 0 M 68 [(0, rA G o0), (1, .int x1), (2, .int x2), (3, .int x3), (4, .int x4), (5, .int x5)] [] := by
  intro n
  induction n with
  | zero =>
    intro x2 x5 M h
    cases h
  | succ n ih =>
    intro x2 x5 M h
    unfold f_X8_three_L68 at h
    refine k_iload C (pc2 := 70) (dkAt dkX8_three 38 (q := (68, .iload 5, 2)) rfl) rfl 5 rfl ?_
    refine k_aload_n C (pc2 := 71) (dkAt dkX8_three 39 (q := (70, .aload_n 0, 1)) rfl) rfl rfl 0 rfl ?_
    refine kf_X8_37 C (pc2 := 74) (o := o0) (o2 := 0) h0.1 (dkAt dkX8_three 40 (q := (71, .getfield 37, 3)) rfl) rfl ?_
    refine k_icmp_ge C (tgt := 139) (pc2 := 77) (dkAt dkX8_three 41 (q := (74, .if_icmp .ge 65, 3)) rfl) (by decide) rfl h (fun h => ?_) (fun h => ?_)
    · refine k_lv [0, 1, 2, 3, 4] (lv2 := [(0, rA G o0), (1, .int x1), (2, .int x2), (3, .int x3), (4, .int x4)]) rfl ?_
      cases h
      exact hcont
    · refine k_aload_n C (pc2 := 78) (dkAt dkX8_three 42 (q := (77, .aload_n 0, 1)) rfl) rfl rfl 0 rfl ?_
      refine k_iload_n C (pc2 := 79) (dkAt dkX8_three 43 (q := (78, .iload_n 3, 1)) rfl) rfl rfl 3 rfl ?_
      obtain ⟨q5, e6, h⟩ := ob_inv h
      refine kc_V C (As := [.int x3]) (st2 := [.int q5]) (ct_X8_thereOn l G sh xs o0 h0 x3 M q5 e6) (cl_X8_263 (hts_of C) ⟨Nat.le_of_ble_eq_true rfl, Nat.le_of_ble_eq_true rfl⟩ rfl rfl) h0.1 rfl rfl rfl rfl rfl (Nat.le_of_ble_eq_true rfl) (dkAt dkX8_three 44 (q := (79, .invokevirtual 263, 3)) rfl) ⟨Nat.zero_le _, Nat.zero_le _⟩ (pc2 := 82) rfl rfl ?_
      refine k_aload_n C (pc2 := 83) (dkAt dkX8_three 45 (q := (82, .aload_n 0, 1)) rfl) rfl rfl 0 rfl ?_
      refine k_iload C (pc2 := 85) (dkAt dkX8_three 46 (q := (83, .iload 4, 2)) rfl) rfl 4 rfl ?_
      obtain ⟨q7, e8, h⟩ := ob_inv h
      refine kc_V C (As := [.int x4]) (st2 := [.int q7, .int q5]) (ct_X8_thereOn l G sh xs o0 h0 x4 M q7 e8) (cl_X8_263 (hts_of C) ⟨Nat.le_of_ble_eq_true rfl, Nat.le_of_ble_eq_true rfl⟩ rfl rfl) h0.1 rfl rfl rfl rfl rfl (Nat.le_of_ble_eq_true rfl) (dkAt dkX8_three 47 (q := (85, .invokevirtual 263, 3)) rfl) ⟨Nat.zero_le _, Nat.zero_le _⟩ (pc2 := 88) rfl rfl ?_
      refine k_ior C (pc2 := 89) (dkAt dkX8_three 48 (q := (88, .ior, 1)) rfl) rfl ?_
      refine k_aload_n C (pc2 := 90) (dkAt dkX8_three 49 (q := (89, .aload_n 0, 1)) rfl) rfl rfl 0 rfl ?_
      refine k_iload C (pc2 := 92) (dkAt dkX8_three 50 (q := (90, .iload 5, 2)) rfl) rfl 5 rfl ?_
      obtain ⟨q9, e10, h⟩ := ob_inv h
      refine kc_V C (As := [.int x5]) (st2 := [.int q9, .int (q5 ||| q7)]) (ct_X8_thereOn l G sh xs o0 h0 x5 M q9 e10) (cl_X8_263 (hts_of C) ⟨Nat.le_of_ble_eq_true rfl, Nat.le_of_ble_eq_true rfl⟩ rfl rfl) h0.1 rfl rfl rfl rfl rfl (Nat.le_of_ble_eq_true rfl) (dkAt dkX8_three 51 (q := (92, .invokevirtual 263, 3)) rfl) ⟨Nat.zero_le _, Nat.zero_le _⟩ (pc2 := 95) rfl rfl ?_
      refine k_ior C (pc2 := 96) (dkAt dkX8_three 52 (q := (95, .ior, 1)) rfl) rfl ?_
      obtain ⟨q11, e12, h⟩ := ob_inv h
      refine kc_S C (As := [.int ((q5 ||| q7) ||| q9)]) (st2 := [.int q11]) (ct_X8_bits l G sh xs ((q5 ||| q7) ||| q9) M q11 e12) (cl_X8_118 (hts_of C) ⟨Nat.le_of_ble_eq_true rfl, Nat.le_of_ble_eq_true rfl⟩ rfl rfl) rfl rfl (Nat.le_of_ble_eq_true rfl) (dkAt dkX8_three 53 (q := (96, .invokestatic 118, 3)) rfl) ⟨Nat.zero_le _, Nat.zero_le _⟩ (pc2 := 99) rfl rfl ?_
      refine k_istore C (pc2 := 101) (dkAt dkX8_three 54 (q := (99, .istore 6, 2)) rfl) rfl (by decide) (lv2 := [(6, .int q11), (0, rA G o0), (1, .int x1), (2, .int x2), (3, .int x3), (4, .int x4), (5, .int x5)]) rfl ?_
      refine k_iload C (pc2 := 103) (dkAt dkX8_three 55 (q := (101, .iload 6, 2)) rfl) rfl 0 rfl ?_
      refine k_iload_n C (pc2 := 104) (dkAt dkX8_three 56 (q := (103, .iload_n 2, 1)) rfl) rfl rfl 3 rfl ?_
      refine k_icmp_le C (tgt := 133) (pc2 := 107) (dkAt dkX8_three 57 (q := (104, .if_icmp .le 29, 3)) rfl) (by decide) rfl h (fun h => ?_) (fun h => ?_)
      · refine kb_iinc C (pc2 := 136) (dkAt dkX8_three 75 (q := (133, .iinc 5 1, 3)) rfl) rfl (j := 6) rfl (v := x5 + 1) rfl (by decide) (lv2 := fun v13 => [(5, .int v13), (6, .int q11), (0, rA G o0), (1, .int x1), (2, .int x2), (3, .int x3), (4, .int x4)]) (fun _ => rfl) h (fun v13 h => ?_)
        refine k_goto C (tgt := 68) (dkAt dkX8_three 76 (q := (136, .goto (-68), 3)) rfl) (by decide) ?_
        refine k_lv [2, 3, 4, 5, 6, 0] (lv2 := [(0, rA G o0), (1, .int x1), (2, .int x2), (3, .int x3), (4, .int x4), (5, .int v13)]) rfl ?_
        exact ih x2 v13 M h
      · refine k_iload C (pc2 := 109) (dkAt dkX8_three 58 (q := (107, .iload 6, 2)) rfl) rfl 0 rfl ?_
        refine k_istore_n C (pc2 := 110) (dkAt dkX8_three 59 (q := (109, .istore_n 2, 1)) rfl) rfl rfl (by decide) (lv2 := [(2, .int q11), (6, .int q11), (0, rA G o0), (1, .int x1), (3, .int x3), (4, .int x4), (5, .int x5)]) rfl ?_
        refine k_aload_n C (pc2 := 111) (dkAt dkX8_three 60 (q := (110, .aload_n 0, 1)) rfl) rfl rfl 2 rfl ?_
        refine kf_X8_79 C (pc2 := 114) (o := o0) (o2 := o0 + 36) h0.1 rfl (dkAt dkX8_three 61 (q := (111, .getfield 79, 3)) rfl) rfl ?_
        refine k_iconst C (pc2 := 115) (dkAt dkX8_three 62 (q := (114, .iconst 0, 1)) rfl) rfl (v := 0) rfl ?_
        refine k_iload_n C (pc2 := 116) (dkAt dkX8_three 63 (q := (115, .iload_n 3, 1)) rfl) rfl rfl 4 rfl ?_
        refine k_iastc C (pc2 := 117) (o := o0 + 36) (nA := 3) (j := 0) (isM_bestRow h0) (dkAt dkX8_three 64 (q := (116, .iastore, 1)) rfl) rfl (by unfold vp_in; decide) (by decide) h (fun M14 h => ?_)
        refine k_aload_n C (pc2 := 118) (dkAt dkX8_three 65 (q := (117, .aload_n 0, 1)) rfl) rfl rfl 2 rfl ?_
        refine kf_X8_79 C (pc2 := 121) (o := o0) (o2 := o0 + 36) h0.1 rfl (dkAt dkX8_three 66 (q := (118, .getfield 79, 3)) rfl) rfl ?_
        refine k_iconst C (pc2 := 122) (dkAt dkX8_three 67 (q := (121, .iconst 1, 1)) rfl) rfl (v := 1) rfl ?_
        refine k_iload C (pc2 := 124) (dkAt dkX8_three 68 (q := (122, .iload 4, 2)) rfl) rfl 5 rfl ?_
        refine k_iastc C (pc2 := 125) (o := o0 + 36) (nA := 3) (j := 1) (isM_bestRow h0) (dkAt dkX8_three 69 (q := (124, .iastore, 1)) rfl) rfl (by unfold vp_in; decide) (by decide) h (fun M15 h => ?_)
        refine k_aload_n C (pc2 := 126) (dkAt dkX8_three 70 (q := (125, .aload_n 0, 1)) rfl) rfl rfl 2 rfl ?_
        refine kf_X8_79 C (pc2 := 129) (o := o0) (o2 := o0 + 36) h0.1 rfl (dkAt dkX8_three 71 (q := (126, .getfield 79, 3)) rfl) rfl ?_
        refine k_iconst C (pc2 := 130) (dkAt dkX8_three 72 (q := (129, .iconst 2, 1)) rfl) rfl (v := 2) rfl ?_
        refine k_iload C (pc2 := 132) (dkAt dkX8_three 73 (q := (130, .iload 5, 2)) rfl) rfl 6 rfl ?_
        refine k_iastc C (pc2 := 133) (o := o0 + 36) (nA := 3) (j := 2) (isM_bestRow h0) (dkAt dkX8_three 74 (q := (132, .iastore, 1)) rfl) rfl (by unfold vp_in; decide) (by decide) h (fun M16 h => ?_)
        refine kb_iinc C (pc2 := 136) (dkAt dkX8_three 75 (q := (133, .iinc 5 1, 3)) rfl) rfl (j := 6) rfl (v := x5 + 1) rfl (by decide) (lv2 := fun v17 => [(5, .int v17), (2, .int q11), (6, .int q11), (0, rA G o0), (1, .int x1), (3, .int x3), (4, .int x4)]) (fun _ => rfl) h (fun v17 h => ?_)
        refine k_goto C (tgt := 68) (dkAt dkX8_three 76 (q := (136, .goto (-68), 3)) rfl) (by decide) ?_
        refine k_lv [3, 4, 1, 5, 6, 0] (lv2 := [(0, rA G o0), (1, .int x1), (2, .int q11), (3, .int x3), (4, .int x4), (5, .int v17)]) rfl ?_
        exact ih q11 v17 M16 h
set_option maxRecDepth 100000 in
set_option maxHeartbeats 4000000 in
theorem kl_X8_three_L53 {p : Program} {l : Launch} {e : Env} {s : State} {m : MethodId} {args : Array Value} {below : List Frame} {meth : Method} {c : Code} {G : GG} {sh : Sh} {xs : List va_E} {Q : State → Prop} (C : Cx p s m c args meth G RX8 cX8_three 7 (some .int)) (o0 : Nat) (h0 : isM sh o0) (x1 : Int32) (x3 : Int32) (y2 : Int32) (M2 : Mm) (hcont : KW p l e rm_X8_three s m args below meth c G 7 Q sh xs 0 0 M2 145 [(0, rA G o0), (1, .int x1), (2, .int y2), (3, .int x3)] []) : ∀ (n : Nat) (x2 : Int32) (x4 : Int32) (M : Mm), f_X8_three_L53 o0 x1 x3 n x2 x4 M = some (y2, M2) → KW p l e rm_X8_three s m args below meth c G 7 Q sh xs 0 0 M 53 [(0, rA G o0), (1, .int x1), (2, .int x2), (3, .int x3), (4, .int x4)] [] := by
  intro n
  induction n with
  | zero =>
    intro x2 x4 M h
    cases h
  | succ n ih =>
    intro x2 x4 M h
    unfold f_X8_three_L53 at h
    refine k_iload C (pc2 := 55) (dkAt dkX8_three 30 (q := (53, .iload 4, 2)) rfl) rfl 4 rfl ?_
    refine k_aload_n C (pc2 := 56) (dkAt dkX8_three 31 (q := (55, .aload_n 0, 1)) rfl) rfl rfl 0 rfl ?_
    refine kf_X8_37 C (pc2 := 59) (o := o0) (o2 := 0) h0.1 (dkAt dkX8_three 32 (q := (56, .getfield 37, 3)) rfl) rfl ?_
    refine k_icmp_ge C (tgt := 145) (pc2 := 62) (dkAt dkX8_three 33 (q := (59, .if_icmp .ge 86, 3)) rfl) (by decide) rfl h (fun h => ?_) (fun h => ?_)
    · refine k_lv [0, 1, 2, 3] (lv2 := [(0, rA G o0), (1, .int x1), (2, .int x2), (3, .int x3)]) rfl ?_
      cases h
      exact hcont
    · refine k_iload C (pc2 := 64) (dkAt dkX8_three 34 (q := (62, .iload 4, 2)) rfl) rfl 4 rfl ?_
      refine k_iconst C (pc2 := 65) (dkAt dkX8_three 35 (q := (64, .iconst 1, 1)) rfl) rfl (v := 1) rfl ?_
      refine k_iadd C (pc2 := 66) (dkAt dkX8_three 36 (q := (65, .iadd, 1)) rfl) rfl ?_
      refine kb_istore C (pc2 := 68) (dkAt dkX8_three 37 (q := (66, .istore 5, 2)) rfl) rfl (by decide) (lv2 := fun v4 => [(5, .int v4), (0, rA G o0), (1, .int x1), (2, .int x2), (3, .int x3), (4, .int x4)]) (fun _ => rfl) h (fun v4 h => ?_)
      refine k_lv [1, 2, 3, 4, 5, 0] (lv2 := [(0, rA G o0), (1, .int x1), (2, .int x2), (3, .int x3), (4, .int x4), (5, .int v4)]) rfl ?_
      obtain ⟨v20, M21, e19, h⟩ := ob2_inv h
      refine kl_X8_three_L68 C o0 h0 x1 x3 x4 v20 M21 ?_ 1000 x2 v4 M e19
      refine kb_iinc C (pc2 := 142) (dkAt dkX8_three 77 (q := (139, .iinc 4 1, 3)) rfl) rfl (j := 4) rfl (v := x4 + 1) rfl (by decide) (lv2 := fun v22 => [(4, .int v22), (0, rA G o0), (1, .int x1), (2, .int v20), (3, .int x3)]) (fun _ => rfl) h (fun v22 h => ?_)
      refine k_goto C (tgt := 53) (dkAt dkX8_three 78 (q := (142, .goto (-89), 3)) rfl) (by decide) ?_
      refine k_lv [1, 2, 3, 4, 0] (lv2 := [(0, rA G o0), (1, .int x1), (2, .int v20), (3, .int x3), (4, .int v22)]) rfl ?_
      exact ih v20 v22 M21 h
set_option maxRecDepth 100000 in
set_option maxHeartbeats 4000000 in
theorem kl_X8_three_L40 {p : Program} {l : Launch} {e : Env} {s : State} {m : MethodId} {args : Array Value} {below : List Frame} {meth : Method} {c : Code} {G : GG} {sh : Sh} {xs : List va_E} {Q : State → Prop} (C : Cx p s m c args meth G RX8 cX8_three 7 (some .int)) (o0 : Nat) (h0 : isM sh o0) (x1 : Int32) (y2 : Int32) (M2 : Mm) (hcont : KW p l e rm_X8_three s m args below meth c G 7 Q sh xs 0 0 M2 151 [(0, rA G o0), (1, .int x1), (2, .int y2)] []) : ∀ (n : Nat) (x2 : Int32) (x3 : Int32) (M : Mm), f_X8_three_L40 o0 x1 n x2 x3 M = some (y2, M2) → KW p l e rm_X8_three s m args below meth c G 7 Q sh xs 0 0 M 40 [(0, rA G o0), (1, .int x1), (2, .int x2), (3, .int x3)] [] := by
  intro n
  induction n with
  | zero =>
    intro x2 x3 M h
    cases h
  | succ n ih =>
    intro x2 x3 M h
    unfold f_X8_three_L40 at h
    refine k_iload_n C (pc2 := 41) (dkAt dkX8_three 22 (q := (40, .iload_n 3, 1)) rfl) rfl rfl 3 rfl ?_
    refine k_aload_n C (pc2 := 42) (dkAt dkX8_three 23 (q := (41, .aload_n 0, 1)) rfl) rfl rfl 0 rfl ?_
    refine kf_X8_37 C (pc2 := 45) (o := o0) (o2 := 0) h0.1 (dkAt dkX8_three 24 (q := (42, .getfield 37, 3)) rfl) rfl ?_
    refine k_icmp_ge C (tgt := 151) (pc2 := 48) (dkAt dkX8_three 25 (q := (45, .if_icmp .ge 106, 3)) rfl) (by decide) rfl h (fun h => ?_) (fun h => ?_)
    · refine k_lv [0, 1, 2] (lv2 := [(0, rA G o0), (1, .int x1), (2, .int x2)]) rfl ?_
      cases h
      exact hcont
    · refine k_iload_n C (pc2 := 49) (dkAt dkX8_three 26 (q := (48, .iload_n 3, 1)) rfl) rfl rfl 3 rfl ?_
      refine k_iconst C (pc2 := 50) (dkAt dkX8_three 27 (q := (49, .iconst 1, 1)) rfl) rfl (v := 1) rfl ?_
      refine k_iadd C (pc2 := 51) (dkAt dkX8_three 28 (q := (50, .iadd, 1)) rfl) rfl ?_
      refine kb_istore C (pc2 := 53) (dkAt dkX8_three 29 (q := (51, .istore 4, 2)) rfl) rfl (by decide) (lv2 := fun v3 => [(4, .int v3), (0, rA G o0), (1, .int x1), (2, .int x2), (3, .int x3)]) (fun _ => rfl) h (fun v3 h => ?_)
      refine k_lv [1, 2, 3, 4, 0] (lv2 := [(0, rA G o0), (1, .int x1), (2, .int x2), (3, .int x3), (4, .int v3)]) rfl ?_
      obtain ⟨v25, M26, e24, h⟩ := ob2_inv h
      refine kl_X8_three_L53 C o0 h0 x1 x3 v25 M26 ?_ 1000 x2 v3 M e24
      refine kb_iinc C (pc2 := 148) (dkAt dkX8_three 79 (q := (145, .iinc 3 1, 3)) rfl) rfl (j := 3) rfl (v := x3 + 1) rfl (by decide) (lv2 := fun v27 => [(3, .int v27), (0, rA G o0), (1, .int x1), (2, .int v25)]) (fun _ => rfl) h (fun v27 h => ?_)
      refine k_goto C (tgt := 40) (dkAt dkX8_three 80 (q := (148, .goto (-108), 3)) rfl) (by decide) ?_
      refine k_lv [1, 2, 3, 0] (lv2 := [(0, rA G o0), (1, .int x1), (2, .int v25), (3, .int v27)]) rfl ?_
      exact ih v25 v27 M26 h
set_option maxRecDepth 100000 in
set_option maxHeartbeats 4000000 in
theorem ct_X8_three (l : Launch) (G : GG) (sh : Sh) (xs : List va_E) (o0 : Nat) (h0 : isM sh o0) (x1 : Int32) (M : Mm) (r : Mm × Int32) (h : f_X8_three o0 x1 M = some r) : Ct l yX8_three cX8_three 7 (some .int) rm_X8_three G [rA G o0, .int x1] sh M xs (some (.int r.2)) sh r.1 xs 0 0 := by
  refine ct_of (by decide) (Nat.le_of_ble_eq_true rfl) ?_
  intro p e s m args below meth c hnm C
  refine k_lv [0, 1] (lv2 := [(0, rA G o0), (1, .int x1)]) rfl ?_
  unfold f_X8_three at h
  refine k_iload_n C (pc2 := 1) (dkAt dkX8_three 0 (q := (0, .iload_n 1, 1)) rfl) rfl rfl 1 rfl ?_
  refine k_i2l C (pc2 := 2) (dkAt dkX8_three 1 (q := (1, .i2l, 1)) rfl) rfl ?_
  refine k_ldc2 C (pc2 := 5) (dkAt dkX8_three 2 (q := (2, .ldc2_w 288, 3)) rfl) rfl (v := (-1)) tL_X8_288 ?_
  refine k_ldc2 C (pc2 := 8) (dkAt dkX8_three 3 (q := (5, .ldc2_w 272, 3)) rfl) rfl (v := 2) tL_X8_272 ?_
  obtain ⟨q1, e2, h⟩ := ob_inv h
  refine kc_S C (As := [.long x1.toInt64, .long (-1), .long 2]) (st2 := [.int q1]) (ct_X8_in l G sh xs x1.toInt64 (-1) 2 M q1 e2) (cl_X8_85 (hts_of C) ⟨Nat.le_of_ble_eq_true rfl, Nat.le_of_ble_eq_true rfl⟩ rfl rfl) rfl rfl (Nat.le_of_ble_eq_true rfl) (dkAt dkX8_three 4 (q := (8, .invokestatic 85, 3)) rfl) ⟨Nat.zero_le _, Nat.zero_le _⟩ (pc2 := 11) rfl rfl ?_
  refine k_if_ne C (tgt := 21) (pc2 := 14) (dkAt dkX8_three 5 (q := (11, .ifCond .ne 10, 3)) rfl) (by decide) rfl h (fun h => ?_) (fun h => ?_)
  · refine k_aload_n C (pc2 := 22) (dkAt dkX8_three 10 (q := (21, .aload_n 0, 1)) rfl) rfl rfl 0 rfl ?_
    refine kf_X8_37 C (pc2 := 25) (o := o0) (o2 := 0) h0.1 (dkAt dkX8_three 11 (q := (22, .getfield 37, 3)) rfl) rfl ?_
    refine k_iconst C (pc2 := 26) (dkAt dkX8_three 12 (q := (25, .iconst 3, 1)) rfl) rfl (v := 3) rfl ?_
    refine k_icmp_ge C (tgt := 36) (pc2 := 29) (dkAt dkX8_three 13 (q := (26, .if_icmp .ge 10, 3)) rfl) (by decide) rfl h (fun h => ?_) (fun h => ?_)
    · refine k_iconst C (pc2 := 37) (dkAt dkX8_three 18 (q := (36, .iconst (-1), 1)) rfl) rfl (v := (-1)) rfl ?_
      refine k_istore_n C (pc2 := 38) (dkAt dkX8_three 19 (q := (37, .istore_n 2, 1)) rfl) rfl rfl (by decide) (lv2 := [(2, .int (-1)), (0, rA G o0), (1, .int x1)]) rfl ?_
      refine k_iconst C (pc2 := 39) (dkAt dkX8_three 20 (q := (38, .iconst 0, 1)) rfl) rfl (v := 0) rfl ?_
      refine k_istore_n C (pc2 := 40) (dkAt dkX8_three 21 (q := (39, .istore_n 3, 1)) rfl) rfl rfl (by decide) (lv2 := [(3, .int 0), (2, .int (-1)), (0, rA G o0), (1, .int x1)]) rfl ?_
      refine k_lv [2, 3, 1, 0] (lv2 := [(0, rA G o0), (1, .int x1), (2, .int (-1)), (3, .int 0)]) rfl ?_
      obtain ⟨v30, M31, e29, h⟩ := ob2_inv h
      refine kl_X8_three_L40 C o0 h0 x1 v30 M31 ?_ 1000 (-1) 0 M e29
      refine k_iload_n C (pc2 := 152) (dkAt dkX8_three 81 (q := (151, .iload_n 1, 1)) rfl) rfl rfl 1 rfl ?_
      refine k_iconst C (pc2 := 153) (dkAt dkX8_three 82 (q := (152, .iconst (-1), 1)) rfl) rfl (v := (-1)) rfl ?_
      refine k_icmp_ne C (tgt := 160) (pc2 := 156) (dkAt dkX8_three 83 (q := (153, .if_icmp .ne 7, 3)) rfl) (by decide) rfl h (fun h => ?_) (fun h => ?_)
      · refine k_aload_n C (pc2 := 161) (dkAt dkX8_three 86 (q := (160, .aload_n 0, 1)) rfl) rfl rfl 0 rfl ?_
        refine kf_X8_79 C (pc2 := 164) (o := o0) (o2 := o0 + 36) h0.1 rfl (dkAt dkX8_three 87 (q := (161, .getfield 79, 3)) rfl) rfl ?_
        refine k_iload_n C (pc2 := 165) (dkAt dkX8_three 88 (q := (164, .iload_n 1, 1)) rfl) rfl rfl 1 rfl ?_
        refine k_iald C (pc2 := 166) (o := o0 + 36) (nA := 3) (isM_bestRow h0) (dkAt dkX8_three 89 (q := (165, .iaload, 1)) rfl) rfl h (fun h => ?_)
        exact k_iret C (dkAt dkX8_three 90 (q := (166, .ireturn, 1)) rfl) (pe2 (Option.some.inj h)) rfl (pe1 (Option.some.inj h)) rfl
      · refine k_iload_n C (pc2 := 157) (dkAt dkX8_three 84 (q := (156, .iload_n 2, 1)) rfl) rfl rfl 2 rfl ?_
        refine k_goto C (tgt := 166) (dkAt dkX8_three 85 (q := (157, .goto 9, 3)) rfl) (by decide) ?_
        exact k_iret C (dkAt dkX8_three 90 (q := (166, .ireturn, 1)) rfl) (pe2 (Option.some.inj h)) rfl (pe1 (Option.some.inj h)) rfl
    · refine k_aload_n C (pc2 := 30) (dkAt dkX8_three 14 (q := (29, .aload_n 0, 1)) rfl) rfl rfl 0 rfl ?_
      refine k_bipush C (pc2 := 32) (dkAt dkX8_three 15 (q := (30, .bipush (-5), 2)) rfl) rfl (v := (-5)) rfl ?_
      obtain ⟨q32, e33, h⟩ := ob_inv h
      refine kc_V C (As := [.int (-5)]) (st2 := [.int q32.2]) (ct_X8_refuse l G sh xs o0 h0 (-5) M q32 e33) (cl_X8_97 (hts_of C) ⟨Nat.le_of_ble_eq_true rfl, Nat.le_of_ble_eq_true rfl⟩ rfl rfl) h0.1 rfl rfl rfl rfl rfl (Nat.le_of_ble_eq_true rfl) (dkAt dkX8_three 16 (q := (32, .invokevirtual 97, 3)) rfl) ⟨Nat.zero_le _, Nat.zero_le _⟩ (pc2 := 35) rfl rfl ?_
      exact k_iret C (dkAt dkX8_three 17 (q := (35, .ireturn, 1)) rfl) (pe2 (Option.some.inj h)) rfl (pe1 (Option.some.inj h)) rfl
  · refine k_aload_n C (pc2 := 15) (dkAt dkX8_three 6 (q := (14, .aload_n 0, 1)) rfl) rfl rfl 0 rfl ?_
    refine k_bipush C (pc2 := 17) (dkAt dkX8_three 7 (q := (15, .bipush (-2), 2)) rfl) rfl (v := (-2)) rfl ?_
    obtain ⟨q34, e35, h⟩ := ob_inv h
    refine kc_V C (As := [.int (-2)]) (st2 := [.int q34.2]) (ct_X8_refuse l G sh xs o0 h0 (-2) M q34 e35) (cl_X8_97 (hts_of C) ⟨Nat.le_of_ble_eq_true rfl, Nat.le_of_ble_eq_true rfl⟩ rfl rfl) h0.1 rfl rfl rfl rfl rfl (Nat.le_of_ble_eq_true rfl) (dkAt dkX8_three 8 (q := (17, .invokevirtual 97, 3)) rfl) ⟨Nat.zero_le _, Nat.zero_le _⟩ (pc2 := 20) rfl rfl ?_
    exact k_iret C (dkAt dkX8_three 9 (q := (20, .ireturn, 1)) rfl) (pe2 (Option.some.inj h)) rfl (pe1 (Option.some.inj h)) rfl
set_option maxRecDepth 100000 in
set_option maxHeartbeats 4000000 in
theorem kl_X8_most_L46 {p : Program} {l : Launch} {e : Env} {s : State} {m : MethodId} {args : Array Value} {below : List Frame} {meth : Method} {c : Code} {G : GG} {sh : Sh} {xs : List va_E} {Q : State → Prop} (C : Cx p s m c args meth G RX8 cX8_most 7 (some .int)) (o0 : Nat) (h0 : isM sh o0) (x1 : Int32) (x2 : Int32) (x3 : Int32) (M2 : Mm) (hcont : KW p l e rm_X8_most s m args below meth c G 7 Q sh xs 0 0 M2 78 [(0, rA G o0), (1, .int x1), (2, .int x2), (3, .int x3)] []) : ∀ (n : Nat) (x4 : Int32) (M : Mm), f_X8_most_L46 o0 x1 x2 x3 n x4 M = some M2 → KW p l e rm_X8_most s m args below meth c G 7 Q sh xs 0 0 M 46 [(0, rA G o0), (1, .int x1), (2, .int x2), (3, .int x3), (4, .int x4)] [] := by
  intro n
  induction n with
  | zero =>
    intro x4 M h
    cases h
  | succ n ih =>
    intro x4 M h
    unfold f_X8_most_L46 at h
    refine k_iload C (pc2 := 48) (dkAt dkX8_most 24 (q := (46, .iload 4, 2)) rfl) rfl 4 rfl ?_
    refine k_bipush C (pc2 := 50) (dkAt dkX8_most 25 (q := (48, .bipush 20, 2)) rfl) rfl (v := 20) rfl ?_
    refine k_icmp_gt C (tgt := 78) (pc2 := 53) (dkAt dkX8_most 26 (q := (50, .if_icmp .gt 28, 3)) rfl) (by decide) rfl h (fun h => ?_) (fun h => ?_)
    · refine k_lv [0, 1, 2, 3] (lv2 := [(0, rA G o0), (1, .int x1), (2, .int x2), (3, .int x3)]) rfl ?_
      cases h
      exact hcont
    · refine k_aload_n C (pc2 := 54) (dkAt dkX8_most 27 (q := (53, .aload_n 0, 1)) rfl) rfl rfl 0 rfl ?_
      refine kf_X8_73 C (pc2 := 57) (o := o0) (o2 := o0 + 34) h0.1 rfl (dkAt dkX8_most 28 (q := (54, .getfield 73, 3)) rfl) rfl ?_
      refine k_iload C (pc2 := 59) (dkAt dkX8_most 29 (q := (57, .iload 4, 2)) rfl) rfl 4 rfl ?_
      refine k_iload C (pc2 := 61) (dkAt dkX8_most 30 (q := (59, .iload 4, 2)) rfl) rfl 4 rfl ?_
      refine k_if_ne C (tgt := 70) (pc2 := 64) (dkAt dkX8_most 31 (q := (61, .ifCond .ne 9, 3)) rfl) (by decide) rfl h (fun h => ?_) (fun h => ?_)
      · refine k_iconst C (pc2 := 71) (dkAt dkX8_most 34 (q := (70, .iconst 0, 1)) rfl) rfl (v := 0) rfl ?_
        refine k_iast C (pc2 := 72) (o := o0 + 34) (nA := 21) (isM_parts h0) (dkAt dkX8_most 35 (q := (71, .iastore, 1)) rfl) rfl h (fun M11 h => ?_)
        refine kb_iinc C (pc2 := 75) (dkAt dkX8_most 36 (q := (72, .iinc 4 1, 3)) rfl) rfl (j := 4) rfl (v := x4 + 1) rfl (by decide) (lv2 := fun v12 => [(4, .int v12), (0, rA G o0), (1, .int x1), (2, .int x2), (3, .int x3)]) (fun _ => rfl) h (fun v12 h => ?_)
        refine k_goto C (tgt := 46) (dkAt dkX8_most 37 (q := (75, .goto (-29), 3)) rfl) (by decide) ?_
        refine k_lv [1, 2, 3, 4, 0] (lv2 := [(0, rA G o0), (1, .int x1), (2, .int x2), (3, .int x3), (4, .int v12)]) rfl ?_
        exact ih v12 M11 h
      · refine k_ldcw C (pc2 := 67) (dkAt dkX8_most 32 (q := (64, .ldc_w 292, 3)) rfl) rfl (v := 1000000) tK_X8_292 ?_
        refine k_goto C (tgt := 71) (dkAt dkX8_most 33 (q := (67, .goto 4, 3)) rfl) (by decide) ?_
        refine k_iast C (pc2 := 72) (o := o0 + 34) (nA := 21) (isM_parts h0) (dkAt dkX8_most 35 (q := (71, .iastore, 1)) rfl) rfl h (fun M13 h => ?_)
        refine kb_iinc C (pc2 := 75) (dkAt dkX8_most 36 (q := (72, .iinc 4 1, 3)) rfl) rfl (j := 4) rfl (v := x4 + 1) rfl (by decide) (lv2 := fun v14 => [(4, .int v14), (0, rA G o0), (1, .int x1), (2, .int x2), (3, .int x3)]) (fun _ => rfl) h (fun v14 h => ?_)
        refine k_goto C (tgt := 46) (dkAt dkX8_most 37 (q := (75, .goto (-29), 3)) rfl) (by decide) ?_
        refine k_lv [1, 2, 3, 4, 0] (lv2 := [(0, rA G o0), (1, .int x1), (2, .int x2), (3, .int x3), (4, .int v14)]) rfl ?_
        exact ih v14 M13 h
set_option maxRecDepth 100000 in
set_option maxHeartbeats 4000000 in
theorem kl_X8_most_L91 {p : Program} {l : Launch} {e : Env} {s : State} {m : MethodId} {args : Array Value} {below : List Frame} {meth : Method} {c : Code} {G : GG} {sh : Sh} {xs : List va_E} {Q : State → Prop} (C : Cx p s m c args meth G RX8 cX8_most 7 (some .int)) (o0 : Nat) (h0 : isM sh o0) (x1 : Int32) (x2 : Int32) (x3 : Int32) (x4 : Int32) (M2 : Mm) (hcont : KW p l e rm_X8_most s m args below meth c G 7 Q sh xs 0 0 M2 152 [(0, rA G o0), (1, .int x1), (2, .int x2), (3, .int x3), (4, .int x4)] []) : ∀ (n : Nat) (x5 : Int32) (M : Mm), f_X8_most_L91 o0 x1 x2 x3 x4 n x5 M = some M2 → KW p l e rm_X8_most s m args below meth c G 7 Q sh xs 0 0 M 91 [(0, rA G o0), (1, .int x1), (2, .int x2), (3, .int x3), (4, .int x4), (5, .int x5)] [] := by
  intro n
  induction n with
  | zero =>
    intro x5 M h
    cases h
  | succ n ih =>
    intro x5 M h
    unfold f_X8_most_L91 at h
    refine k_iload C (pc2 := 93) (dkAt dkX8_most 45 (q := (91, .iload 5, 2)) rfl) rfl 5 rfl ?_
    refine k_if_lt C (tgt := 152) (pc2 := 96) (dkAt dkX8_most 46 (q := (93, .ifCond .lt 59, 3)) rfl) (by decide) rfl h (fun h => ?_) (fun h => ?_)
    · refine k_lv [0, 1, 2, 3, 4] (lv2 := [(0, rA G o0), (1, .int x1), (2, .int x2), (3, .int x3), (4, .int x4)]) rfl ?_
      cases h
      exact hcont
    · refine k_iload C (pc2 := 98) (dkAt dkX8_most 47 (q := (96, .iload 5, 2)) rfl) rfl 5 rfl ?_
      refine k_if_ne C (tgt := 105) (pc2 := 101) (dkAt dkX8_most 48 (q := (98, .ifCond .ne 7, 3)) rfl) (by decide) rfl h (fun h => ?_) (fun h => ?_)
      · refine k_aload_n C (pc2 := 106) (dkAt dkX8_most 51 (q := (105, .aload_n 0, 1)) rfl) rfl rfl 0 rfl ?_
        refine kf_X8_73 C (pc2 := 109) (o := o0) (o2 := o0 + 34) h0.1 rfl (dkAt dkX8_most 52 (q := (106, .getfield 73, 3)) rfl) rfl ?_
        refine k_iload C (pc2 := 111) (dkAt dkX8_most 53 (q := (109, .iload 5, 2)) rfl) rfl 5 rfl ?_
        refine k_iconst C (pc2 := 112) (dkAt dkX8_most 54 (q := (111, .iconst 1, 1)) rfl) rfl (v := 1) rfl ?_
        refine k_isub C (pc2 := 113) (dkAt dkX8_most 55 (q := (112, .isub, 1)) rfl) rfl ?_
        refine k_iald C (pc2 := 114) (o := o0 + 34) (nA := 21) (isM_parts h0) (dkAt dkX8_most 56 (q := (113, .iaload, 1)) rfl) rfl h (fun h => ?_)
        refine k_iload_n C (pc2 := 115) (dkAt dkX8_most 57 (q := (114, .iload_n 2, 1)) rfl) rfl rfl 2 rfl ?_
        refine k_imul C (pc2 := 116) (dkAt dkX8_most 58 (q := (115, .imul, 1)) rfl) rfl ?_
        refine k_bipush C (pc2 := 118) (dkAt dkX8_most 59 (q := (116, .bipush 12, 2)) rfl) rfl (v := 12) rfl ?_
        refine k_idivc C (pc2 := 119) (dkAt dkX8_most 60 (q := (118, .idiv, 1)) rfl) rfl (by decide) ?_
        refine kb_istore C (pc2 := 121) (dkAt dkX8_most 61 (q := (119, .istore 6, 2)) rfl) rfl (by decide) (lv2 := fun v18 => [(6, .int v18), (0, rA G o0), (1, .int x1), (2, .int x2), (3, .int x3), (4, .int x4), (5, .int x5)]) (fun _ => rfl) h (fun v18 h => ?_)
        refine k_aload_n C (pc2 := 122) (dkAt dkX8_most 62 (q := (121, .aload_n 0, 1)) rfl) rfl rfl 1 rfl ?_
        refine kf_X8_73 C (pc2 := 125) (o := o0) (o2 := o0 + 34) h0.1 rfl (dkAt dkX8_most 63 (q := (122, .getfield 73, 3)) rfl) rfl ?_
        refine k_iload C (pc2 := 127) (dkAt dkX8_most 64 (q := (125, .iload 5, 2)) rfl) rfl 6 rfl ?_
        refine k_aload_n C (pc2 := 128) (dkAt dkX8_most 65 (q := (127, .aload_n 0, 1)) rfl) rfl rfl 1 rfl ?_
        refine kf_X8_73 C (pc2 := 131) (o := o0) (o2 := o0 + 34) h0.1 rfl (dkAt dkX8_most 66 (q := (128, .getfield 73, 3)) rfl) rfl ?_
        refine k_iload C (pc2 := 133) (dkAt dkX8_most 67 (q := (131, .iload 5, 2)) rfl) rfl 6 rfl ?_
        refine k_iald C (pc2 := 134) (o := o0 + 34) (nA := 21) (isM_parts h0) (dkAt dkX8_most 68 (q := (133, .iaload, 1)) rfl) rfl h (fun h => ?_)
        refine k_bipush C (pc2 := 136) (dkAt dkX8_most 69 (q := (134, .bipush 12, 2)) rfl) rfl (v := 12) rfl ?_
        refine k_iload_n C (pc2 := 137) (dkAt dkX8_most 70 (q := (136, .iload_n 2, 1)) rfl) rfl rfl 3 rfl ?_
        refine k_isub C (pc2 := 138) (dkAt dkX8_most 71 (q := (137, .isub, 1)) rfl) rfl ?_
        refine k_imul C (pc2 := 139) (dkAt dkX8_most 72 (q := (138, .imul, 1)) rfl) rfl ?_
        refine k_bipush C (pc2 := 141) (dkAt dkX8_most 73 (q := (139, .bipush 12, 2)) rfl) rfl (v := 12) rfl ?_
        refine k_idivc C (pc2 := 142) (dkAt dkX8_most 74 (q := (141, .idiv, 1)) rfl) rfl (by decide) ?_
        refine k_iload C (pc2 := 144) (dkAt dkX8_most 75 (q := (142, .iload 6, 2)) rfl) rfl 0 rfl ?_
        refine k_iadd C (pc2 := 145) (dkAt dkX8_most 76 (q := (144, .iadd, 1)) rfl) rfl ?_
        refine k_iast C (pc2 := 146) (o := o0 + 34) (nA := 21) (isM_parts h0) (dkAt dkX8_most 77 (q := (145, .iastore, 1)) rfl) rfl h (fun M19 h => ?_)
        refine kb_iinc C (pc2 := 149) (dkAt dkX8_most 78 (q := (146, .iinc 5 (-1), 3)) rfl) rfl (j := 6) rfl (v := x5 + (-1)) rfl (by decide) (lv2 := fun v20 => [(5, .int v20), (6, .int v18), (0, rA G o0), (1, .int x1), (2, .int x2), (3, .int x3), (4, .int x4)]) (fun _ => rfl) h (fun v20 h => ?_)
        refine k_goto C (tgt := 91) (dkAt dkX8_most 79 (q := (149, .goto (-58), 3)) rfl) (by decide) ?_
        refine k_lv [2, 3, 4, 5, 6, 0] (lv2 := [(0, rA G o0), (1, .int x1), (2, .int x2), (3, .int x3), (4, .int x4), (5, .int v20)]) rfl ?_
        exact ih v20 M19 h
      · refine k_iconst C (pc2 := 102) (dkAt dkX8_most 49 (q := (101, .iconst 0, 1)) rfl) rfl (v := 0) rfl ?_
        refine k_goto C (tgt := 119) (dkAt dkX8_most 50 (q := (102, .goto 17, 3)) rfl) (by decide) ?_
        refine k_istore C (pc2 := 121) (dkAt dkX8_most 61 (q := (119, .istore 6, 2)) rfl) rfl (by decide) (lv2 := [(6, .int 0), (0, rA G o0), (1, .int x1), (2, .int x2), (3, .int x3), (4, .int x4), (5, .int x5)]) rfl ?_
        refine k_aload_n C (pc2 := 122) (dkAt dkX8_most 62 (q := (121, .aload_n 0, 1)) rfl) rfl rfl 1 rfl ?_
        refine kf_X8_73 C (pc2 := 125) (o := o0) (o2 := o0 + 34) h0.1 rfl (dkAt dkX8_most 63 (q := (122, .getfield 73, 3)) rfl) rfl ?_
        refine k_iload C (pc2 := 127) (dkAt dkX8_most 64 (q := (125, .iload 5, 2)) rfl) rfl 6 rfl ?_
        refine k_aload_n C (pc2 := 128) (dkAt dkX8_most 65 (q := (127, .aload_n 0, 1)) rfl) rfl rfl 1 rfl ?_
        refine kf_X8_73 C (pc2 := 131) (o := o0) (o2 := o0 + 34) h0.1 rfl (dkAt dkX8_most 66 (q := (128, .getfield 73, 3)) rfl) rfl ?_
        refine k_iload C (pc2 := 133) (dkAt dkX8_most 67 (q := (131, .iload 5, 2)) rfl) rfl 6 rfl ?_
        refine k_iald C (pc2 := 134) (o := o0 + 34) (nA := 21) (isM_parts h0) (dkAt dkX8_most 68 (q := (133, .iaload, 1)) rfl) rfl h (fun h => ?_)
        refine k_bipush C (pc2 := 136) (dkAt dkX8_most 69 (q := (134, .bipush 12, 2)) rfl) rfl (v := 12) rfl ?_
        refine k_iload_n C (pc2 := 137) (dkAt dkX8_most 70 (q := (136, .iload_n 2, 1)) rfl) rfl rfl 3 rfl ?_
        refine k_isub C (pc2 := 138) (dkAt dkX8_most 71 (q := (137, .isub, 1)) rfl) rfl ?_
        refine k_imul C (pc2 := 139) (dkAt dkX8_most 72 (q := (138, .imul, 1)) rfl) rfl ?_
        refine k_bipush C (pc2 := 141) (dkAt dkX8_most 73 (q := (139, .bipush 12, 2)) rfl) rfl (v := 12) rfl ?_
        refine k_idivc C (pc2 := 142) (dkAt dkX8_most 74 (q := (141, .idiv, 1)) rfl) rfl (by decide) ?_
        refine k_iload C (pc2 := 144) (dkAt dkX8_most 75 (q := (142, .iload 6, 2)) rfl) rfl 0 rfl ?_
        refine k_iadd C (pc2 := 145) (dkAt dkX8_most 76 (q := (144, .iadd, 1)) rfl) rfl ?_
        refine k_iast C (pc2 := 146) (o := o0 + 34) (nA := 21) (isM_parts h0) (dkAt dkX8_most 77 (q := (145, .iastore, 1)) rfl) rfl h (fun M21 h => ?_)
        refine kb_iinc C (pc2 := 149) (dkAt dkX8_most 78 (q := (146, .iinc 5 (-1), 3)) rfl) rfl (j := 6) rfl (v := x5 + (-1)) rfl (by decide) (lv2 := fun v22 => [(5, .int v22), (6, .int 0), (0, rA G o0), (1, .int x1), (2, .int x2), (3, .int x3), (4, .int x4)]) (fun _ => rfl) h (fun v22 h => ?_)
        refine k_goto C (tgt := 91) (dkAt dkX8_most 79 (q := (149, .goto (-58), 3)) rfl) (by decide) ?_
        refine k_lv [2, 3, 4, 5, 6, 0] (lv2 := [(0, rA G o0), (1, .int x1), (2, .int x2), (3, .int x3), (4, .int x4), (5, .int v22)]) rfl ?_
        exact ih v22 M21 h
set_option maxRecDepth 100000 in
set_option maxHeartbeats 4000000 in
theorem kl_X8_most_L81 {p : Program} {l : Launch} {e : Env} {s : State} {m : MethodId} {args : Array Value} {below : List Frame} {meth : Method} {c : Code} {G : GG} {sh : Sh} {xs : List va_E} {Q : State → Prop} (C : Cx p s m c args meth G RX8 cX8_most 7 (some .int)) (o0 : Nat) (h0 : isM sh o0) (x1 : Int32) (x2 : Int32) (x3 : Int32) (M2 : Mm) (hcont : KW p l e rm_X8_most s m args below meth c G 7 Q sh xs 0 0 M2 158 [(0, rA G o0), (3, .int x3)] []) : ∀ (n : Nat) (x4 : Int32) (M : Mm), f_X8_most_L81 o0 x1 x2 x3 n x4 M = some M2 → KW p l e rm_X8_most s m args below meth c G 7 Q sh xs 0 0 M 81 [(0, rA G o0), (1, .int x1), (2, .int x2), (3, .int x3), (4, .int x4)] [] := by
  intro n
  induction n with
  | zero =>
    intro x4 M h
    cases h
  | succ n ih =>
    intro x4 M h
    unfold f_X8_most_L81 at h
    refine k_iload C (pc2 := 83) (dkAt dkX8_most 40 (q := (81, .iload 4, 2)) rfl) rfl 4 rfl ?_
    refine k_iload_n C (pc2 := 84) (dkAt dkX8_most 41 (q := (83, .iload_n 1, 1)) rfl) rfl rfl 1 rfl ?_
    refine k_icmp_ge C (tgt := 158) (pc2 := 87) (dkAt dkX8_most 42 (q := (84, .if_icmp .ge 74, 3)) rfl) (by decide) rfl h (fun h => ?_) (fun h => ?_)
    · refine k_lv [0, 3] (lv2 := [(0, rA G o0), (3, .int x3)]) rfl ?_
      cases h
      exact hcont
    · refine k_bipush C (pc2 := 89) (dkAt dkX8_most 43 (q := (87, .bipush 20, 2)) rfl) rfl (v := 20) rfl ?_
      refine k_istore C (pc2 := 91) (dkAt dkX8_most 44 (q := (89, .istore 5, 2)) rfl) rfl (by decide) (lv2 := [(5, .int 20), (0, rA G o0), (1, .int x1), (2, .int x2), (3, .int x3), (4, .int x4)]) rfl ?_
      refine k_lv [1, 2, 3, 4, 5, 0] (lv2 := [(0, rA G o0), (1, .int x1), (2, .int x2), (3, .int x3), (4, .int x4), (5, .int 20)]) rfl ?_
      obtain ⟨M25, e24, h⟩ := ob_inv h
      refine kl_X8_most_L91 C o0 h0 x1 x2 x3 x4 M25 ?_ 1000 20 M e24
      refine kb_iinc C (pc2 := 155) (dkAt dkX8_most 80 (q := (152, .iinc 4 1, 3)) rfl) rfl (j := 4) rfl (v := x4 + 1) rfl (by decide) (lv2 := fun v26 => [(4, .int v26), (0, rA G o0), (1, .int x1), (2, .int x2), (3, .int x3)]) (fun _ => rfl) h (fun v26 h => ?_)
      refine k_goto C (tgt := 81) (dkAt dkX8_most 81 (q := (155, .goto (-74), 3)) rfl) (by decide) ?_
      refine k_lv [1, 2, 3, 4, 0] (lv2 := [(0, rA G o0), (1, .int x1), (2, .int x2), (3, .int x3), (4, .int v26)]) rfl ?_
      exact ih v26 M25 h
set_option maxRecDepth 100000 in
set_option maxHeartbeats 4000000 in
theorem kl_X8_most_L164 {p : Program} {l : Launch} {e : Env} {s : State} {m : MethodId} {args : Array Value} {below : List Frame} {meth : Method} {c : Code} {G : GG} {sh : Sh} {xs : List va_E} {Q : State → Prop} (C : Cx p s m c args meth G RX8 cX8_most 7 (some .int)) (o0 : Nat) (h0 : isM sh o0) (M : Mm) (y4 : Int32) (hcont : KW p l e rm_X8_most s m args below meth c G 7 Q sh xs 0 0 M 189 [(4, .int y4)] []) : ∀ (n : Nat) (x4 : Int32) (x5 : Int32), f_X8_most_L164 o0 M n x4 x5 = some y4 → KW p l e rm_X8_most s m args below meth c G 7 Q sh xs 0 0 M 164 [(0, rA G o0), (4, .int x4), (5, .int x5)] [] := by
  intro n
  induction n with
  | zero =>
    intro x4 x5 h
    cases h
  | succ n ih =>
    intro x4 x5 h
    unfold f_X8_most_L164 at h
    refine k_iload C (pc2 := 166) (dkAt dkX8_most 86 (q := (164, .iload 5, 2)) rfl) rfl 2 rfl ?_
    refine k_bipush C (pc2 := 168) (dkAt dkX8_most 87 (q := (166, .bipush 20, 2)) rfl) rfl (v := 20) rfl ?_
    refine k_icmp_gt C (tgt := 189) (pc2 := 171) (dkAt dkX8_most 88 (q := (168, .if_icmp .gt 21, 3)) rfl) (by decide) rfl h (fun h => ?_) (fun h => ?_)
    · refine k_lv [1] (lv2 := [(4, .int x4)]) rfl ?_
      cases h
      exact hcont
    · refine k_iload C (pc2 := 173) (dkAt dkX8_most 89 (q := (171, .iload 4, 2)) rfl) rfl 1 rfl ?_
      refine k_aload_n C (pc2 := 174) (dkAt dkX8_most 90 (q := (173, .aload_n 0, 1)) rfl) rfl rfl 0 rfl ?_
      refine kf_X8_73 C (pc2 := 177) (o := o0) (o2 := o0 + 34) h0.1 rfl (dkAt dkX8_most 91 (q := (174, .getfield 73, 3)) rfl) rfl ?_
      refine k_iload C (pc2 := 179) (dkAt dkX8_most 92 (q := (177, .iload 5, 2)) rfl) rfl 2 rfl ?_
      refine k_iald C (pc2 := 180) (o := o0 + 34) (nA := 21) (isM_parts h0) (dkAt dkX8_most 93 (q := (179, .iaload, 1)) rfl) rfl h (fun h => ?_)
      refine k_iadd C (pc2 := 181) (dkAt dkX8_most 94 (q := (180, .iadd, 1)) rfl) rfl ?_
      refine kb_istore C (pc2 := 183) (dkAt dkX8_most 95 (q := (181, .istore 4, 2)) rfl) rfl (by decide) (lv2 := fun v30 => [(4, .int v30), (0, rA G o0), (5, .int x5)]) (fun _ => rfl) h (fun v30 h => ?_)
      refine kb_iinc C (pc2 := 186) (dkAt dkX8_most 96 (q := (183, .iinc 5 1, 3)) rfl) rfl (j := 2) rfl (v := x5 + 1) rfl (by decide) (lv2 := fun v31 => [(5, .int v31), (4, .int v30), (0, rA G o0)]) (fun _ => rfl) h (fun v31 h => ?_)
      refine k_goto C (tgt := 164) (dkAt dkX8_most 97 (q := (186, .goto (-22), 3)) rfl) (by decide) ?_
      refine k_lv [2, 1, 0] (lv2 := [(0, rA G o0), (4, .int v30), (5, .int v31)]) rfl ?_
      exact ih v30 v31 h
set_option maxRecDepth 100000 in
set_option maxHeartbeats 4000000 in
theorem ct_X8_most (l : Launch) (G : GG) (sh : Sh) (xs : List va_E) (o0 : Nat) (h0 : isM sh o0) (x1 : Int32) (x2 : Int32) (x3 : Int32) (M : Mm) (r : Mm × Int32) (h : f_X8_most o0 x1 x2 x3 M = some r) : Ct l yX8_most cX8_most 7 (some .int) rm_X8_most G [rA G o0, .int x1, .int x2, .int x3] sh M xs (some (.int r.2)) sh r.1 xs 0 0 := by
  refine ct_of (by decide) (Nat.le_of_ble_eq_true rfl) ?_
  intro p e s m args below meth c hnm C
  refine k_lv [0, 1, 2, 3] (lv2 := [(0, rA G o0), (1, .int x1), (2, .int x2), (3, .int x3)]) rfl ?_
  unfold f_X8_most at h
  refine k_iload_n C (pc2 := 1) (dkAt dkX8_most 0 (q := (0, .iload_n 1, 1)) rfl) rfl rfl 1 rfl ?_
  refine k_i2l C (pc2 := 2) (dkAt dkX8_most 1 (q := (1, .i2l, 1)) rfl) rfl ?_
  refine k_lconst C (pc2 := 3) (dkAt dkX8_most 2 (q := (2, .lconst 0, 1)) rfl) rfl (v := 0) rfl ?_
  refine k_ldc2 C (pc2 := 6) (dkAt dkX8_most 3 (q := (3, .ldc2_w 290, 3)) rfl) rfl (v := 20) tL_X8_290 ?_
  obtain ⟨q1, e2, h⟩ := ob_inv h
  refine kc_S C (As := [.long x1.toInt64, .long 0, .long 20]) (st2 := [.int q1]) (ct_X8_in l G sh xs x1.toInt64 0 20 M q1 e2) (cl_X8_85 (hts_of C) ⟨Nat.le_of_ble_eq_true rfl, Nat.le_of_ble_eq_true rfl⟩ rfl rfl) rfl rfl (Nat.le_of_ble_eq_true rfl) (dkAt dkX8_most 4 (q := (6, .invokestatic 85, 3)) rfl) ⟨Nat.zero_le _, Nat.zero_le _⟩ (pc2 := 9) rfl rfl ?_
  refine k_if_eq C (tgt := 36) (pc2 := 12) (dkAt dkX8_most 5 (q := (9, .ifCond .eq 27, 3)) rfl) (by decide) rfl h (fun h => ?_) (fun h => ?_)
  · refine k_aload_n C (pc2 := 37) (dkAt dkX8_most 18 (q := (36, .aload_n 0, 1)) rfl) rfl rfl 0 rfl ?_
    refine k_bipush C (pc2 := 39) (dkAt dkX8_most 19 (q := (37, .bipush (-2), 2)) rfl) rfl (v := (-2)) rfl ?_
    obtain ⟨q3, e4, h⟩ := ob_inv h
    refine kc_V C (As := [.int (-2)]) (st2 := [.int q3.2]) (ct_X8_refuse l G sh xs o0 h0 (-2) M q3 e4) (cl_X8_97 (hts_of C) ⟨Nat.le_of_ble_eq_true rfl, Nat.le_of_ble_eq_true rfl⟩ rfl rfl) h0.1 rfl rfl rfl rfl rfl (Nat.le_of_ble_eq_true rfl) (dkAt dkX8_most 20 (q := (39, .invokevirtual 97, 3)) rfl) ⟨Nat.zero_le _, Nat.zero_le _⟩ (pc2 := 42) rfl rfl ?_
    exact k_iret C (dkAt dkX8_most 21 (q := (42, .ireturn, 1)) rfl) (pe2 (Option.some.inj h)) rfl (pe1 (Option.some.inj h)) rfl
  · refine k_iload_n C (pc2 := 13) (dkAt dkX8_most 6 (q := (12, .iload_n 2, 1)) rfl) rfl rfl 2 rfl ?_
    refine k_i2l C (pc2 := 14) (dkAt dkX8_most 7 (q := (13, .i2l, 1)) rfl) rfl ?_
    refine k_lconst C (pc2 := 15) (dkAt dkX8_most 8 (q := (14, .lconst 0, 1)) rfl) rfl (v := 0) rfl ?_
    refine k_ldc2 C (pc2 := 18) (dkAt dkX8_most 9 (q := (15, .ldc2_w 129, 3)) rfl) rfl (v := 12) tL_X8_129 ?_
    obtain ⟨q5, e6, h⟩ := ob_inv h
    refine kc_S C (As := [.long x2.toInt64, .long 0, .long 12]) (st2 := [.int q5]) (ct_X8_in l G sh xs x2.toInt64 0 12 M q5 e6) (cl_X8_85 (hts_of C) ⟨Nat.le_of_ble_eq_true rfl, Nat.le_of_ble_eq_true rfl⟩ rfl rfl) rfl rfl (Nat.le_of_ble_eq_true rfl) (dkAt dkX8_most 10 (q := (18, .invokestatic 85, 3)) rfl) ⟨Nat.zero_le _, Nat.zero_le _⟩ (pc2 := 21) rfl rfl ?_
    refine k_if_eq C (tgt := 36) (pc2 := 24) (dkAt dkX8_most 11 (q := (21, .ifCond .eq 15, 3)) rfl) (by decide) rfl h (fun h => ?_) (fun h => ?_)
    · refine k_aload_n C (pc2 := 37) (dkAt dkX8_most 18 (q := (36, .aload_n 0, 1)) rfl) rfl rfl 0 rfl ?_
      refine k_bipush C (pc2 := 39) (dkAt dkX8_most 19 (q := (37, .bipush (-2), 2)) rfl) rfl (v := (-2)) rfl ?_
      obtain ⟨q7, e8, h⟩ := ob_inv h
      refine kc_V C (As := [.int (-2)]) (st2 := [.int q7.2]) (ct_X8_refuse l G sh xs o0 h0 (-2) M q7 e8) (cl_X8_97 (hts_of C) ⟨Nat.le_of_ble_eq_true rfl, Nat.le_of_ble_eq_true rfl⟩ rfl rfl) h0.1 rfl rfl rfl rfl rfl (Nat.le_of_ble_eq_true rfl) (dkAt dkX8_most 20 (q := (39, .invokevirtual 97, 3)) rfl) ⟨Nat.zero_le _, Nat.zero_le _⟩ (pc2 := 42) rfl rfl ?_
      exact k_iret C (dkAt dkX8_most 21 (q := (42, .ireturn, 1)) rfl) (pe2 (Option.some.inj h)) rfl (pe1 (Option.some.inj h)) rfl
    · refine k_iload_n C (pc2 := 25) (dkAt dkX8_most 12 (q := (24, .iload_n 3, 1)) rfl) rfl rfl 3 rfl ?_
      refine k_i2l C (pc2 := 26) (dkAt dkX8_most 13 (q := (25, .i2l, 1)) rfl) rfl ?_
      refine k_lconst C (pc2 := 27) (dkAt dkX8_most 14 (q := (26, .lconst 0, 1)) rfl) rfl (v := 0) rfl ?_
      refine k_ldc2 C (pc2 := 30) (dkAt dkX8_most 15 (q := (27, .ldc2_w 290, 3)) rfl) rfl (v := 20) tL_X8_290 ?_
      obtain ⟨q9, e10, h⟩ := ob_inv h
      refine kc_S C (As := [.long x3.toInt64, .long 0, .long 20]) (st2 := [.int q9]) (ct_X8_in l G sh xs x3.toInt64 0 20 M q9 e10) (cl_X8_85 (hts_of C) ⟨Nat.le_of_ble_eq_true rfl, Nat.le_of_ble_eq_true rfl⟩ rfl rfl) rfl rfl (Nat.le_of_ble_eq_true rfl) (dkAt dkX8_most 16 (q := (30, .invokestatic 85, 3)) rfl) ⟨Nat.zero_le _, Nat.zero_le _⟩ (pc2 := 33) rfl rfl ?_
      refine k_if_ne C (tgt := 43) (pc2 := 36) (dkAt dkX8_most 17 (q := (33, .ifCond .ne 10, 3)) rfl) (by decide) rfl h (fun h => ?_) (fun h => ?_)
      · refine k_iconst C (pc2 := 44) (dkAt dkX8_most 22 (q := (43, .iconst 0, 1)) rfl) rfl (v := 0) rfl ?_
        refine k_istore C (pc2 := 46) (dkAt dkX8_most 23 (q := (44, .istore 4, 2)) rfl) rfl (by decide) (lv2 := [(4, .int 0), (0, rA G o0), (1, .int x1), (2, .int x2), (3, .int x3)]) rfl ?_
        refine k_lv [1, 2, 3, 4, 0] (lv2 := [(0, rA G o0), (1, .int x1), (2, .int x2), (3, .int x3), (4, .int 0)]) rfl ?_
        obtain ⟨M17, e16, h⟩ := ob_inv h
        refine kl_X8_most_L46 C o0 h0 x1 x2 x3 M17 ?_ 1000 0 M e16
        refine k_iconst C (pc2 := 79) (dkAt dkX8_most 38 (q := (78, .iconst 0, 1)) rfl) rfl (v := 0) rfl ?_
        refine k_istore C (pc2 := 81) (dkAt dkX8_most 39 (q := (79, .istore 4, 2)) rfl) rfl (by decide) (lv2 := [(4, .int 0), (0, rA G o0), (1, .int x1), (2, .int x2), (3, .int x3)]) rfl ?_
        refine k_lv [1, 2, 3, 4, 0] (lv2 := [(0, rA G o0), (1, .int x1), (2, .int x2), (3, .int x3), (4, .int 0)]) rfl ?_
        obtain ⟨M29, e28, h⟩ := ob_inv h
        refine kl_X8_most_L81 C o0 h0 x1 x2 x3 M29 ?_ 1000 0 M17 e28
        refine k_iconst C (pc2 := 159) (dkAt dkX8_most 82 (q := (158, .iconst 0, 1)) rfl) rfl (v := 0) rfl ?_
        refine k_istore C (pc2 := 161) (dkAt dkX8_most 83 (q := (159, .istore 4, 2)) rfl) rfl (by decide) (lv2 := [(4, .int 0), (0, rA G o0), (3, .int x3)]) rfl ?_
        refine k_iload_n C (pc2 := 162) (dkAt dkX8_most 84 (q := (161, .iload_n 3, 1)) rfl) rfl rfl 2 rfl ?_
        refine k_istore C (pc2 := 164) (dkAt dkX8_most 85 (q := (162, .istore 5, 2)) rfl) rfl (by decide) (lv2 := [(5, .int x3), (4, .int 0), (0, rA G o0), (3, .int x3)]) rfl ?_
        refine k_lv [2, 1, 0] (lv2 := [(0, rA G o0), (4, .int 0), (5, .int x3)]) rfl ?_
        obtain ⟨v34, e33, h⟩ := ob_inv h
        refine kl_X8_most_L164 C o0 h0 M29 v34 ?_ 1000 0 x3 e33
        refine k_iload C (pc2 := 191) (dkAt dkX8_most 98 (q := (189, .iload 4, 2)) rfl) rfl 0 rfl ?_
        exact k_iret C (dkAt dkX8_most 99 (q := (191, .ireturn, 1)) rfl) (pe2 (Option.some.inj h)) rfl (pe1 (Option.some.inj h)) rfl
      · refine k_aload_n C (pc2 := 37) (dkAt dkX8_most 18 (q := (36, .aload_n 0, 1)) rfl) rfl rfl 0 rfl ?_
        refine k_bipush C (pc2 := 39) (dkAt dkX8_most 19 (q := (37, .bipush (-2), 2)) rfl) rfl (v := (-2)) rfl ?_
        obtain ⟨q35, e36, h⟩ := ob_inv h
        refine kc_V C (As := [.int (-2)]) (st2 := [.int q35.2]) (ct_X8_refuse l G sh xs o0 h0 (-2) M q35 e36) (cl_X8_97 (hts_of C) ⟨Nat.le_of_ble_eq_true rfl, Nat.le_of_ble_eq_true rfl⟩ rfl rfl) h0.1 rfl rfl rfl rfl rfl (Nat.le_of_ble_eq_true rfl) (dkAt dkX8_most 20 (q := (39, .invokevirtual 97, 3)) rfl) ⟨Nat.zero_le _, Nat.zero_le _⟩ (pc2 := 42) rfl rfl ?_
        exact k_iret C (dkAt dkX8_most 21 (q := (42, .ireturn, 1)) rfl) (pe2 (Option.some.inj h)) rfl (pe1 (Option.some.inj h)) rfl
set_option maxRecDepth 100000 in
set_option maxHeartbeats 4000000 in
theorem kl_X8_known_L52 {p : Program} {l : Launch} {e : Env} {s : State} {m : MethodId} {args : Array Value} {below : List Frame} {meth : Method} {c : Code} {G : GG} {sh : Sh} {xs : List va_E} {Q : State → Prop} (C : Cx p s m c args meth G RX8 cX8_known 5 (some .int)) (o0 : Nat) (h0 : isM sh o0) (x2 : Int32) (M : Mm) (y3 : Int32) (hcont : KW p l e rm_X8_known s m args below meth c G 5 Q sh xs 0 0 M 84 [(3, .int y3)] []) : ∀ (n : Nat) (x3 : Int32) (x4 : Int32), f_X8_known_L52 o0 x2 M n x3 x4 = some y3 → KW p l e rm_X8_known s m args below meth c G 5 Q sh xs 0 0 M 52 [(0, rA G o0), (2, .int x2), (3, .int x3), (4, .int x4)] [] := by
  intro n
  induction n with
  | zero =>
    intro x3 x4 h
    cases h
  | succ n ih =>
    intro x3 x4 h
    unfold f_X8_known_L52 at h
    refine k_iload C (pc2 := 54) (dkAt dkX8_known 28 (q := (52, .iload 4, 2)) rfl) rfl 3 rfl ?_
    refine k_iload_n C (pc2 := 55) (dkAt dkX8_known 29 (q := (54, .iload_n 2, 1)) rfl) rfl rfl 1 rfl ?_
    refine k_aload_n C (pc2 := 56) (dkAt dkX8_known 30 (q := (55, .aload_n 0, 1)) rfl) rfl rfl 0 rfl ?_
    refine kf_X8_82 C (pc2 := 59) (o := o0) (o2 := 0) h0.1 (dkAt dkX8_known 31 (q := (56, .getfield 82, 3)) rfl) rfl ?_
    refine k_imul C (pc2 := 60) (dkAt dkX8_known 32 (q := (59, .imul, 1)) rfl) rfl ?_
    refine k_icmp_ge C (tgt := 84) (pc2 := 63) (dkAt dkX8_known 33 (q := (60, .if_icmp .ge 24, 3)) rfl) (by decide) rfl h (fun h => ?_) (fun h => ?_)
    · refine k_lv [2] (lv2 := [(3, .int x3)]) rfl ?_
      cases h
      exact hcont
    · refine k_iload_n C (pc2 := 64) (dkAt dkX8_known 34 (q := (63, .iload_n 3, 1)) rfl) rfl rfl 2 rfl ?_
      refine k_bipush C (pc2 := 66) (dkAt dkX8_known 35 (q := (64, .bipush 12, 2)) rfl) rfl (v := 12) rfl ?_
      refine k_aload_n C (pc2 := 67) (dkAt dkX8_known 36 (q := (66, .aload_n 0, 1)) rfl) rfl rfl 0 rfl ?_
      refine kf_X8_56 C (pc2 := 70) (o := o0) (o2 := o0 + 22) h0.1 rfl (dkAt dkX8_known 37 (q := (67, .getfield 56, 3)) rfl) rfl ?_
      refine k_iconst C (pc2 := 71) (dkAt dkX8_known 38 (q := (70, .iconst 2, 1)) rfl) rfl (v := 2) rfl ?_
      refine k_ialdc C (pc2 := 72) (o := o0 + 22) (nA := 3) (j := 2) (isM_asked h0) (dkAt dkX8_known 39 (q := (71, .iaload, 1)) rfl) rfl (by unfold vp_in; decide) (by decide) ?_
      refine k_isub C (pc2 := 73) (dkAt dkX8_known 40 (q := (72, .isub, 1)) rfl) rfl ?_
      refine k_imul C (pc2 := 74) (dkAt dkX8_known 41 (q := (73, .imul, 1)) rfl) rfl ?_
      refine k_bipush C (pc2 := 76) (dkAt dkX8_known 42 (q := (74, .bipush 12, 2)) rfl) rfl (v := 12) rfl ?_
      refine k_idivc C (pc2 := 77) (dkAt dkX8_known 43 (q := (76, .idiv, 1)) rfl) rfl (by decide) ?_
      refine kb_istore_n C (pc2 := 78) (dkAt dkX8_known 44 (q := (77, .istore_n 3, 1)) rfl) rfl rfl (by decide) (lv2 := fun v11 => [(3, .int v11), (0, rA G o0), (2, .int x2), (4, .int x4)]) (fun _ => rfl) h (fun v11 h => ?_)
      refine kb_iinc C (pc2 := 81) (dkAt dkX8_known 45 (q := (78, .iinc 4 1, 3)) rfl) rfl (j := 3) rfl (v := x4 + 1) rfl (by decide) (lv2 := fun v12 => [(4, .int v12), (3, .int v11), (0, rA G o0), (2, .int x2)]) (fun _ => rfl) h (fun v12 h => ?_)
      refine k_goto C (tgt := 52) (dkAt dkX8_known 46 (q := (81, .goto (-29), 3)) rfl) (by decide) ?_
      refine k_lv [2, 3, 1, 0] (lv2 := [(0, rA G o0), (2, .int x2), (3, .int v11), (4, .int v12)]) rfl ?_
      exact ih v11 v12 h
set_option maxRecDepth 100000 in
set_option maxHeartbeats 4000000 in
theorem ct_X8_known (l : Launch) (G : GG) (sh : Sh) (xs : List va_E) (o0 : Nat) (h0 : isM sh o0) (x1 : Int32) (x2 : Int32) (M : Mm) (r : Mm × Int32) (h : f_X8_known o0 x1 x2 M = some r) : Ct l yX8_known cX8_known 5 (some .int) rm_X8_known G [rA G o0, .int x1, .int x2] sh M xs (some (.int r.2)) sh r.1 xs 0 0 := by
  refine ct_of (by decide) (Nat.le_of_ble_eq_true rfl) ?_
  intro p e s m args below meth c hnm C
  refine k_lv [0, 1, 2] (lv2 := [(0, rA G o0), (1, .int x1), (2, .int x2)]) rfl ?_
  unfold f_X8_known at h
  refine k_aload_n C (pc2 := 1) (dkAt dkX8_known 0 (q := (0, .aload_n 0, 1)) rfl) rfl rfl 0 rfl ?_
  refine k_iload_n C (pc2 := 2) (dkAt dkX8_known 1 (q := (1, .iload_n 1, 1)) rfl) rfl rfl 1 rfl ?_
  refine k_i2l C (pc2 := 3) (dkAt dkX8_known 2 (q := (2, .i2l, 1)) rfl) rfl ?_
  obtain ⟨q1, e2, h⟩ := ob_inv h
  refine kc_V C (As := [.long x1.toInt64]) (st2 := [.int q1]) (ct_X8_isDay l G sh xs o0 h0 x1.toInt64 M q1 e2) (cl_X8_135 (hts_of C) ⟨Nat.le_of_ble_eq_true rfl, Nat.le_of_ble_eq_true rfl⟩ rfl rfl) h0.1 rfl rfl rfl rfl rfl (Nat.le_of_ble_eq_true rfl) (dkAt dkX8_known 3 (q := (3, .invokevirtual 135, 3)) rfl) ⟨Nat.zero_le _, Nat.zero_le _⟩ (pc2 := 6) rfl rfl ?_
  refine k_if_eq C (tgt := 21) (pc2 := 9) (dkAt dkX8_known 4 (q := (6, .ifCond .eq 15, 3)) rfl) (by decide) rfl h (fun h => ?_) (fun h => ?_)
  · refine k_aload_n C (pc2 := 22) (dkAt dkX8_known 11 (q := (21, .aload_n 0, 1)) rfl) rfl rfl 0 rfl ?_
    refine k_bipush C (pc2 := 24) (dkAt dkX8_known 12 (q := (22, .bipush (-2), 2)) rfl) rfl (v := (-2)) rfl ?_
    obtain ⟨q3, e4, h⟩ := ob_inv h
    refine kc_V C (As := [.int (-2)]) (st2 := [.int q3.2]) (ct_X8_refuse l G sh xs o0 h0 (-2) M q3 e4) (cl_X8_97 (hts_of C) ⟨Nat.le_of_ble_eq_true rfl, Nat.le_of_ble_eq_true rfl⟩ rfl rfl) h0.1 rfl rfl rfl rfl rfl (Nat.le_of_ble_eq_true rfl) (dkAt dkX8_known 13 (q := (24, .invokevirtual 97, 3)) rfl) ⟨Nat.zero_le _, Nat.zero_le _⟩ (pc2 := 27) rfl rfl ?_
    exact k_iret C (dkAt dkX8_known 14 (q := (27, .ireturn, 1)) rfl) (pe2 (Option.some.inj h)) rfl (pe1 (Option.some.inj h)) rfl
  · refine k_iload_n C (pc2 := 10) (dkAt dkX8_known 5 (q := (9, .iload_n 2, 1)) rfl) rfl rfl 2 rfl ?_
    refine k_i2l C (pc2 := 11) (dkAt dkX8_known 6 (q := (10, .i2l, 1)) rfl) rfl ?_
    refine k_lconst C (pc2 := 12) (dkAt dkX8_known 7 (q := (11, .lconst 0, 1)) rfl) rfl (v := 0) rfl ?_
    refine k_ldc2 C (pc2 := 15) (dkAt dkX8_known 8 (q := (12, .ldc2_w 89, 3)) rfl) rfl (v := 99) tL_X8_89 ?_
    obtain ⟨q5, e6, h⟩ := ob_inv h
    refine kc_S C (As := [.long x2.toInt64, .long 0, .long 99]) (st2 := [.int q5]) (ct_X8_in l G sh xs x2.toInt64 0 99 M q5 e6) (cl_X8_85 (hts_of C) ⟨Nat.le_of_ble_eq_true rfl, Nat.le_of_ble_eq_true rfl⟩ rfl rfl) rfl rfl (Nat.le_of_ble_eq_true rfl) (dkAt dkX8_known 9 (q := (15, .invokestatic 85, 3)) rfl) ⟨Nat.zero_le _, Nat.zero_le _⟩ (pc2 := 18) rfl rfl ?_
    refine k_if_ne C (tgt := 28) (pc2 := 21) (dkAt dkX8_known 10 (q := (18, .ifCond .ne 10, 3)) rfl) (by decide) rfl h (fun h => ?_) (fun h => ?_)
    · refine k_aload_n C (pc2 := 29) (dkAt dkX8_known 15 (q := (28, .aload_n 0, 1)) rfl) rfl rfl 0 rfl ?_
      refine k_iload_n C (pc2 := 30) (dkAt dkX8_known 16 (q := (29, .iload_n 1, 1)) rfl) rfl rfl 1 rfl ?_
      obtain ⟨q7, e8, h⟩ := ob_inv h
      refine kc_V C (As := [.int x1]) (st2 := [.int q7]) (ct_X8_thereOn l G sh xs o0 h0 x1 M q7 e8) (cl_X8_263 (hts_of C) ⟨Nat.le_of_ble_eq_true rfl, Nat.le_of_ble_eq_true rfl⟩ rfl rfl) h0.1 rfl rfl rfl rfl rfl (Nat.le_of_ble_eq_true rfl) (dkAt dkX8_known 17 (q := (30, .invokevirtual 263, 3)) rfl) ⟨Nat.zero_le _, Nat.zero_le _⟩ (pc2 := 33) rfl rfl ?_
      obtain ⟨q9, e10, h⟩ := ob_inv h
      refine kc_S C (As := [.int q7]) (st2 := [.int q9]) (ct_X8_bits l G sh xs q7 M q9 e10) (cl_X8_118 (hts_of C) ⟨Nat.le_of_ble_eq_true rfl, Nat.le_of_ble_eq_true rfl⟩ rfl rfl) rfl rfl (Nat.le_of_ble_eq_true rfl) (dkAt dkX8_known 18 (q := (33, .invokestatic 118, 3)) rfl) ⟨Nat.zero_le _, Nat.zero_le _⟩ (pc2 := 36) rfl rfl ?_
      refine k_aload_n C (pc2 := 37) (dkAt dkX8_known 19 (q := (36, .aload_n 0, 1)) rfl) rfl rfl 0 rfl ?_
      refine kf_X8_82 C (pc2 := 40) (o := o0) (o2 := 0) h0.1 (dkAt dkX8_known 20 (q := (37, .getfield 82, 3)) rfl) rfl ?_
      refine k_icmp_ge C (tgt := 45) (pc2 := 43) (dkAt dkX8_known 21 (q := (40, .if_icmp .ge 5, 3)) rfl) (by decide) rfl h (fun h => ?_) (fun h => ?_)
      · refine k_ldcw C (pc2 := 48) (dkAt dkX8_known 24 (q := (45, .ldc_w 292, 3)) rfl) rfl (v := 1000000) tK_X8_292 ?_
        refine k_istore_n C (pc2 := 49) (dkAt dkX8_known 25 (q := (48, .istore_n 3, 1)) rfl) rfl rfl (by decide) (lv2 := [(3, .int 1000000), (0, rA G o0), (1, .int x1), (2, .int x2)]) rfl ?_
        refine k_iconst C (pc2 := 50) (dkAt dkX8_known 26 (q := (49, .iconst 0, 1)) rfl) rfl (v := 0) rfl ?_
        refine k_istore C (pc2 := 52) (dkAt dkX8_known 27 (q := (50, .istore 4, 2)) rfl) rfl (by decide) (lv2 := [(4, .int 0), (3, .int 1000000), (0, rA G o0), (1, .int x1), (2, .int x2)]) rfl ?_
        refine k_lv [2, 4, 1, 0] (lv2 := [(0, rA G o0), (2, .int x2), (3, .int 1000000), (4, .int 0)]) rfl ?_
        obtain ⟨v15, e14, h⟩ := ob_inv h
        refine kl_X8_known_L52 C o0 h0 x2 M v15 ?_ 1000 1000000 0 e14
        refine k_iload_n C (pc2 := 85) (dkAt dkX8_known 47 (q := (84, .iload_n 3, 1)) rfl) rfl rfl 0 rfl ?_
        exact k_iret C (dkAt dkX8_known 48 (q := (85, .ireturn, 1)) rfl) (pe2 (Option.some.inj h)) rfl (pe1 (Option.some.inj h)) rfl
      · refine k_iconst C (pc2 := 44) (dkAt dkX8_known 22 (q := (43, .iconst 0, 1)) rfl) rfl (v := 0) rfl ?_
        exact k_iret C (dkAt dkX8_known 23 (q := (44, .ireturn, 1)) rfl) (pe2 (Option.some.inj h)) rfl (pe1 (Option.some.inj h)) rfl
    · refine k_aload_n C (pc2 := 22) (dkAt dkX8_known 11 (q := (21, .aload_n 0, 1)) rfl) rfl rfl 0 rfl ?_
      refine k_bipush C (pc2 := 24) (dkAt dkX8_known 12 (q := (22, .bipush (-2), 2)) rfl) rfl (v := (-2)) rfl ?_
      obtain ⟨q16, e17, h⟩ := ob_inv h
      refine kc_V C (As := [.int (-2)]) (st2 := [.int q16.2]) (ct_X8_refuse l G sh xs o0 h0 (-2) M q16 e17) (cl_X8_97 (hts_of C) ⟨Nat.le_of_ble_eq_true rfl, Nat.le_of_ble_eq_true rfl⟩ rfl rfl) h0.1 rfl rfl rfl rfl rfl (Nat.le_of_ble_eq_true rfl) (dkAt dkX8_known 13 (q := (24, .invokevirtual 97, 3)) rfl) ⟨Nat.zero_le _, Nat.zero_le _⟩ (pc2 := 27) rfl rfl ?_
      exact k_iret C (dkAt dkX8_known 14 (q := (27, .ireturn, 1)) rfl) (pe2 (Option.some.inj h)) rfl (pe1 (Option.some.inj h)) rfl
set_option maxRecDepth 100000 in
set_option maxHeartbeats 4000000 in
theorem kl_X8_until_L30 {p : Program} {l : Launch} {e : Env} {s : State} {m : MethodId} {args : Array Value} {below : List Frame} {meth : Method} {c : Code} {G : GG} {sh : Sh} {xs : List va_E} (C : Cx p s m c args meth G RX8 cX8_until 4 (some .int)) (o0 : Nat) (h0 : isM sh o0) (x1 : Int32) (x2 : Int32) (r : Mm × Int32) (t : (Mm) ⊕ (Mm × Int32)) (hcont : ∀ (M2 : Mm), t = Sum.inl M2 → KW p l e rm_X8_until s m args below meth c G 4 (MQ below (QO G (some (.int r.2)) sh r.1 xs) args s 0 0 (gA G)) sh xs 0 0 M2 54 [] []) (hres : ∀ z, t = Sum.inr z → z = r) : ∀ (n : Nat) (x3 : Int32) (M : Mm), f_X8_until_L30 o0 x1 x2 n x3 M = some t → KW p l e rm_X8_until s m args below meth c G 4 (MQ below (QO G (some (.int r.2)) sh r.1 xs) args s 0 0 (gA G)) sh xs 0 0 M 30 [(0, rA G o0), (1, .int x1), (2, .int x2), (3, .int x3)] [] := by
  intro n
  induction n with
  | zero =>
    intro x3 M h
    cases h
  | succ n ih =>
    intro x3 M h
    unfold f_X8_until_L30 at h
    refine k_iload_n C (pc2 := 31) (dkAt dkX8_until 17 (q := (30, .iload_n 3, 1)) rfl) rfl rfl 3 rfl ?_
    refine k_bipush C (pc2 := 33) (dkAt dkX8_until 18 (q := (31, .bipush 99, 2)) rfl) rfl (v := 99) rfl ?_
    refine k_icmp_gt C (tgt := 54) (pc2 := 36) (dkAt dkX8_until 19 (q := (33, .if_icmp .gt 21, 3)) rfl) (by decide) rfl h (fun h => ?_) (fun h => ?_)
    · refine k_lv [] (lv2 := []) rfl ?_
      exact hcont M (Option.some.inj h).symm
    · refine k_aload_n C (pc2 := 37) (dkAt dkX8_until 20 (q := (36, .aload_n 0, 1)) rfl) rfl rfl 0 rfl ?_
      refine k_iload_n C (pc2 := 38) (dkAt dkX8_until 21 (q := (37, .iload_n 1, 1)) rfl) rfl rfl 1 rfl ?_
      refine k_iload_n C (pc2 := 39) (dkAt dkX8_until 22 (q := (38, .iload_n 3, 1)) rfl) rfl rfl 3 rfl ?_
      obtain ⟨q7, e8, h⟩ := ob_inv h
      refine kc_V C (As := [.int x1, .int x3]) (st2 := [.int q7.2]) (ct_X8_known l G sh xs o0 h0 x1 x3 M q7 e8) (cl_X8_295 (hts_of C) ⟨Nat.le_of_ble_eq_true rfl, Nat.le_of_ble_eq_true rfl⟩ rfl rfl) h0.1 rfl rfl rfl rfl rfl (Nat.le_of_ble_eq_true rfl) (dkAt dkX8_until 23 (q := (39, .invokevirtual 295, 3)) rfl) ⟨Nat.zero_le _, Nat.zero_le _⟩ (pc2 := 42) rfl rfl ?_
      refine k_iload_n C (pc2 := 43) (dkAt dkX8_until 24 (q := (42, .iload_n 2, 1)) rfl) rfl rfl 2 rfl ?_
      refine k_icmp_ge C (tgt := 48) (pc2 := 46) (dkAt dkX8_until 25 (q := (43, .if_icmp .ge 5, 3)) rfl) (by decide) rfl h (fun h => ?_) (fun h => ?_)
      · refine kb_iinc C (pc2 := 51) (dkAt dkX8_until 28 (q := (48, .iinc 3 1, 3)) rfl) rfl (j := 3) rfl (v := x3 + 1) rfl (by decide) (lv2 := fun v9 => [(3, .int v9), (0, rA G o0), (1, .int x1), (2, .int x2)]) (fun _ => rfl) h (fun v9 h => ?_)
        refine k_goto C (tgt := 30) (dkAt dkX8_until 29 (q := (51, .goto (-21), 3)) rfl) (by decide) ?_
        refine k_lv [1, 2, 3, 0] (lv2 := [(0, rA G o0), (1, .int x1), (2, .int x2), (3, .int v9)]) rfl ?_
        exact ih v9 q7.1 h
      · refine k_iload_n C (pc2 := 47) (dkAt dkX8_until 26 (q := (46, .iload_n 3, 1)) rfl) rfl rfl 3 rfl ?_
        exact k_iret C (dkAt dkX8_until 27 (q := (47, .ireturn, 1)) rfl) (pe2 (hres _ (Option.some.inj h).symm)) rfl (pe1 (hres _ (Option.some.inj h).symm)) rfl
set_option maxRecDepth 100000 in
set_option maxHeartbeats 4000000 in
theorem ct_X8_until (l : Launch) (G : GG) (sh : Sh) (xs : List va_E) (o0 : Nat) (h0 : isM sh o0) (x1 : Int32) (x2 : Int32) (M : Mm) (r : Mm × Int32) (h : f_X8_until o0 x1 x2 M = some r) : Ct l yX8_until cX8_until 4 (some .int) rm_X8_until G [rA G o0, .int x1, .int x2] sh M xs (some (.int r.2)) sh r.1 xs 0 0 := by
  refine ct_of (by decide) (Nat.le_of_ble_eq_true rfl) ?_
  intro p e s m args below meth c hnm C
  refine k_lv [0, 1, 2] (lv2 := [(0, rA G o0), (1, .int x1), (2, .int x2)]) rfl ?_
  unfold f_X8_until at h
  refine k_aload_n C (pc2 := 1) (dkAt dkX8_until 0 (q := (0, .aload_n 0, 1)) rfl) rfl rfl 0 rfl ?_
  refine k_iload_n C (pc2 := 2) (dkAt dkX8_until 1 (q := (1, .iload_n 1, 1)) rfl) rfl rfl 1 rfl ?_
  refine k_i2l C (pc2 := 3) (dkAt dkX8_until 2 (q := (2, .i2l, 1)) rfl) rfl ?_
  obtain ⟨q1, e2, h⟩ := ob_inv h
  refine kc_V C (As := [.long x1.toInt64]) (st2 := [.int q1]) (ct_X8_isDay l G sh xs o0 h0 x1.toInt64 M q1 e2) (cl_X8_135 (hts_of C) ⟨Nat.le_of_ble_eq_true rfl, Nat.le_of_ble_eq_true rfl⟩ rfl rfl) h0.1 rfl rfl rfl rfl rfl (Nat.le_of_ble_eq_true rfl) (dkAt dkX8_until 3 (q := (3, .invokevirtual 135, 3)) rfl) ⟨Nat.zero_le _, Nat.zero_le _⟩ (pc2 := 6) rfl rfl ?_
  refine k_if_eq C (tgt := 21) (pc2 := 9) (dkAt dkX8_until 4 (q := (6, .ifCond .eq 15, 3)) rfl) (by decide) rfl h (fun h => ?_) (fun h => ?_)
  · refine k_aload_n C (pc2 := 22) (dkAt dkX8_until 11 (q := (21, .aload_n 0, 1)) rfl) rfl rfl 0 rfl ?_
    refine k_bipush C (pc2 := 24) (dkAt dkX8_until 12 (q := (22, .bipush (-2), 2)) rfl) rfl (v := (-2)) rfl ?_
    obtain ⟨q3, e4, h⟩ := ob_inv h
    refine kc_V C (As := [.int (-2)]) (st2 := [.int q3.2]) (ct_X8_refuse l G sh xs o0 h0 (-2) M q3 e4) (cl_X8_97 (hts_of C) ⟨Nat.le_of_ble_eq_true rfl, Nat.le_of_ble_eq_true rfl⟩ rfl rfl) h0.1 rfl rfl rfl rfl rfl (Nat.le_of_ble_eq_true rfl) (dkAt dkX8_until 13 (q := (24, .invokevirtual 97, 3)) rfl) ⟨Nat.zero_le _, Nat.zero_le _⟩ (pc2 := 27) rfl rfl ?_
    exact k_iret C (dkAt dkX8_until 14 (q := (27, .ireturn, 1)) rfl) (pe2 (Option.some.inj h)) rfl (pe1 (Option.some.inj h)) rfl
  · refine k_iload_n C (pc2 := 10) (dkAt dkX8_until 5 (q := (9, .iload_n 2, 1)) rfl) rfl rfl 2 rfl ?_
    refine k_i2l C (pc2 := 11) (dkAt dkX8_until 6 (q := (10, .i2l, 1)) rfl) rfl ?_
    refine k_lconst C (pc2 := 12) (dkAt dkX8_until 7 (q := (11, .lconst 0, 1)) rfl) rfl (v := 0) rfl ?_
    refine k_ldc2 C (pc2 := 15) (dkAt dkX8_until 8 (q := (12, .ldc2_w 293, 3)) rfl) rfl (v := 1000000) tL_X8_293 ?_
    obtain ⟨q5, e6, h⟩ := ob_inv h
    refine kc_S C (As := [.long x2.toInt64, .long 0, .long 1000000]) (st2 := [.int q5]) (ct_X8_in l G sh xs x2.toInt64 0 1000000 M q5 e6) (cl_X8_85 (hts_of C) ⟨Nat.le_of_ble_eq_true rfl, Nat.le_of_ble_eq_true rfl⟩ rfl rfl) rfl rfl (Nat.le_of_ble_eq_true rfl) (dkAt dkX8_until 9 (q := (15, .invokestatic 85, 3)) rfl) ⟨Nat.zero_le _, Nat.zero_le _⟩ (pc2 := 18) rfl rfl ?_
    refine k_if_ne C (tgt := 28) (pc2 := 21) (dkAt dkX8_until 10 (q := (18, .ifCond .ne 10, 3)) rfl) (by decide) rfl h (fun h => ?_) (fun h => ?_)
    · refine k_iconst C (pc2 := 29) (dkAt dkX8_until 15 (q := (28, .iconst 0, 1)) rfl) rfl (v := 0) rfl ?_
      refine k_istore_n C (pc2 := 30) (dkAt dkX8_until 16 (q := (29, .istore_n 3, 1)) rfl) rfl rfl (by decide) (lv2 := [(3, .int 0), (0, rA G o0), (1, .int x1), (2, .int x2)]) rfl ?_
      refine k_lv [1, 2, 3, 0] (lv2 := [(0, rA G o0), (1, .int x1), (2, .int x2), (3, .int 0)]) rfl ?_
      obtain ⟨t10, e11, hA, hB⟩ := obS_inv h
      refine kl_X8_until_L30 C o0 h0 x1 x2 r t10 ?_ ?_ 1000 0 M e11
      · intro M12 et
        have h := hA _ et
        refine k_iconst C (pc2 := 55) (dkAt dkX8_until 30 (q := (54, .iconst (-1), 1)) rfl) rfl (v := (-1)) rfl ?_
        exact k_iret C (dkAt dkX8_until 31 (q := (55, .ireturn, 1)) rfl) (pe2 (Option.some.inj h)) rfl (pe1 (Option.some.inj h)) rfl
      · intro z et
        have h := hB _ et
        exact Option.some.inj h
    · refine k_aload_n C (pc2 := 22) (dkAt dkX8_until 11 (q := (21, .aload_n 0, 1)) rfl) rfl rfl 0 rfl ?_
      refine k_bipush C (pc2 := 24) (dkAt dkX8_until 12 (q := (22, .bipush (-2), 2)) rfl) rfl (v := (-2)) rfl ?_
      obtain ⟨q13, e14, h⟩ := ob_inv h
      refine kc_V C (As := [.int (-2)]) (st2 := [.int q13.2]) (ct_X8_refuse l G sh xs o0 h0 (-2) M q13 e14) (cl_X8_97 (hts_of C) ⟨Nat.le_of_ble_eq_true rfl, Nat.le_of_ble_eq_true rfl⟩ rfl rfl) h0.1 rfl rfl rfl rfl rfl (Nat.le_of_ble_eq_true rfl) (dkAt dkX8_until 13 (q := (24, .invokevirtual 97, 3)) rfl) ⟨Nat.zero_le _, Nat.zero_le _⟩ (pc2 := 27) rfl rfl ?_
      exact k_iret C (dkAt dkX8_until 14 (q := (27, .ireturn, 1)) rfl) (pe2 (Option.some.inj h)) rfl (pe1 (Option.some.inj h)) rfl
set_option maxRecDepth 100000 in
set_option maxHeartbeats 4000000 in
theorem kl_X8_oddsOf_L7 {p : Program} {l : Launch} {e : Env} {s : State} {m : MethodId} {args : Array Value} {below : List Frame} {meth : Method} {c : Code} {G : GG} {sh : Sh} {xs : List va_E} {Q : State → Prop} (C : Cx p s m c args meth G RX8 cX8_oddsOf 7 (some .int)) (x0 : Int32) (x1 : Int32) (x2 : Int32) (M : Mm) (y3 : Int32) (hcont : KW p l e rm_X8_oddsOf s m args below meth c G 7 Q sh xs 0 0 M 26 [(1, .int x1), (3, .int y3)] []) : ∀ (n : Nat) (x3 : Int32) (x4 : Int32), f_X8_oddsOf_L7 x0 x1 x2 n x3 x4 = some y3 → KW p l e rm_X8_oddsOf s m args below meth c G 7 Q sh xs 0 0 M 7 [(0, .int x0), (1, .int x1), (2, .int x2), (3, .int x3), (4, .int x4)] [] := by
  intro n
  induction n with
  | zero =>
    intro x3 x4 h
    cases h
  | succ n ih =>
    intro x3 x4 h
    unfold f_X8_oddsOf_L7 at h
    refine k_iload C (pc2 := 9) (dkAt dkX8_oddsOf 4 (q := (7, .iload 4, 2)) rfl) rfl 4 rfl ?_
    refine k_iload_n C (pc2 := 10) (dkAt dkX8_oddsOf 5 (q := (9, .iload_n 0, 1)) rfl) rfl rfl 0 rfl ?_
    refine k_icmp_ge C (tgt := 26) (pc2 := 13) (dkAt dkX8_oddsOf 6 (q := (10, .if_icmp .ge 16, 3)) rfl) (by decide) rfl h (fun h => ?_) (fun h => ?_)
    · refine k_lv [1, 3] (lv2 := [(1, .int x1), (3, .int x3)]) rfl ?_
      cases h
      exact hcont
    · refine k_iload_n C (pc2 := 14) (dkAt dkX8_oddsOf 7 (q := (13, .iload_n 3, 1)) rfl) rfl rfl 3 rfl ?_
      refine k_iload_n C (pc2 := 15) (dkAt dkX8_oddsOf 8 (q := (14, .iload_n 2, 1)) rfl) rfl rfl 2 rfl ?_
      refine k_imul C (pc2 := 16) (dkAt dkX8_oddsOf 9 (q := (15, .imul, 1)) rfl) rfl ?_
      refine k_bipush C (pc2 := 18) (dkAt dkX8_oddsOf 10 (q := (16, .bipush 12, 2)) rfl) rfl (v := 12) rfl ?_
      refine k_idivc C (pc2 := 19) (dkAt dkX8_oddsOf 11 (q := (18, .idiv, 1)) rfl) rfl (by decide) ?_
      refine kb_istore_n C (pc2 := 20) (dkAt dkX8_oddsOf 12 (q := (19, .istore_n 3, 1)) rfl) rfl rfl (by decide) (lv2 := fun v1 => [(3, .int v1), (0, .int x0), (1, .int x1), (2, .int x2), (4, .int x4)]) (fun _ => rfl) h (fun v1 h => ?_)
      refine kb_iinc C (pc2 := 23) (dkAt dkX8_oddsOf 13 (q := (20, .iinc 4 1, 3)) rfl) rfl (j := 4) rfl (v := x4 + 1) rfl (by decide) (lv2 := fun v2 => [(4, .int v2), (3, .int v1), (0, .int x0), (1, .int x1), (2, .int x2)]) (fun _ => rfl) h (fun v2 h => ?_)
      refine k_goto C (tgt := 7) (dkAt dkX8_oddsOf 14 (q := (23, .goto (-16), 3)) rfl) (by decide) ?_
      refine k_lv [2, 3, 4, 1, 0] (lv2 := [(0, .int x0), (1, .int x1), (2, .int x2), (3, .int v1), (4, .int v2)]) rfl ?_
      exact ih v1 v2 h
set_option maxRecDepth 100000 in
set_option maxHeartbeats 4000000 in
theorem kl_X8_oddsOf_L34 {p : Program} {l : Launch} {e : Env} {s : State} {m : MethodId} {args : Array Value} {below : List Frame} {meth : Method} {c : Code} {G : GG} {sh : Sh} {xs : List va_E} {Q : State → Prop} (C : Cx p s m c args meth G RX8 cX8_oddsOf 7 (some .int)) (x1 : Int32) (x3 : Int32) (M : Mm) (y4 : Int64) (hcont : KW p l e rm_X8_oddsOf s m args below meth c G 7 Q sh xs 0 0 M 61 [(4, .long y4)] []) : ∀ (n : Nat) (x4 : Int64) (x6 : Int32), f_X8_oddsOf_L34 x1 x3 n x4 x6 = some y4 → KW p l e rm_X8_oddsOf s m args below meth c G 7 Q sh xs 0 0 M 34 [(1, .int x1), (3, .int x3), (4, .long x4), (6, .int x6)] [] := by
  intro n
  induction n with
  | zero =>
    intro x4 x6 h
    cases h
  | succ n ih =>
    intro x4 x6 h
    unfold f_X8_oddsOf_L34 at h
    refine k_iload C (pc2 := 36) (dkAt dkX8_oddsOf 19 (q := (34, .iload 6, 2)) rfl) rfl 3 rfl ?_
    refine k_iload_n C (pc2 := 37) (dkAt dkX8_oddsOf 20 (q := (36, .iload_n 1, 1)) rfl) rfl rfl 0 rfl ?_
    refine k_icmp_ge C (tgt := 61) (pc2 := 40) (dkAt dkX8_oddsOf 21 (q := (37, .if_icmp .ge 24, 3)) rfl) (by decide) rfl h (fun h => ?_) (fun h => ?_)
    · refine k_lv [2] (lv2 := [(4, .long x4)]) rfl ?_
      cases h
      exact hcont
    · refine k_lload C (pc2 := 42) (dkAt dkX8_oddsOf 22 (q := (40, .lload 4, 2)) rfl) rfl 2 rfl ?_
      refine k_ldcw C (pc2 := 45) (dkAt dkX8_oddsOf 23 (q := (42, .ldc_w 292, 3)) rfl) rfl (v := 1000000) tK_X8_292 ?_
      refine k_iload_n C (pc2 := 46) (dkAt dkX8_oddsOf 24 (q := (45, .iload_n 3, 1)) rfl) rfl rfl 1 rfl ?_
      refine k_isub C (pc2 := 47) (dkAt dkX8_oddsOf 25 (q := (46, .isub, 1)) rfl) rfl ?_
      refine k_i2l C (pc2 := 48) (dkAt dkX8_oddsOf 26 (q := (47, .i2l, 1)) rfl) rfl ?_
      refine k_lmul C (pc2 := 49) (dkAt dkX8_oddsOf 27 (q := (48, .lmul, 1)) rfl) rfl ?_
      refine k_ldc2 C (pc2 := 52) (dkAt dkX8_oddsOf 28 (q := (49, .ldc2_w 293, 3)) rfl) rfl (v := 1000000) tL_X8_293 ?_
      refine k_ldivc C (pc2 := 53) (dkAt dkX8_oddsOf 29 (q := (52, .ldiv, 1)) rfl) rfl (by decide) ?_
      refine kb_lstore C (pc2 := 55) (dkAt dkX8_oddsOf 30 (q := (53, .lstore 4, 2)) rfl) rfl (by decide) (lv2 := fun v6 => [(4, .long v6), (1, .int x1), (3, .int x3), (6, .int x6)]) (fun _ => rfl) h (fun v6 h => ?_)
      refine kb_iinc C (pc2 := 58) (dkAt dkX8_oddsOf 31 (q := (55, .iinc 6 1, 3)) rfl) rfl (j := 3) rfl (v := x6 + 1) rfl (by decide) (lv2 := fun v7 => [(6, .int v7), (4, .long v6), (1, .int x1), (3, .int x3)]) (fun _ => rfl) h (fun v7 h => ?_)
      refine k_goto C (tgt := 34) (dkAt dkX8_oddsOf 32 (q := (58, .goto (-24), 3)) rfl) (by decide) ?_
      refine k_lv [2, 3, 1, 0] (lv2 := [(1, .int x1), (3, .int x3), (4, .long v6), (6, .int v7)]) rfl ?_
      exact ih v6 v7 h
set_option maxRecDepth 100000 in
set_option maxHeartbeats 4000000 in
theorem ct_X8_oddsOf (l : Launch) (G : GG) (sh : Sh) (xs : List va_E) (x0 : Int32) (x1 : Int32) (x2 : Int32) (M : Mm) (r : Int32) (h : f_X8_oddsOf x0 x1 x2 = some r) : Ct l yX8_oddsOf cX8_oddsOf 7 (some .int) rm_X8_oddsOf G [.int x0, .int x1, .int x2] sh M xs (some (.int r)) sh M xs 0 0 := by
  refine ct_of (by decide) (Nat.le_of_ble_eq_true rfl) ?_
  intro p e s m args below meth c hnm C
  refine k_lv [0, 1, 2] (lv2 := [(0, .int x0), (1, .int x1), (2, .int x2)]) rfl ?_
  unfold f_X8_oddsOf at h
  refine k_ldcw C (pc2 := 3) (dkAt dkX8_oddsOf 0 (q := (0, .ldc_w 292, 3)) rfl) rfl (v := 1000000) tK_X8_292 ?_
  refine k_istore_n C (pc2 := 4) (dkAt dkX8_oddsOf 1 (q := (3, .istore_n 3, 1)) rfl) rfl rfl (by decide) (lv2 := [(3, .int 1000000), (0, .int x0), (1, .int x1), (2, .int x2)]) rfl ?_
  refine k_iconst C (pc2 := 5) (dkAt dkX8_oddsOf 2 (q := (4, .iconst 0, 1)) rfl) rfl (v := 0) rfl ?_
  refine k_istore C (pc2 := 7) (dkAt dkX8_oddsOf 3 (q := (5, .istore 4, 2)) rfl) rfl (by decide) (lv2 := [(4, .int 0), (3, .int 1000000), (0, .int x0), (1, .int x1), (2, .int x2)]) rfl ?_
  refine k_lv [2, 3, 4, 1, 0] (lv2 := [(0, .int x0), (1, .int x1), (2, .int x2), (3, .int 1000000), (4, .int 0)]) rfl ?_
  obtain ⟨v5, e4, h⟩ := ob_inv h
  refine kl_X8_oddsOf_L7 C x0 x1 x2 M v5 ?_ 1000 1000000 0 e4
  refine k_ldc2 C (pc2 := 29) (dkAt dkX8_oddsOf 15 (q := (26, .ldc2_w 293, 3)) rfl) rfl (v := 1000000) tL_X8_293 ?_
  refine k_lstore C (pc2 := 31) (dkAt dkX8_oddsOf 16 (q := (29, .lstore 4, 2)) rfl) rfl (by decide) (lv2 := [(4, .long 1000000), (1, .int x1), (3, .int v5)]) rfl ?_
  refine k_iconst C (pc2 := 32) (dkAt dkX8_oddsOf 17 (q := (31, .iconst 0, 1)) rfl) rfl (v := 0) rfl ?_
  refine k_istore C (pc2 := 34) (dkAt dkX8_oddsOf 18 (q := (32, .istore 6, 2)) rfl) rfl (by decide) (lv2 := [(6, .int 0), (4, .long 1000000), (1, .int x1), (3, .int v5)]) rfl ?_
  refine k_lv [2, 3, 1, 0] (lv2 := [(1, .int x1), (3, .int v5), (4, .long 1000000), (6, .int 0)]) rfl ?_
  obtain ⟨v10, e9, h⟩ := ob_inv h
  refine kl_X8_oddsOf_L34 C x1 v5 M v10 ?_ 1000 1000000 0 e9
  refine k_ldc2 C (pc2 := 64) (dkAt dkX8_oddsOf 33 (q := (61, .ldc2_w 293, 3)) rfl) rfl (v := 1000000) tL_X8_293 ?_
  refine k_lload C (pc2 := 66) (dkAt dkX8_oddsOf 34 (q := (64, .lload 4, 2)) rfl) rfl 0 rfl ?_
  refine k_lsub C (pc2 := 67) (dkAt dkX8_oddsOf 35 (q := (66, .lsub, 1)) rfl) rfl ?_
  refine k_l2i C (pc2 := 68) (dkAt dkX8_oddsOf 36 (q := (67, .l2i, 1)) rfl) rfl ?_
  exact k_iret C (dkAt dkX8_oddsOf 37 (q := (68, .ireturn, 1)) rfl) (Option.some.inj h) rfl rfl rfl
set_option maxRecDepth 100000 in
set_option maxHeartbeats 4000000 in
theorem ct_X8_odds (l : Launch) (G : GG) (sh : Sh) (xs : List va_E) (o0 : Nat) (h0 : isM sh o0) (x1 : Int32) (x2 : Int32) (x3 : Int32) (M : Mm) (r : Mm × Int32) (h : f_X8_odds o0 x1 x2 x3 M = some r) : Ct l yX8_odds cX8_odds 4 (some .int) rm_X8_odds G [rA G o0, .int x1, .int x2, .int x3] sh M xs (some (.int r.2)) sh r.1 xs 0 0 := by
  refine ct_of (by decide) (Nat.le_of_ble_eq_true rfl) ?_
  intro p e s m args below meth c hnm C
  refine k_lv [0, 1, 2, 3] (lv2 := [(0, rA G o0), (1, .int x1), (2, .int x2), (3, .int x3)]) rfl ?_
  unfold f_X8_odds at h
  refine k_iload_n C (pc2 := 1) (dkAt dkX8_odds 0 (q := (0, .iload_n 1, 1)) rfl) rfl rfl 1 rfl ?_
  obtain ⟨q1, e2, h⟩ := ob_inv h
  refine kc_S C (As := [.int x1]) (st2 := [.int q1]) (ct_X8_isHundred l G sh xs x1 M q1 e2) (cl_X8_299 (hts_of C) ⟨Nat.le_of_ble_eq_true rfl, Nat.le_of_ble_eq_true rfl⟩ rfl rfl) rfl rfl (Nat.le_of_ble_eq_true rfl) (dkAt dkX8_odds 1 (q := (1, .invokestatic 299, 3)) rfl) ⟨Nat.zero_le _, Nat.zero_le _⟩ (pc2 := 4) rfl rfl ?_
  refine k_if_eq C (tgt := 35) (pc2 := 7) (dkAt dkX8_odds 2 (q := (4, .ifCond .eq 31, 3)) rfl) (by decide) rfl h (fun h => ?_) (fun h => ?_)
  · refine k_aload_n C (pc2 := 36) (dkAt dkX8_odds 17 (q := (35, .aload_n 0, 1)) rfl) rfl rfl 0 rfl ?_
    refine k_bipush C (pc2 := 38) (dkAt dkX8_odds 18 (q := (36, .bipush (-2), 2)) rfl) rfl (v := (-2)) rfl ?_
    obtain ⟨q3, e4, h⟩ := ob_inv h
    refine kc_V C (As := [.int (-2)]) (st2 := [.int q3.2]) (ct_X8_refuse l G sh xs o0 h0 (-2) M q3 e4) (cl_X8_97 (hts_of C) ⟨Nat.le_of_ble_eq_true rfl, Nat.le_of_ble_eq_true rfl⟩ rfl rfl) h0.1 rfl rfl rfl rfl rfl (Nat.le_of_ble_eq_true rfl) (dkAt dkX8_odds 19 (q := (38, .invokevirtual 97, 3)) rfl) ⟨Nat.zero_le _, Nat.zero_le _⟩ (pc2 := 41) rfl rfl ?_
    exact k_iret C (dkAt dkX8_odds 20 (q := (41, .ireturn, 1)) rfl) (pe2 (Option.some.inj h)) rfl (pe1 (Option.some.inj h)) rfl
  · refine k_iload_n C (pc2 := 8) (dkAt dkX8_odds 3 (q := (7, .iload_n 2, 1)) rfl) rfl rfl 2 rfl ?_
    obtain ⟨q5, e6, h⟩ := ob_inv h
    refine kc_S C (As := [.int x2]) (st2 := [.int q5]) (ct_X8_isHundred l G sh xs x2 M q5 e6) (cl_X8_299 (hts_of C) ⟨Nat.le_of_ble_eq_true rfl, Nat.le_of_ble_eq_true rfl⟩ rfl rfl) rfl rfl (Nat.le_of_ble_eq_true rfl) (dkAt dkX8_odds 4 (q := (8, .invokestatic 299, 3)) rfl) ⟨Nat.zero_le _, Nat.zero_le _⟩ (pc2 := 11) rfl rfl ?_
    refine k_if_eq C (tgt := 35) (pc2 := 14) (dkAt dkX8_odds 5 (q := (11, .ifCond .eq 24, 3)) rfl) (by decide) rfl h (fun h => ?_) (fun h => ?_)
    · refine k_aload_n C (pc2 := 36) (dkAt dkX8_odds 17 (q := (35, .aload_n 0, 1)) rfl) rfl rfl 0 rfl ?_
      refine k_bipush C (pc2 := 38) (dkAt dkX8_odds 18 (q := (36, .bipush (-2), 2)) rfl) rfl (v := (-2)) rfl ?_
      obtain ⟨q7, e8, h⟩ := ob_inv h
      refine kc_V C (As := [.int (-2)]) (st2 := [.int q7.2]) (ct_X8_refuse l G sh xs o0 h0 (-2) M q7 e8) (cl_X8_97 (hts_of C) ⟨Nat.le_of_ble_eq_true rfl, Nat.le_of_ble_eq_true rfl⟩ rfl rfl) h0.1 rfl rfl rfl rfl rfl (Nat.le_of_ble_eq_true rfl) (dkAt dkX8_odds 19 (q := (38, .invokevirtual 97, 3)) rfl) ⟨Nat.zero_le _, Nat.zero_le _⟩ (pc2 := 41) rfl rfl ?_
      exact k_iret C (dkAt dkX8_odds 20 (q := (41, .ireturn, 1)) rfl) (pe2 (Option.some.inj h)) rfl (pe1 (Option.some.inj h)) rfl
    · refine k_iload_n C (pc2 := 15) (dkAt dkX8_odds 6 (q := (14, .iload_n 3, 1)) rfl) rfl rfl 3 rfl ?_
      refine k_i2l C (pc2 := 16) (dkAt dkX8_odds 7 (q := (15, .i2l, 1)) rfl) rfl ?_
      refine k_lconst C (pc2 := 17) (dkAt dkX8_odds 8 (q := (16, .lconst 0, 1)) rfl) rfl (v := 0) rfl ?_
      refine k_ldc2 C (pc2 := 20) (dkAt dkX8_odds 9 (q := (17, .ldc2_w 129, 3)) rfl) rfl (v := 12) tL_X8_129 ?_
      obtain ⟨q9, e10, h⟩ := ob_inv h
      refine kc_S C (As := [.long x3.toInt64, .long 0, .long 12]) (st2 := [.int q9]) (ct_X8_in l G sh xs x3.toInt64 0 12 M q9 e10) (cl_X8_85 (hts_of C) ⟨Nat.le_of_ble_eq_true rfl, Nat.le_of_ble_eq_true rfl⟩ rfl rfl) rfl rfl (Nat.le_of_ble_eq_true rfl) (dkAt dkX8_odds 10 (q := (20, .invokestatic 85, 3)) rfl) ⟨Nat.zero_le _, Nat.zero_le _⟩ (pc2 := 23) rfl rfl ?_
      refine k_if_eq C (tgt := 35) (pc2 := 26) (dkAt dkX8_odds 11 (q := (23, .ifCond .eq 12, 3)) rfl) (by decide) rfl h (fun h => ?_) (fun h => ?_)
      · refine k_aload_n C (pc2 := 36) (dkAt dkX8_odds 17 (q := (35, .aload_n 0, 1)) rfl) rfl rfl 0 rfl ?_
        refine k_bipush C (pc2 := 38) (dkAt dkX8_odds 18 (q := (36, .bipush (-2), 2)) rfl) rfl (v := (-2)) rfl ?_
        obtain ⟨q11, e12, h⟩ := ob_inv h
        refine kc_V C (As := [.int (-2)]) (st2 := [.int q11.2]) (ct_X8_refuse l G sh xs o0 h0 (-2) M q11 e12) (cl_X8_97 (hts_of C) ⟨Nat.le_of_ble_eq_true rfl, Nat.le_of_ble_eq_true rfl⟩ rfl rfl) h0.1 rfl rfl rfl rfl rfl (Nat.le_of_ble_eq_true rfl) (dkAt dkX8_odds 19 (q := (38, .invokevirtual 97, 3)) rfl) ⟨Nat.zero_le _, Nat.zero_le _⟩ (pc2 := 41) rfl rfl ?_
        exact k_iret C (dkAt dkX8_odds 20 (q := (41, .ireturn, 1)) rfl) (pe2 (Option.some.inj h)) rfl (pe1 (Option.some.inj h)) rfl
      · refine k_iload_n C (pc2 := 27) (dkAt dkX8_odds 12 (q := (26, .iload_n 1, 1)) rfl) rfl rfl 1 rfl ?_
        refine k_iload_n C (pc2 := 28) (dkAt dkX8_odds 13 (q := (27, .iload_n 2, 1)) rfl) rfl rfl 2 rfl ?_
        refine k_iload_n C (pc2 := 29) (dkAt dkX8_odds 14 (q := (28, .iload_n 3, 1)) rfl) rfl rfl 3 rfl ?_
        obtain ⟨q13, e14, h⟩ := ob_inv h
        refine kc_S C (As := [.int x1, .int x2, .int x3]) (st2 := [.int q13]) (ct_X8_oddsOf l G sh xs x1 x2 x3 M q13 e14) (cl_X8_302 (hts_of C) ⟨Nat.le_of_ble_eq_true rfl, Nat.le_of_ble_eq_true rfl⟩ rfl rfl) rfl rfl (Nat.le_of_ble_eq_true rfl) (dkAt dkX8_odds 15 (q := (29, .invokestatic 302, 3)) rfl) ⟨Nat.zero_le _, Nat.zero_le _⟩ (pc2 := 32) rfl rfl ?_
        refine k_goto C (tgt := 41) (dkAt dkX8_odds 16 (q := (32, .goto 9, 3)) rfl) (by decide) ?_
        exact k_iret C (dkAt dkX8_odds 20 (q := (41, .ireturn, 1)) rfl) (pe2 (Option.some.inj h)) rfl (pe1 (Option.some.inj h)) rfl
set_option maxRecDepth 100000 in
set_option maxHeartbeats 4000000 in
theorem kl_X8_offer_L41 {p : Program} {l : Launch} {e : Env} {s : State} {m : MethodId} {args : Array Value} {below : List Frame} {meth : Method} {c : Code} {G : GG} {sh : Sh} {xs : List va_E} (C : Cx p s m c args meth G RX8 cX8_offer 5 (some .int)) (x1 : Int32) (x2 : Int32) (x3 : Int32) (M : Mm) (r : Mm × Int32) (t : (Unit) ⊕ (Mm × Int32)) (hcont : t = Sum.inl () → KW p l e rm_X8_offer s m args below meth c G 5 (MQ below (QO G (some (.int r.2)) sh r.1 xs) args s 0 0 (gA G)) sh xs 0 0 M 68 [] []) (hres : ∀ z, t = Sum.inr z → z = r) : ∀ (n : Nat) (x4 : Int32), f_X8_offer_L41 x1 x2 x3 M n x4 = some t → KW p l e rm_X8_offer s m args below meth c G 5 (MQ below (QO G (some (.int r.2)) sh r.1 xs) args s 0 0 (gA G)) sh xs 0 0 M 41 [(1, .int x1), (2, .int x2), (3, .int x3), (4, .int x4)] [] := by
  intro n
  induction n with
  | zero =>
    intro x4 h
    cases h
  | succ n ih =>
    intro x4 h
    unfold f_X8_offer_L41 at h
    refine k_iload C (pc2 := 43) (dkAt dkX8_offer 21 (q := (41, .iload 4, 2)) rfl) rfl 3 rfl ?_
    refine k_bipush C (pc2 := 45) (dkAt dkX8_offer 22 (q := (43, .bipush 99, 2)) rfl) rfl (v := 99) rfl ?_
    refine k_icmp_gt C (tgt := 68) (pc2 := 48) (dkAt dkX8_offer 23 (q := (45, .if_icmp .gt 23, 3)) rfl) (by decide) rfl h (fun h => ?_) (fun h => ?_)
    · refine k_lv [] (lv2 := []) rfl ?_
      exact hcont (Option.some.inj h).symm
    · refine k_iload_n C (pc2 := 49) (dkAt dkX8_offer 24 (q := (48, .iload_n 1, 1)) rfl) rfl rfl 0 rfl ?_
      refine k_iload C (pc2 := 51) (dkAt dkX8_offer 25 (q := (49, .iload 4, 2)) rfl) rfl 3 rfl ?_
      refine k_iload_n C (pc2 := 52) (dkAt dkX8_offer 26 (q := (51, .iload_n 2, 1)) rfl) rfl rfl 1 rfl ?_
      obtain ⟨q11, e12, h⟩ := ob_inv h
      refine kc_S C (As := [.int x1, .int x4, .int x2]) (st2 := [.int q11]) (ct_X8_oddsOf l G sh xs x1 x4 x2 M q11 e12) (cl_X8_302 (hts_of C) ⟨Nat.le_of_ble_eq_true rfl, Nat.le_of_ble_eq_true rfl⟩ rfl rfl) rfl rfl (Nat.le_of_ble_eq_true rfl) (dkAt dkX8_offer 27 (q := (52, .invokestatic 302, 3)) rfl) ⟨Nat.zero_le _, Nat.zero_le _⟩ (pc2 := 55) rfl rfl ?_
      refine k_iload_n C (pc2 := 56) (dkAt dkX8_offer 28 (q := (55, .iload_n 3, 1)) rfl) rfl rfl 2 rfl ?_
      refine k_icmp_lt C (tgt := 62) (pc2 := 59) (dkAt dkX8_offer 29 (q := (56, .if_icmp .lt 6, 3)) rfl) (by decide) rfl h (fun h => ?_) (fun h => ?_)
      · refine kb_iinc C (pc2 := 65) (dkAt dkX8_offer 32 (q := (62, .iinc 4 1, 3)) rfl) rfl (j := 3) rfl (v := x4 + 1) rfl (by decide) (lv2 := fun v13 => [(4, .int v13), (1, .int x1), (2, .int x2), (3, .int x3)]) (fun _ => rfl) h (fun v13 h => ?_)
        refine k_goto C (tgt := 41) (dkAt dkX8_offer 33 (q := (65, .goto (-24), 3)) rfl) (by decide) ?_
        refine k_lv [1, 2, 3, 0] (lv2 := [(1, .int x1), (2, .int x2), (3, .int x3), (4, .int v13)]) rfl ?_
        exact ih v13 h
      · refine k_iload C (pc2 := 61) (dkAt dkX8_offer 30 (q := (59, .iload 4, 2)) rfl) rfl 3 rfl ?_
        exact k_iret C (dkAt dkX8_offer 31 (q := (61, .ireturn, 1)) rfl) (pe2 (hres _ (Option.some.inj h).symm)) rfl (pe1 (hres _ (Option.some.inj h).symm)) rfl
set_option maxRecDepth 100000 in
set_option maxHeartbeats 4000000 in
theorem ct_X8_offer (l : Launch) (G : GG) (sh : Sh) (xs : List va_E) (o0 : Nat) (h0 : isM sh o0) (x1 : Int32) (x2 : Int32) (x3 : Int32) (M : Mm) (r : Mm × Int32) (h : f_X8_offer o0 x1 x2 x3 M = some r) : Ct l yX8_offer cX8_offer 5 (some .int) rm_X8_offer G [rA G o0, .int x1, .int x2, .int x3] sh M xs (some (.int r.2)) sh r.1 xs 0 0 := by
  refine ct_of (by decide) (Nat.le_of_ble_eq_true rfl) ?_
  intro p e s m args below meth c hnm C
  refine k_lv [0, 1, 2, 3] (lv2 := [(0, rA G o0), (1, .int x1), (2, .int x2), (3, .int x3)]) rfl ?_
  unfold f_X8_offer at h
  refine k_iload_n C (pc2 := 1) (dkAt dkX8_offer 0 (q := (0, .iload_n 1, 1)) rfl) rfl rfl 1 rfl ?_
  obtain ⟨q1, e2, h⟩ := ob_inv h
  refine kc_S C (As := [.int x1]) (st2 := [.int q1]) (ct_X8_isHundred l G sh xs x1 M q1 e2) (cl_X8_299 (hts_of C) ⟨Nat.le_of_ble_eq_true rfl, Nat.le_of_ble_eq_true rfl⟩ rfl rfl) rfl rfl (Nat.le_of_ble_eq_true rfl) (dkAt dkX8_offer 1 (q := (1, .invokestatic 299, 3)) rfl) ⟨Nat.zero_le _, Nat.zero_le _⟩ (pc2 := 4) rfl rfl ?_
  refine k_if_eq C (tgt := 31) (pc2 := 7) (dkAt dkX8_offer 2 (q := (4, .ifCond .eq 27, 3)) rfl) (by decide) rfl h (fun h => ?_) (fun h => ?_)
  · refine k_aload_n C (pc2 := 32) (dkAt dkX8_offer 15 (q := (31, .aload_n 0, 1)) rfl) rfl rfl 0 rfl ?_
    refine k_bipush C (pc2 := 34) (dkAt dkX8_offer 16 (q := (32, .bipush (-2), 2)) rfl) rfl (v := (-2)) rfl ?_
    obtain ⟨q3, e4, h⟩ := ob_inv h
    refine kc_V C (As := [.int (-2)]) (st2 := [.int q3.2]) (ct_X8_refuse l G sh xs o0 h0 (-2) M q3 e4) (cl_X8_97 (hts_of C) ⟨Nat.le_of_ble_eq_true rfl, Nat.le_of_ble_eq_true rfl⟩ rfl rfl) h0.1 rfl rfl rfl rfl rfl (Nat.le_of_ble_eq_true rfl) (dkAt dkX8_offer 17 (q := (34, .invokevirtual 97, 3)) rfl) ⟨Nat.zero_le _, Nat.zero_le _⟩ (pc2 := 37) rfl rfl ?_
    exact k_iret C (dkAt dkX8_offer 18 (q := (37, .ireturn, 1)) rfl) (pe2 (Option.some.inj h)) rfl (pe1 (Option.some.inj h)) rfl
  · refine k_iload_n C (pc2 := 8) (dkAt dkX8_offer 3 (q := (7, .iload_n 2, 1)) rfl) rfl rfl 2 rfl ?_
    refine k_i2l C (pc2 := 9) (dkAt dkX8_offer 4 (q := (8, .i2l, 1)) rfl) rfl ?_
    refine k_lconst C (pc2 := 10) (dkAt dkX8_offer 5 (q := (9, .lconst 0, 1)) rfl) rfl (v := 0) rfl ?_
    refine k_ldc2 C (pc2 := 13) (dkAt dkX8_offer 6 (q := (10, .ldc2_w 129, 3)) rfl) rfl (v := 12) tL_X8_129 ?_
    obtain ⟨q5, e6, h⟩ := ob_inv h
    refine kc_S C (As := [.long x2.toInt64, .long 0, .long 12]) (st2 := [.int q5]) (ct_X8_in l G sh xs x2.toInt64 0 12 M q5 e6) (cl_X8_85 (hts_of C) ⟨Nat.le_of_ble_eq_true rfl, Nat.le_of_ble_eq_true rfl⟩ rfl rfl) rfl rfl (Nat.le_of_ble_eq_true rfl) (dkAt dkX8_offer 7 (q := (13, .invokestatic 85, 3)) rfl) ⟨Nat.zero_le _, Nat.zero_le _⟩ (pc2 := 16) rfl rfl ?_
    refine k_if_eq C (tgt := 31) (pc2 := 19) (dkAt dkX8_offer 8 (q := (16, .ifCond .eq 15, 3)) rfl) (by decide) rfl h (fun h => ?_) (fun h => ?_)
    · refine k_aload_n C (pc2 := 32) (dkAt dkX8_offer 15 (q := (31, .aload_n 0, 1)) rfl) rfl rfl 0 rfl ?_
      refine k_bipush C (pc2 := 34) (dkAt dkX8_offer 16 (q := (32, .bipush (-2), 2)) rfl) rfl (v := (-2)) rfl ?_
      obtain ⟨q7, e8, h⟩ := ob_inv h
      refine kc_V C (As := [.int (-2)]) (st2 := [.int q7.2]) (ct_X8_refuse l G sh xs o0 h0 (-2) M q7 e8) (cl_X8_97 (hts_of C) ⟨Nat.le_of_ble_eq_true rfl, Nat.le_of_ble_eq_true rfl⟩ rfl rfl) h0.1 rfl rfl rfl rfl rfl (Nat.le_of_ble_eq_true rfl) (dkAt dkX8_offer 17 (q := (34, .invokevirtual 97, 3)) rfl) ⟨Nat.zero_le _, Nat.zero_le _⟩ (pc2 := 37) rfl rfl ?_
      exact k_iret C (dkAt dkX8_offer 18 (q := (37, .ireturn, 1)) rfl) (pe2 (Option.some.inj h)) rfl (pe1 (Option.some.inj h)) rfl
    · refine k_iload_n C (pc2 := 20) (dkAt dkX8_offer 9 (q := (19, .iload_n 3, 1)) rfl) rfl rfl 3 rfl ?_
      refine k_i2l C (pc2 := 21) (dkAt dkX8_offer 10 (q := (20, .i2l, 1)) rfl) rfl ?_
      refine k_lconst C (pc2 := 22) (dkAt dkX8_offer 11 (q := (21, .lconst 0, 1)) rfl) rfl (v := 0) rfl ?_
      refine k_ldc2 C (pc2 := 25) (dkAt dkX8_offer 12 (q := (22, .ldc2_w 293, 3)) rfl) rfl (v := 1000000) tL_X8_293 ?_
      obtain ⟨q9, e10, h⟩ := ob_inv h
      refine kc_S C (As := [.long x3.toInt64, .long 0, .long 1000000]) (st2 := [.int q9]) (ct_X8_in l G sh xs x3.toInt64 0 1000000 M q9 e10) (cl_X8_85 (hts_of C) ⟨Nat.le_of_ble_eq_true rfl, Nat.le_of_ble_eq_true rfl⟩ rfl rfl) rfl rfl (Nat.le_of_ble_eq_true rfl) (dkAt dkX8_offer 13 (q := (25, .invokestatic 85, 3)) rfl) ⟨Nat.zero_le _, Nat.zero_le _⟩ (pc2 := 28) rfl rfl ?_
      refine k_if_ne C (tgt := 38) (pc2 := 31) (dkAt dkX8_offer 14 (q := (28, .ifCond .ne 10, 3)) rfl) (by decide) rfl h (fun h => ?_) (fun h => ?_)
      · refine k_iconst C (pc2 := 39) (dkAt dkX8_offer 19 (q := (38, .iconst 1, 1)) rfl) rfl (v := 1) rfl ?_
        refine k_istore C (pc2 := 41) (dkAt dkX8_offer 20 (q := (39, .istore 4, 2)) rfl) rfl (by decide) (lv2 := [(4, .int 1), (0, rA G o0), (1, .int x1), (2, .int x2), (3, .int x3)]) rfl ?_
        refine k_lv [2, 3, 4, 0] (lv2 := [(1, .int x1), (2, .int x2), (3, .int x3), (4, .int 1)]) rfl ?_
        obtain ⟨t14, e15, hA, hB⟩ := obS_inv h
        refine kl_X8_offer_L41 C x1 x2 x3 M r t14 ?_ ?_ 1000 1 e15
        · intro et
          have h := hA _ et
          refine k_iconst C (pc2 := 69) (dkAt dkX8_offer 34 (q := (68, .iconst (-1), 1)) rfl) rfl (v := (-1)) rfl ?_
          exact k_iret C (dkAt dkX8_offer 35 (q := (69, .ireturn, 1)) rfl) (pe2 (Option.some.inj h)) rfl (pe1 (Option.some.inj h)) rfl
        · intro z et
          have h := hB _ et
          exact Option.some.inj h
      · refine k_aload_n C (pc2 := 32) (dkAt dkX8_offer 15 (q := (31, .aload_n 0, 1)) rfl) rfl rfl 0 rfl ?_
        refine k_bipush C (pc2 := 34) (dkAt dkX8_offer 16 (q := (32, .bipush (-2), 2)) rfl) rfl (v := (-2)) rfl ?_
        obtain ⟨q16, e17, h⟩ := ob_inv h
        refine kc_V C (As := [.int (-2)]) (st2 := [.int q16.2]) (ct_X8_refuse l G sh xs o0 h0 (-2) M q16 e17) (cl_X8_97 (hts_of C) ⟨Nat.le_of_ble_eq_true rfl, Nat.le_of_ble_eq_true rfl⟩ rfl rfl) h0.1 rfl rfl rfl rfl rfl (Nat.le_of_ble_eq_true rfl) (dkAt dkX8_offer 17 (q := (34, .invokevirtual 97, 3)) rfl) ⟨Nat.zero_le _, Nat.zero_le _⟩ (pc2 := 37) rfl rfl ?_
        exact k_iret C (dkAt dkX8_offer 18 (q := (37, .ireturn, 1)) rfl) (pe2 (Option.some.inj h)) rfl (pe1 (Option.some.inj h)) rfl
set_option maxRecDepth 100000 in
set_option maxHeartbeats 4000000 in
theorem kl_X8_never_L41 {p : Program} {l : Launch} {e : Env} {s : State} {m : MethodId} {args : Array Value} {below : List Frame} {meth : Method} {c : Code} {G : GG} {sh : Sh} {xs : List va_E} (C : Cx p s m c args meth G RX8 cX8_never 5 (some .int)) (x1 : Int32) (x2 : Int32) (x3 : Int32) (M : Mm) (r : Mm × Int32) (t : (Unit) ⊕ (Mm × Int32)) (hcont : t = Sum.inl () → KW p l e rm_X8_never s m args below meth c G 5 (MQ below (QO G (some (.int r.2)) sh r.1 xs) args s 0 0 (gA G)) sh xs 0 0 M 68 [] []) (hres : ∀ z, t = Sum.inr z → z = r) : ∀ (n : Nat) (x4 : Int32), f_X8_never_L41 x1 x2 x3 M n x4 = some t → KW p l e rm_X8_never s m args below meth c G 5 (MQ below (QO G (some (.int r.2)) sh r.1 xs) args s 0 0 (gA G)) sh xs 0 0 M 41 [(1, .int x1), (2, .int x2), (3, .int x3), (4, .int x4)] [] := by
  intro n
  induction n with
  | zero =>
    intro x4 h
    cases h
  | succ n ih =>
    intro x4 h
    unfold f_X8_never_L41 at h
    refine k_iload C (pc2 := 43) (dkAt dkX8_never 21 (q := (41, .iload 4, 2)) rfl) rfl 3 rfl ?_
    refine k_bipush C (pc2 := 45) (dkAt dkX8_never 22 (q := (43, .bipush 99, 2)) rfl) rfl (v := 99) rfl ?_
    refine k_icmp_gt C (tgt := 68) (pc2 := 48) (dkAt dkX8_never 23 (q := (45, .if_icmp .gt 23, 3)) rfl) (by decide) rfl h (fun h => ?_) (fun h => ?_)
    · refine k_lv [] (lv2 := []) rfl ?_
      exact hcont (Option.some.inj h).symm
    · refine k_iload C (pc2 := 50) (dkAt dkX8_never 24 (q := (48, .iload 4, 2)) rfl) rfl 3 rfl ?_
      refine k_iload_n C (pc2 := 51) (dkAt dkX8_never 25 (q := (50, .iload_n 1, 1)) rfl) rfl rfl 0 rfl ?_
      refine k_iload_n C (pc2 := 52) (dkAt dkX8_never 26 (q := (51, .iload_n 2, 1)) rfl) rfl rfl 1 rfl ?_
      obtain ⟨q11, e12, h⟩ := ob_inv h
      refine kc_S C (As := [.int x4, .int x1, .int x2]) (st2 := [.int q11]) (ct_X8_oddsOf l G sh xs x4 x1 x2 M q11 e12) (cl_X8_302 (hts_of C) ⟨Nat.le_of_ble_eq_true rfl, Nat.le_of_ble_eq_true rfl⟩ rfl rfl) rfl rfl (Nat.le_of_ble_eq_true rfl) (dkAt dkX8_never 27 (q := (52, .invokestatic 302, 3)) rfl) ⟨Nat.zero_le _, Nat.zero_le _⟩ (pc2 := 55) rfl rfl ?_
      refine k_iload_n C (pc2 := 56) (dkAt dkX8_never 28 (q := (55, .iload_n 3, 1)) rfl) rfl rfl 2 rfl ?_
      refine k_icmp_ge C (tgt := 62) (pc2 := 59) (dkAt dkX8_never 29 (q := (56, .if_icmp .ge 6, 3)) rfl) (by decide) rfl h (fun h => ?_) (fun h => ?_)
      · refine kb_iinc C (pc2 := 65) (dkAt dkX8_never 32 (q := (62, .iinc 4 1, 3)) rfl) rfl (j := 3) rfl (v := x4 + 1) rfl (by decide) (lv2 := fun v13 => [(4, .int v13), (1, .int x1), (2, .int x2), (3, .int x3)]) (fun _ => rfl) h (fun v13 h => ?_)
        refine k_goto C (tgt := 41) (dkAt dkX8_never 33 (q := (65, .goto (-24), 3)) rfl) (by decide) ?_
        refine k_lv [1, 2, 3, 0] (lv2 := [(1, .int x1), (2, .int x2), (3, .int x3), (4, .int v13)]) rfl ?_
        exact ih v13 h
      · refine k_iload C (pc2 := 61) (dkAt dkX8_never 30 (q := (59, .iload 4, 2)) rfl) rfl 3 rfl ?_
        exact k_iret C (dkAt dkX8_never 31 (q := (61, .ireturn, 1)) rfl) (pe2 (hres _ (Option.some.inj h).symm)) rfl (pe1 (hres _ (Option.some.inj h).symm)) rfl
set_option maxRecDepth 100000 in
set_option maxHeartbeats 4000000 in
theorem ct_X8_never (l : Launch) (G : GG) (sh : Sh) (xs : List va_E) (o0 : Nat) (h0 : isM sh o0) (x1 : Int32) (x2 : Int32) (x3 : Int32) (M : Mm) (r : Mm × Int32) (h : f_X8_never o0 x1 x2 x3 M = some r) : Ct l yX8_never cX8_never 5 (some .int) rm_X8_never G [rA G o0, .int x1, .int x2, .int x3] sh M xs (some (.int r.2)) sh r.1 xs 0 0 := by
  refine ct_of (by decide) (Nat.le_of_ble_eq_true rfl) ?_
  intro p e s m args below meth c hnm C
  refine k_lv [0, 1, 2, 3] (lv2 := [(0, rA G o0), (1, .int x1), (2, .int x2), (3, .int x3)]) rfl ?_
  unfold f_X8_never at h
  refine k_iload_n C (pc2 := 1) (dkAt dkX8_never 0 (q := (0, .iload_n 1, 1)) rfl) rfl rfl 1 rfl ?_
  obtain ⟨q1, e2, h⟩ := ob_inv h
  refine kc_S C (As := [.int x1]) (st2 := [.int q1]) (ct_X8_isHundred l G sh xs x1 M q1 e2) (cl_X8_299 (hts_of C) ⟨Nat.le_of_ble_eq_true rfl, Nat.le_of_ble_eq_true rfl⟩ rfl rfl) rfl rfl (Nat.le_of_ble_eq_true rfl) (dkAt dkX8_never 1 (q := (1, .invokestatic 299, 3)) rfl) ⟨Nat.zero_le _, Nat.zero_le _⟩ (pc2 := 4) rfl rfl ?_
  refine k_if_eq C (tgt := 31) (pc2 := 7) (dkAt dkX8_never 2 (q := (4, .ifCond .eq 27, 3)) rfl) (by decide) rfl h (fun h => ?_) (fun h => ?_)
  · refine k_aload_n C (pc2 := 32) (dkAt dkX8_never 15 (q := (31, .aload_n 0, 1)) rfl) rfl rfl 0 rfl ?_
    refine k_bipush C (pc2 := 34) (dkAt dkX8_never 16 (q := (32, .bipush (-2), 2)) rfl) rfl (v := (-2)) rfl ?_
    obtain ⟨q3, e4, h⟩ := ob_inv h
    refine kc_V C (As := [.int (-2)]) (st2 := [.int q3.2]) (ct_X8_refuse l G sh xs o0 h0 (-2) M q3 e4) (cl_X8_97 (hts_of C) ⟨Nat.le_of_ble_eq_true rfl, Nat.le_of_ble_eq_true rfl⟩ rfl rfl) h0.1 rfl rfl rfl rfl rfl (Nat.le_of_ble_eq_true rfl) (dkAt dkX8_never 17 (q := (34, .invokevirtual 97, 3)) rfl) ⟨Nat.zero_le _, Nat.zero_le _⟩ (pc2 := 37) rfl rfl ?_
    exact k_iret C (dkAt dkX8_never 18 (q := (37, .ireturn, 1)) rfl) (pe2 (Option.some.inj h)) rfl (pe1 (Option.some.inj h)) rfl
  · refine k_iload_n C (pc2 := 8) (dkAt dkX8_never 3 (q := (7, .iload_n 2, 1)) rfl) rfl rfl 2 rfl ?_
    refine k_i2l C (pc2 := 9) (dkAt dkX8_never 4 (q := (8, .i2l, 1)) rfl) rfl ?_
    refine k_lconst C (pc2 := 10) (dkAt dkX8_never 5 (q := (9, .lconst 0, 1)) rfl) rfl (v := 0) rfl ?_
    refine k_ldc2 C (pc2 := 13) (dkAt dkX8_never 6 (q := (10, .ldc2_w 129, 3)) rfl) rfl (v := 12) tL_X8_129 ?_
    obtain ⟨q5, e6, h⟩ := ob_inv h
    refine kc_S C (As := [.long x2.toInt64, .long 0, .long 12]) (st2 := [.int q5]) (ct_X8_in l G sh xs x2.toInt64 0 12 M q5 e6) (cl_X8_85 (hts_of C) ⟨Nat.le_of_ble_eq_true rfl, Nat.le_of_ble_eq_true rfl⟩ rfl rfl) rfl rfl (Nat.le_of_ble_eq_true rfl) (dkAt dkX8_never 7 (q := (13, .invokestatic 85, 3)) rfl) ⟨Nat.zero_le _, Nat.zero_le _⟩ (pc2 := 16) rfl rfl ?_
    refine k_if_eq C (tgt := 31) (pc2 := 19) (dkAt dkX8_never 8 (q := (16, .ifCond .eq 15, 3)) rfl) (by decide) rfl h (fun h => ?_) (fun h => ?_)
    · refine k_aload_n C (pc2 := 32) (dkAt dkX8_never 15 (q := (31, .aload_n 0, 1)) rfl) rfl rfl 0 rfl ?_
      refine k_bipush C (pc2 := 34) (dkAt dkX8_never 16 (q := (32, .bipush (-2), 2)) rfl) rfl (v := (-2)) rfl ?_
      obtain ⟨q7, e8, h⟩ := ob_inv h
      refine kc_V C (As := [.int (-2)]) (st2 := [.int q7.2]) (ct_X8_refuse l G sh xs o0 h0 (-2) M q7 e8) (cl_X8_97 (hts_of C) ⟨Nat.le_of_ble_eq_true rfl, Nat.le_of_ble_eq_true rfl⟩ rfl rfl) h0.1 rfl rfl rfl rfl rfl (Nat.le_of_ble_eq_true rfl) (dkAt dkX8_never 17 (q := (34, .invokevirtual 97, 3)) rfl) ⟨Nat.zero_le _, Nat.zero_le _⟩ (pc2 := 37) rfl rfl ?_
      exact k_iret C (dkAt dkX8_never 18 (q := (37, .ireturn, 1)) rfl) (pe2 (Option.some.inj h)) rfl (pe1 (Option.some.inj h)) rfl
    · refine k_iload_n C (pc2 := 20) (dkAt dkX8_never 9 (q := (19, .iload_n 3, 1)) rfl) rfl rfl 3 rfl ?_
      refine k_i2l C (pc2 := 21) (dkAt dkX8_never 10 (q := (20, .i2l, 1)) rfl) rfl ?_
      refine k_lconst C (pc2 := 22) (dkAt dkX8_never 11 (q := (21, .lconst 0, 1)) rfl) rfl (v := 0) rfl ?_
      refine k_ldc2 C (pc2 := 25) (dkAt dkX8_never 12 (q := (22, .ldc2_w 293, 3)) rfl) rfl (v := 1000000) tL_X8_293 ?_
      obtain ⟨q9, e10, h⟩ := ob_inv h
      refine kc_S C (As := [.long x3.toInt64, .long 0, .long 1000000]) (st2 := [.int q9]) (ct_X8_in l G sh xs x3.toInt64 0 1000000 M q9 e10) (cl_X8_85 (hts_of C) ⟨Nat.le_of_ble_eq_true rfl, Nat.le_of_ble_eq_true rfl⟩ rfl rfl) rfl rfl (Nat.le_of_ble_eq_true rfl) (dkAt dkX8_never 13 (q := (25, .invokestatic 85, 3)) rfl) ⟨Nat.zero_le _, Nat.zero_le _⟩ (pc2 := 28) rfl rfl ?_
      refine k_if_ne C (tgt := 38) (pc2 := 31) (dkAt dkX8_never 14 (q := (28, .ifCond .ne 10, 3)) rfl) (by decide) rfl h (fun h => ?_) (fun h => ?_)
      · refine k_iconst C (pc2 := 39) (dkAt dkX8_never 19 (q := (38, .iconst 1, 1)) rfl) rfl (v := 1) rfl ?_
        refine k_istore C (pc2 := 41) (dkAt dkX8_never 20 (q := (39, .istore 4, 2)) rfl) rfl (by decide) (lv2 := [(4, .int 1), (0, rA G o0), (1, .int x1), (2, .int x2), (3, .int x3)]) rfl ?_
        refine k_lv [2, 3, 4, 0] (lv2 := [(1, .int x1), (2, .int x2), (3, .int x3), (4, .int 1)]) rfl ?_
        obtain ⟨t14, e15, hA, hB⟩ := obS_inv h
        refine kl_X8_never_L41 C x1 x2 x3 M r t14 ?_ ?_ 1000 1 e15
        · intro et
          have h := hA _ et
          refine k_iconst C (pc2 := 69) (dkAt dkX8_never 34 (q := (68, .iconst (-1), 1)) rfl) rfl (v := (-1)) rfl ?_
          exact k_iret C (dkAt dkX8_never 35 (q := (69, .ireturn, 1)) rfl) (pe2 (Option.some.inj h)) rfl (pe1 (Option.some.inj h)) rfl
        · intro z et
          have h := hB _ et
          exact Option.some.inj h
      · refine k_aload_n C (pc2 := 32) (dkAt dkX8_never 15 (q := (31, .aload_n 0, 1)) rfl) rfl rfl 0 rfl ?_
        refine k_bipush C (pc2 := 34) (dkAt dkX8_never 16 (q := (32, .bipush (-2), 2)) rfl) rfl (v := (-2)) rfl ?_
        obtain ⟨q16, e17, h⟩ := ob_inv h
        refine kc_V C (As := [.int (-2)]) (st2 := [.int q16.2]) (ct_X8_refuse l G sh xs o0 h0 (-2) M q16 e17) (cl_X8_97 (hts_of C) ⟨Nat.le_of_ble_eq_true rfl, Nat.le_of_ble_eq_true rfl⟩ rfl rfl) h0.1 rfl rfl rfl rfl rfl (Nat.le_of_ble_eq_true rfl) (dkAt dkX8_never 17 (q := (34, .invokevirtual 97, 3)) rfl) ⟨Nat.zero_le _, Nat.zero_le _⟩ (pc2 := 37) rfl rfl ?_
        exact k_iret C (dkAt dkX8_never 18 (q := (37, .ireturn, 1)) rfl) (pe2 (Option.some.inj h)) rfl (pe1 (Option.some.inj h)) rfl
set_option maxRecDepth 100000 in
set_option maxHeartbeats 4000000 in
theorem kl_X8_nextAsked_L4 {p : Program} {l : Launch} {e : Env} {s : State} {m : MethodId} {args : Array Value} {below : List Frame} {meth : Method} {c : Code} {G : GG} {sh : Sh} {xs : List va_E} {Q : State → Prop} (C : Cx p s m c args meth G RX8 cX8_nextAsked 5 (some .int)) (o0 : Nat) (h0 : isM sh o0) (x1 : Int32) (M : Mm) (y2 : Int32) (hcont : KW p l e rm_X8_nextAsked s m args below meth c G 5 Q sh xs 0 0 M 64 [(2, .int y2)] []) : ∀ (n : Nat) (x2 : Int32) (x3 : Int32), f_X8_nextAsked_L4 o0 x1 M n x2 x3 = some y2 → KW p l e rm_X8_nextAsked s m args below meth c G 5 Q sh xs 0 0 M 4 [(0, rA G o0), (1, .int x1), (2, .int x2), (3, .int x3)] [] := by
  intro n
  induction n with
  | zero =>
    intro x2 x3 h
    cases h
  | succ n ih =>
    intro x2 x3 h
    unfold f_X8_nextAsked_L4 at h
    refine k_iload_n C (pc2 := 5) (dkAt dkX8_nextAsked 4 (q := (4, .iload_n 3, 1)) rfl) rfl rfl 3 rfl ?_
    refine k_aload_n C (pc2 := 6) (dkAt dkX8_nextAsked 5 (q := (5, .aload_n 0, 1)) rfl) rfl rfl 0 rfl ?_
    refine kf_X8_82 C (pc2 := 9) (o := o0) (o2 := 0) h0.1 (dkAt dkX8_nextAsked 6 (q := (6, .getfield 82, 3)) rfl) rfl ?_
    refine k_icmp_ge C (tgt := 64) (pc2 := 12) (dkAt dkX8_nextAsked 7 (q := (9, .if_icmp .ge 55, 3)) rfl) (by decide) rfl h (fun h => ?_) (fun h => ?_)
    · refine k_lv [2] (lv2 := [(2, .int x2)]) rfl ?_
      cases h
      exact hcont
    · refine k_iload_n C (pc2 := 13) (dkAt dkX8_nextAsked 8 (q := (12, .iload_n 1, 1)) rfl) rfl rfl 1 rfl ?_
      refine k_iload_n C (pc2 := 14) (dkAt dkX8_nextAsked 9 (q := (13, .iload_n 3, 1)) rfl) rfl rfl 3 rfl ?_
      refine k_ishr C (pc2 := 15) (dkAt dkX8_nextAsked 10 (q := (14, .ishr, 1)) rfl) rfl ?_
      refine k_iconst C (pc2 := 16) (dkAt dkX8_nextAsked 11 (q := (15, .iconst 1, 1)) rfl) rfl (v := 1) rfl ?_
      refine k_iand C (pc2 := 17) (dkAt dkX8_nextAsked 12 (q := (16, .iand, 1)) rfl) rfl ?_
      refine k_if_ne C (tgt := 24) (pc2 := 20) (dkAt dkX8_nextAsked 13 (q := (17, .ifCond .ne 7, 3)) rfl) (by decide) rfl h (fun h => ?_) (fun h => ?_)
      · refine k_iconst C (pc2 := 25) (dkAt dkX8_nextAsked 16 (q := (24, .iconst 0, 1)) rfl) rfl (v := 0) rfl ?_
        refine k_istore C (pc2 := 27) (dkAt dkX8_nextAsked 17 (q := (25, .istore 4, 2)) rfl) rfl (by decide) (lv2 := [(4, .int 0), (0, rA G o0), (1, .int x1), (2, .int x2), (3, .int x3)]) rfl ?_
        refine k_iload C (pc2 := 29) (dkAt dkX8_nextAsked 18 (q := (27, .iload 4, 2)) rfl) rfl 0 rfl ?_
        refine k_if_eq C (tgt := 56) (pc2 := 32) (dkAt dkX8_nextAsked 19 (q := (29, .ifCond .eq 27, 3)) rfl) (by decide) rfl h (fun h => ?_) (fun h => ?_)
        · refine k_iload_n C (pc2 := 57) (dkAt dkX8_nextAsked 34 (q := (56, .iload_n 2, 1)) rfl) rfl rfl 3 rfl ?_
          refine k_istore_n C (pc2 := 58) (dkAt dkX8_nextAsked 35 (q := (57, .istore_n 2, 1)) rfl) rfl rfl (by decide) (lv2 := [(2, .int x2), (4, .int 0), (0, rA G o0), (1, .int x1), (3, .int x3)]) rfl ?_
          refine kb_iinc C (pc2 := 61) (dkAt dkX8_nextAsked 36 (q := (58, .iinc 3 1, 3)) rfl) rfl (j := 4) rfl (v := x3 + 1) rfl (by decide) (lv2 := fun v1 => [(3, .int v1), (2, .int x2), (4, .int 0), (0, rA G o0), (1, .int x1)]) (fun _ => rfl) h (fun v1 h => ?_)
          refine k_goto C (tgt := 4) (dkAt dkX8_nextAsked 37 (q := (61, .goto (-57), 3)) rfl) (by decide) ?_
          refine k_lv [3, 4, 1, 0] (lv2 := [(0, rA G o0), (1, .int x1), (2, .int x2), (3, .int v1)]) rfl ?_
          exact ih x2 v1 h
        · refine k_iload_n C (pc2 := 33) (dkAt dkX8_nextAsked 20 (q := (32, .iload_n 2, 1)) rfl) rfl rfl 3 rfl ?_
          refine k_iconst C (pc2 := 34) (dkAt dkX8_nextAsked 21 (q := (33, .iconst (-1), 1)) rfl) rfl (v := (-1)) rfl ?_
          refine k_icmp_eq C (tgt := 52) (pc2 := 37) (dkAt dkX8_nextAsked 22 (q := (34, .if_icmp .eq 18, 3)) rfl) (by decide) rfl h (fun h => ?_) (fun h => ?_)
          · refine k_iload_n C (pc2 := 53) (dkAt dkX8_nextAsked 32 (q := (52, .iload_n 3, 1)) rfl) rfl rfl 4 rfl ?_
            refine k_goto C (tgt := 57) (dkAt dkX8_nextAsked 33 (q := (53, .goto 4, 3)) rfl) (by decide) ?_
            refine k_istore_n C (pc2 := 58) (dkAt dkX8_nextAsked 35 (q := (57, .istore_n 2, 1)) rfl) rfl rfl (by decide) (lv2 := [(2, .int x3), (4, .int 0), (0, rA G o0), (1, .int x1), (3, .int x3)]) rfl ?_
            refine kb_iinc C (pc2 := 61) (dkAt dkX8_nextAsked 36 (q := (58, .iinc 3 1, 3)) rfl) rfl (j := 4) rfl (v := x3 + 1) rfl (by decide) (lv2 := fun v2 => [(3, .int v2), (2, .int x3), (4, .int 0), (0, rA G o0), (1, .int x1)]) (fun _ => rfl) h (fun v2 h => ?_)
            refine k_goto C (tgt := 4) (dkAt dkX8_nextAsked 37 (q := (61, .goto (-57), 3)) rfl) (by decide) ?_
            refine k_lv [3, 4, 1, 0] (lv2 := [(0, rA G o0), (1, .int x1), (2, .int x3), (3, .int v2)]) rfl ?_
            exact ih x3 v2 h
          · refine k_aload_n C (pc2 := 38) (dkAt dkX8_nextAsked 23 (q := (37, .aload_n 0, 1)) rfl) rfl rfl 1 rfl ?_
            refine kf_X8_47 C (pc2 := 41) (o := o0) (o2 := o0 + 19) h0.1 rfl (dkAt dkX8_nextAsked 24 (q := (38, .getfield 47, 3)) rfl) rfl ?_
            refine k_iload_n C (pc2 := 42) (dkAt dkX8_nextAsked 25 (q := (41, .iload_n 3, 1)) rfl) rfl rfl 4 rfl ?_
            refine k_iald C (pc2 := 43) (o := o0 + 19) (nA := 8) (isM_likely h0) (dkAt dkX8_nextAsked 26 (q := (42, .iaload, 1)) rfl) rfl h (fun h => ?_)
            refine k_aload_n C (pc2 := 44) (dkAt dkX8_nextAsked 27 (q := (43, .aload_n 0, 1)) rfl) rfl rfl 1 rfl ?_
            refine kf_X8_47 C (pc2 := 47) (o := o0) (o2 := o0 + 19) h0.1 rfl (dkAt dkX8_nextAsked 28 (q := (44, .getfield 47, 3)) rfl) rfl ?_
            refine k_iload_n C (pc2 := 48) (dkAt dkX8_nextAsked 29 (q := (47, .iload_n 2, 1)) rfl) rfl rfl 3 rfl ?_
            refine k_iald C (pc2 := 49) (o := o0 + 19) (nA := 8) (isM_likely h0) (dkAt dkX8_nextAsked 30 (q := (48, .iaload, 1)) rfl) rfl h (fun h => ?_)
            refine k_icmp_ge C (tgt := 56) (pc2 := 52) (dkAt dkX8_nextAsked 31 (q := (49, .if_icmp .ge 7, 3)) rfl) (by decide) rfl h (fun h => ?_) (fun h => ?_)
            · refine k_iload_n C (pc2 := 57) (dkAt dkX8_nextAsked 34 (q := (56, .iload_n 2, 1)) rfl) rfl rfl 3 rfl ?_
              refine k_istore_n C (pc2 := 58) (dkAt dkX8_nextAsked 35 (q := (57, .istore_n 2, 1)) rfl) rfl rfl (by decide) (lv2 := [(2, .int x2), (4, .int 0), (0, rA G o0), (1, .int x1), (3, .int x3)]) rfl ?_
              refine kb_iinc C (pc2 := 61) (dkAt dkX8_nextAsked 36 (q := (58, .iinc 3 1, 3)) rfl) rfl (j := 4) rfl (v := x3 + 1) rfl (by decide) (lv2 := fun v3 => [(3, .int v3), (2, .int x2), (4, .int 0), (0, rA G o0), (1, .int x1)]) (fun _ => rfl) h (fun v3 h => ?_)
              refine k_goto C (tgt := 4) (dkAt dkX8_nextAsked 37 (q := (61, .goto (-57), 3)) rfl) (by decide) ?_
              refine k_lv [3, 4, 1, 0] (lv2 := [(0, rA G o0), (1, .int x1), (2, .int x2), (3, .int v3)]) rfl ?_
              exact ih x2 v3 h
            · refine k_iload_n C (pc2 := 53) (dkAt dkX8_nextAsked 32 (q := (52, .iload_n 3, 1)) rfl) rfl rfl 4 rfl ?_
              refine k_goto C (tgt := 57) (dkAt dkX8_nextAsked 33 (q := (53, .goto 4, 3)) rfl) (by decide) ?_
              refine k_istore_n C (pc2 := 58) (dkAt dkX8_nextAsked 35 (q := (57, .istore_n 2, 1)) rfl) rfl rfl (by decide) (lv2 := [(2, .int x3), (4, .int 0), (0, rA G o0), (1, .int x1), (3, .int x3)]) rfl ?_
              refine kb_iinc C (pc2 := 61) (dkAt dkX8_nextAsked 36 (q := (58, .iinc 3 1, 3)) rfl) rfl (j := 4) rfl (v := x3 + 1) rfl (by decide) (lv2 := fun v4 => [(3, .int v4), (2, .int x3), (4, .int 0), (0, rA G o0), (1, .int x1)]) (fun _ => rfl) h (fun v4 h => ?_)
              refine k_goto C (tgt := 4) (dkAt dkX8_nextAsked 37 (q := (61, .goto (-57), 3)) rfl) (by decide) ?_
              refine k_lv [3, 4, 1, 0] (lv2 := [(0, rA G o0), (1, .int x1), (2, .int x3), (3, .int v4)]) rfl ?_
              exact ih x3 v4 h
      · refine k_iconst C (pc2 := 21) (dkAt dkX8_nextAsked 14 (q := (20, .iconst 1, 1)) rfl) rfl (v := 1) rfl ?_
        refine k_goto C (tgt := 25) (dkAt dkX8_nextAsked 15 (q := (21, .goto 4, 3)) rfl) (by decide) ?_
        refine k_istore C (pc2 := 27) (dkAt dkX8_nextAsked 17 (q := (25, .istore 4, 2)) rfl) rfl (by decide) (lv2 := [(4, .int 1), (0, rA G o0), (1, .int x1), (2, .int x2), (3, .int x3)]) rfl ?_
        refine k_iload C (pc2 := 29) (dkAt dkX8_nextAsked 18 (q := (27, .iload 4, 2)) rfl) rfl 0 rfl ?_
        refine k_if_eq C (tgt := 56) (pc2 := 32) (dkAt dkX8_nextAsked 19 (q := (29, .ifCond .eq 27, 3)) rfl) (by decide) rfl h (fun h => ?_) (fun h => ?_)
        · refine k_iload_n C (pc2 := 57) (dkAt dkX8_nextAsked 34 (q := (56, .iload_n 2, 1)) rfl) rfl rfl 3 rfl ?_
          refine k_istore_n C (pc2 := 58) (dkAt dkX8_nextAsked 35 (q := (57, .istore_n 2, 1)) rfl) rfl rfl (by decide) (lv2 := [(2, .int x2), (4, .int 1), (0, rA G o0), (1, .int x1), (3, .int x3)]) rfl ?_
          refine kb_iinc C (pc2 := 61) (dkAt dkX8_nextAsked 36 (q := (58, .iinc 3 1, 3)) rfl) rfl (j := 4) rfl (v := x3 + 1) rfl (by decide) (lv2 := fun v5 => [(3, .int v5), (2, .int x2), (4, .int 1), (0, rA G o0), (1, .int x1)]) (fun _ => rfl) h (fun v5 h => ?_)
          refine k_goto C (tgt := 4) (dkAt dkX8_nextAsked 37 (q := (61, .goto (-57), 3)) rfl) (by decide) ?_
          refine k_lv [3, 4, 1, 0] (lv2 := [(0, rA G o0), (1, .int x1), (2, .int x2), (3, .int v5)]) rfl ?_
          exact ih x2 v5 h
        · refine k_iload_n C (pc2 := 33) (dkAt dkX8_nextAsked 20 (q := (32, .iload_n 2, 1)) rfl) rfl rfl 3 rfl ?_
          refine k_iconst C (pc2 := 34) (dkAt dkX8_nextAsked 21 (q := (33, .iconst (-1), 1)) rfl) rfl (v := (-1)) rfl ?_
          refine k_icmp_eq C (tgt := 52) (pc2 := 37) (dkAt dkX8_nextAsked 22 (q := (34, .if_icmp .eq 18, 3)) rfl) (by decide) rfl h (fun h => ?_) (fun h => ?_)
          · refine k_iload_n C (pc2 := 53) (dkAt dkX8_nextAsked 32 (q := (52, .iload_n 3, 1)) rfl) rfl rfl 4 rfl ?_
            refine k_goto C (tgt := 57) (dkAt dkX8_nextAsked 33 (q := (53, .goto 4, 3)) rfl) (by decide) ?_
            refine k_istore_n C (pc2 := 58) (dkAt dkX8_nextAsked 35 (q := (57, .istore_n 2, 1)) rfl) rfl rfl (by decide) (lv2 := [(2, .int x3), (4, .int 1), (0, rA G o0), (1, .int x1), (3, .int x3)]) rfl ?_
            refine kb_iinc C (pc2 := 61) (dkAt dkX8_nextAsked 36 (q := (58, .iinc 3 1, 3)) rfl) rfl (j := 4) rfl (v := x3 + 1) rfl (by decide) (lv2 := fun v6 => [(3, .int v6), (2, .int x3), (4, .int 1), (0, rA G o0), (1, .int x1)]) (fun _ => rfl) h (fun v6 h => ?_)
            refine k_goto C (tgt := 4) (dkAt dkX8_nextAsked 37 (q := (61, .goto (-57), 3)) rfl) (by decide) ?_
            refine k_lv [3, 4, 1, 0] (lv2 := [(0, rA G o0), (1, .int x1), (2, .int x3), (3, .int v6)]) rfl ?_
            exact ih x3 v6 h
          · refine k_aload_n C (pc2 := 38) (dkAt dkX8_nextAsked 23 (q := (37, .aload_n 0, 1)) rfl) rfl rfl 1 rfl ?_
            refine kf_X8_47 C (pc2 := 41) (o := o0) (o2 := o0 + 19) h0.1 rfl (dkAt dkX8_nextAsked 24 (q := (38, .getfield 47, 3)) rfl) rfl ?_
            refine k_iload_n C (pc2 := 42) (dkAt dkX8_nextAsked 25 (q := (41, .iload_n 3, 1)) rfl) rfl rfl 4 rfl ?_
            refine k_iald C (pc2 := 43) (o := o0 + 19) (nA := 8) (isM_likely h0) (dkAt dkX8_nextAsked 26 (q := (42, .iaload, 1)) rfl) rfl h (fun h => ?_)
            refine k_aload_n C (pc2 := 44) (dkAt dkX8_nextAsked 27 (q := (43, .aload_n 0, 1)) rfl) rfl rfl 1 rfl ?_
            refine kf_X8_47 C (pc2 := 47) (o := o0) (o2 := o0 + 19) h0.1 rfl (dkAt dkX8_nextAsked 28 (q := (44, .getfield 47, 3)) rfl) rfl ?_
            refine k_iload_n C (pc2 := 48) (dkAt dkX8_nextAsked 29 (q := (47, .iload_n 2, 1)) rfl) rfl rfl 3 rfl ?_
            refine k_iald C (pc2 := 49) (o := o0 + 19) (nA := 8) (isM_likely h0) (dkAt dkX8_nextAsked 30 (q := (48, .iaload, 1)) rfl) rfl h (fun h => ?_)
            refine k_icmp_ge C (tgt := 56) (pc2 := 52) (dkAt dkX8_nextAsked 31 (q := (49, .if_icmp .ge 7, 3)) rfl) (by decide) rfl h (fun h => ?_) (fun h => ?_)
            · refine k_iload_n C (pc2 := 57) (dkAt dkX8_nextAsked 34 (q := (56, .iload_n 2, 1)) rfl) rfl rfl 3 rfl ?_
              refine k_istore_n C (pc2 := 58) (dkAt dkX8_nextAsked 35 (q := (57, .istore_n 2, 1)) rfl) rfl rfl (by decide) (lv2 := [(2, .int x2), (4, .int 1), (0, rA G o0), (1, .int x1), (3, .int x3)]) rfl ?_
              refine kb_iinc C (pc2 := 61) (dkAt dkX8_nextAsked 36 (q := (58, .iinc 3 1, 3)) rfl) rfl (j := 4) rfl (v := x3 + 1) rfl (by decide) (lv2 := fun v7 => [(3, .int v7), (2, .int x2), (4, .int 1), (0, rA G o0), (1, .int x1)]) (fun _ => rfl) h (fun v7 h => ?_)
              refine k_goto C (tgt := 4) (dkAt dkX8_nextAsked 37 (q := (61, .goto (-57), 3)) rfl) (by decide) ?_
              refine k_lv [3, 4, 1, 0] (lv2 := [(0, rA G o0), (1, .int x1), (2, .int x2), (3, .int v7)]) rfl ?_
              exact ih x2 v7 h
            · refine k_iload_n C (pc2 := 53) (dkAt dkX8_nextAsked 32 (q := (52, .iload_n 3, 1)) rfl) rfl rfl 4 rfl ?_
              refine k_goto C (tgt := 57) (dkAt dkX8_nextAsked 33 (q := (53, .goto 4, 3)) rfl) (by decide) ?_
              refine k_istore_n C (pc2 := 58) (dkAt dkX8_nextAsked 35 (q := (57, .istore_n 2, 1)) rfl) rfl rfl (by decide) (lv2 := [(2, .int x3), (4, .int 1), (0, rA G o0), (1, .int x1), (3, .int x3)]) rfl ?_
              refine kb_iinc C (pc2 := 61) (dkAt dkX8_nextAsked 36 (q := (58, .iinc 3 1, 3)) rfl) rfl (j := 4) rfl (v := x3 + 1) rfl (by decide) (lv2 := fun v8 => [(3, .int v8), (2, .int x3), (4, .int 1), (0, rA G o0), (1, .int x1)]) (fun _ => rfl) h (fun v8 h => ?_)
              refine k_goto C (tgt := 4) (dkAt dkX8_nextAsked 37 (q := (61, .goto (-57), 3)) rfl) (by decide) ?_
              refine k_lv [3, 4, 1, 0] (lv2 := [(0, rA G o0), (1, .int x1), (2, .int x3), (3, .int v8)]) rfl ?_
              exact ih x3 v8 h
set_option maxRecDepth 100000 in
set_option maxHeartbeats 4000000 in
theorem ct_X8_nextAsked (l : Launch) (G : GG) (sh : Sh) (xs : List va_E) (o0 : Nat) (h0 : isM sh o0) (x1 : Int32) (M : Mm) (r : Int32) (h : f_X8_nextAsked o0 x1 M = some r) : Ct l yX8_nextAsked cX8_nextAsked 5 (some .int) rm_X8_nextAsked G [rA G o0, .int x1] sh M xs (some (.int r)) sh M xs 0 0 := by
  refine ct_of (by decide) (Nat.le_of_ble_eq_true rfl) ?_
  intro p e s m args below meth c hnm C
  refine k_lv [0, 1] (lv2 := [(0, rA G o0), (1, .int x1)]) rfl ?_
  unfold f_X8_nextAsked at h
  refine k_iconst C (pc2 := 1) (dkAt dkX8_nextAsked 0 (q := (0, .iconst (-1), 1)) rfl) rfl (v := (-1)) rfl ?_
  refine k_istore_n C (pc2 := 2) (dkAt dkX8_nextAsked 1 (q := (1, .istore_n 2, 1)) rfl) rfl rfl (by decide) (lv2 := [(2, .int (-1)), (0, rA G o0), (1, .int x1)]) rfl ?_
  refine k_iconst C (pc2 := 3) (dkAt dkX8_nextAsked 2 (q := (2, .iconst 0, 1)) rfl) rfl (v := 0) rfl ?_
  refine k_istore_n C (pc2 := 4) (dkAt dkX8_nextAsked 3 (q := (3, .istore_n 3, 1)) rfl) rfl rfl (by decide) (lv2 := [(3, .int 0), (2, .int (-1)), (0, rA G o0), (1, .int x1)]) rfl ?_
  refine k_lv [2, 3, 1, 0] (lv2 := [(0, rA G o0), (1, .int x1), (2, .int (-1)), (3, .int 0)]) rfl ?_
  obtain ⟨v11, e10, h⟩ := ob_inv h
  refine kl_X8_nextAsked_L4 C o0 h0 x1 M v11 ?_ 1000 (-1) 0 e10
  refine k_iload_n C (pc2 := 65) (dkAt dkX8_nextAsked 38 (q := (64, .iload_n 2, 1)) rfl) rfl rfl 0 rfl ?_
  exact k_iret C (dkAt dkX8_nextAsked 39 (q := (65, .ireturn, 1)) rfl) (Option.some.inj h) rfl rfl rfl
set_option maxRecDepth 100000 in
set_option maxHeartbeats 4000000 in
theorem kl_X8_first_L53 {p : Program} {l : Launch} {e : Env} {s : State} {m : MethodId} {args : Array Value} {below : List Frame} {meth : Method} {c : Code} {G : GG} {sh : Sh} {xs : List va_E} (C : Cx p s m c args meth G RX8 cX8_first 11 (some .int)) (o0 : Nat) (h0 : isM sh o0) (x1 : Int32) (M : Mm) (r : Mm × Int32) (t : (Int64 × Int64) ⊕ (Mm × Int32)) (hcont : ∀ (y2 : Int64) (y4 : Int64), t = Sum.inl (y2, y4) → KW p l e rm_X8_first s m args below meth c G 11 (MQ below (QO G (some (.int r.2)) sh r.1 xs) args s 0 0 (gA G)) sh xs 0 0 M 128 [(2, .long y2), (4, .long y4)] []) (hres : ∀ z, t = Sum.inr z → z = r) : ∀ (n : Nat) (x2 : Int64) (x4 : Int64) (x6 : Int64) (x8 : Int32) (x9 : Int32), f_X8_first_L53 o0 x1 M n x2 x4 x6 x8 x9 = some t → KW p l e rm_X8_first s m args below meth c G 11 (MQ below (QO G (some (.int r.2)) sh r.1 xs) args s 0 0 (gA G)) sh xs 0 0 M 53 [(0, rA G o0), (1, .int x1), (2, .long x2), (4, .long x4), (6, .long x6), (8, .int x8), (9, .int x9)] [] := by
  intro n
  induction n with
  | zero =>
    intro x2 x4 x6 x8 x9 h
    cases h
  | succ n ih =>
    intro x2 x4 x6 x8 x9 h
    unfold f_X8_first_L53 at h
    refine k_iload C (pc2 := 55) (dkAt dkX8_first 31 (q := (53, .iload 9, 2)) rfl) rfl 6 rfl ?_
    refine k_aload_n C (pc2 := 56) (dkAt dkX8_first 32 (q := (55, .aload_n 0, 1)) rfl) rfl rfl 0 rfl ?_
    refine kf_X8_82 C (pc2 := 59) (o := o0) (o2 := 0) h0.1 (dkAt dkX8_first 33 (q := (56, .getfield 82, 3)) rfl) rfl ?_
    refine k_icmp_ge C (tgt := 128) (pc2 := 62) (dkAt dkX8_first 34 (q := (59, .if_icmp .ge 69, 3)) rfl) (by decide) rfl h (fun h => ?_) (fun h => ?_)
    · refine k_lv [2, 3] (lv2 := [(2, .long x2), (4, .long x4)]) rfl ?_
      exact hcont x2 x4 (Option.some.inj h).symm
    · refine k_aload_n C (pc2 := 63) (dkAt dkX8_first 35 (q := (62, .aload_n 0, 1)) rfl) rfl rfl 0 rfl ?_
      refine k_iload C (pc2 := 65) (dkAt dkX8_first 36 (q := (63, .iload 8, 2)) rfl) rfl 5 rfl ?_
      obtain ⟨q3, e4, h⟩ := ob_inv h
      refine kc_V C (As := [.int x8]) (st2 := [.int q3]) (ct_X8_nextAsked l G sh xs o0 h0 x8 M q3 e4) (cl_X8_305 (hts_of C) ⟨Nat.le_of_ble_eq_true rfl, Nat.le_of_ble_eq_true rfl⟩ rfl rfl) h0.1 rfl rfl rfl rfl rfl (Nat.le_of_ble_eq_true rfl) (dkAt dkX8_first 37 (q := (65, .invokevirtual 305, 3)) rfl) ⟨Nat.zero_le _, Nat.zero_le _⟩ (pc2 := 68) rfl rfl ?_
      refine k_istore C (pc2 := 70) (dkAt dkX8_first 38 (q := (68, .istore 10, 2)) rfl) rfl (by decide) (lv2 := [(10, .int q3), (0, rA G o0), (1, .int x1), (2, .long x2), (4, .long x4), (6, .long x6), (8, .int x8), (9, .int x9)]) rfl ?_
      refine k_iload C (pc2 := 72) (dkAt dkX8_first 39 (q := (70, .iload 9, 2)) rfl) rfl 7 rfl ?_
      refine k_iload_n C (pc2 := 73) (dkAt dkX8_first 40 (q := (72, .iload_n 1, 1)) rfl) rfl rfl 2 rfl ?_
      refine k_icmp_ne C (tgt := 79) (pc2 := 76) (dkAt dkX8_first 41 (q := (73, .if_icmp .ne 6, 3)) rfl) (by decide) rfl h (fun h => ?_) (fun h => ?_)
      · refine k_lload C (pc2 := 81) (dkAt dkX8_first 44 (q := (79, .lload 4, 2)) rfl) rfl 4 rfl ?_
        refine k_ldc2 C (pc2 := 84) (dkAt dkX8_first 45 (q := (81, .ldc2_w 129, 3)) rfl) rfl (v := 12) tL_X8_129 ?_
        refine k_lmul C (pc2 := 85) (dkAt dkX8_first 46 (q := (84, .lmul, 1)) rfl) rfl ?_
        refine k_lload C (pc2 := 87) (dkAt dkX8_first 47 (q := (85, .lload 6, 2)) rfl) rfl 5 rfl ?_
        refine k_ldc2 C (pc2 := 90) (dkAt dkX8_first 48 (q := (87, .ldc2_w 129, 3)) rfl) rfl (v := 12) tL_X8_129 ?_
        refine k_lmul C (pc2 := 91) (dkAt dkX8_first 49 (q := (90, .lmul, 1)) rfl) rfl ?_
        refine k_ladd C (pc2 := 92) (dkAt dkX8_first 50 (q := (91, .ladd, 1)) rfl) rfl ?_
        refine kb_lstore C (pc2 := 94) (dkAt dkX8_first 51 (q := (92, .lstore 4, 2)) rfl) rfl (by decide) (lv2 := fun v5 => [(4, .long v5), (10, .int q3), (0, rA G o0), (1, .int x1), (2, .long x2), (6, .long x6), (8, .int x8), (9, .int x9)]) (fun _ => rfl) h (fun v5 h => ?_)
        refine k_lload C (pc2 := 96) (dkAt dkX8_first 52 (q := (94, .lload 6, 2)) rfl) rfl 5 rfl ?_
        refine k_aload_n C (pc2 := 97) (dkAt dkX8_first 53 (q := (96, .aload_n 0, 1)) rfl) rfl rfl 2 rfl ?_
        refine kf_X8_47 C (pc2 := 100) (o := o0) (o2 := o0 + 19) h0.1 rfl (dkAt dkX8_first 54 (q := (97, .getfield 47, 3)) rfl) rfl ?_
        refine k_iload C (pc2 := 102) (dkAt dkX8_first 55 (q := (100, .iload 10, 2)) rfl) rfl 1 rfl ?_
        refine k_iald C (pc2 := 103) (o := o0 + 19) (nA := 8) (isM_likely h0) (dkAt dkX8_first 56 (q := (102, .iaload, 1)) rfl) rfl h (fun h => ?_)
        refine k_i2l C (pc2 := 104) (dkAt dkX8_first 57 (q := (103, .i2l, 1)) rfl) rfl ?_
        refine k_lmul C (pc2 := 105) (dkAt dkX8_first 58 (q := (104, .lmul, 1)) rfl) rfl ?_
        refine kb_lstore C (pc2 := 107) (dkAt dkX8_first 59 (q := (105, .lstore 6, 2)) rfl) rfl (by decide) (lv2 := fun v6 => [(6, .long v6), (4, .long v5), (10, .int q3), (0, rA G o0), (1, .int x1), (2, .long x2), (8, .int x8), (9, .int x9)]) (fun _ => rfl) h (fun v6 h => ?_)
        refine k_lload_n C (pc2 := 108) (dkAt dkX8_first 60 (q := (107, .lload_n 2, 1)) rfl) rfl rfl 5 rfl ?_
        refine k_ldc2 C (pc2 := 111) (dkAt dkX8_first 61 (q := (108, .ldc2_w 129, 3)) rfl) rfl (v := 12) tL_X8_129 ?_
        refine k_lmul C (pc2 := 112) (dkAt dkX8_first 62 (q := (111, .lmul, 1)) rfl) rfl ?_
        refine kb_lstore_n C (pc2 := 113) (dkAt dkX8_first 63 (q := (112, .lstore_n 2, 1)) rfl) rfl rfl (by decide) (lv2 := fun v7 => [(2, .long v7), (6, .long v6), (4, .long v5), (10, .int q3), (0, rA G o0), (1, .int x1), (8, .int x8), (9, .int x9)]) (fun _ => rfl) h (fun v7 h => ?_)
        refine k_iload C (pc2 := 115) (dkAt dkX8_first 64 (q := (113, .iload 8, 2)) rfl) rfl 6 rfl ?_
        refine k_iconst C (pc2 := 116) (dkAt dkX8_first 65 (q := (115, .iconst 1, 1)) rfl) rfl (v := 1) rfl ?_
        refine k_iload C (pc2 := 118) (dkAt dkX8_first 66 (q := (116, .iload 10, 2)) rfl) rfl 3 rfl ?_
        refine k_ishl C (pc2 := 119) (dkAt dkX8_first 67 (q := (118, .ishl, 1)) rfl) rfl ?_
        refine k_ior C (pc2 := 120) (dkAt dkX8_first 68 (q := (119, .ior, 1)) rfl) rfl ?_
        refine kb_istore C (pc2 := 122) (dkAt dkX8_first 69 (q := (120, .istore 8, 2)) rfl) rfl (by decide) (lv2 := fun v8 => [(8, .int v8), (2, .long v7), (6, .long v6), (4, .long v5), (10, .int q3), (0, rA G o0), (1, .int x1), (9, .int x9)]) (fun _ => rfl) h (fun v8 h => ?_)
        refine kb_iinc C (pc2 := 125) (dkAt dkX8_first 70 (q := (122, .iinc 9 1, 3)) rfl) rfl (j := 7) rfl (v := x9 + 1) rfl (by decide) (lv2 := fun v9 => [(9, .int v9), (8, .int v8), (2, .long v7), (6, .long v6), (4, .long v5), (10, .int q3), (0, rA G o0), (1, .int x1)]) (fun _ => rfl) h (fun v9 h => ?_)
        refine k_goto C (tgt := 53) (dkAt dkX8_first 71 (q := (125, .goto (-72), 3)) rfl) (by decide) ?_
        refine k_lv [6, 7, 2, 4, 3, 1, 0] (lv2 := [(0, rA G o0), (1, .int x1), (2, .long v7), (4, .long v5), (6, .long v6), (8, .int v8), (9, .int v9)]) rfl ?_
        exact ih v7 v5 v6 v8 v9 h
      · refine k_iload C (pc2 := 78) (dkAt dkX8_first 42 (q := (76, .iload 10, 2)) rfl) rfl 0 rfl ?_
        exact k_iret C (dkAt dkX8_first 43 (q := (78, .ireturn, 1)) rfl) (pe2 (hres _ (Option.some.inj h).symm)) rfl (pe1 (hres _ (Option.some.inj h).symm)) rfl
set_option maxRecDepth 100000 in
set_option maxHeartbeats 4000000 in
theorem ct_X8_first (l : Launch) (G : GG) (sh : Sh) (xs : List va_E) (o0 : Nat) (h0 : isM sh o0) (x1 : Int32) (M : Mm) (r : Mm × Int32) (h : f_X8_first o0 x1 M = some r) : Ct l yX8_first cX8_first 11 (some .int) rm_X8_first G [rA G o0, .int x1] sh M xs (some (.int r.2)) sh r.1 xs 0 0 := by
  refine ct_of (by decide) (Nat.le_of_ble_eq_true rfl) ?_
  intro p e s m args below meth c hnm C
  refine k_lv [0, 1] (lv2 := [(0, rA G o0), (1, .int x1)]) rfl ?_
  unfold f_X8_first at h
  refine k_iload_n C (pc2 := 1) (dkAt dkX8_first 0 (q := (0, .iload_n 1, 1)) rfl) rfl rfl 1 rfl ?_
  refine k_i2l C (pc2 := 2) (dkAt dkX8_first 1 (q := (1, .i2l, 1)) rfl) rfl ?_
  refine k_ldc2 C (pc2 := 5) (dkAt dkX8_first 2 (q := (2, .ldc2_w 288, 3)) rfl) rfl (v := (-1)) tL_X8_288 ?_
  refine k_aload_n C (pc2 := 6) (dkAt dkX8_first 3 (q := (5, .aload_n 0, 1)) rfl) rfl rfl 0 rfl ?_
  refine kf_X8_82 C (pc2 := 9) (o := o0) (o2 := 0) h0.1 (dkAt dkX8_first 4 (q := (6, .getfield 82, 3)) rfl) rfl ?_
  refine k_iconst C (pc2 := 10) (dkAt dkX8_first 5 (q := (9, .iconst 1, 1)) rfl) rfl (v := 1) rfl ?_
  refine k_isub C (pc2 := 11) (dkAt dkX8_first 6 (q := (10, .isub, 1)) rfl) rfl ?_
  refine k_i2l C (pc2 := 12) (dkAt dkX8_first 7 (q := (11, .i2l, 1)) rfl) rfl ?_
  obtain ⟨q1, e2, h⟩ := ob_inv h
  refine kc_S C (As := [.long x1.toInt64, .long (-1), .long (((M.1 o0 10) - 1).toInt64)]) (st2 := [.int q1]) (ct_X8_in l G sh xs x1.toInt64 (-1) (((M.1 o0 10) - 1).toInt64) M q1 e2) (cl_X8_85 (hts_of C) ⟨Nat.le_of_ble_eq_true rfl, Nat.le_of_ble_eq_true rfl⟩ rfl rfl) rfl rfl (Nat.le_of_ble_eq_true rfl) (dkAt dkX8_first 8 (q := (12, .invokestatic 85, 3)) rfl) ⟨Nat.zero_le _, Nat.zero_le _⟩ (pc2 := 15) rfl rfl ?_
  refine k_if_ne C (tgt := 25) (pc2 := 18) (dkAt dkX8_first 9 (q := (15, .ifCond .ne 10, 3)) rfl) (by decide) rfl h (fun h => ?_) (fun h => ?_)
  · refine k_aload_n C (pc2 := 26) (dkAt dkX8_first 14 (q := (25, .aload_n 0, 1)) rfl) rfl rfl 0 rfl ?_
    refine kf_X8_82 C (pc2 := 29) (o := o0) (o2 := 0) h0.1 (dkAt dkX8_first 15 (q := (26, .getfield 82, 3)) rfl) rfl ?_
    refine k_if_ne C (tgt := 39) (pc2 := 32) (dkAt dkX8_first 16 (q := (29, .ifCond .ne 10, 3)) rfl) (by decide) rfl h (fun h => ?_) (fun h => ?_)
    · refine k_lconst C (pc2 := 40) (dkAt dkX8_first 21 (q := (39, .lconst 1, 1)) rfl) rfl (v := 1) rfl ?_
      refine k_lstore_n C (pc2 := 41) (dkAt dkX8_first 22 (q := (40, .lstore_n 2, 1)) rfl) rfl rfl (by decide) (lv2 := [(2, .long 1), (0, rA G o0), (1, .int x1)]) rfl ?_
      refine k_lconst C (pc2 := 42) (dkAt dkX8_first 23 (q := (41, .lconst 0, 1)) rfl) rfl (v := 0) rfl ?_
      refine k_lstore C (pc2 := 44) (dkAt dkX8_first 24 (q := (42, .lstore 4, 2)) rfl) rfl (by decide) (lv2 := [(4, .long 0), (2, .long 1), (0, rA G o0), (1, .int x1)]) rfl ?_
      refine k_lconst C (pc2 := 45) (dkAt dkX8_first 25 (q := (44, .lconst 1, 1)) rfl) rfl (v := 1) rfl ?_
      refine k_lstore C (pc2 := 47) (dkAt dkX8_first 26 (q := (45, .lstore 6, 2)) rfl) rfl (by decide) (lv2 := [(6, .long 1), (4, .long 0), (2, .long 1), (0, rA G o0), (1, .int x1)]) rfl ?_
      refine k_iconst C (pc2 := 48) (dkAt dkX8_first 27 (q := (47, .iconst 0, 1)) rfl) rfl (v := 0) rfl ?_
      refine k_istore C (pc2 := 50) (dkAt dkX8_first 28 (q := (48, .istore 8, 2)) rfl) rfl (by decide) (lv2 := [(8, .int 0), (6, .long 1), (4, .long 0), (2, .long 1), (0, rA G o0), (1, .int x1)]) rfl ?_
      refine k_iconst C (pc2 := 51) (dkAt dkX8_first 29 (q := (50, .iconst 0, 1)) rfl) rfl (v := 0) rfl ?_
      refine k_istore C (pc2 := 53) (dkAt dkX8_first 30 (q := (51, .istore 9, 2)) rfl) rfl (by decide) (lv2 := [(9, .int 0), (8, .int 0), (6, .long 1), (4, .long 0), (2, .long 1), (0, rA G o0), (1, .int x1)]) rfl ?_
      refine k_lv [5, 6, 4, 3, 2, 1, 0] (lv2 := [(0, rA G o0), (1, .int x1), (2, .long 1), (4, .long 0), (6, .long 1), (8, .int 0), (9, .int 0)]) rfl ?_
      obtain ⟨t10, e11, hA, hB⟩ := obS_inv h
      refine kl_X8_first_L53 C o0 h0 x1 M r t10 ?_ ?_ 1000 1 0 1 0 0 e11
      · intro v12 v13 et
        have h := hA _ et
        refine k_ldc2 C (pc2 := 131) (dkAt dkX8_first 72 (q := (128, .ldc2_w 308, 3)) rfl) rfl (v := 1000) tL_X8_308 ?_
        refine k_lload C (pc2 := 133) (dkAt dkX8_first 73 (q := (131, .lload 4, 2)) rfl) rfl 1 rfl ?_
        refine k_lmul C (pc2 := 134) (dkAt dkX8_first 74 (q := (133, .lmul, 1)) rfl) rfl ?_
        refine k_lload_n C (pc2 := 135) (dkAt dkX8_first 75 (q := (134, .lload_n 2, 1)) rfl) rfl rfl 0 rfl ?_
        obtain ⟨hz, h⟩ := chZ_inv h
        refine k_ldivc C (pc2 := 136) (dkAt dkX8_first 76 (q := (135, .ldiv, 1)) rfl) rfl hz ?_
        refine k_l2i C (pc2 := 137) (dkAt dkX8_first 77 (q := (136, .l2i, 1)) rfl) rfl ?_
        exact k_iret C (dkAt dkX8_first 78 (q := (137, .ireturn, 1)) rfl) (pe2 (Option.some.inj h)) rfl (pe1 (Option.some.inj h)) rfl
      · intro z et
        have h := hB _ et
        exact Option.some.inj h
    · refine k_aload_n C (pc2 := 33) (dkAt dkX8_first 17 (q := (32, .aload_n 0, 1)) rfl) rfl rfl 0 rfl ?_
      refine k_bipush C (pc2 := 35) (dkAt dkX8_first 18 (q := (33, .bipush (-5), 2)) rfl) rfl (v := (-5)) rfl ?_
      obtain ⟨q14, e15, h⟩ := ob_inv h
      refine kc_V C (As := [.int (-5)]) (st2 := [.int q14.2]) (ct_X8_refuse l G sh xs o0 h0 (-5) M q14 e15) (cl_X8_97 (hts_of C) ⟨Nat.le_of_ble_eq_true rfl, Nat.le_of_ble_eq_true rfl⟩ rfl rfl) h0.1 rfl rfl rfl rfl rfl (Nat.le_of_ble_eq_true rfl) (dkAt dkX8_first 19 (q := (35, .invokevirtual 97, 3)) rfl) ⟨Nat.zero_le _, Nat.zero_le _⟩ (pc2 := 38) rfl rfl ?_
      exact k_iret C (dkAt dkX8_first 20 (q := (38, .ireturn, 1)) rfl) (pe2 (Option.some.inj h)) rfl (pe1 (Option.some.inj h)) rfl
  · refine k_aload_n C (pc2 := 19) (dkAt dkX8_first 10 (q := (18, .aload_n 0, 1)) rfl) rfl rfl 0 rfl ?_
    refine k_bipush C (pc2 := 21) (dkAt dkX8_first 11 (q := (19, .bipush (-2), 2)) rfl) rfl (v := (-2)) rfl ?_
    obtain ⟨q16, e17, h⟩ := ob_inv h
    refine kc_V C (As := [.int (-2)]) (st2 := [.int q16.2]) (ct_X8_refuse l G sh xs o0 h0 (-2) M q16 e17) (cl_X8_97 (hts_of C) ⟨Nat.le_of_ble_eq_true rfl, Nat.le_of_ble_eq_true rfl⟩ rfl rfl) h0.1 rfl rfl rfl rfl rfl (Nat.le_of_ble_eq_true rfl) (dkAt dkX8_first 12 (q := (21, .invokevirtual 97, 3)) rfl) ⟨Nat.zero_le _, Nat.zero_le _⟩ (pc2 := 24) rfl rfl ?_
    exact k_iret C (dkAt dkX8_first 13 (q := (24, .ireturn, 1)) rfl) (pe2 (Option.some.inj h)) rfl (pe1 (Option.some.inj h)) rfl
