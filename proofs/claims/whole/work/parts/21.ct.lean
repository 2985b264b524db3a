set_option maxRecDepth 100000 in
set_option maxHeartbeats 4000000 in
theorem kl_X1_fillByDraws_L14 {p : Program} {l : Launch} {e : Env} {s : State} {m : MethodId} {args : Array Value} {below : List Frame} {meth : Method} {c : Code} {G : GG} {sh : Sh} {xs : List va_E} {Q : State → Prop} (C : Cx p s m c args meth G RX1 cX1_fillByDraws 4 (some .int)) (o0 : Nat) (h0 : isC sh o0) (x1 : Int32) (x2 : Int32) (M2 : Mm) (hcont : KW p l e rm_X1_fillByDraws s m args below meth c G 4 Q sh xs 0 0 M2 59 [(0, rA G o0), (1, .int x1), (2, .int x2)] []) : ∀ (n : Nat) (x3 : Int32) (M : Mm), f_X1_fillByDraws_L14 o0 x1 x2 n x3 M = some M2 → KW p l e rm_X1_fillByDraws s m args below meth c G 4 Q sh xs 0 0 M 14 [(0, rA G o0), (1, .int x1), (2, .int x2), (3, .int x3)] [] := by
  intro n
  induction n with
  | zero =>
    intro x3 M h
    cases h
  | succ n ih =>
    intro x3 M h
    unfold f_X1_fillByDraws_L14 at h
    refine k_iload_n C (pc2 := 15) (dkAt dkX1_fillByDraws 10 (q := (14, .iload_n 3, 1)) rfl) rfl rfl 3 rfl ?_
    refine k_aload_n C (pc2 := 16) (dkAt dkX1_fillByDraws 11 (q := (15, .aload_n 0, 1)) rfl) rfl rfl 0 rfl ?_
    refine kf_X1_9 C (pc2 := 19) (o := o0) (o2 := 0) h0.1 (dkAt dkX1_fillByDraws 12 (q := (16, .getfield 9, 3)) rfl) rfl ?_
    refine k_icmp_ge C (tgt := 59) (pc2 := 22) (dkAt dkX1_fillByDraws 13 (q := (19, .if_icmp .ge 40, 3)) rfl) (by decide) rfl h (fun h => ?_) (fun h => ?_)
    · refine k_lv [0, 1, 2] (lv2 := [(0, rA G o0), (1, .int x1), (2, .int x2)]) rfl ?_
      cases h
      exact hcont
    · refine k_aload_n C (pc2 := 23) (dkAt dkX1_fillByDraws 14 (q := (22, .aload_n 0, 1)) rfl) rfl rfl 0 rfl ?_
      refine kf_X1_26 C (pc2 := 26) (o := o0) (o2 := o0 + 1) h0.1 rfl (dkAt dkX1_fillByDraws 15 (q := (23, .getfield 26, 3)) rfl) rfl ?_
      refine k_iload_n C (pc2 := 27) (dkAt dkX1_fillByDraws 16 (q := (26, .iload_n 2, 1)) rfl) rfl rfl 2 rfl ?_
      refine k_aa11 C (pc2 := 28) (o := o0 + 1) (o2 := o0 + 2 + x2.toNatClampNeg) (nA := 8) h0.2.1 rfl (dkAt dkX1_fillByDraws 17 (q := (27, .aaload, 1)) rfl) rfl h (fun h hl1 => ?_)
      refine k_iload_n C (pc2 := 29) (dkAt dkX1_fillByDraws 18 (q := (28, .iload_n 3, 1)) rfl) rfl rfl 3 rfl ?_
      refine k_aload_n C (pc2 := 30) (dkAt dkX1_fillByDraws 19 (q := (29, .aload_n 0, 1)) rfl) rfl rfl 0 rfl ?_
      obtain ⟨q2, e3, h⟩ := ob_inv h
      refine kc_V C (As := []) (st2 := [.int q2.2, .int x3, rA G (o0 + 2 + x2.toNatClampNeg)]) (ct_X1_drawTwelfth l G sh xs o0 h0 M q2 e3) (cl_X1_107 (hts_of C) ⟨Nat.le_of_ble_eq_true rfl, Nat.le_of_ble_eq_true rfl⟩ rfl rfl) h0.1 rfl rfl rfl rfl rfl (Nat.le_of_ble_eq_true rfl) (dkAt dkX1_fillByDraws 20 (q := (30, .invokevirtual 107, 3)) rfl) ⟨Nat.zero_le _, Nat.zero_le _⟩ (pc2 := 33) rfl rfl ?_
      refine k_aload_n C (pc2 := 34) (dkAt dkX1_fillByDraws 21 (q := (33, .aload_n 0, 1)) rfl) rfl rfl 0 rfl ?_
      refine kf_X1_26 C (pc2 := 37) (o := o0) (o2 := o0 + 1) h0.1 rfl (dkAt dkX1_fillByDraws 22 (q := (34, .getfield 26, 3)) rfl) rfl ?_
      refine k_iload_n C (pc2 := 38) (dkAt dkX1_fillByDraws 23 (q := (37, .iload_n 2, 1)) rfl) rfl rfl 2 rfl ?_
      refine k_aa11 C (pc2 := 39) (o := o0 + 1) (o2 := o0 + 2 + x2.toNatClampNeg) (nA := 8) h0.2.1 rfl (dkAt dkX1_fillByDraws 24 (q := (38, .aaload, 1)) rfl) rfl h (fun h hl4 => ?_)
      refine kf_X1_90 C (pc2 := 42) (o := o0 + 2 + x2.toNatClampNeg) (o2 := 0) (h0.2.2 _ hl4) (dkAt dkX1_fillByDraws 25 (q := (39, .getfield 90, 3)) rfl) rfl ?_
      refine k_icmp_ge C (tgt := 49) (pc2 := 45) (dkAt dkX1_fillByDraws 26 (q := (42, .if_icmp .ge 7, 3)) rfl) (by decide) rfl h (fun h => ?_) (fun h => ?_)
      · refine k_iconst C (pc2 := 50) (dkAt dkX1_fillByDraws 29 (q := (49, .iconst 0, 1)) rfl) rfl (v := 0) rfl ?_
        obtain ⟨q5, e6, h⟩ := ob_inv h
        refine kc_V C (As := [.int x3, .int 0]) (st2 := []) (ct_X2_changeFree l G sh xs (o0 + 2 + x2.toNatClampNeg) (h0.2.2 _ hl1) x3 0 q2.1 q5 e6) (cl_X1_110 (hts_of C) ⟨Nat.le_of_ble_eq_true rfl, Nat.le_of_ble_eq_true rfl⟩ rfl rfl) (h0.2.2 _ hl1) rfl rfl rfl rfl rfl (Nat.le_of_ble_eq_true rfl) (dkAt dkX1_fillByDraws 30 (q := (50, .invokevirtual 110, 3)) rfl) ⟨Nat.zero_le _, Nat.zero_le _⟩ (pc2 := 53) rfl rfl ?_
        refine kb_iinc C (pc2 := 56) (dkAt dkX1_fillByDraws 31 (q := (53, .iinc 3 1, 3)) rfl) rfl (j := 3) rfl (v := x3 + 1) rfl (by decide) (lv2 := fun v7 => [(3, .int v7), (0, rA G o0), (1, .int x1), (2, .int x2)]) (fun _ => rfl) h (fun v7 h => ?_)
        refine k_goto C (tgt := 14) (dkAt dkX1_fillByDraws 32 (q := (56, .goto (-42), 3)) rfl) (by decide) ?_
        refine k_lv [1, 2, 3, 0] (lv2 := [(0, rA G o0), (1, .int x1), (2, .int x2), (3, .int v7)]) rfl ?_
        exact ih v7 q5 h
      · refine k_iconst C (pc2 := 46) (dkAt dkX1_fillByDraws 27 (q := (45, .iconst 1, 1)) rfl) rfl (v := 1) rfl ?_
        refine k_goto C (tgt := 50) (dkAt dkX1_fillByDraws 28 (q := (46, .goto 4, 3)) rfl) (by decide) ?_
        obtain ⟨q8, e9, h⟩ := ob_inv h
        refine kc_V C (As := [.int x3, .int 1]) (st2 := []) (ct_X2_changeFree l G sh xs (o0 + 2 + x2.toNatClampNeg) (h0.2.2 _ hl1) x3 1 q2.1 q8 e9) (cl_X1_110 (hts_of C) ⟨Nat.le_of_ble_eq_true rfl, Nat.le_of_ble_eq_true rfl⟩ rfl rfl) (h0.2.2 _ hl1) rfl rfl rfl rfl rfl (Nat.le_of_ble_eq_true rfl) (dkAt dkX1_fillByDraws 30 (q := (50, .invokevirtual 110, 3)) rfl) ⟨Nat.zero_le _, Nat.zero_le _⟩ (pc2 := 53) rfl rfl ?_
        refine kb_iinc C (pc2 := 56) (dkAt dkX1_fillByDraws 31 (q := (53, .iinc 3 1, 3)) rfl) rfl (j := 3) rfl (v := x3 + 1) rfl (by decide) (lv2 := fun v10 => [(3, .int v10), (0, rA G o0), (1, .int x1), (2, .int x2)]) (fun _ => rfl) h (fun v10 h => ?_)
        refine k_goto C (tgt := 14) (dkAt dkX1_fillByDraws 32 (q := (56, .goto (-42), 3)) rfl) (by decide) ?_
        refine k_lv [1, 2, 3, 0] (lv2 := [(0, rA G o0), (1, .int x1), (2, .int x2), (3, .int v10)]) rfl ?_
        exact ih v10 q8 h
set_option maxRecDepth 100000 in
set_option maxHeartbeats 4000000 in
theorem kl_X1_fillByDraws_L4 {p : Program} {l : Launch} {e : Env} {s : State} {m : MethodId} {args : Array Value} {below : List Frame} {meth : Method} {c : Code} {G : GG} {sh : Sh} {xs : List va_E} {Q : State → Prop} (C : Cx p s m c args meth G RX1 cX1_fillByDraws 4 (some .int)) (o0 : Nat) (h0 : isC sh o0) (y1 : Int32) (M2 : Mm) (hcont : KW p l e rm_X1_fillByDraws s m args below meth c G 4 Q sh xs 0 0 M2 80 [(1, .int y1)] []) : ∀ (n : Nat) (x1 : Int32) (x2 : Int32) (M : Mm), f_X1_fillByDraws_L4 o0 n x1 x2 M = some (y1, M2) → KW p l e rm_X1_fillByDraws s m args below meth c G 4 Q sh xs 0 0 M 4 [(0, rA G o0), (1, .int x1), (2, .int x2)] [] := by
  intro n
  induction n with
  | zero =>
    intro x1 x2 M h
    cases h
  | succ n ih =>
    intro x1 x2 M h
    unfold f_X1_fillByDraws_L4 at h
    refine k_iload_n C (pc2 := 5) (dkAt dkX1_fillByDraws 4 (q := (4, .iload_n 2, 1)) rfl) rfl rfl 2 rfl ?_
    refine k_aload_n C (pc2 := 6) (dkAt dkX1_fillByDraws 5 (q := (5, .aload_n 0, 1)) rfl) rfl rfl 0 rfl ?_
    refine kf_X1_31 C (pc2 := 9) (o := o0) (o2 := 0) h0.1 (dkAt dkX1_fillByDraws 6 (q := (6, .getfield 31, 3)) rfl) rfl ?_
    refine k_icmp_ge C (tgt := 80) (pc2 := 12) (dkAt dkX1_fillByDraws 7 (q := (9, .if_icmp .ge 71, 3)) rfl) (by decide) rfl h (fun h => ?_) (fun h => ?_)
    · refine k_lv [1] (lv2 := [(1, .int x1)]) rfl ?_
      cases h
      exact hcont
    · refine k_iconst C (pc2 := 13) (dkAt dkX1_fillByDraws 8 (q := (12, .iconst 0, 1)) rfl) rfl (v := 0) rfl ?_
      refine k_istore_n C (pc2 := 14) (dkAt dkX1_fillByDraws 9 (q := (13, .istore_n 3, 1)) rfl) rfl rfl (by decide) (lv2 := [(3, .int 0), (0, rA G o0), (1, .int x1), (2, .int x2)]) rfl ?_
      refine k_lv [1, 2, 3, 0] (lv2 := [(0, rA G o0), (1, .int x1), (2, .int x2), (3, .int 0)]) rfl ?_
      obtain ⟨M13, e12, h⟩ := ob_inv h
      refine kl_X1_fillByDraws_L14 C o0 h0 x1 x2 M13 ?_ 1000 0 M e12
      refine k_iload_n C (pc2 := 60) (dkAt dkX1_fillByDraws 33 (q := (59, .iload_n 1, 1)) rfl) rfl rfl 1 rfl ?_
      refine k_aload_n C (pc2 := 61) (dkAt dkX1_fillByDraws 34 (q := (60, .aload_n 0, 1)) rfl) rfl rfl 0 rfl ?_
      refine kf_X1_26 C (pc2 := 64) (o := o0) (o2 := o0 + 1) h0.1 rfl (dkAt dkX1_fillByDraws 35 (q := (61, .getfield 26, 3)) rfl) rfl ?_
      refine k_iload_n C (pc2 := 65) (dkAt dkX1_fillByDraws 36 (q := (64, .iload_n 2, 1)) rfl) rfl rfl 2 rfl ?_
      refine k_aa11 C (pc2 := 66) (o := o0 + 1) (o2 := o0 + 2 + x2.toNatClampNeg) (nA := 8) h0.2.1 rfl (dkAt dkX1_fillByDraws 37 (q := (65, .aaload, 1)) rfl) rfl h (fun h hl14 => ?_)
      refine kf_X1_48 C (pc2 := 69) (o := o0 + 2 + x2.toNatClampNeg) (o2 := 0) (h0.2.2 _ hl14) (dkAt dkX1_fillByDraws 38 (q := (66, .getfield 48, 3)) rfl) rfl ?_
      obtain ⟨q15, e16, h⟩ := ob_inv h
      refine kc_S C (As := [.int (M13.1 (o0 + 2 + x2.toNatClampNeg) 3)]) (st2 := [.int q15, .int x1]) (ct_J6_bitCount_0f7a4 l G sh xs (M13.1 (o0 + 2 + x2.toNatClampNeg) 3) M13 q15 e16) (cl_X1_71 (hts_of C) ⟨Nat.le_of_ble_eq_true rfl, Nat.le_of_ble_eq_true rfl⟩ rfl rfl) rfl rfl (Nat.le_of_ble_eq_true rfl) (dkAt dkX1_fillByDraws 39 (q := (69, .invokestatic 71, 3)) rfl) ⟨Nat.zero_le _, Nat.zero_le _⟩ (pc2 := 72) rfl rfl ?_
      refine k_iadd C (pc2 := 73) (dkAt dkX1_fillByDraws 40 (q := (72, .iadd, 1)) rfl) rfl ?_
      refine kb_istore_n C (pc2 := 74) (dkAt dkX1_fillByDraws 41 (q := (73, .istore_n 1, 1)) rfl) rfl rfl (by decide) (lv2 := fun v17 => [(1, .int v17), (0, rA G o0), (2, .int x2)]) (fun _ => rfl) h (fun v17 h => ?_)
      refine kb_iinc C (pc2 := 77) (dkAt dkX1_fillByDraws 42 (q := (74, .iinc 2 1, 3)) rfl) rfl (j := 2) rfl (v := x2 + 1) rfl (by decide) (lv2 := fun v18 => [(2, .int v18), (1, .int v17), (0, rA G o0)]) (fun _ => rfl) h (fun v18 h => ?_)
      refine k_goto C (tgt := 4) (dkAt dkX1_fillByDraws 43 (q := (77, .goto (-73), 3)) rfl) (by decide) ?_
      refine k_lv [2, 1, 0] (lv2 := [(0, rA G o0), (1, .int v17), (2, .int v18)]) rfl ?_
      exact ih v17 v18 M13 h
set_option maxRecDepth 100000 in
set_option maxHeartbeats 4000000 in
theorem ct_X1_fillByDraws (l : Launch) (G : GG) (sh : Sh) (xs : List va_E) (o0 : Nat) (h0 : isC sh o0) (M : Mm) (r : Mm × Int32) (h : f_X1_fillByDraws o0 M = some r) : Ct l yX1_fillByDraws cX1_fillByDraws 4 (some .int) rm_X1_fillByDraws G [rA G o0] sh M xs (some (.int r.2)) sh r.1 xs 0 0 := by
  refine ct_of (by decide) (Nat.le_of_ble_eq_true rfl) ?_
  intro p e s m args below meth c hnm C
  refine k_lv [0] (lv2 := [(0, rA G o0)]) rfl ?_
  unfold f_X1_fillByDraws at h
  refine k_iconst C (pc2 := 1) (dkAt dkX1_fillByDraws 0 (q := (0, .iconst 0, 1)) rfl) rfl (v := 0) rfl ?_
  refine k_istore_n C (pc2 := 2) (dkAt dkX1_fillByDraws 1 (q := (1, .istore_n 1, 1)) rfl) rfl rfl (by decide) (lv2 := [(1, .int 0), (0, rA G o0)]) rfl ?_
  refine k_iconst C (pc2 := 3) (dkAt dkX1_fillByDraws 2 (q := (2, .iconst 0, 1)) rfl) rfl (v := 0) rfl ?_
  refine k_istore_n C (pc2 := 4) (dkAt dkX1_fillByDraws 3 (q := (3, .istore_n 2, 1)) rfl) rfl rfl (by decide) (lv2 := [(2, .int 0), (1, .int 0), (0, rA G o0)]) rfl ?_
  refine k_lv [2, 1, 0] (lv2 := [(0, rA G o0), (1, .int 0), (2, .int 0)]) rfl ?_
  obtain ⟨v21, M22, e20, h⟩ := ob2_inv h
  refine kl_X1_fillByDraws_L4 C o0 h0 v21 M22 ?_ 1000 0 0 M e20
  refine k_iload_n C (pc2 := 81) (dkAt dkX1_fillByDraws 44 (q := (80, .iload_n 1, 1)) rfl) rfl rfl 0 rfl ?_
  exact k_iret C (dkAt dkX1_fillByDraws 45 (q := (81, .ireturn, 1)) rfl) (pe2 (Option.some.inj h)) rfl (pe1 (Option.some.inj h)) rfl
set_option maxRecDepth 100000 in
set_option maxHeartbeats 4000000 in
theorem ct_X2_isOfKind (l : Launch) (G : GG) (sh : Sh) (xs : List va_E) (o0 : Nat) (h0 : isP sh o0) (x1 : Int32) (M : Mm) (r : Int32) (h : f_X2_isOfKind o0 x1 M = some r) : Ct l yX2_isOfKind cX2_isOfKind 2 (some .boolean) rm_X2_isOfKind G [rA G o0, .int x1] sh M xs (some (.int r)) sh M xs 0 0 := by
  refine ct_of (by decide) (Nat.le_of_ble_eq_true rfl) ?_
  intro p e s m args below meth c hnm C
  refine k_lv [0, 1] (lv2 := [(0, rA G o0), (1, .int x1)]) rfl ?_
  unfold f_X2_isOfKind at h
  refine k_iload_n C (pc2 := 1) (dkAt dkX2_isOfKind 0 (q := (0, .iload_n 1, 1)) rfl) rfl rfl 1 rfl ?_
  refine k_if_eq C (tgt := 38) (pc2 := 4) (dkAt dkX2_isOfKind 1 (q := (1, .ifCond .eq 37, 3)) rfl) (by decide) rfl h (fun h => ?_) (fun h => ?_)
  · refine k_iconst C (pc2 := 39) (dkAt dkX2_isOfKind 20 (q := (38, .iconst 1, 1)) rfl) rfl (v := 1) rfl ?_
    refine k_goto C (tgt := 43) (dkAt dkX2_isOfKind 21 (q := (39, .goto 4, 3)) rfl) (by decide) ?_
    exact k_zret C (dkAt dkX2_isOfKind 23 (q := (43, .ireturn, 1)) rfl) rfl (Option.some.inj h) rfl rfl rfl
  · refine k_aload_n C (pc2 := 5) (dkAt dkX2_isOfKind 2 (q := (4, .aload_n 0, 1)) rfl) rfl rfl 0 rfl ?_
    refine kf_X2_9 C (pc2 := 8) (o := o0) (o2 := 0) h0 (dkAt dkX2_isOfKind 3 (q := (5, .getfield 9, 3)) rfl) rfl ?_
    refine k_iload_n C (pc2 := 9) (dkAt dkX2_isOfKind 4 (q := (8, .iload_n 1, 1)) rfl) rfl rfl 1 rfl ?_
    refine k_icmp_eq C (tgt := 38) (pc2 := 12) (dkAt dkX2_isOfKind 5 (q := (9, .if_icmp .eq 29, 3)) rfl) (by decide) rfl h (fun h => ?_) (fun h => ?_)
    · refine k_iconst C (pc2 := 39) (dkAt dkX2_isOfKind 20 (q := (38, .iconst 1, 1)) rfl) rfl (v := 1) rfl ?_
      refine k_goto C (tgt := 43) (dkAt dkX2_isOfKind 21 (q := (39, .goto 4, 3)) rfl) (by decide) ?_
      exact k_zret C (dkAt dkX2_isOfKind 23 (q := (43, .ireturn, 1)) rfl) rfl (Option.some.inj h) rfl rfl rfl
    · refine k_aload_n C (pc2 := 13) (dkAt dkX2_isOfKind 6 (q := (12, .aload_n 0, 1)) rfl) rfl rfl 0 rfl ?_
      refine kf_X2_9 C (pc2 := 16) (o := o0) (o2 := 0) h0 (dkAt dkX2_isOfKind 7 (q := (13, .getfield 9, 3)) rfl) rfl ?_
      refine k_iconst C (pc2 := 17) (dkAt dkX2_isOfKind 8 (q := (16, .iconst 3, 1)) rfl) rfl (v := 3) rfl ?_
      refine k_icmp_ne C (tgt := 25) (pc2 := 20) (dkAt dkX2_isOfKind 9 (q := (17, .if_icmp .ne 8, 3)) rfl) (by decide) rfl h (fun h => ?_) (fun h => ?_)
      · refine k_aload_n C (pc2 := 26) (dkAt dkX2_isOfKind 13 (q := (25, .aload_n 0, 1)) rfl) rfl rfl 0 rfl ?_
        refine kf_X2_9 C (pc2 := 29) (o := o0) (o2 := 0) h0 (dkAt dkX2_isOfKind 14 (q := (26, .getfield 9, 3)) rfl) rfl ?_
        refine k_iconst C (pc2 := 30) (dkAt dkX2_isOfKind 15 (q := (29, .iconst 4, 1)) rfl) rfl (v := 4) rfl ?_
        refine k_icmp_ne C (tgt := 42) (pc2 := 33) (dkAt dkX2_isOfKind 16 (q := (30, .if_icmp .ne 12, 3)) rfl) (by decide) rfl h (fun h => ?_) (fun h => ?_)
        · refine k_iconst C (pc2 := 43) (dkAt dkX2_isOfKind 22 (q := (42, .iconst 0, 1)) rfl) rfl (v := 0) rfl ?_
          exact k_zret C (dkAt dkX2_isOfKind 23 (q := (43, .ireturn, 1)) rfl) rfl (Option.some.inj h) rfl rfl rfl
        · refine k_iload_n C (pc2 := 34) (dkAt dkX2_isOfKind 17 (q := (33, .iload_n 1, 1)) rfl) rfl rfl 1 rfl ?_
          refine k_iconst C (pc2 := 35) (dkAt dkX2_isOfKind 18 (q := (34, .iconst 2, 1)) rfl) rfl (v := 2) rfl ?_
          refine k_icmp_ne C (tgt := 42) (pc2 := 38) (dkAt dkX2_isOfKind 19 (q := (35, .if_icmp .ne 7, 3)) rfl) (by decide) rfl h (fun h => ?_) (fun h => ?_)
          · refine k_iconst C (pc2 := 43) (dkAt dkX2_isOfKind 22 (q := (42, .iconst 0, 1)) rfl) rfl (v := 0) rfl ?_
            exact k_zret C (dkAt dkX2_isOfKind 23 (q := (43, .ireturn, 1)) rfl) rfl (Option.some.inj h) rfl rfl rfl
          · refine k_iconst C (pc2 := 39) (dkAt dkX2_isOfKind 20 (q := (38, .iconst 1, 1)) rfl) rfl (v := 1) rfl ?_
            refine k_goto C (tgt := 43) (dkAt dkX2_isOfKind 21 (q := (39, .goto 4, 3)) rfl) (by decide) ?_
            exact k_zret C (dkAt dkX2_isOfKind 23 (q := (43, .ireturn, 1)) rfl) rfl (Option.some.inj h) rfl rfl rfl
      · refine k_iload_n C (pc2 := 21) (dkAt dkX2_isOfKind 10 (q := (20, .iload_n 1, 1)) rfl) rfl rfl 1 rfl ?_
        refine k_iconst C (pc2 := 22) (dkAt dkX2_isOfKind 11 (q := (21, .iconst 1, 1)) rfl) rfl (v := 1) rfl ?_
        refine k_icmp_eq C (tgt := 38) (pc2 := 25) (dkAt dkX2_isOfKind 12 (q := (22, .if_icmp .eq 16, 3)) rfl) (by decide) rfl h (fun h => ?_) (fun h => ?_)
        · refine k_iconst C (pc2 := 39) (dkAt dkX2_isOfKind 20 (q := (38, .iconst 1, 1)) rfl) rfl (v := 1) rfl ?_
          refine k_goto C (tgt := 43) (dkAt dkX2_isOfKind 21 (q := (39, .goto 4, 3)) rfl) (by decide) ?_
          exact k_zret C (dkAt dkX2_isOfKind 23 (q := (43, .ireturn, 1)) rfl) rfl (Option.some.inj h) rfl rfl rfl
        · refine k_aload_n C (pc2 := 26) (dkAt dkX2_isOfKind 13 (q := (25, .aload_n 0, 1)) rfl) rfl rfl 0 rfl ?_
          refine kf_X2_9 C (pc2 := 29) (o := o0) (o2 := 0) h0 (dkAt dkX2_isOfKind 14 (q := (26, .getfield 9, 3)) rfl) rfl ?_
          refine k_iconst C (pc2 := 30) (dkAt dkX2_isOfKind 15 (q := (29, .iconst 4, 1)) rfl) rfl (v := 4) rfl ?_
          refine k_icmp_ne C (tgt := 42) (pc2 := 33) (dkAt dkX2_isOfKind 16 (q := (30, .if_icmp .ne 12, 3)) rfl) (by decide) rfl h (fun h => ?_) (fun h => ?_)
          · refine k_iconst C (pc2 := 43) (dkAt dkX2_isOfKind 22 (q := (42, .iconst 0, 1)) rfl) rfl (v := 0) rfl ?_
            exact k_zret C (dkAt dkX2_isOfKind 23 (q := (43, .ireturn, 1)) rfl) rfl (Option.some.inj h) rfl rfl rfl
          · refine k_iload_n C (pc2 := 34) (dkAt dkX2_isOfKind 17 (q := (33, .iload_n 1, 1)) rfl) rfl rfl 1 rfl ?_
            refine k_iconst C (pc2 := 35) (dkAt dkX2_isOfKind 18 (q := (34, .iconst 2, 1)) rfl) rfl (v := 2) rfl ?_
            refine k_icmp_ne C (tgt := 42) (pc2 := 38) (dkAt dkX2_isOfKind 19 (q := (35, .if_icmp .ne 7, 3)) rfl) (by decide) rfl h (fun h => ?_) (fun h => ?_)
            · refine k_iconst C (pc2 := 43) (dkAt dkX2_isOfKind 22 (q := (42, .iconst 0, 1)) rfl) rfl (v := 0) rfl ?_
              exact k_zret C (dkAt dkX2_isOfKind 23 (q := (43, .ireturn, 1)) rfl) rfl (Option.some.inj h) rfl rfl rfl
            · refine k_iconst C (pc2 := 39) (dkAt dkX2_isOfKind 20 (q := (38, .iconst 1, 1)) rfl) rfl (v := 1) rfl ?_
              refine k_goto C (tgt := 43) (dkAt dkX2_isOfKind 21 (q := (39, .goto 4, 3)) rfl) (by decide) ?_
              exact k_zret C (dkAt dkX2_isOfKind 23 (q := (43, .ireturn, 1)) rfl) rfl (Option.some.inj h) rfl rfl rfl
set_option maxRecDepth 100000 in
set_option maxHeartbeats 4000000 in
theorem ct_X2_wordsAs (l : Launch) (G : GG) (sh : Sh) (xs : List va_E) (o0 : Nat) (h0 : isP sh o0) (x1 : Int32) (M : Mm) (r : Int32) (h : f_X2_wordsAs o0 x1 M = some r) : Ct l yX2_wordsAs cX2_wordsAs 2 (some .int) rm_X2_wordsAs G [rA G o0, .int x1] sh M xs (some (.int r)) sh M xs 0 0 := by
  refine ct_of (by decide) (Nat.le_of_ble_eq_true rfl) ?_
  intro p e s m args below meth c hnm C
  refine k_lv [0, 1] (lv2 := [(0, rA G o0), (1, .int x1)]) rfl ?_
  unfold f_X2_wordsAs at h
  refine k_iload_n C (pc2 := 1) (dkAt dkX2_wordsAs 0 (q := (0, .iload_n 1, 1)) rfl) rfl rfl 1 rfl ?_
  by_cases q1 : x1 = 0
  · rw [if_pos q1] at h
    refine k_swc C (tgt := 32) (off := 31) (dkAt dkX2_wordsAs 1 (q := (1, .tableswitch 44 0 3 #[31, 39, 44, 39], 31)) rfl) q1 (by decide) (by decide) ?_
    refine k_aload_n C (pc2 := 33) (dkAt dkX2_wordsAs 2 (q := (32, .aload_n 0, 1)) rfl) rfl rfl 0 rfl ?_
    refine kf_X2_21 C (pc2 := 36) (o := o0) (o2 := 0) h0 (dkAt dkX2_wordsAs 3 (q := (33, .getfield 21, 3)) rfl) rfl ?_
    obtain ⟨q2, e3, h⟩ := ob_inv h
    refine kc_S C (As := [.int (M.1 o0 3)]) (st2 := [.int q2]) (ct_J6_bitCount_0f7a4 l G sh xs (M.1 o0 3) M q2 e3) (cl_X2_31 (hts_of C) ⟨Nat.le_of_ble_eq_true rfl, Nat.le_of_ble_eq_true rfl⟩ rfl rfl) rfl rfl (Nat.le_of_ble_eq_true rfl) (dkAt dkX2_wordsAs 4 (q := (36, .invokestatic 31, 3)) rfl) ⟨Nat.zero_le _, Nat.zero_le _⟩ (pc2 := 39) rfl rfl ?_
    exact k_iret C (dkAt dkX2_wordsAs 5 (q := (39, .ireturn, 1)) rfl) (Option.some.inj h) rfl rfl rfl
  rw [if_neg q1] at h
  by_cases q4 : x1 = 1
  · rw [if_pos q4] at h
    refine k_swc C (tgt := 40) (off := 39) (dkAt dkX2_wordsAs 1 (q := (1, .tableswitch 44 0 3 #[31, 39, 44, 39], 31)) rfl) q4 (by decide) (by decide) ?_
    refine k_aload_n C (pc2 := 41) (dkAt dkX2_wordsAs 6 (q := (40, .aload_n 0, 1)) rfl) rfl rfl 0 rfl ?_
    refine kf_X2_18 C (pc2 := 44) (o := o0) (o2 := 0) h0 (dkAt dkX2_wordsAs 7 (q := (41, .getfield 18, 3)) rfl) rfl ?_
    exact k_iret C (dkAt dkX2_wordsAs 8 (q := (44, .ireturn, 1)) rfl) (Option.some.inj h) rfl rfl rfl
  rw [if_neg q4] at h
  by_cases q5 : x1 = 2
  · rw [if_pos q5] at h
    refine k_swc C (tgt := 45) (off := 44) (dkAt dkX2_wordsAs 1 (q := (1, .tableswitch 44 0 3 #[31, 39, 44, 39], 31)) rfl) q5 (by decide) (by decide) ?_
    refine k_aload_n C (pc2 := 46) (dkAt dkX2_wordsAs 9 (q := (45, .aload_n 0, 1)) rfl) rfl rfl 0 rfl ?_
    refine kf_X2_15 C (pc2 := 49) (o := o0) (o2 := 0) h0 (dkAt dkX2_wordsAs 10 (q := (46, .getfield 15, 3)) rfl) rfl ?_
    exact k_iret C (dkAt dkX2_wordsAs 11 (q := (49, .ireturn, 1)) rfl) (Option.some.inj h) rfl rfl rfl
  rw [if_neg q5] at h
  by_cases q6 : x1 = 3
  · rw [if_pos q6] at h
    refine k_swc C (tgt := 40) (off := 39) (dkAt dkX2_wordsAs 1 (q := (1, .tableswitch 44 0 3 #[31, 39, 44, 39], 31)) rfl) q6 (by decide) (by decide) ?_
    refine k_aload_n C (pc2 := 41) (dkAt dkX2_wordsAs 6 (q := (40, .aload_n 0, 1)) rfl) rfl rfl 0 rfl ?_
    refine kf_X2_18 C (pc2 := 44) (o := o0) (o2 := 0) h0 (dkAt dkX2_wordsAs 7 (q := (41, .getfield 18, 3)) rfl) rfl ?_
    exact k_iret C (dkAt dkX2_wordsAs 8 (q := (44, .ireturn, 1)) rfl) (Option.some.inj h) rfl rfl rfl
  rw [if_neg q6] at h
  have zq1 := ne_toInt q1
  have zq4 := ne_toInt q4
  have zq5 := ne_toInt q5
  have zq6 := ne_toInt q6
  refine k_swOut C (tgt := 45) (dkAt dkX2_wordsAs 1 (q := (1, .tableswitch 44 0 3 #[31, 39, 44, 39], 31)) rfl) (by have w0 : (0 : Int32).toInt = 0 := (by decide); have w1 : (1 : Int32).toInt = 1 := (by decide); have w2 : (2 : Int32).toInt = 2 := (by decide); have w3 : (3 : Int32).toInt = 3 := (by decide); rw [w0] at zq1; rw [w1] at zq4; rw [w2] at zq5; rw [w3] at zq6; omega) (by decide) ?_
  refine k_aload_n C (pc2 := 46) (dkAt dkX2_wordsAs 9 (q := (45, .aload_n 0, 1)) rfl) rfl rfl 0 rfl ?_
  refine kf_X2_15 C (pc2 := 49) (o := o0) (o2 := 0) h0 (dkAt dkX2_wordsAs 10 (q := (46, .getfield 15, 3)) rfl) rfl ?_
  exact k_iret C (dkAt dkX2_wordsAs 11 (q := (49, .ireturn, 1)) rfl) (Option.some.inj h) rfl rfl rfl
set_option maxRecDepth 100000 in
set_option maxHeartbeats 4000000 in
theorem ct_X2_tickAs (l : Launch) (G : GG) (sh : Sh) (xs : List va_E) (o0 : Nat) (h0 : isP sh o0) (x1 : Int32) (x2 : Int32) (x3 : Int32) (x4 : Int32) (M : Mm) (r : Int32) (h : f_X2_tickAs o0 x1 x2 x3 x4 M = some r) : Ct l yX2_tickAs cX2_tickAs 6 (some .int) rm_X2_tickAs G [rA G o0, .int x1, .int x2, .int x3, .int x4] sh M xs (some (.int r)) sh M xs 0 0 := by
  refine ct_of (by decide) (Nat.le_of_ble_eq_true rfl) ?_
  intro p e s m args below meth c hnm C
  refine k_lv [0, 1, 2, 3, 4] (lv2 := [(0, rA G o0), (1, .int x1), (2, .int x2), (3, .int x3), (4, .int x4)]) rfl ?_
  unfold f_X2_tickAs at h
  refine k_aload_n C (pc2 := 1) (dkAt dkX2_tickAs 0 (q := (0, .aload_n 0, 1)) rfl) rfl rfl 0 rfl ?_
  refine k_iload_n C (pc2 := 2) (dkAt dkX2_tickAs 1 (q := (1, .iload_n 2, 1)) rfl) rfl rfl 2 rfl ?_
  obtain ⟨q1, e2, h⟩ := ob_inv h
  refine kc_V C (As := [.int x2]) (st2 := [.int q1]) (ct_X2_isFree l G sh xs o0 h0 x2 M q1 e2) (cl_X2_43 (hts_of C) ⟨Nat.le_of_ble_eq_true rfl, Nat.le_of_ble_eq_true rfl⟩ rfl rfl) h0 rfl rfl rfl rfl rfl (Nat.le_of_ble_eq_true rfl) (dkAt dkX2_tickAs 2 (q := (2, .invokevirtual 43, 3)) rfl) ⟨Nat.zero_le _, Nat.zero_le _⟩ (pc2 := 5) rfl rfl ?_
  refine k_istore C (pc2 := 7) (dkAt dkX2_tickAs 3 (q := (5, .istore 5, 2)) rfl) rfl (by decide) (lv2 := [(5, .int q1), (0, rA G o0), (1, .int x1), (2, .int x2), (3, .int x3), (4, .int x4)]) rfl ?_
  refine k_iload_n C (pc2 := 8) (dkAt dkX2_tickAs 4 (q := (7, .iload_n 1, 1)) rfl) rfl rfl 2 rfl ?_
  by_cases q3 : x1 = 1
  · rw [if_pos q3] at h
    refine k_swc C (tgt := 44) (off := 36) (dkAt dkX2_tickAs 5 (q := (8, .tableswitch 107 1 5 #[36, 49, 38, 72, 88], 36)) rfl) q3 (by decide) (by decide) ?_
    refine k_iconst C (pc2 := 45) (dkAt dkX2_tickAs 6 (q := (44, .iconst 2, 1)) rfl) rfl (v := 2) rfl ?_
    exact k_iret C (dkAt dkX2_tickAs 7 (q := (45, .ireturn, 1)) rfl) (Option.some.inj h) rfl rfl rfl
  rw [if_neg q3] at h
  by_cases q4 : x1 = 2
  · rw [if_pos q4] at h
    refine k_swc C (tgt := 57) (off := 49) (dkAt dkX2_tickAs 5 (q := (8, .tableswitch 107 1 5 #[36, 49, 38, 72, 88], 36)) rfl) q4 (by decide) (by decide) ?_
    refine k_iload C (pc2 := 59) (dkAt dkX2_tickAs 14 (q := (57, .iload 5, 2)) rfl) rfl 0 rfl ?_
    refine k_if_ne C (tgt := 66) (pc2 := 62) (dkAt dkX2_tickAs 15 (q := (59, .ifCond .ne 7, 3)) rfl) (by decide) rfl h (fun h => ?_) (fun h => ?_)
    · refine k_iload_n C (pc2 := 67) (dkAt dkX2_tickAs 18 (q := (66, .iload_n 3, 1)) rfl) rfl rfl 4 rfl ?_
      refine k_aload_n C (pc2 := 68) (dkAt dkX2_tickAs 19 (q := (67, .aload_n 0, 1)) rfl) rfl rfl 1 rfl ?_
      refine kf_X2_15 C (pc2 := 71) (o := o0) (o2 := 0) h0 (dkAt dkX2_tickAs 20 (q := (68, .getfield 15, 3)) rfl) rfl ?_
      refine k_icmp_lt C (tgt := 78) (pc2 := 74) (dkAt dkX2_tickAs 21 (q := (71, .if_icmp .lt 7, 3)) rfl) (by decide) rfl h (fun h => ?_) (fun h => ?_)
      · refine k_iconst C (pc2 := 79) (dkAt dkX2_tickAs 24 (q := (78, .iconst 1, 1)) rfl) rfl (v := 1) rfl ?_
        exact k_iret C (dkAt dkX2_tickAs 25 (q := (79, .ireturn, 1)) rfl) (Option.some.inj h) rfl rfl rfl
      · refine k_iconst C (pc2 := 75) (dkAt dkX2_tickAs 22 (q := (74, .iconst 2, 1)) rfl) rfl (v := 2) rfl ?_
        refine k_goto C (tgt := 79) (dkAt dkX2_tickAs 23 (q := (75, .goto 4, 3)) rfl) (by decide) ?_
        exact k_iret C (dkAt dkX2_tickAs 25 (q := (79, .ireturn, 1)) rfl) (Option.some.inj h) rfl rfl rfl
    · refine k_iconst C (pc2 := 63) (dkAt dkX2_tickAs 16 (q := (62, .iconst 0, 1)) rfl) rfl (v := 0) rfl ?_
      refine k_goto C (tgt := 79) (dkAt dkX2_tickAs 17 (q := (63, .goto 16, 3)) rfl) (by decide) ?_
      exact k_iret C (dkAt dkX2_tickAs 25 (q := (79, .ireturn, 1)) rfl) (Option.some.inj h) rfl rfl rfl
  rw [if_neg q4] at h
  by_cases q5 : x1 = 3
  · rw [if_pos q5] at h
    refine k_swc C (tgt := 46) (off := 38) (dkAt dkX2_tickAs 5 (q := (8, .tableswitch 107 1 5 #[36, 49, 38, 72, 88], 36)) rfl) q5 (by decide) (by decide) ?_
    refine k_iload C (pc2 := 48) (dkAt dkX2_tickAs 8 (q := (46, .iload 5, 2)) rfl) rfl 0 rfl ?_
    refine k_if_eq C (tgt := 55) (pc2 := 51) (dkAt dkX2_tickAs 9 (q := (48, .ifCond .eq 7, 3)) rfl) (by decide) rfl h (fun h => ?_) (fun h => ?_)
    · refine k_iconst C (pc2 := 56) (dkAt dkX2_tickAs 12 (q := (55, .iconst 1, 1)) rfl) rfl (v := 1) rfl ?_
      exact k_iret C (dkAt dkX2_tickAs 13 (q := (56, .ireturn, 1)) rfl) (Option.some.inj h) rfl rfl rfl
    · refine k_iconst C (pc2 := 52) (dkAt dkX2_tickAs 10 (q := (51, .iconst 2, 1)) rfl) rfl (v := 2) rfl ?_
      refine k_goto C (tgt := 56) (dkAt dkX2_tickAs 11 (q := (52, .goto 4, 3)) rfl) (by decide) ?_
      exact k_iret C (dkAt dkX2_tickAs 13 (q := (56, .ireturn, 1)) rfl) (Option.some.inj h) rfl rfl rfl
  rw [if_neg q5] at h
  by_cases q6 : x1 = 4
  · rw [if_pos q6] at h
    refine k_swc C (tgt := 80) (off := 72) (dkAt dkX2_tickAs 5 (q := (8, .tableswitch 107 1 5 #[36, 49, 38, 72, 88], 36)) rfl) q6 (by decide) (by decide) ?_
    refine k_iload C (pc2 := 82) (dkAt dkX2_tickAs 26 (q := (80, .iload 5, 2)) rfl) rfl 0 rfl ?_
    refine k_if_eq C (tgt := 94) (pc2 := 85) (dkAt dkX2_tickAs 27 (q := (82, .ifCond .eq 12, 3)) rfl) (by decide) rfl h (fun h => ?_) (fun h => ?_)
    · refine k_iconst C (pc2 := 95) (dkAt dkX2_tickAs 32 (q := (94, .iconst 0, 1)) rfl) rfl (v := 0) rfl ?_
      exact k_iret C (dkAt dkX2_tickAs 33 (q := (95, .ireturn, 1)) rfl) (Option.some.inj h) rfl rfl rfl
    · refine k_iload C (pc2 := 87) (dkAt dkX2_tickAs 28 (q := (85, .iload 4, 2)) rfl) rfl 5 rfl ?_
      refine k_if_eq C (tgt := 94) (pc2 := 90) (dkAt dkX2_tickAs 29 (q := (87, .ifCond .eq 7, 3)) rfl) (by decide) rfl h (fun h => ?_) (fun h => ?_)
      · refine k_iconst C (pc2 := 95) (dkAt dkX2_tickAs 32 (q := (94, .iconst 0, 1)) rfl) rfl (v := 0) rfl ?_
        exact k_iret C (dkAt dkX2_tickAs 33 (q := (95, .ireturn, 1)) rfl) (Option.some.inj h) rfl rfl rfl
      · refine k_iconst C (pc2 := 91) (dkAt dkX2_tickAs 30 (q := (90, .iconst 2, 1)) rfl) rfl (v := 2) rfl ?_
        refine k_goto C (tgt := 95) (dkAt dkX2_tickAs 31 (q := (91, .goto 4, 3)) rfl) (by decide) ?_
        exact k_iret C (dkAt dkX2_tickAs 33 (q := (95, .ireturn, 1)) rfl) (Option.some.inj h) rfl rfl rfl
  rw [if_neg q6] at h
  by_cases q7 : x1 = 5
  · rw [if_pos q7] at h
    refine k_swc C (tgt := 96) (off := 88) (dkAt dkX2_tickAs 5 (q := (8, .tableswitch 107 1 5 #[36, 49, 38, 72, 88], 36)) rfl) q7 (by decide) (by decide) ?_
    refine k_iload C (pc2 := 98) (dkAt dkX2_tickAs 34 (q := (96, .iload 5, 2)) rfl) rfl 0 rfl ?_
    refine k_if_eq C (tgt := 113) (pc2 := 101) (dkAt dkX2_tickAs 35 (q := (98, .ifCond .eq 15, 3)) rfl) (by decide) rfl h (fun h => ?_) (fun h => ?_)
    · refine k_iconst C (pc2 := 114) (dkAt dkX2_tickAs 42 (q := (113, .iconst 0, 1)) rfl) rfl (v := 0) rfl ?_
      exact k_iret C (dkAt dkX2_tickAs 43 (q := (114, .ireturn, 1)) rfl) (Option.some.inj h) rfl rfl rfl
    · refine k_iload_n C (pc2 := 102) (dkAt dkX2_tickAs 36 (q := (101, .iload_n 2, 1)) rfl) rfl rfl 3 rfl ?_
      refine k_aload_n C (pc2 := 103) (dkAt dkX2_tickAs 37 (q := (102, .aload_n 0, 1)) rfl) rfl rfl 1 rfl ?_
      refine kf_X2_15 C (pc2 := 106) (o := o0) (o2 := 0) h0 (dkAt dkX2_tickAs 38 (q := (103, .getfield 15, 3)) rfl) rfl ?_
      refine k_icmp_ne C (tgt := 113) (pc2 := 109) (dkAt dkX2_tickAs 39 (q := (106, .if_icmp .ne 7, 3)) rfl) (by decide) rfl h (fun h => ?_) (fun h => ?_)
      · refine k_iconst C (pc2 := 114) (dkAt dkX2_tickAs 42 (q := (113, .iconst 0, 1)) rfl) rfl (v := 0) rfl ?_
        exact k_iret C (dkAt dkX2_tickAs 43 (q := (114, .ireturn, 1)) rfl) (Option.some.inj h) rfl rfl rfl
      · refine k_iconst C (pc2 := 110) (dkAt dkX2_tickAs 40 (q := (109, .iconst 2, 1)) rfl) rfl (v := 2) rfl ?_
        refine k_goto C (tgt := 114) (dkAt dkX2_tickAs 41 (q := (110, .goto 4, 3)) rfl) (by decide) ?_
        exact k_iret C (dkAt dkX2_tickAs 43 (q := (114, .ireturn, 1)) rfl) (Option.some.inj h) rfl rfl rfl
  rw [if_neg q7] at h
  have zq3 := ne_toInt q3
  have zq4 := ne_toInt q4
  have zq5 := ne_toInt q5
  have zq6 := ne_toInt q6
  have zq7 := ne_toInt q7
  refine k_swOut C (tgt := 115) (dkAt dkX2_tickAs 5 (q := (8, .tableswitch 107 1 5 #[36, 49, 38, 72, 88], 36)) rfl) (by have w0 : (1 : Int32).toInt = 1 := (by decide); have w1 : (2 : Int32).toInt = 2 := (by decide); have w2 : (3 : Int32).toInt = 3 := (by decide); have w3 : (4 : Int32).toInt = 4 := (by decide); have w4 : (5 : Int32).toInt = 5 := (by decide); rw [w0] at zq3; rw [w1] at zq4; rw [w2] at zq5; rw [w3] at zq6; rw [w4] at zq7; omega) (by decide) ?_
  refine k_iload C (pc2 := 117) (dkAt dkX2_tickAs 44 (q := (115, .iload 5, 2)) rfl) rfl 0 rfl ?_
  refine k_if_eq C (tgt := 124) (pc2 := 120) (dkAt dkX2_tickAs 45 (q := (117, .ifCond .eq 7, 3)) rfl) (by decide) rfl h (fun h => ?_) (fun h => ?_)
  · refine k_iconst C (pc2 := 125) (dkAt dkX2_tickAs 48 (q := (124, .iconst 0, 1)) rfl) rfl (v := 0) rfl ?_
    exact k_iret C (dkAt dkX2_tickAs 49 (q := (125, .ireturn, 1)) rfl) (Option.some.inj h) rfl rfl rfl
  · refine k_iconst C (pc2 := 121) (dkAt dkX2_tickAs 46 (q := (120, .iconst 2, 1)) rfl) rfl (v := 2) rfl ?_
    refine k_goto C (tgt := 125) (dkAt dkX2_tickAs 47 (q := (121, .goto 4, 3)) rfl) (by decide) ?_
    exact k_iret C (dkAt dkX2_tickAs 49 (q := (125, .ireturn, 1)) rfl) (Option.some.inj h) rfl rfl rfl
set_option maxRecDepth 100000 in
set_option maxHeartbeats 4000000 in
theorem ct_X5_tokenBegunBy (l : Launch) (G : GG) (sh : Sh) (xs : List va_E) (x0 : Int32) (M : Mm) (r : Int32) (h : f_X5_tokenBegunBy x0 = some r) : Ct l yX5_tokenBegunBy cX5_tokenBegunBy 1 (some .int) rm_X5_tokenBegunBy G [.int x0] sh M xs (some (.int r)) sh M xs 0 0 := by
  refine ct_of (by decide) (Nat.le_of_ble_eq_true rfl) ?_
  intro p e s m args below meth c hnm C
  refine k_lv [0] (lv2 := [(0, .int x0)]) rfl ?_
  unfold f_X5_tokenBegunBy at h
  refine k_iload_n C (pc2 := 1) (dkAt dkX5_tokenBegunBy 0 (q := (0, .iload_n 0, 1)) rfl) rfl rfl 0 rfl ?_
  refine k_bipush C (pc2 := 3) (dkAt dkX5_tokenBegunBy 1 (q := (1, .bipush 97, 2)) rfl) rfl (v := 97) rfl ?_
  refine k_bipush C (pc2 := 5) (dkAt dkX5_tokenBegunBy 2 (q := (3, .bipush 122, 2)) rfl) rfl (v := 122) rfl ?_
  obtain ⟨q1, e2, h⟩ := ob_inv h
  refine kc_SN C (As := [.int x0, .int 97, .int 122]) (st2 := [.int q1]) (ct_X7_within l G sh xs x0 97 122 M q1 e2) (cl_X5_41 (hts_of C) C.2.2.2.2.1 ⟨Nat.le_of_ble_eq_true rfl, Nat.le_of_ble_eq_true rfl⟩ rfl rfl) rfl rfl (Nat.le_of_ble_eq_true rfl) (dkAt dkX5_tokenBegunBy 3 (q := (5, .invokestatic 41, 3)) rfl) ⟨Nat.zero_le _, Nat.zero_le _⟩ (pc2 := 8) rfl rfl ?_
  refine k_if_eq C (tgt := 13) (pc2 := 11) (dkAt dkX5_tokenBegunBy 4 (q := (8, .ifCond .eq 5, 3)) rfl) (by decide) rfl h (fun h => ?_) (fun h => ?_)
  · refine k_iload_n C (pc2 := 14) (dkAt dkX5_tokenBegunBy 7 (q := (13, .iload_n 0, 1)) rfl) rfl rfl 0 rfl ?_
    refine k_bipush C (pc2 := 16) (dkAt dkX5_tokenBegunBy 8 (q := (14, .bipush 48, 2)) rfl) rfl (v := 48) rfl ?_
    refine k_bipush C (pc2 := 18) (dkAt dkX5_tokenBegunBy 9 (q := (16, .bipush 57, 2)) rfl) rfl (v := 57) rfl ?_
    obtain ⟨q3, e4, h⟩ := ob_inv h
    refine kc_SN C (As := [.int x0, .int 48, .int 57]) (st2 := [.int q3]) (ct_X7_within l G sh xs x0 48 57 M q3 e4) (cl_X5_41 (hts_of C) C.2.2.2.2.1 ⟨Nat.le_of_ble_eq_true rfl, Nat.le_of_ble_eq_true rfl⟩ rfl rfl) rfl rfl (Nat.le_of_ble_eq_true rfl) (dkAt dkX5_tokenBegunBy 10 (q := (18, .invokestatic 41, 3)) rfl) ⟨Nat.zero_le _, Nat.zero_le _⟩ (pc2 := 21) rfl rfl ?_
    refine k_if_eq C (tgt := 26) (pc2 := 24) (dkAt dkX5_tokenBegunBy 11 (q := (21, .ifCond .eq 5, 3)) rfl) (by decide) rfl h (fun h => ?_) (fun h => ?_)
    · refine k_iload_n C (pc2 := 27) (dkAt dkX5_tokenBegunBy 14 (q := (26, .iload_n 0, 1)) rfl) rfl rfl 0 rfl ?_
      refine k_bipush C (pc2 := 29) (dkAt dkX5_tokenBegunBy 15 (q := (27, .bipush 59, 2)) rfl) rfl (v := 59) rfl ?_
      refine k_icmp_ne C (tgt := 36) (pc2 := 32) (dkAt dkX5_tokenBegunBy 16 (q := (29, .if_icmp .ne 7, 3)) rfl) (by decide) rfl h (fun h => ?_) (fun h => ?_)
      · refine k_iconst C (pc2 := 37) (dkAt dkX5_tokenBegunBy 19 (q := (36, .iconst 4, 1)) rfl) rfl (v := 4) rfl ?_
        exact k_iret C (dkAt dkX5_tokenBegunBy 20 (q := (37, .ireturn, 1)) rfl) (Option.some.inj h) rfl rfl rfl
      · refine k_iconst C (pc2 := 33) (dkAt dkX5_tokenBegunBy 17 (q := (32, .iconst 3, 1)) rfl) rfl (v := 3) rfl ?_
        refine k_goto C (tgt := 37) (dkAt dkX5_tokenBegunBy 18 (q := (33, .goto 4, 3)) rfl) (by decide) ?_
        exact k_iret C (dkAt dkX5_tokenBegunBy 20 (q := (37, .ireturn, 1)) rfl) (Option.some.inj h) rfl rfl rfl
    · refine k_iconst C (pc2 := 25) (dkAt dkX5_tokenBegunBy 12 (q := (24, .iconst 2, 1)) rfl) rfl (v := 2) rfl ?_
      exact k_iret C (dkAt dkX5_tokenBegunBy 13 (q := (25, .ireturn, 1)) rfl) (Option.some.inj h) rfl rfl rfl
  · refine k_iconst C (pc2 := 12) (dkAt dkX5_tokenBegunBy 5 (q := (11, .iconst 1, 1)) rfl) rfl (v := 1) rfl ?_
    exact k_iret C (dkAt dkX5_tokenBegunBy 6 (q := (12, .ireturn, 1)) rfl) (Option.some.inj h) rfl rfl rfl
set_option maxRecDepth 100000 in
set_option maxHeartbeats 4000000 in
theorem kl_X5_nextToken_L8 {p : Program} {l : Launch} {e : Env} {s : State} {m : MethodId} {args : Array Value} {below : List Frame} {meth : Method} {c : Code} {G : GG} {sh : Sh} {xs : List va_E} {Q : State → Prop} (C : Cx p s m c args meth G RX5 cX5_nextToken 2 none) (o0 : Nat) (h0 : isTp sh o0) (M2 : Mm) (hcont : KW p l e rm_X5_nextToken s m args below meth c G 2 Q sh xs 0 0 M2 46 [(0, rA G o0)] []) : ∀ (n : Nat) (M : Mm), f_X5_nextToken_L8 o0 n M = some M2 → KW p l e rm_X5_nextToken s m args below meth c G 2 Q sh xs 0 0 M 8 [(0, rA G o0)] [] := by
  intro n
  induction n with
  | zero =>
    intro M h
    cases h
  | succ n ih =>
    intro M h
    unfold f_X5_nextToken_L8 at h
    refine k_aload_n C (pc2 := 9) (dkAt dkX5_nextToken 4 (q := (8, .aload_n 0, 1)) rfl) rfl rfl 0 rfl ?_
    refine kf_X5_25 C (pc2 := 12) (o := o0) (o2 := 0) h0.1 (dkAt dkX5_nextToken 5 (q := (9, .getfield 25, 3)) rfl) rfl ?_
    refine k_aload_n C (pc2 := 13) (dkAt dkX5_nextToken 6 (q := (12, .aload_n 0, 1)) rfl) rfl rfl 0 rfl ?_
    refine kf_X5_15 C (pc2 := 16) (o := o0) (o2 := 0) h0.1 (dkAt dkX5_nextToken 7 (q := (13, .getfield 15, 3)) rfl) rfl ?_
    refine k_icmp_ge C (tgt := 46) (pc2 := 19) (dkAt dkX5_nextToken 8 (q := (16, .if_icmp .ge 30, 3)) rfl) (by decide) rfl h (fun h => ?_) (fun h => ?_)
    · refine k_lv [0] (lv2 := [(0, rA G o0)]) rfl ?_
      cases h
      exact hcont
    · refine k_aload_n C (pc2 := 20) (dkAt dkX5_nextToken 9 (q := (19, .aload_n 0, 1)) rfl) rfl rfl 0 rfl ?_
      refine kf_X5_9 C (pc2 := 23) (o := o0) (o2 := o0 + 1) h0.1 rfl (dkAt dkX5_nextToken 10 (q := (20, .getfield 9, 3)) rfl) rfl ?_
      refine k_aload_n C (pc2 := 24) (dkAt dkX5_nextToken 11 (q := (23, .aload_n 0, 1)) rfl) rfl rfl 0 rfl ?_
      refine kf_X5_25 C (pc2 := 27) (o := o0) (o2 := 0) h0.1 (dkAt dkX5_nextToken 12 (q := (24, .getfield 25, 3)) rfl) rfl ?_
      refine k_iald C (pc2 := 28) (o := o0 + 1) (nA := 250) h0.2 (dkAt dkX5_nextToken 13 (q := (27, .iaload, 1)) rfl) rfl h (fun h => ?_)
      refine k_bipush C (pc2 := 30) (dkAt dkX5_nextToken 14 (q := (28, .bipush 32, 2)) rfl) rfl (v := 32) rfl ?_
      refine k_icmp_ne C (tgt := 46) (pc2 := 33) (dkAt dkX5_nextToken 15 (q := (30, .if_icmp .ne 16, 3)) rfl) (by decide) rfl h (fun h => ?_) (fun h => ?_)
      · refine k_lv [0] (lv2 := [(0, rA G o0)]) rfl ?_
        cases h
        exact hcont
      · refine k_aload_n C (pc2 := 34) (dkAt dkX5_nextToken 16 (q := (33, .aload_n 0, 1)) rfl) rfl rfl 0 rfl ?_
        refine k_dup C (pc2 := 35) (dkAt dkX5_nextToken 17 (q := (34, .dup, 1)) rfl) rfl rfl ?_
        refine kf_X5_25 C (pc2 := 38) (o := o0) (o2 := 0) h0.1 (dkAt dkX5_nextToken 18 (q := (35, .getfield 25, 3)) rfl) rfl ?_
        refine k_iconst C (pc2 := 39) (dkAt dkX5_nextToken 19 (q := (38, .iconst 1, 1)) rfl) rfl (v := 1) rfl ?_
        refine k_iadd C (pc2 := 40) (dkAt dkX5_nextToken 20 (q := (39, .iadd, 1)) rfl) rfl ?_
        refine kp_X5_25 C (pc2 := 43) (o := o0) h0.1 (dkAt dkX5_nextToken 21 (q := (40, .putfield 25, 3)) rfl) rfl h (fun M2 h => ?_)
        refine k_goto C (tgt := 8) (dkAt dkX5_nextToken 22 (q := (43, .goto (-35), 3)) rfl) (by decide) ?_
        refine k_lv [0] (lv2 := [(0, rA G o0)]) rfl ?_
        exact ih  M2 h
set_option maxRecDepth 100000 in
set_option maxHeartbeats 4000000 in
theorem kl_X5_nextToken_L116 {p : Program} {l : Launch} {e : Env} {s : State} {m : MethodId} {args : Array Value} {below : List Frame} {meth : Method} {c : Code} {G : GG} {sh : Sh} {xs : List va_E} {Q : State → Prop} (C : Cx p s m c args meth G RX5 cX5_nextToken 2 none) (o0 : Nat) (h0 : isTp sh o0) (x1 : Int32) (M2 : Mm) (hcont : KW p l e rm_X5_nextToken s m args below meth c G 2 Q sh xs 0 0 M2 163 [] []) : ∀ (n : Nat) (M : Mm), f_X5_nextToken_L116 o0 x1 n M = some M2 → KW p l e rm_X5_nextToken s m args below meth c G 2 Q sh xs 0 0 M 116 [(0, rA G o0), (1, .int x1)] [] := by
  intro n
  induction n with
  | zero =>
    intro M h
    cases h
  | succ n ih =>
    intro M h
    unfold f_X5_nextToken_L116 at h
    refine k_iload_n C (pc2 := 117) (dkAt dkX5_nextToken 59 (q := (116, .iload_n 1, 1)) rfl) rfl rfl 1 rfl ?_
    refine k_if_eq C (tgt := 163) (pc2 := 120) (dkAt dkX5_nextToken 60 (q := (117, .ifCond .eq 46, 3)) rfl) (by decide) rfl h (fun h => ?_) (fun h => ?_)
    · refine k_lv [] (lv2 := []) rfl ?_
      cases h
      exact hcont
    · refine k_aload_n C (pc2 := 121) (dkAt dkX5_nextToken 61 (q := (120, .aload_n 0, 1)) rfl) rfl rfl 0 rfl ?_
      refine kf_X5_19 C (pc2 := 124) (o := o0) (o2 := 0) h0.1 (dkAt dkX5_nextToken 62 (q := (121, .getfield 19, 3)) rfl) rfl ?_
      refine k_aload_n C (pc2 := 125) (dkAt dkX5_nextToken 63 (q := (124, .aload_n 0, 1)) rfl) rfl rfl 0 rfl ?_
      refine kf_X5_15 C (pc2 := 128) (o := o0) (o2 := 0) h0.1 (dkAt dkX5_nextToken 64 (q := (125, .getfield 15, 3)) rfl) rfl ?_
      refine k_icmp_ge C (tgt := 163) (pc2 := 131) (dkAt dkX5_nextToken 65 (q := (128, .if_icmp .ge 35, 3)) rfl) (by decide) rfl h (fun h => ?_) (fun h => ?_)
      · refine k_lv [] (lv2 := []) rfl ?_
        cases h
        exact hcont
      · refine k_aload_n C (pc2 := 132) (dkAt dkX5_nextToken 66 (q := (131, .aload_n 0, 1)) rfl) rfl rfl 0 rfl ?_
        refine kf_X5_9 C (pc2 := 135) (o := o0) (o2 := o0 + 1) h0.1 rfl (dkAt dkX5_nextToken 67 (q := (132, .getfield 9, 3)) rfl) rfl ?_
        refine k_aload_n C (pc2 := 136) (dkAt dkX5_nextToken 68 (q := (135, .aload_n 0, 1)) rfl) rfl rfl 0 rfl ?_
        refine kf_X5_19 C (pc2 := 139) (o := o0) (o2 := 0) h0.1 (dkAt dkX5_nextToken 69 (q := (136, .getfield 19, 3)) rfl) rfl ?_
        refine k_iald C (pc2 := 140) (o := o0 + 1) (nA := 250) h0.2 (dkAt dkX5_nextToken 70 (q := (139, .iaload, 1)) rfl) rfl h (fun h => ?_)
        obtain ⟨q8, e9, h⟩ := ob_inv h
        refine kc_S C (As := [.int (M.1 (o0 + 1) (M.1 o0 4).toNatClampNeg)]) (st2 := [.int q8]) (ct_X5_tokenBegunBy l G sh xs (M.1 (o0 + 1) (M.1 o0 4).toNatClampNeg) M q8 e9) (cl_X5_28 (hts_of C) ⟨Nat.le_of_ble_eq_true rfl, Nat.le_of_ble_eq_true rfl⟩ rfl rfl) rfl rfl (Nat.le_of_ble_eq_true rfl) (dkAt dkX5_nextToken 71 (q := (140, .invokestatic 28, 3)) rfl) ⟨Nat.zero_le _, Nat.zero_le _⟩ (pc2 := 143) rfl rfl ?_
        refine k_aload_n C (pc2 := 144) (dkAt dkX5_nextToken 72 (q := (143, .aload_n 0, 1)) rfl) rfl rfl 0 rfl ?_
        refine kf_X5_32 C (pc2 := 147) (o := o0) (o2 := 0) h0.1 (dkAt dkX5_nextToken 73 (q := (144, .getfield 32, 3)) rfl) rfl ?_
        refine k_icmp_ne C (tgt := 163) (pc2 := 150) (dkAt dkX5_nextToken 74 (q := (147, .if_icmp .ne 16, 3)) rfl) (by decide) rfl h (fun h => ?_) (fun h => ?_)
        · refine k_lv [] (lv2 := []) rfl ?_
          cases h
          exact hcont
        · refine k_aload_n C (pc2 := 151) (dkAt dkX5_nextToken 75 (q := (150, .aload_n 0, 1)) rfl) rfl rfl 0 rfl ?_
          refine k_dup C (pc2 := 152) (dkAt dkX5_nextToken 76 (q := (151, .dup, 1)) rfl) rfl rfl ?_
          refine kf_X5_19 C (pc2 := 155) (o := o0) (o2 := 0) h0.1 (dkAt dkX5_nextToken 77 (q := (152, .getfield 19, 3)) rfl) rfl ?_
          refine k_iconst C (pc2 := 156) (dkAt dkX5_nextToken 78 (q := (155, .iconst 1, 1)) rfl) rfl (v := 1) rfl ?_
          refine k_iadd C (pc2 := 157) (dkAt dkX5_nextToken 79 (q := (156, .iadd, 1)) rfl) rfl ?_
          refine kp_X5_19 C (pc2 := 160) (o := o0) h0.1 (dkAt dkX5_nextToken 80 (q := (157, .putfield 19, 3)) rfl) rfl h (fun M10 h => ?_)
          refine k_goto C (tgt := 116) (dkAt dkX5_nextToken 81 (q := (160, .goto (-44), 3)) rfl) (by decide) ?_
          refine k_lv [0, 1] (lv2 := [(0, rA G o0), (1, .int x1)]) rfl ?_
          exact ih  M10 h
set_option maxRecDepth 100000 in
set_option maxHeartbeats 4000000 in
theorem ct_X5_nextToken (l : Launch) (G : GG) (sh : Sh) (xs : List va_E) (o0 : Nat) (h0 : isTp sh o0) (M : Mm) (r : Mm) (h : f_X5_nextToken o0 M = some r) : Ct l yX5_nextToken cX5_nextToken 2 none rm_X5_nextToken G [rA G o0] sh M xs none sh r xs 0 0 := by
  refine ct_of (by decide) (Nat.le_of_ble_eq_true rfl) ?_
  intro p e s m args below meth c hnm C
  refine k_lv [0] (lv2 := [(0, rA G o0)]) rfl ?_
  unfold f_X5_nextToken at h
  refine k_aload_n C (pc2 := 1) (dkAt dkX5_nextToken 0 (q := (0, .aload_n 0, 1)) rfl) rfl rfl 0 rfl ?_
  refine k_aload_n C (pc2 := 2) (dkAt dkX5_nextToken 1 (q := (1, .aload_n 0, 1)) rfl) rfl rfl 0 rfl ?_
  refine kf_X5_19 C (pc2 := 5) (o := o0) (o2 := 0) h0.1 (dkAt dkX5_nextToken 2 (q := (2, .getfield 19, 3)) rfl) rfl ?_
  refine kp_X5_25 C (pc2 := 8) (o := o0) h0.1 (dkAt dkX5_nextToken 3 (q := (5, .putfield 25, 3)) rfl) rfl h (fun M1 h => ?_)
  refine k_lv [0] (lv2 := [(0, rA G o0)]) rfl ?_
  obtain ⟨M5, e4, h⟩ := ob_inv h
  refine kl_X5_nextToken_L8 C o0 h0 M5 ?_ 1000 M1 e4
  refine k_aload_n C (pc2 := 47) (dkAt dkX5_nextToken 23 (q := (46, .aload_n 0, 1)) rfl) rfl rfl 0 rfl ?_
  refine k_aload_n C (pc2 := 48) (dkAt dkX5_nextToken 24 (q := (47, .aload_n 0, 1)) rfl) rfl rfl 0 rfl ?_
  refine kf_X5_25 C (pc2 := 51) (o := o0) (o2 := 0) h0.1 (dkAt dkX5_nextToken 25 (q := (48, .getfield 25, 3)) rfl) rfl ?_
  refine k_aload_n C (pc2 := 52) (dkAt dkX5_nextToken 26 (q := (51, .aload_n 0, 1)) rfl) rfl rfl 0 rfl ?_
  refine kf_X5_15 C (pc2 := 55) (o := o0) (o2 := 0) h0.1 (dkAt dkX5_nextToken 27 (q := (52, .getfield 15, 3)) rfl) rfl ?_
  refine k_icmp_ge C (tgt := 73) (pc2 := 58) (dkAt dkX5_nextToken 28 (q := (55, .if_icmp .ge 18, 3)) rfl) (by decide) rfl h (fun h => ?_) (fun h => ?_)
  · refine k_iconst C (pc2 := 74) (dkAt dkX5_nextToken 36 (q := (73, .iconst 0, 1)) rfl) rfl (v := 0) rfl ?_
    refine kp_X5_32 C (pc2 := 77) (o := o0) h0.1 (dkAt dkX5_nextToken 37 (q := (74, .putfield 32, 3)) rfl) rfl h (fun M6 h => ?_)
    refine k_aload_n C (pc2 := 78) (dkAt dkX5_nextToken 38 (q := (77, .aload_n 0, 1)) rfl) rfl rfl 0 rfl ?_
    refine k_aload_n C (pc2 := 79) (dkAt dkX5_nextToken 39 (q := (78, .aload_n 0, 1)) rfl) rfl rfl 0 rfl ?_
    refine kf_X5_15 C (pc2 := 82) (o := o0) (o2 := 0) h0.1 (dkAt dkX5_nextToken 40 (q := (79, .getfield 15, 3)) rfl) rfl ?_
    refine k_aload_n C (pc2 := 83) (dkAt dkX5_nextToken 41 (q := (82, .aload_n 0, 1)) rfl) rfl rfl 0 rfl ?_
    refine kf_X5_25 C (pc2 := 86) (o := o0) (o2 := 0) h0.1 (dkAt dkX5_nextToken 42 (q := (83, .getfield 25, 3)) rfl) rfl ?_
    refine k_iconst C (pc2 := 87) (dkAt dkX5_nextToken 43 (q := (86, .iconst 1, 1)) rfl) rfl (v := 1) rfl ?_
    refine k_iadd C (pc2 := 88) (dkAt dkX5_nextToken 44 (q := (87, .iadd, 1)) rfl) rfl ?_
    refine k_mmin C tM_X5_35 (Nat.le_of_ble_eq_true rfl) (Nat.le_of_ble_eq_true rfl) (Nat.zero_le _) (Nat.zero_le _) (dkAt dkX5_nextToken 45 (q := (88, .invokestatic 35, 3)) rfl) (pc2 := 91) rfl ?_
    refine kp_X5_19 C (pc2 := 94) (o := o0) h0.1 (dkAt dkX5_nextToken 46 (q := (91, .putfield 19, 3)) rfl) rfl h (fun M7 h => ?_)
    refine k_aload_n C (pc2 := 95) (dkAt dkX5_nextToken 47 (q := (94, .aload_n 0, 1)) rfl) rfl rfl 0 rfl ?_
    refine kf_X5_32 C (pc2 := 98) (o := o0) (o2 := 0) h0.1 (dkAt dkX5_nextToken 48 (q := (95, .getfield 32, 3)) rfl) rfl ?_
    refine k_iconst C (pc2 := 99) (dkAt dkX5_nextToken 49 (q := (98, .iconst 1, 1)) rfl) rfl (v := 1) rfl ?_
    refine k_icmp_eq C (tgt := 110) (pc2 := 102) (dkAt dkX5_nextToken 50 (q := (99, .if_icmp .eq 11, 3)) rfl) (by decide) rfl h (fun h => ?_) (fun h => ?_)
    · refine k_iconst C (pc2 := 111) (dkAt dkX5_nextToken 55 (q := (110, .iconst 1, 1)) rfl) rfl (v := 1) rfl ?_
      refine k_goto C (tgt := 115) (dkAt dkX5_nextToken 56 (q := (111, .goto 4, 3)) rfl) (by decide) ?_
      refine k_istore_n C (pc2 := 116) (dkAt dkX5_nextToken 58 (q := (115, .istore_n 1, 1)) rfl) rfl rfl (by decide) (lv2 := [(1, .int 1), (0, rA G o0)]) rfl ?_
      refine k_lv [1, 0] (lv2 := [(0, rA G o0), (1, .int 1)]) rfl ?_
      obtain ⟨M13, e12, h⟩ := ob_inv h
      refine kl_X5_nextToken_L116 C o0 h0 1 M13 ?_ 1000 M7 e12
      exact k_vret C (dkAt dkX5_nextToken 82 (q := (163, .return_, 1)) rfl) rfl (Option.some.inj h) rfl
    · refine k_aload_n C (pc2 := 103) (dkAt dkX5_nextToken 51 (q := (102, .aload_n 0, 1)) rfl) rfl rfl 0 rfl ?_
      refine kf_X5_32 C (pc2 := 106) (o := o0) (o2 := 0) h0.1 (dkAt dkX5_nextToken 52 (q := (103, .getfield 32, 3)) rfl) rfl ?_
      refine k_iconst C (pc2 := 107) (dkAt dkX5_nextToken 53 (q := (106, .iconst 2, 1)) rfl) rfl (v := 2) rfl ?_
      refine k_icmp_ne C (tgt := 114) (pc2 := 110) (dkAt dkX5_nextToken 54 (q := (107, .if_icmp .ne 7, 3)) rfl) (by decide) rfl h (fun h => ?_) (fun h => ?_)
      · refine k_iconst C (pc2 := 115) (dkAt dkX5_nextToken 57 (q := (114, .iconst 0, 1)) rfl) rfl (v := 0) rfl ?_
        refine k_istore_n C (pc2 := 116) (dkAt dkX5_nextToken 58 (q := (115, .istore_n 1, 1)) rfl) rfl rfl (by decide) (lv2 := [(1, .int 0), (0, rA G o0)]) rfl ?_
        refine k_lv [1, 0] (lv2 := [(0, rA G o0), (1, .int 0)]) rfl ?_
        obtain ⟨M16, e15, h⟩ := ob_inv h
        refine kl_X5_nextToken_L116 C o0 h0 0 M16 ?_ 1000 M7 e15
        exact k_vret C (dkAt dkX5_nextToken 82 (q := (163, .return_, 1)) rfl) rfl (Option.some.inj h) rfl
      · refine k_iconst C (pc2 := 111) (dkAt dkX5_nextToken 55 (q := (110, .iconst 1, 1)) rfl) rfl (v := 1) rfl ?_
        refine k_goto C (tgt := 115) (dkAt dkX5_nextToken 56 (q := (111, .goto 4, 3)) rfl) (by decide) ?_
        refine k_istore_n C (pc2 := 116) (dkAt dkX5_nextToken 58 (q := (115, .istore_n 1, 1)) rfl) rfl rfl (by decide) (lv2 := [(1, .int 1), (0, rA G o0)]) rfl ?_
        refine k_lv [1, 0] (lv2 := [(0, rA G o0), (1, .int 1)]) rfl ?_
        obtain ⟨M19, e18, h⟩ := ob_inv h
        refine kl_X5_nextToken_L116 C o0 h0 1 M19 ?_ 1000 M7 e18
        exact k_vret C (dkAt dkX5_nextToken 82 (q := (163, .return_, 1)) rfl) rfl (Option.some.inj h) rfl
  · refine k_aload_n C (pc2 := 59) (dkAt dkX5_nextToken 29 (q := (58, .aload_n 0, 1)) rfl) rfl rfl 0 rfl ?_
    refine kf_X5_9 C (pc2 := 62) (o := o0) (o2 := o0 + 1) h0.1 rfl (dkAt dkX5_nextToken 30 (q := (59, .getfield 9, 3)) rfl) rfl ?_
    refine k_aload_n C (pc2 := 63) (dkAt dkX5_nextToken 31 (q := (62, .aload_n 0, 1)) rfl) rfl rfl 0 rfl ?_
    refine kf_X5_25 C (pc2 := 66) (o := o0) (o2 := 0) h0.1 (dkAt dkX5_nextToken 32 (q := (63, .getfield 25, 3)) rfl) rfl ?_
    refine k_iald C (pc2 := 67) (o := o0 + 1) (nA := 250) h0.2 (dkAt dkX5_nextToken 33 (q := (66, .iaload, 1)) rfl) rfl h (fun h => ?_)
    obtain ⟨q20, e21, h⟩ := ob_inv h
    refine kc_S C (As := [.int (M5.1 (o0 + 1) (M5.1 o0 3).toNatClampNeg)]) (st2 := [.int q20, rA G o0]) (ct_X5_tokenBegunBy l G sh xs (M5.1 (o0 + 1) (M5.1 o0 3).toNatClampNeg) M5 q20 e21) (cl_X5_28 (hts_of C) ⟨Nat.le_of_ble_eq_true rfl, Nat.le_of_ble_eq_true rfl⟩ rfl rfl) rfl rfl (Nat.le_of_ble_eq_true rfl) (dkAt dkX5_nextToken 34 (q := (67, .invokestatic 28, 3)) rfl) ⟨Nat.zero_le _, Nat.zero_le _⟩ (pc2 := 70) rfl rfl ?_
    refine k_goto C (tgt := 74) (dkAt dkX5_nextToken 35 (q := (70, .goto 4, 3)) rfl) (by decide) ?_
    refine kp_X5_32 C (pc2 := 77) (o := o0) h0.1 (dkAt dkX5_nextToken 37 (q := (74, .putfield 32, 3)) rfl) rfl h (fun M22 h => ?_)
    refine k_aload_n C (pc2 := 78) (dkAt dkX5_nextToken 38 (q := (77, .aload_n 0, 1)) rfl) rfl rfl 0 rfl ?_
    refine k_aload_n C (pc2 := 79) (dkAt dkX5_nextToken 39 (q := (78, .aload_n 0, 1)) rfl) rfl rfl 0 rfl ?_
    refine kf_X5_15 C (pc2 := 82) (o := o0) (o2 := 0) h0.1 (dkAt dkX5_nextToken 40 (q := (79, .getfield 15, 3)) rfl) rfl ?_
    refine k_aload_n C (pc2 := 83) (dkAt dkX5_nextToken 41 (q := (82, .aload_n 0, 1)) rfl) rfl rfl 0 rfl ?_
    refine kf_X5_25 C (pc2 := 86) (o := o0) (o2 := 0) h0.1 (dkAt dkX5_nextToken 42 (q := (83, .getfield 25, 3)) rfl) rfl ?_
    refine k_iconst C (pc2 := 87) (dkAt dkX5_nextToken 43 (q := (86, .iconst 1, 1)) rfl) rfl (v := 1) rfl ?_
    refine k_iadd C (pc2 := 88) (dkAt dkX5_nextToken 44 (q := (87, .iadd, 1)) rfl) rfl ?_
    refine k_mmin C tM_X5_35 (Nat.le_of_ble_eq_true rfl) (Nat.le_of_ble_eq_true rfl) (Nat.zero_le _) (Nat.zero_le _) (dkAt dkX5_nextToken 45 (q := (88, .invokestatic 35, 3)) rfl) (pc2 := 91) rfl ?_
    refine kp_X5_19 C (pc2 := 94) (o := o0) h0.1 (dkAt dkX5_nextToken 46 (q := (91, .putfield 19, 3)) rfl) rfl h (fun M23 h => ?_)
    refine k_aload_n C (pc2 := 95) (dkAt dkX5_nextToken 47 (q := (94, .aload_n 0, 1)) rfl) rfl rfl 0 rfl ?_
    refine kf_X5_32 C (pc2 := 98) (o := o0) (o2 := 0) h0.1 (dkAt dkX5_nextToken 48 (q := (95, .getfield 32, 3)) rfl) rfl ?_
    refine k_iconst C (pc2 := 99) (dkAt dkX5_nextToken 49 (q := (98, .iconst 1, 1)) rfl) rfl (v := 1) rfl ?_
    refine k_icmp_eq C (tgt := 110) (pc2 := 102) (dkAt dkX5_nextToken 50 (q := (99, .if_icmp .eq 11, 3)) rfl) (by decide) rfl h (fun h => ?_) (fun h => ?_)
    · refine k_iconst C (pc2 := 111) (dkAt dkX5_nextToken 55 (q := (110, .iconst 1, 1)) rfl) rfl (v := 1) rfl ?_
      refine k_goto C (tgt := 115) (dkAt dkX5_nextToken 56 (q := (111, .goto 4, 3)) rfl) (by decide) ?_
      refine k_istore_n C (pc2 := 116) (dkAt dkX5_nextToken 58 (q := (115, .istore_n 1, 1)) rfl) rfl rfl (by decide) (lv2 := [(1, .int 1), (0, rA G o0)]) rfl ?_
      refine k_lv [1, 0] (lv2 := [(0, rA G o0), (1, .int 1)]) rfl ?_
      obtain ⟨M26, e25, h⟩ := ob_inv h
      refine kl_X5_nextToken_L116 C o0 h0 1 M26 ?_ 1000 M23 e25
      exact k_vret C (dkAt dkX5_nextToken 82 (q := (163, .return_, 1)) rfl) rfl (Option.some.inj h) rfl
    · refine k_aload_n C (pc2 := 103) (dkAt dkX5_nextToken 51 (q := (102, .aload_n 0, 1)) rfl) rfl rfl 0 rfl ?_
      refine kf_X5_32 C (pc2 := 106) (o := o0) (o2 := 0) h0.1 (dkAt dkX5_nextToken 52 (q := (103, .getfield 32, 3)) rfl) rfl ?_
      refine k_iconst C (pc2 := 107) (dkAt dkX5_nextToken 53 (q := (106, .iconst 2, 1)) rfl) rfl (v := 2) rfl ?_
      refine k_icmp_ne C (tgt := 114) (pc2 := 110) (dkAt dkX5_nextToken 54 (q := (107, .if_icmp .ne 7, 3)) rfl) (by decide) rfl h (fun h => ?_) (fun h => ?_)
      · refine k_iconst C (pc2 := 115) (dkAt dkX5_nextToken 57 (q := (114, .iconst 0, 1)) rfl) rfl (v := 0) rfl ?_
        refine k_istore_n C (pc2 := 116) (dkAt dkX5_nextToken 58 (q := (115, .istore_n 1, 1)) rfl) rfl rfl (by decide) (lv2 := [(1, .int 0), (0, rA G o0)]) rfl ?_
        refine k_lv [1, 0] (lv2 := [(0, rA G o0), (1, .int 0)]) rfl ?_
        obtain ⟨M29, e28, h⟩ := ob_inv h
        refine kl_X5_nextToken_L116 C o0 h0 0 M29 ?_ 1000 M23 e28
        exact k_vret C (dkAt dkX5_nextToken 82 (q := (163, .return_, 1)) rfl) rfl (Option.some.inj h) rfl
      · refine k_iconst C (pc2 := 111) (dkAt dkX5_nextToken 55 (q := (110, .iconst 1, 1)) rfl) rfl (v := 1) rfl ?_
        refine k_goto C (tgt := 115) (dkAt dkX5_nextToken 56 (q := (111, .goto 4, 3)) rfl) (by decide) ?_
        refine k_istore_n C (pc2 := 116) (dkAt dkX5_nextToken 58 (q := (115, .istore_n 1, 1)) rfl) rfl rfl (by decide) (lv2 := [(1, .int 1), (0, rA G o0)]) rfl ?_
        refine k_lv [1, 0] (lv2 := [(0, rA G o0), (1, .int 1)]) rfl ?_
        obtain ⟨M32, e31, h⟩ := ob_inv h
        refine kl_X5_nextToken_L116 C o0 h0 1 M32 ?_ 1000 M23 e31
        exact k_vret C (dkAt dkX5_nextToken 82 (q := (163, .return_, 1)) rfl) rfl (Option.some.inj h) rfl
set_option maxRecDepth 100000 in
set_option maxHeartbeats 4000000 in
theorem kl_X5_numberToken_L30 {p : Program} {l : Launch} {e : Env} {s : State} {m : MethodId} {args : Array Value} {below : List Frame} {meth : Method} {c : Code} {G : GG} {sh : Sh} {xs : List va_E} {Q : State → Prop} (C : Cx p s m c args meth G RX5 cX5_numberToken 3 (some .int)) (o0 : Nat) (h0 : isTp sh o0) (M : Mm) (y1 : Int32) (hcont : KW p l e rm_X5_numberToken s m args below meth c G 3 Q sh xs 0 0 M 59 [(1, .int y1)] []) : ∀ (n : Nat) (x1 : Int32) (x2 : Int32), f_X5_numberToken_L30 o0 M n x1 x2 = some y1 → KW p l e rm_X5_numberToken s m args below meth c G 3 Q sh xs 0 0 M 30 [(0, rA G o0), (1, .int x1), (2, .int x2)] [] := by
  intro n
  induction n with
  | zero =>
    intro x1 x2 h
    cases h
  | succ n ih =>
    intro x1 x2 h
    unfold f_X5_numberToken_L30 at h
    refine k_iload_n C (pc2 := 31) (dkAt dkX5_numberToken 18 (q := (30, .iload_n 2, 1)) rfl) rfl rfl 2 rfl ?_
    refine k_aload_n C (pc2 := 32) (dkAt dkX5_numberToken 19 (q := (31, .aload_n 0, 1)) rfl) rfl rfl 0 rfl ?_
    refine kf_X5_19 C (pc2 := 35) (o := o0) (o2 := 0) h0.1 (dkAt dkX5_numberToken 20 (q := (32, .getfield 19, 3)) rfl) rfl ?_
    refine k_icmp_ge C (tgt := 59) (pc2 := 38) (dkAt dkX5_numberToken 21 (q := (35, .if_icmp .ge 24, 3)) rfl) (by decide) rfl h (fun h => ?_) (fun h => ?_)
    · refine k_lv [1] (lv2 := [(1, .int x1)]) rfl ?_
      cases h
      exact hcont
    · refine k_bipush C (pc2 := 40) (dkAt dkX5_numberToken 22 (q := (38, .bipush 10, 2)) rfl) rfl (v := 10) rfl ?_
      refine k_iload_n C (pc2 := 41) (dkAt dkX5_numberToken 23 (q := (40, .iload_n 1, 1)) rfl) rfl rfl 1 rfl ?_
      refine k_imul C (pc2 := 42) (dkAt dkX5_numberToken 24 (q := (41, .imul, 1)) rfl) rfl ?_
      refine k_aload_n C (pc2 := 43) (dkAt dkX5_numberToken 25 (q := (42, .aload_n 0, 1)) rfl) rfl rfl 0 rfl ?_
      refine kf_X5_9 C (pc2 := 46) (o := o0) (o2 := o0 + 1) h0.1 rfl (dkAt dkX5_numberToken 26 (q := (43, .getfield 9, 3)) rfl) rfl ?_
      refine k_iload_n C (pc2 := 47) (dkAt dkX5_numberToken 27 (q := (46, .iload_n 2, 1)) rfl) rfl rfl 2 rfl ?_
      refine k_iald C (pc2 := 48) (o := o0 + 1) (nA := 250) h0.2 (dkAt dkX5_numberToken 28 (q := (47, .iaload, 1)) rfl) rfl h (fun h => ?_)
      refine k_iadd C (pc2 := 49) (dkAt dkX5_numberToken 29 (q := (48, .iadd, 1)) rfl) rfl ?_
      refine k_bipush C (pc2 := 51) (dkAt dkX5_numberToken 30 (q := (49, .bipush 48, 2)) rfl) rfl (v := 48) rfl ?_
      refine k_isub C (pc2 := 52) (dkAt dkX5_numberToken 31 (q := (51, .isub, 1)) rfl) rfl ?_
      refine kb_istore_n C (pc2 := 53) (dkAt dkX5_numberToken 32 (q := (52, .istore_n 1, 1)) rfl) rfl rfl (by decide) (lv2 := fun v2 => [(1, .int v2), (0, rA G o0), (2, .int x2)]) (fun _ => rfl) h (fun v2 h => ?_)
      refine kb_iinc C (pc2 := 56) (dkAt dkX5_numberToken 33 (q := (53, .iinc 2 1, 3)) rfl) rfl (j := 2) rfl (v := x2 + 1) rfl (by decide) (lv2 := fun v3 => [(2, .int v3), (1, .int v2), (0, rA G o0)]) (fun _ => rfl) h (fun v3 h => ?_)
      refine k_goto C (tgt := 30) (dkAt dkX5_numberToken 34 (q := (56, .goto (-26), 3)) rfl) (by decide) ?_
      refine k_lv [2, 1, 0] (lv2 := [(0, rA G o0), (1, .int v2), (2, .int v3)]) rfl ?_
      exact ih v2 v3 h
set_option maxRecDepth 100000 in
set_option maxHeartbeats 4000000 in
theorem ct_X5_numberToken (l : Launch) (G : GG) (sh : Sh) (xs : List va_E) (o0 : Nat) (h0 : isTp sh o0) (M : Mm) (r : Int32) (h : f_X5_numberToken o0 M = some r) : Ct l yX5_numberToken cX5_numberToken 3 (some .int) rm_X5_numberToken G [rA G o0] sh M xs (some (.int r)) sh M xs 0 0 := by
  refine ct_of (by decide) (Nat.le_of_ble_eq_true rfl) ?_
  intro p e s m args below meth c hnm C
  refine k_lv [0] (lv2 := [(0, rA G o0)]) rfl ?_
  unfold f_X5_numberToken at h
  refine k_aload_n C (pc2 := 1) (dkAt dkX5_numberToken 0 (q := (0, .aload_n 0, 1)) rfl) rfl rfl 0 rfl ?_
  refine kf_X5_32 C (pc2 := 4) (o := o0) (o2 := 0) h0.1 (dkAt dkX5_numberToken 1 (q := (1, .getfield 32, 3)) rfl) rfl ?_
  refine k_iconst C (pc2 := 5) (dkAt dkX5_numberToken 2 (q := (4, .iconst 2, 1)) rfl) rfl (v := 2) rfl ?_
  refine k_icmp_ne C (tgt := 21) (pc2 := 8) (dkAt dkX5_numberToken 3 (q := (5, .if_icmp .ne 16, 3)) rfl) (by decide) rfl h (fun h => ?_) (fun h => ?_)
  · refine k_iconst C (pc2 := 22) (dkAt dkX5_numberToken 11 (q := (21, .iconst (-1), 1)) rfl) rfl (v := (-1)) rfl ?_
    exact k_iret C (dkAt dkX5_numberToken 12 (q := (22, .ireturn, 1)) rfl) (Option.some.inj h) rfl rfl rfl
  · refine k_aload_n C (pc2 := 9) (dkAt dkX5_numberToken 4 (q := (8, .aload_n 0, 1)) rfl) rfl rfl 0 rfl ?_
    refine kf_X5_19 C (pc2 := 12) (o := o0) (o2 := 0) h0.1 (dkAt dkX5_numberToken 5 (q := (9, .getfield 19, 3)) rfl) rfl ?_
    refine k_aload_n C (pc2 := 13) (dkAt dkX5_numberToken 6 (q := (12, .aload_n 0, 1)) rfl) rfl rfl 0 rfl ?_
    refine kf_X5_25 C (pc2 := 16) (o := o0) (o2 := 0) h0.1 (dkAt dkX5_numberToken 7 (q := (13, .getfield 25, 3)) rfl) rfl ?_
    refine k_isub C (pc2 := 17) (dkAt dkX5_numberToken 8 (q := (16, .isub, 1)) rfl) rfl ?_
    refine k_iconst C (pc2 := 18) (dkAt dkX5_numberToken 9 (q := (17, .iconst 2, 1)) rfl) rfl (v := 2) rfl ?_
    refine k_icmp_le C (tgt := 23) (pc2 := 21) (dkAt dkX5_numberToken 10 (q := (18, .if_icmp .le 5, 3)) rfl) (by decide) rfl h (fun h => ?_) (fun h => ?_)
    · refine k_iconst C (pc2 := 24) (dkAt dkX5_numberToken 13 (q := (23, .iconst 0, 1)) rfl) rfl (v := 0) rfl ?_
      refine k_istore_n C (pc2 := 25) (dkAt dkX5_numberToken 14 (q := (24, .istore_n 1, 1)) rfl) rfl rfl (by decide) (lv2 := [(1, .int 0), (0, rA G o0)]) rfl ?_
      refine k_aload_n C (pc2 := 26) (dkAt dkX5_numberToken 15 (q := (25, .aload_n 0, 1)) rfl) rfl rfl 1 rfl ?_
      refine kf_X5_25 C (pc2 := 29) (o := o0) (o2 := 0) h0.1 (dkAt dkX5_numberToken 16 (q := (26, .getfield 25, 3)) rfl) rfl ?_
      refine kb_istore_n C (pc2 := 30) (dkAt dkX5_numberToken 17 (q := (29, .istore_n 2, 1)) rfl) rfl rfl (by decide) (lv2 := fun v1 => [(2, .int v1), (1, .int 0), (0, rA G o0)]) (fun _ => rfl) h (fun v1 h => ?_)
      refine k_lv [2, 1, 0] (lv2 := [(0, rA G o0), (1, .int 0), (2, .int v1)]) rfl ?_
      obtain ⟨v6, e5, h⟩ := ob_inv h
      refine kl_X5_numberToken_L30 C o0 h0 M v6 ?_ 1000 0 v1 e5
      refine k_iload_n C (pc2 := 60) (dkAt dkX5_numberToken 35 (q := (59, .iload_n 1, 1)) rfl) rfl rfl 0 rfl ?_
      exact k_iret C (dkAt dkX5_numberToken 36 (q := (60, .ireturn, 1)) rfl) (Option.some.inj h) rfl rfl rfl
    · refine k_iconst C (pc2 := 22) (dkAt dkX5_numberToken 11 (q := (21, .iconst (-1), 1)) rfl) rfl (v := (-1)) rfl ?_
      exact k_iret C (dkAt dkX5_numberToken 12 (q := (22, .ireturn, 1)) rfl) (Option.some.inj h) rfl rfl rfl
set_option maxRecDepth 100000 in
set_option maxHeartbeats 4000000 in
theorem ct_X3_readNumber (l : Launch) (G : GG) (sh : Sh) (xs : List va_E) (o0 : Nat) (h0 : isRd sh o0) (x1 : Int32) (x2 : Int32) (M : Mm) (r : Mm × Int32) (h : f_X3_readNumber o0 x1 x2 M = some r) : Ct l yX3_readNumber cX3_readNumber 4 (some .int) rm_X3_readNumber G [rA G o0, .int x1, .int x2] sh M xs (some (.int r.2)) sh r.1 xs 0 0 := by
  refine ct_of (by decide) (Nat.le_of_ble_eq_true rfl) ?_
  intro p e s m args below meth c hnm C
  refine k_lv [0, 1, 2] (lv2 := [(0, rA G o0), (1, .int x1), (2, .int x2)]) rfl ?_
  unfold f_X3_readNumber at h
  refine k_aload_n C (pc2 := 1) (dkAt dkX3_readNumber 0 (q := (0, .aload_n 0, 1)) rfl) rfl rfl 0 rfl ?_
  refine kf_X3_25 C (pc2 := 4) (o := o0) (o2 := 0) h0.1 (dkAt dkX3_readNumber 1 (q := (1, .getfield 25, 3)) rfl) rfl ?_
  refine k_iconst C (pc2 := 5) (dkAt dkX3_readNumber 2 (q := (4, .iconst (-1), 1)) rfl) rfl (v := (-1)) rfl ?_
  refine k_icmp_eq C (tgt := 10) (pc2 := 8) (dkAt dkX3_readNumber 3 (q := (5, .if_icmp .eq 5, 3)) rfl) (by decide) rfl h (fun h => ?_) (fun h => ?_)
  · refine k_aload_n C (pc2 := 11) (dkAt dkX3_readNumber 6 (q := (10, .aload_n 0, 1)) rfl) rfl rfl 0 rfl ?_
    refine kf_X3_12 C (pc2 := 14) (o := o0) (o2 := o0 + 1) h0.1 rfl (dkAt dkX3_readNumber 7 (q := (11, .getfield 12, 3)) rfl) rfl ?_
    obtain ⟨q1, e2, h⟩ := ob_inv h
    refine kc_V C (As := []) (st2 := [.int q1]) (ct_X5_numberToken l G sh xs (o0 + 1) h0.2.1 M q1 e2) (cl_X3_125 (hts_of C) ⟨Nat.le_of_ble_eq_true rfl, Nat.le_of_ble_eq_true rfl⟩ rfl rfl) h0.2.1.1 rfl rfl rfl rfl rfl (Nat.le_of_ble_eq_true rfl) (dkAt dkX3_readNumber 8 (q := (14, .invokevirtual 125, 3)) rfl) ⟨Nat.zero_le _, Nat.zero_le _⟩ (pc2 := 17) rfl rfl ?_
    refine k_istore_n C (pc2 := 18) (dkAt dkX3_readNumber 9 (q := (17, .istore_n 3, 1)) rfl) rfl rfl (by decide) (lv2 := [(3, .int q1), (0, rA G o0), (1, .int x1), (2, .int x2)]) rfl ?_
    refine k_iload_n C (pc2 := 19) (dkAt dkX3_readNumber 10 (q := (18, .iload_n 3, 1)) rfl) rfl rfl 0 rfl ?_
    refine k_iconst C (pc2 := 20) (dkAt dkX3_readNumber 11 (q := (19, .iconst (-1), 1)) rfl) rfl (v := (-1)) rfl ?_
    refine k_icmp_eq C (tgt := 32) (pc2 := 23) (dkAt dkX3_readNumber 12 (q := (20, .if_icmp .eq 12, 3)) rfl) (by decide) rfl h (fun h => ?_) (fun h => ?_)
    · refine k_aload_n C (pc2 := 33) (dkAt dkX3_readNumber 18 (q := (32, .aload_n 0, 1)) rfl) rfl rfl 1 rfl ?_
      refine k_aload_n C (pc2 := 34) (dkAt dkX3_readNumber 19 (q := (33, .aload_n 0, 1)) rfl) rfl rfl 1 rfl ?_
      refine kf_X3_12 C (pc2 := 37) (o := o0) (o2 := o0 + 1) h0.1 rfl (dkAt dkX3_readNumber 20 (q := (34, .getfield 12, 3)) rfl) rfl ?_
      refine kf_X3_41 C (pc2 := 40) (o := o0 + 1) (o2 := 0) h0.2.1.1 (dkAt dkX3_readNumber 21 (q := (37, .getfield 41, 3)) rfl) rfl ?_
      refine kp_X3_25 C (pc2 := 43) (o := o0) h0.1 (dkAt dkX3_readNumber 22 (q := (40, .putfield 25, 3)) rfl) rfl h (fun M3 h => ?_)
      refine k_iconst C (pc2 := 44) (dkAt dkX3_readNumber 23 (q := (43, .iconst (-1), 1)) rfl) rfl (v := (-1)) rfl ?_
      exact k_iret C (dkAt dkX3_readNumber 24 (q := (44, .ireturn, 1)) rfl) (pe2 (Option.some.inj h)) rfl (pe1 (Option.some.inj h)) rfl
    · refine k_iload_n C (pc2 := 24) (dkAt dkX3_readNumber 13 (q := (23, .iload_n 3, 1)) rfl) rfl rfl 0 rfl ?_
      refine k_iload_n C (pc2 := 25) (dkAt dkX3_readNumber 14 (q := (24, .iload_n 1, 1)) rfl) rfl rfl 2 rfl ?_
      refine k_iload_n C (pc2 := 26) (dkAt dkX3_readNumber 15 (q := (25, .iload_n 2, 1)) rfl) rfl rfl 3 rfl ?_
      obtain ⟨q4, e5, h⟩ := ob_inv h
      refine kc_SN C (As := [.int q1, .int x1, .int x2]) (st2 := [.int q4]) (ct_X7_within l G sh xs q1 x1 x2 M q4 e5) (cl_X3_129 (hts_of C) C.2.2.2.2.1 ⟨Nat.le_of_ble_eq_true rfl, Nat.le_of_ble_eq_true rfl⟩ rfl rfl) rfl rfl (Nat.le_of_ble_eq_true rfl) (dkAt dkX3_readNumber 16 (q := (26, .invokestatic 129, 3)) rfl) ⟨Nat.zero_le _, Nat.zero_le _⟩ (pc2 := 29) rfl rfl ?_
      refine k_if_ne C (tgt := 45) (pc2 := 32) (dkAt dkX3_readNumber 17 (q := (29, .ifCond .ne 16, 3)) rfl) (by decide) rfl h (fun h => ?_) (fun h => ?_)
      · refine k_aload_n C (pc2 := 46) (dkAt dkX3_readNumber 25 (q := (45, .aload_n 0, 1)) rfl) rfl rfl 1 rfl ?_
        refine kf_X3_12 C (pc2 := 49) (o := o0) (o2 := o0 + 1) h0.1 rfl (dkAt dkX3_readNumber 26 (q := (46, .getfield 12, 3)) rfl) rfl ?_
        obtain ⟨q6, e7, h⟩ := ob_inv h
        refine kc_V C (As := []) (st2 := []) (ct_X5_nextToken l G sh xs (o0 + 1) h0.2.1 M q6 e7) (cl_X3_38 (hts_of C) ⟨Nat.le_of_ble_eq_true rfl, Nat.le_of_ble_eq_true rfl⟩ rfl rfl) h0.2.1.1 rfl rfl rfl rfl rfl (Nat.le_of_ble_eq_true rfl) (dkAt dkX3_readNumber 27 (q := (49, .invokevirtual 38, 3)) rfl) ⟨Nat.zero_le _, Nat.zero_le _⟩ (pc2 := 52) rfl rfl ?_
        refine k_iload_n C (pc2 := 53) (dkAt dkX3_readNumber 28 (q := (52, .iload_n 3, 1)) rfl) rfl rfl 0 rfl ?_
        exact k_iret C (dkAt dkX3_readNumber 29 (q := (53, .ireturn, 1)) rfl) (pe2 (Option.some.inj h)) rfl (pe1 (Option.some.inj h)) rfl
      · refine k_aload_n C (pc2 := 33) (dkAt dkX3_readNumber 18 (q := (32, .aload_n 0, 1)) rfl) rfl rfl 1 rfl ?_
        refine k_aload_n C (pc2 := 34) (dkAt dkX3_readNumber 19 (q := (33, .aload_n 0, 1)) rfl) rfl rfl 1 rfl ?_
        refine kf_X3_12 C (pc2 := 37) (o := o0) (o2 := o0 + 1) h0.1 rfl (dkAt dkX3_readNumber 20 (q := (34, .getfield 12, 3)) rfl) rfl ?_
        refine kf_X3_41 C (pc2 := 40) (o := o0 + 1) (o2 := 0) h0.2.1.1 (dkAt dkX3_readNumber 21 (q := (37, .getfield 41, 3)) rfl) rfl ?_
        refine kp_X3_25 C (pc2 := 43) (o := o0) h0.1 (dkAt dkX3_readNumber 22 (q := (40, .putfield 25, 3)) rfl) rfl h (fun M8 h => ?_)
        refine k_iconst C (pc2 := 44) (dkAt dkX3_readNumber 23 (q := (43, .iconst (-1), 1)) rfl) rfl (v := (-1)) rfl ?_
        exact k_iret C (dkAt dkX3_readNumber 24 (q := (44, .ireturn, 1)) rfl) (pe2 (Option.some.inj h)) rfl (pe1 (Option.some.inj h)) rfl
  · refine k_iconst C (pc2 := 9) (dkAt dkX3_readNumber 4 (q := (8, .iconst (-1), 1)) rfl) rfl (v := (-1)) rfl ?_
    exact k_iret C (dkAt dkX3_readNumber 5 (q := (9, .ireturn, 1)) rfl) (pe2 (Option.some.inj h)) rfl (pe1 (Option.some.inj h)) rfl
set_option maxRecDepth 100000 in
set_option maxHeartbeats 4000000 in
theorem ct_X3_readDays (l : Launch) (G : GG) (sh : Sh) (xs : List va_E) (o0 : Nat) (h0 : isRd sh o0) (M : Mm) (r : Mm) (h : f_X3_readDays o0 M = some r) : Ct l yX3_readDays cX3_readDays 2 none rm_X3_readDays G [rA G o0] sh M xs none sh r xs 0 0 := by
  refine ct_of (by decide) (Nat.le_of_ble_eq_true rfl) ?_
  intro p e s m args below meth c hnm C
  refine k_lv [0] (lv2 := [(0, rA G o0)]) rfl ?_
  unfold f_X3_readDays at h
  refine k_aload_n C (pc2 := 1) (dkAt dkX3_readDays 0 (q := (0, .aload_n 0, 1)) rfl) rfl rfl 0 rfl ?_
  refine kf_X3_12 C (pc2 := 4) (o := o0) (o2 := o0 + 1) h0.1 rfl (dkAt dkX3_readDays 1 (q := (1, .getfield 12, 3)) rfl) rfl ?_
  obtain ⟨q1, e2, h⟩ := ob_inv h
  refine kc_V C (As := []) (st2 := []) (ct_X5_nextToken l G sh xs (o0 + 1) h0.2.1 M q1 e2) (cl_X3_38 (hts_of C) ⟨Nat.le_of_ble_eq_true rfl, Nat.le_of_ble_eq_true rfl⟩ rfl rfl) h0.2.1.1 rfl rfl rfl rfl rfl (Nat.le_of_ble_eq_true rfl) (dkAt dkX3_readDays 2 (q := (4, .invokevirtual 38, 3)) rfl) ⟨Nat.zero_le _, Nat.zero_le _⟩ (pc2 := 7) rfl rfl ?_
  refine k_aload_n C (pc2 := 8) (dkAt dkX3_readDays 3 (q := (7, .aload_n 0, 1)) rfl) rfl rfl 0 rfl ?_
  refine k_iconst C (pc2 := 9) (dkAt dkX3_readDays 4 (q := (8, .iconst 1, 1)) rfl) rfl (v := 1) rfl ?_
  refine k_bipush C (pc2 := 11) (dkAt dkX3_readDays 5 (q := (9, .bipush 14, 2)) rfl) rfl (v := 14) rfl ?_
  obtain ⟨q3, e4, h⟩ := ob_inv h
  refine kc_V C (As := [.int 1, .int 14]) (st2 := [.int q3.2]) (ct_X3_readNumber l G sh xs o0 h0 1 14 q1 q3 e4) (cl_X3_90 (hts_of C) ⟨Nat.le_of_ble_eq_true rfl, Nat.le_of_ble_eq_true rfl⟩ rfl rfl) h0.1 rfl rfl rfl rfl rfl (Nat.le_of_ble_eq_true rfl) (dkAt dkX3_readDays 6 (q := (11, .invokevirtual 90, 3)) rfl) ⟨Nat.zero_le _, Nat.zero_le _⟩ (pc2 := 14) rfl rfl ?_
  refine kb_istore_n C (pc2 := 15) (dkAt dkX3_readDays 7 (q := (14, .istore_n 1, 1)) rfl) rfl rfl (by decide) (lv2 := fun v5 => [(1, .int v5), (0, rA G o0)]) (fun _ => rfl) h (fun v5 h => ?_)
  refine k_aload_n C (pc2 := 16) (dkAt dkX3_readDays 8 (q := (15, .aload_n 0, 1)) rfl) rfl rfl 1 rfl ?_
  refine kf_X3_25 C (pc2 := 19) (o := o0) (o2 := 0) h0.1 (dkAt dkX3_readDays 9 (q := (16, .getfield 25, 3)) rfl) rfl ?_
  refine k_iconst C (pc2 := 20) (dkAt dkX3_readDays 10 (q := (19, .iconst (-1), 1)) rfl) rfl (v := (-1)) rfl ?_
  refine k_icmp_ne C (tgt := 31) (pc2 := 23) (dkAt dkX3_readDays 11 (q := (20, .if_icmp .ne 11, 3)) rfl) (by decide) rfl h (fun h => ?_) (fun h => ?_)
  · exact k_vret C (dkAt dkX3_readDays 16 (q := (31, .return_, 1)) rfl) rfl (Option.some.inj h) rfl
  · refine k_aload_n C (pc2 := 24) (dkAt dkX3_readDays 12 (q := (23, .aload_n 0, 1)) rfl) rfl rfl 1 rfl ?_
    refine kf_X3_21 C (pc2 := 27) (o := o0) (o2 := o0 + 3) h0.1 rfl (dkAt dkX3_readDays 13 (q := (24, .getfield 21, 3)) rfl) rfl ?_
    refine k_iload_n C (pc2 := 28) (dkAt dkX3_readDays 14 (q := (27, .iload_n 1, 1)) rfl) rfl rfl 0 rfl ?_
    obtain ⟨q6, e7, h⟩ := ob_inv h
    refine kc_V C (As := [.int v5]) (st2 := []) (ct_X1_changeDays l G sh xs (o0 + 3) h0.2.2 v5 q3.1 q6 e7) (cl_X3_94 (hts_of C) ⟨Nat.le_of_ble_eq_true rfl, Nat.le_of_ble_eq_true rfl⟩ rfl rfl) h0.2.2.1 rfl rfl rfl rfl rfl (Nat.le_of_ble_eq_true rfl) (dkAt dkX3_readDays 15 (q := (28, .invokevirtual 94, 3)) rfl) ⟨Nat.zero_le _, Nat.zero_le _⟩ (pc2 := 31) rfl rfl ?_
    exact k_vret C (dkAt dkX3_readDays 16 (q := (31, .return_, 1)) rfl) rfl (Option.some.inj h) rfl
set_option maxRecDepth 100000 in
set_option maxHeartbeats 4000000 in
theorem ct_X3_readEvening (l : Launch) (G : GG) (sh : Sh) (xs : List va_E) (o0 : Nat) (h0 : isRd sh o0) (x1 : Int32) (M : Mm) (r : Mm) (h : f_X3_readEvening o0 x1 M = some r) : Ct l yX3_readEvening cX3_readEvening 4 none rm_X3_readEvening G [rA G o0, .int x1] sh M xs none sh r xs 0 0 := by
  refine ct_of (by decide) (Nat.le_of_ble_eq_true rfl) ?_
  intro p e s m args below meth c hnm C
  refine k_lv [0, 1] (lv2 := [(0, rA G o0), (1, .int x1)]) rfl ?_
  unfold f_X3_readEvening at h
  refine k_aload_n C (pc2 := 1) (dkAt dkX3_readEvening 0 (q := (0, .aload_n 0, 1)) rfl) rfl rfl 0 rfl ?_
  refine kf_X3_12 C (pc2 := 4) (o := o0) (o2 := o0 + 1) h0.1 rfl (dkAt dkX3_readEvening 1 (q := (1, .getfield 12, 3)) rfl) rfl ?_
  obtain ⟨q1, e2, h⟩ := ob_inv h
  refine kc_V C (As := []) (st2 := []) (ct_X5_nextToken l G sh xs (o0 + 1) h0.2.1 M q1 e2) (cl_X3_38 (hts_of C) ⟨Nat.le_of_ble_eq_true rfl, Nat.le_of_ble_eq_true rfl⟩ rfl rfl) h0.2.1.1 rfl rfl rfl rfl rfl (Nat.le_of_ble_eq_true rfl) (dkAt dkX3_readEvening 2 (q := (4, .invokevirtual 38, 3)) rfl) ⟨Nat.zero_le _, Nat.zero_le _⟩ (pc2 := 7) rfl rfl ?_
  refine k_aload_n C (pc2 := 8) (dkAt dkX3_readEvening 3 (q := (7, .aload_n 0, 1)) rfl) rfl rfl 0 rfl ?_
  refine k_iconst C (pc2 := 9) (dkAt dkX3_readEvening 4 (q := (8, .iconst 0, 1)) rfl) rfl (v := 0) rfl ?_
  refine k_aload_n C (pc2 := 10) (dkAt dkX3_readEvening 5 (q := (9, .aload_n 0, 1)) rfl) rfl rfl 0 rfl ?_
  refine kf_X3_21 C (pc2 := 13) (o := o0) (o2 := o0 + 3) h0.1 rfl (dkAt dkX3_readEvening 6 (q := (10, .getfield 21, 3)) rfl) rfl ?_
  refine kf_X3_102 C (pc2 := 16) (o := o0 + 3) (o2 := 0) h0.2.2.1 (dkAt dkX3_readEvening 7 (q := (13, .getfield 102, 3)) rfl) rfl ?_
  refine k_iconst C (pc2 := 17) (dkAt dkX3_readEvening 8 (q := (16, .iconst 1, 1)) rfl) rfl (v := 1) rfl ?_
  refine k_isub C (pc2 := 18) (dkAt dkX3_readEvening 9 (q := (17, .isub, 1)) rfl) rfl ?_
  obtain ⟨q3, e4, h⟩ := ob_inv h
  refine kc_V C (As := [.int 0, .int ((q1.1 (o0 + 3) 1) - 1)]) (st2 := [.int q3.2]) (ct_X3_readNumber l G sh xs o0 h0 0 ((q1.1 (o0 + 3) 1) - 1) q1 q3 e4) (cl_X3_90 (hts_of C) ⟨Nat.le_of_ble_eq_true rfl, Nat.le_of_ble_eq_true rfl⟩ rfl rfl) h0.1 rfl rfl rfl rfl rfl (Nat.le_of_ble_eq_true rfl) (dkAt dkX3_readEvening 10 (q := (18, .invokevirtual 90, 3)) rfl) ⟨Nat.zero_le _, Nat.zero_le _⟩ (pc2 := 21) rfl rfl ?_
  refine kb_istore_n C (pc2 := 22) (dkAt dkX3_readEvening 11 (q := (21, .istore_n 2, 1)) rfl) rfl rfl (by decide) (lv2 := fun v5 => [(2, .int v5), (0, rA G o0), (1, .int x1)]) (fun _ => rfl) h (fun v5 h => ?_)
  refine k_aload_n C (pc2 := 23) (dkAt dkX3_readEvening 12 (q := (22, .aload_n 0, 1)) rfl) rfl rfl 1 rfl ?_
  refine k_iconst C (pc2 := 24) (dkAt dkX3_readEvening 13 (q := (23, .iconst 0, 1)) rfl) rfl (v := 0) rfl ?_
  refine k_aload_n C (pc2 := 25) (dkAt dkX3_readEvening 14 (q := (24, .aload_n 0, 1)) rfl) rfl rfl 1 rfl ?_
  refine kf_X3_21 C (pc2 := 28) (o := o0) (o2 := o0 + 3) h0.1 rfl (dkAt dkX3_readEvening 15 (q := (25, .getfield 21, 3)) rfl) rfl ?_
  refine kf_X3_105 C (pc2 := 31) (o := o0 + 3) (o2 := 0) h0.2.2.1 (dkAt dkX3_readEvening 16 (q := (28, .getfield 105, 3)) rfl) rfl ?_
  refine k_iconst C (pc2 := 32) (dkAt dkX3_readEvening 17 (q := (31, .iconst 1, 1)) rfl) rfl (v := 1) rfl ?_
  refine k_isub C (pc2 := 33) (dkAt dkX3_readEvening 18 (q := (32, .isub, 1)) rfl) rfl ?_
  obtain ⟨q6, e7, h⟩ := ob_inv h
  refine kc_V C (As := [.int 0, .int ((q3.1.1 (o0 + 3) 0) - 1)]) (st2 := [.int q6.2]) (ct_X3_readNumber l G sh xs o0 h0 0 ((q3.1.1 (o0 + 3) 0) - 1) q3.1 q6 e7) (cl_X3_90 (hts_of C) ⟨Nat.le_of_ble_eq_true rfl, Nat.le_of_ble_eq_true rfl⟩ rfl rfl) h0.1 rfl rfl rfl rfl rfl (Nat.le_of_ble_eq_true rfl) (dkAt dkX3_readEvening 19 (q := (33, .invokevirtual 90, 3)) rfl) ⟨Nat.zero_le _, Nat.zero_le _⟩ (pc2 := 36) rfl rfl ?_
  refine kb_istore_n C (pc2 := 37) (dkAt dkX3_readEvening 20 (q := (36, .istore_n 3, 1)) rfl) rfl rfl (by decide) (lv2 := fun v8 => [(3, .int v8), (2, .int v5), (0, rA G o0), (1, .int x1)]) (fun _ => rfl) h (fun v8 h => ?_)
  refine k_aload_n C (pc2 := 38) (dkAt dkX3_readEvening 21 (q := (37, .aload_n 0, 1)) rfl) rfl rfl 2 rfl ?_
  refine kf_X3_25 C (pc2 := 41) (o := o0) (o2 := 0) h0.1 (dkAt dkX3_readEvening 22 (q := (38, .getfield 25, 3)) rfl) rfl ?_
  refine k_iconst C (pc2 := 42) (dkAt dkX3_readEvening 23 (q := (41, .iconst (-1), 1)) rfl) rfl (v := (-1)) rfl ?_
  refine k_icmp_ne C (tgt := 59) (pc2 := 45) (dkAt dkX3_readEvening 24 (q := (42, .if_icmp .ne 17, 3)) rfl) (by decide) rfl h (fun h => ?_) (fun h => ?_)
  · exact k_vret C (dkAt dkX3_readEvening 33 (q := (59, .return_, 1)) rfl) rfl (Option.some.inj h) rfl
  · refine k_aload_n C (pc2 := 46) (dkAt dkX3_readEvening 25 (q := (45, .aload_n 0, 1)) rfl) rfl rfl 2 rfl ?_
    refine kf_X3_21 C (pc2 := 49) (o := o0) (o2 := o0 + 3) h0.1 rfl (dkAt dkX3_readEvening 26 (q := (46, .getfield 21, 3)) rfl) rfl ?_
    refine kf_X3_107 C (pc2 := 52) (o := o0 + 3) (o2 := o0 + 4) h0.2.2.1 rfl (dkAt dkX3_readEvening 27 (q := (49, .getfield 107, 3)) rfl) rfl ?_
    refine k_iload_n C (pc2 := 53) (dkAt dkX3_readEvening 28 (q := (52, .iload_n 2, 1)) rfl) rfl rfl 1 rfl ?_
    refine k_aa11 C (pc2 := 54) (o := o0 + 4) (o2 := o0 + 5 + v5.toNatClampNeg) (nA := 8) h0.2.2.2.1 rfl (dkAt dkX3_readEvening 29 (q := (53, .aaload, 1)) rfl) rfl h (fun h hl9 => ?_)
    refine k_iload_n C (pc2 := 55) (dkAt dkX3_readEvening 30 (q := (54, .iload_n 3, 1)) rfl) rfl rfl 0 rfl ?_
    refine k_iload_n C (pc2 := 56) (dkAt dkX3_readEvening 31 (q := (55, .iload_n 1, 1)) rfl) rfl rfl 3 rfl ?_
    obtain ⟨q10, e11, h⟩ := ob_inv h
    refine kc_V C (As := [.int v8, .int x1]) (st2 := []) (ct_X2_changeFree l G sh xs (o0 + 5 + v5.toNatClampNeg) (h0.2.2.2.2 _ hl9) v8 x1 q6.1 q10 e11) (cl_X3_111 (hts_of C) ⟨Nat.le_of_ble_eq_true rfl, Nat.le_of_ble_eq_true rfl⟩ rfl rfl) (h0.2.2.2.2 _ hl9) rfl rfl rfl rfl rfl (Nat.le_of_ble_eq_true rfl) (dkAt dkX3_readEvening 32 (q := (56, .invokevirtual 111, 3)) rfl) ⟨Nat.zero_le _, Nat.zero_le _⟩ (pc2 := 59) rfl rfl ?_
    exact k_vret C (dkAt dkX3_readEvening 33 (q := (59, .return_, 1)) rfl) rfl (Option.some.inj h) rfl
set_option maxRecDepth 100000 in
set_option maxHeartbeats 4000000 in
theorem ct_X3_readHost (l : Launch) (G : GG) (sh : Sh) (xs : List va_E) (o0 : Nat) (h0 : isRd sh o0) (M : Mm) (r : Mm) (h : f_X3_readHost o0 M = some r) : Ct l yX3_readHost cX3_readHost 2 none rm_X3_readHost G [rA G o0] sh M xs none sh r xs 0 0 := by
  refine ct_of (by decide) (Nat.le_of_ble_eq_true rfl) ?_
  intro p e s m args below meth c hnm C
  refine k_lv [0] (lv2 := [(0, rA G o0)]) rfl ?_
  unfold f_X3_readHost at h
  refine k_aload_n C (pc2 := 1) (dkAt dkX3_readHost 0 (q := (0, .aload_n 0, 1)) rfl) rfl rfl 0 rfl ?_
  refine kf_X3_12 C (pc2 := 4) (o := o0) (o2 := o0 + 1) h0.1 rfl (dkAt dkX3_readHost 1 (q := (1, .getfield 12, 3)) rfl) rfl ?_
  obtain ⟨q1, e2, h⟩ := ob_inv h
  refine kc_V C (As := []) (st2 := []) (ct_X5_nextToken l G sh xs (o0 + 1) h0.2.1 M q1 e2) (cl_X3_38 (hts_of C) ⟨Nat.le_of_ble_eq_true rfl, Nat.le_of_ble_eq_true rfl⟩ rfl rfl) h0.2.1.1 rfl rfl rfl rfl rfl (Nat.le_of_ble_eq_true rfl) (dkAt dkX3_readHost 2 (q := (4, .invokevirtual 38, 3)) rfl) ⟨Nat.zero_le _, Nat.zero_le _⟩ (pc2 := 7) rfl rfl ?_
  refine k_aload_n C (pc2 := 8) (dkAt dkX3_readHost 3 (q := (7, .aload_n 0, 1)) rfl) rfl rfl 0 rfl ?_
  refine k_iconst C (pc2 := 9) (dkAt dkX3_readHost 4 (q := (8, .iconst 0, 1)) rfl) rfl (v := 0) rfl ?_
  refine k_aload_n C (pc2 := 10) (dkAt dkX3_readHost 5 (q := (9, .aload_n 0, 1)) rfl) rfl rfl 0 rfl ?_
  refine kf_X3_21 C (pc2 := 13) (o := o0) (o2 := o0 + 3) h0.1 rfl (dkAt dkX3_readHost 6 (q := (10, .getfield 21, 3)) rfl) rfl ?_
  refine kf_X3_102 C (pc2 := 16) (o := o0 + 3) (o2 := 0) h0.2.2.1 (dkAt dkX3_readHost 7 (q := (13, .getfield 102, 3)) rfl) rfl ?_
  refine k_iconst C (pc2 := 17) (dkAt dkX3_readHost 8 (q := (16, .iconst 1, 1)) rfl) rfl (v := 1) rfl ?_
  refine k_isub C (pc2 := 18) (dkAt dkX3_readHost 9 (q := (17, .isub, 1)) rfl) rfl ?_
  obtain ⟨q3, e4, h⟩ := ob_inv h
  refine kc_V C (As := [.int 0, .int ((q1.1 (o0 + 3) 1) - 1)]) (st2 := [.int q3.2]) (ct_X3_readNumber l G sh xs o0 h0 0 ((q1.1 (o0 + 3) 1) - 1) q1 q3 e4) (cl_X3_90 (hts_of C) ⟨Nat.le_of_ble_eq_true rfl, Nat.le_of_ble_eq_true rfl⟩ rfl rfl) h0.1 rfl rfl rfl rfl rfl (Nat.le_of_ble_eq_true rfl) (dkAt dkX3_readHost 10 (q := (18, .invokevirtual 90, 3)) rfl) ⟨Nat.zero_le _, Nat.zero_le _⟩ (pc2 := 21) rfl rfl ?_
  refine kb_istore_n C (pc2 := 22) (dkAt dkX3_readHost 11 (q := (21, .istore_n 1, 1)) rfl) rfl rfl (by decide) (lv2 := fun v5 => [(1, .int v5), (0, rA G o0)]) (fun _ => rfl) h (fun v5 h => ?_)
  refine k_aload_n C (pc2 := 23) (dkAt dkX3_readHost 12 (q := (22, .aload_n 0, 1)) rfl) rfl rfl 1 rfl ?_
  refine kf_X3_25 C (pc2 := 26) (o := o0) (o2 := 0) h0.1 (dkAt dkX3_readHost 13 (q := (23, .getfield 25, 3)) rfl) rfl ?_
  refine k_iconst C (pc2 := 27) (dkAt dkX3_readHost 14 (q := (26, .iconst (-1), 1)) rfl) rfl (v := (-1)) rfl ?_
  refine k_icmp_ne C (tgt := 38) (pc2 := 30) (dkAt dkX3_readHost 15 (q := (27, .if_icmp .ne 11, 3)) rfl) (by decide) rfl h (fun h => ?_) (fun h => ?_)
  · exact k_vret C (dkAt dkX3_readHost 20 (q := (38, .return_, 1)) rfl) rfl (Option.some.inj h) rfl
  · refine k_aload_n C (pc2 := 31) (dkAt dkX3_readHost 16 (q := (30, .aload_n 0, 1)) rfl) rfl rfl 1 rfl ?_
    refine kf_X3_21 C (pc2 := 34) (o := o0) (o2 := o0 + 3) h0.1 rfl (dkAt dkX3_readHost 17 (q := (31, .getfield 21, 3)) rfl) rfl ?_
    refine k_iload_n C (pc2 := 35) (dkAt dkX3_readHost 18 (q := (34, .iload_n 1, 1)) rfl) rfl rfl 0 rfl ?_
    refine kp_X3_117 C (pc2 := 38) (o := o0 + 3) h0.2.2.1 (dkAt dkX3_readHost 19 (q := (35, .putfield 117, 3)) rfl) rfl h (fun M6 h => ?_)
    exact k_vret C (dkAt dkX3_readHost 20 (q := (38, .return_, 1)) rfl) rfl (Option.some.inj h) rfl
set_option maxRecDepth 100000 in
set_option maxHeartbeats 4000000 in
theorem ct_X3_readLeast (l : Launch) (G : GG) (sh : Sh) (xs : List va_E) (o0 : Nat) (h0 : isRd sh o0) (M : Mm) (r : Mm) (h : f_X3_readLeast o0 M = some r) : Ct l yX3_readLeast cX3_readLeast 2 none rm_X3_readLeast G [rA G o0] sh M xs none sh r xs 0 0 := by
  refine ct_of (by decide) (Nat.le_of_ble_eq_true rfl) ?_
  intro p e s m args below meth c hnm C
  refine k_lv [0] (lv2 := [(0, rA G o0)]) rfl ?_
  unfold f_X3_readLeast at h
  refine k_aload_n C (pc2 := 1) (dkAt dkX3_readLeast 0 (q := (0, .aload_n 0, 1)) rfl) rfl rfl 0 rfl ?_
  refine kf_X3_12 C (pc2 := 4) (o := o0) (o2 := o0 + 1) h0.1 rfl (dkAt dkX3_readLeast 1 (q := (1, .getfield 12, 3)) rfl) rfl ?_
  obtain ⟨q1, e2, h⟩ := ob_inv h
  refine kc_V C (As := []) (st2 := []) (ct_X5_nextToken l G sh xs (o0 + 1) h0.2.1 M q1 e2) (cl_X3_38 (hts_of C) ⟨Nat.le_of_ble_eq_true rfl, Nat.le_of_ble_eq_true rfl⟩ rfl rfl) h0.2.1.1 rfl rfl rfl rfl rfl (Nat.le_of_ble_eq_true rfl) (dkAt dkX3_readLeast 2 (q := (4, .invokevirtual 38, 3)) rfl) ⟨Nat.zero_le _, Nat.zero_le _⟩ (pc2 := 7) rfl rfl ?_
  refine k_aload_n C (pc2 := 8) (dkAt dkX3_readLeast 3 (q := (7, .aload_n 0, 1)) rfl) rfl rfl 0 rfl ?_
  refine k_iconst C (pc2 := 9) (dkAt dkX3_readLeast 4 (q := (8, .iconst 1, 1)) rfl) rfl (v := 1) rfl ?_
  refine k_bipush C (pc2 := 11) (dkAt dkX3_readLeast 5 (q := (9, .bipush 8, 2)) rfl) rfl (v := 8) rfl ?_
  obtain ⟨q3, e4, h⟩ := ob_inv h
  refine kc_V C (As := [.int 1, .int 8]) (st2 := [.int q3.2]) (ct_X3_readNumber l G sh xs o0 h0 1 8 q1 q3 e4) (cl_X3_90 (hts_of C) ⟨Nat.le_of_ble_eq_true rfl, Nat.le_of_ble_eq_true rfl⟩ rfl rfl) h0.1 rfl rfl rfl rfl rfl (Nat.le_of_ble_eq_true rfl) (dkAt dkX3_readLeast 6 (q := (11, .invokevirtual 90, 3)) rfl) ⟨Nat.zero_le _, Nat.zero_le _⟩ (pc2 := 14) rfl rfl ?_
  refine kb_istore_n C (pc2 := 15) (dkAt dkX3_readLeast 7 (q := (14, .istore_n 1, 1)) rfl) rfl rfl (by decide) (lv2 := fun v5 => [(1, .int v5), (0, rA G o0)]) (fun _ => rfl) h (fun v5 h => ?_)
  refine k_aload_n C (pc2 := 16) (dkAt dkX3_readLeast 8 (q := (15, .aload_n 0, 1)) rfl) rfl rfl 1 rfl ?_
  refine kf_X3_25 C (pc2 := 19) (o := o0) (o2 := 0) h0.1 (dkAt dkX3_readLeast 9 (q := (16, .getfield 25, 3)) rfl) rfl ?_
  refine k_iconst C (pc2 := 20) (dkAt dkX3_readLeast 10 (q := (19, .iconst (-1), 1)) rfl) rfl (v := (-1)) rfl ?_
  refine k_icmp_ne C (tgt := 31) (pc2 := 23) (dkAt dkX3_readLeast 11 (q := (20, .if_icmp .ne 11, 3)) rfl) (by decide) rfl h (fun h => ?_) (fun h => ?_)
  · exact k_vret C (dkAt dkX3_readLeast 16 (q := (31, .return_, 1)) rfl) rfl (Option.some.inj h) rfl
  · refine k_aload_n C (pc2 := 24) (dkAt dkX3_readLeast 12 (q := (23, .aload_n 0, 1)) rfl) rfl rfl 1 rfl ?_
    refine kf_X3_21 C (pc2 := 27) (o := o0) (o2 := o0 + 3) h0.1 rfl (dkAt dkX3_readLeast 13 (q := (24, .getfield 21, 3)) rfl) rfl ?_
    refine k_iload_n C (pc2 := 28) (dkAt dkX3_readLeast 14 (q := (27, .iload_n 1, 1)) rfl) rfl rfl 0 rfl ?_
    refine kp_X3_119 C (pc2 := 31) (o := o0 + 3) h0.2.2.1 (dkAt dkX3_readLeast 15 (q := (28, .putfield 119, 3)) rfl) rfl h (fun M6 h => ?_)
    exact k_vret C (dkAt dkX3_readLeast 16 (q := (31, .return_, 1)) rfl) rfl (Option.some.inj h) rfl
set_option maxRecDepth 100000 in
set_option maxHeartbeats 4000000 in
theorem ct_X3_readLose (l : Launch) (G : GG) (sh : Sh) (xs : List va_E) (o0 : Nat) (h0 : isRd sh o0) (M : Mm) (r : Mm) (h : f_X3_readLose o0 M = some r) : Ct l yX3_readLose cX3_readLose 2 none rm_X3_readLose G [rA G o0] sh M xs none sh r xs 0 0 := by
  refine ct_of (by decide) (Nat.le_of_ble_eq_true rfl) ?_
  intro p e s m args below meth c hnm C
  refine k_lv [0] (lv2 := [(0, rA G o0)]) rfl ?_
  unfold f_X3_readLose at h
  refine k_aload_n C (pc2 := 1) (dkAt dkX3_readLose 0 (q := (0, .aload_n 0, 1)) rfl) rfl rfl 0 rfl ?_
  refine kf_X3_12 C (pc2 := 4) (o := o0) (o2 := o0 + 1) h0.1 rfl (dkAt dkX3_readLose 1 (q := (1, .getfield 12, 3)) rfl) rfl ?_
  obtain ⟨q1, e2, h⟩ := ob_inv h
  refine kc_V C (As := []) (st2 := []) (ct_X5_nextToken l G sh xs (o0 + 1) h0.2.1 M q1 e2) (cl_X3_38 (hts_of C) ⟨Nat.le_of_ble_eq_true rfl, Nat.le_of_ble_eq_true rfl⟩ rfl rfl) h0.2.1.1 rfl rfl rfl rfl rfl (Nat.le_of_ble_eq_true rfl) (dkAt dkX3_readLose 2 (q := (4, .invokevirtual 38, 3)) rfl) ⟨Nat.zero_le _, Nat.zero_le _⟩ (pc2 := 7) rfl rfl ?_
  refine k_aload_n C (pc2 := 8) (dkAt dkX3_readLose 3 (q := (7, .aload_n 0, 1)) rfl) rfl rfl 0 rfl ?_
  refine k_iconst C (pc2 := 9) (dkAt dkX3_readLose 4 (q := (8, .iconst 0, 1)) rfl) rfl (v := 0) rfl ?_
  refine k_bipush C (pc2 := 11) (dkAt dkX3_readLose 5 (q := (9, .bipush 12, 2)) rfl) rfl (v := 12) rfl ?_
  obtain ⟨q3, e4, h⟩ := ob_inv h
  refine kc_V C (As := [.int 0, .int 12]) (st2 := [.int q3.2]) (ct_X3_readNumber l G sh xs o0 h0 0 12 q1 q3 e4) (cl_X3_90 (hts_of C) ⟨Nat.le_of_ble_eq_true rfl, Nat.le_of_ble_eq_true rfl⟩ rfl rfl) h0.1 rfl rfl rfl rfl rfl (Nat.le_of_ble_eq_true rfl) (dkAt dkX3_readLose 6 (q := (11, .invokevirtual 90, 3)) rfl) ⟨Nat.zero_le _, Nat.zero_le _⟩ (pc2 := 14) rfl rfl ?_
  refine kb_istore_n C (pc2 := 15) (dkAt dkX3_readLose 7 (q := (14, .istore_n 1, 1)) rfl) rfl rfl (by decide) (lv2 := fun v5 => [(1, .int v5), (0, rA G o0)]) (fun _ => rfl) h (fun v5 h => ?_)
  refine k_aload_n C (pc2 := 16) (dkAt dkX3_readLose 8 (q := (15, .aload_n 0, 1)) rfl) rfl rfl 1 rfl ?_
  refine kf_X3_25 C (pc2 := 19) (o := o0) (o2 := 0) h0.1 (dkAt dkX3_readLose 9 (q := (16, .getfield 25, 3)) rfl) rfl ?_
  refine k_iconst C (pc2 := 20) (dkAt dkX3_readLose 10 (q := (19, .iconst (-1), 1)) rfl) rfl (v := (-1)) rfl ?_
  refine k_icmp_ne C (tgt := 31) (pc2 := 23) (dkAt dkX3_readLose 11 (q := (20, .if_icmp .ne 11, 3)) rfl) (by decide) rfl h (fun h => ?_) (fun h => ?_)
  · exact k_vret C (dkAt dkX3_readLose 16 (q := (31, .return_, 1)) rfl) rfl (Option.some.inj h) rfl
  · refine k_aload_n C (pc2 := 24) (dkAt dkX3_readLose 12 (q := (23, .aload_n 0, 1)) rfl) rfl rfl 1 rfl ?_
    refine kf_X3_21 C (pc2 := 27) (o := o0) (o2 := o0 + 3) h0.1 rfl (dkAt dkX3_readLose 13 (q := (24, .getfield 21, 3)) rfl) rfl ?_
    refine k_iload_n C (pc2 := 28) (dkAt dkX3_readLose 14 (q := (27, .iload_n 1, 1)) rfl) rfl rfl 0 rfl ?_
    refine kp_X3_121 C (pc2 := 31) (o := o0 + 3) h0.2.2.1 (dkAt dkX3_readLose 15 (q := (28, .putfield 121, 3)) rfl) rfl h (fun M6 h => ?_)
    exact k_vret C (dkAt dkX3_readLose 16 (q := (31, .return_, 1)) rfl) rfl (Option.some.inj h) rfl
set_option maxRecDepth 100000 in
set_option maxHeartbeats 4000000 in
theorem ct_X3_readOut (l : Launch) (G : GG) (sh : Sh) (xs : List va_E) (o0 : Nat) (h0 : isRd sh o0) (M : Mm) (r : Mm) (h : f_X3_readOut o0 M = some r) : Ct l yX3_readOut cX3_readOut 3 none rm_X3_readOut G [rA G o0] sh M xs none sh r xs 0 0 := by
  refine ct_of (by decide) (Nat.le_of_ble_eq_true rfl) ?_
  intro p e s m args below meth c hnm C
  refine k_lv [0] (lv2 := [(0, rA G o0)]) rfl ?_
  unfold f_X3_readOut at h
  refine k_aload_n C (pc2 := 1) (dkAt dkX3_readOut 0 (q := (0, .aload_n 0, 1)) rfl) rfl rfl 0 rfl ?_
  refine kf_X3_12 C (pc2 := 4) (o := o0) (o2 := o0 + 1) h0.1 rfl (dkAt dkX3_readOut 1 (q := (1, .getfield 12, 3)) rfl) rfl ?_
  obtain ⟨q1, e2, h⟩ := ob_inv h
  refine kc_V C (As := []) (st2 := []) (ct_X5_nextToken l G sh xs (o0 + 1) h0.2.1 M q1 e2) (cl_X3_38 (hts_of C) ⟨Nat.le_of_ble_eq_true rfl, Nat.le_of_ble_eq_true rfl⟩ rfl rfl) h0.2.1.1 rfl rfl rfl rfl rfl (Nat.le_of_ble_eq_true rfl) (dkAt dkX3_readOut 2 (q := (4, .invokevirtual 38, 3)) rfl) ⟨Nat.zero_le _, Nat.zero_le _⟩ (pc2 := 7) rfl rfl ?_
  refine k_aload_n C (pc2 := 8) (dkAt dkX3_readOut 3 (q := (7, .aload_n 0, 1)) rfl) rfl rfl 0 rfl ?_
  refine k_iconst C (pc2 := 9) (dkAt dkX3_readOut 4 (q := (8, .iconst 0, 1)) rfl) rfl (v := 0) rfl ?_
  refine k_aload_n C (pc2 := 10) (dkAt dkX3_readOut 5 (q := (9, .aload_n 0, 1)) rfl) rfl rfl 0 rfl ?_
  refine kf_X3_21 C (pc2 := 13) (o := o0) (o2 := o0 + 3) h0.1 rfl (dkAt dkX3_readOut 6 (q := (10, .getfield 21, 3)) rfl) rfl ?_
  refine kf_X3_102 C (pc2 := 16) (o := o0 + 3) (o2 := 0) h0.2.2.1 (dkAt dkX3_readOut 7 (q := (13, .getfield 102, 3)) rfl) rfl ?_
  refine k_iconst C (pc2 := 17) (dkAt dkX3_readOut 8 (q := (16, .iconst 1, 1)) rfl) rfl (v := 1) rfl ?_
  refine k_isub C (pc2 := 18) (dkAt dkX3_readOut 9 (q := (17, .isub, 1)) rfl) rfl ?_
  obtain ⟨q3, e4, h⟩ := ob_inv h
  refine kc_V C (As := [.int 0, .int ((q1.1 (o0 + 3) 1) - 1)]) (st2 := [.int q3.2]) (ct_X3_readNumber l G sh xs o0 h0 0 ((q1.1 (o0 + 3) 1) - 1) q1 q3 e4) (cl_X3_90 (hts_of C) ⟨Nat.le_of_ble_eq_true rfl, Nat.le_of_ble_eq_true rfl⟩ rfl rfl) h0.1 rfl rfl rfl rfl rfl (Nat.le_of_ble_eq_true rfl) (dkAt dkX3_readOut 10 (q := (18, .invokevirtual 90, 3)) rfl) ⟨Nat.zero_le _, Nat.zero_le _⟩ (pc2 := 21) rfl rfl ?_
  refine kb_istore_n C (pc2 := 22) (dkAt dkX3_readOut 11 (q := (21, .istore_n 1, 1)) rfl) rfl rfl (by decide) (lv2 := fun v5 => [(1, .int v5), (0, rA G o0)]) (fun _ => rfl) h (fun v5 h => ?_)
  refine k_aload_n C (pc2 := 23) (dkAt dkX3_readOut 12 (q := (22, .aload_n 0, 1)) rfl) rfl rfl 1 rfl ?_
  refine k_iconst C (pc2 := 24) (dkAt dkX3_readOut 13 (q := (23, .iconst 0, 1)) rfl) rfl (v := 0) rfl ?_
  refine k_bipush C (pc2 := 26) (dkAt dkX3_readOut 14 (q := (24, .bipush 99, 2)) rfl) rfl (v := 99) rfl ?_
  obtain ⟨q6, e7, h⟩ := ob_inv h
  refine kc_V C (As := [.int 0, .int 99]) (st2 := [.int q6.2]) (ct_X3_readNumber l G sh xs o0 h0 0 99 q3.1 q6 e7) (cl_X3_90 (hts_of C) ⟨Nat.le_of_ble_eq_true rfl, Nat.le_of_ble_eq_true rfl⟩ rfl rfl) h0.1 rfl rfl rfl rfl rfl (Nat.le_of_ble_eq_true rfl) (dkAt dkX3_readOut 15 (q := (26, .invokevirtual 90, 3)) rfl) ⟨Nat.zero_le _, Nat.zero_le _⟩ (pc2 := 29) rfl rfl ?_
  refine kb_istore_n C (pc2 := 30) (dkAt dkX3_readOut 16 (q := (29, .istore_n 2, 1)) rfl) rfl rfl (by decide) (lv2 := fun v8 => [(2, .int v8), (1, .int v5), (0, rA G o0)]) (fun _ => rfl) h (fun v8 h => ?_)
  refine k_aload_n C (pc2 := 31) (dkAt dkX3_readOut 17 (q := (30, .aload_n 0, 1)) rfl) rfl rfl 2 rfl ?_
  refine kf_X3_25 C (pc2 := 34) (o := o0) (o2 := 0) h0.1 (dkAt dkX3_readOut 18 (q := (31, .getfield 25, 3)) rfl) rfl ?_
  refine k_iconst C (pc2 := 35) (dkAt dkX3_readOut 19 (q := (34, .iconst (-1), 1)) rfl) rfl (v := (-1)) rfl ?_
  refine k_icmp_ne C (tgt := 51) (pc2 := 38) (dkAt dkX3_readOut 20 (q := (35, .if_icmp .ne 16, 3)) rfl) (by decide) rfl h (fun h => ?_) (fun h => ?_)
  · exact k_vret C (dkAt dkX3_readOut 28 (q := (51, .return_, 1)) rfl) rfl (Option.some.inj h) rfl
  · refine k_aload_n C (pc2 := 39) (dkAt dkX3_readOut 21 (q := (38, .aload_n 0, 1)) rfl) rfl rfl 2 rfl ?_
    refine kf_X3_21 C (pc2 := 42) (o := o0) (o2 := o0 + 3) h0.1 rfl (dkAt dkX3_readOut 22 (q := (39, .getfield 21, 3)) rfl) rfl ?_
    refine kf_X3_107 C (pc2 := 45) (o := o0 + 3) (o2 := o0 + 4) h0.2.2.1 rfl (dkAt dkX3_readOut 23 (q := (42, .getfield 107, 3)) rfl) rfl ?_
    refine k_iload_n C (pc2 := 46) (dkAt dkX3_readOut 24 (q := (45, .iload_n 1, 1)) rfl) rfl rfl 1 rfl ?_
    refine k_aa11 C (pc2 := 47) (o := o0 + 4) (o2 := o0 + 5 + v5.toNatClampNeg) (nA := 8) h0.2.2.2.1 rfl (dkAt dkX3_readOut 25 (q := (46, .aaload, 1)) rfl) rfl h (fun h hl9 => ?_)
    refine k_iload_n C (pc2 := 48) (dkAt dkX3_readOut 26 (q := (47, .iload_n 2, 1)) rfl) rfl rfl 0 rfl ?_
    refine kp_X3_123 C (pc2 := 51) (o := o0 + 5 + v5.toNatClampNeg) (h0.2.2.2.2 _ hl9) (dkAt dkX3_readOut 27 (q := (48, .putfield 123, 3)) rfl) rfl h (fun M10 h => ?_)
    exact k_vret C (dkAt dkX3_readOut 28 (q := (51, .return_, 1)) rfl) rfl (Option.some.inj h) rfl
set_option maxRecDepth 100000 in
set_option maxHeartbeats 4000000 in
theorem ct_X3_readPerson (l : Launch) (G : GG) (sh : Sh) (xs : List va_E) (o0 : Nat) (h0 : isRd sh o0) (M : Mm) (r : Mm) (h : f_X3_readPerson o0 M = some r) : Ct l yX3_readPerson cX3_readPerson 4 none rm_X3_readPerson G [rA G o0] sh M xs none sh r xs 0 0 := by
  refine ct_of (by decide) (Nat.le_of_ble_eq_true rfl) ?_
  intro p e s m args below meth c hnm C
  refine k_lv [0] (lv2 := [(0, rA G o0)]) rfl ?_
  unfold f_X3_readPerson at h
  refine k_aload_n C (pc2 := 1) (dkAt dkX3_readPerson 0 (q := (0, .aload_n 0, 1)) rfl) rfl rfl 0 rfl ?_
  refine kf_X3_12 C (pc2 := 4) (o := o0) (o2 := o0 + 1) h0.1 rfl (dkAt dkX3_readPerson 1 (q := (1, .getfield 12, 3)) rfl) rfl ?_
  obtain ⟨q1, e2, h⟩ := ob_inv h
  refine kc_V C (As := []) (st2 := []) (ct_X5_nextToken l G sh xs (o0 + 1) h0.2.1 M q1 e2) (cl_X3_38 (hts_of C) ⟨Nat.le_of_ble_eq_true rfl, Nat.le_of_ble_eq_true rfl⟩ rfl rfl) h0.2.1.1 rfl rfl rfl rfl rfl (Nat.le_of_ble_eq_true rfl) (dkAt dkX3_readPerson 2 (q := (4, .invokevirtual 38, 3)) rfl) ⟨Nat.zero_le _, Nat.zero_le _⟩ (pc2 := 7) rfl rfl ?_
  refine k_aload_n C (pc2 := 8) (dkAt dkX3_readPerson 3 (q := (7, .aload_n 0, 1)) rfl) rfl rfl 0 rfl ?_
  refine k_iconst C (pc2 := 9) (dkAt dkX3_readPerson 4 (q := (8, .iconst 0, 1)) rfl) rfl (v := 0) rfl ?_
  refine k_iconst C (pc2 := 10) (dkAt dkX3_readPerson 5 (q := (9, .iconst 5, 1)) rfl) rfl (v := 5) rfl ?_
  obtain ⟨q3, e4, h⟩ := ob_inv h
  refine kc_V C (As := [.int 0, .int 5]) (st2 := [.int q3.2]) (ct_X3_readNumber l G sh xs o0 h0 0 5 q1 q3 e4) (cl_X3_90 (hts_of C) ⟨Nat.le_of_ble_eq_true rfl, Nat.le_of_ble_eq_true rfl⟩ rfl rfl) h0.1 rfl rfl rfl rfl rfl (Nat.le_of_ble_eq_true rfl) (dkAt dkX3_readPerson 6 (q := (10, .invokevirtual 90, 3)) rfl) ⟨Nat.zero_le _, Nat.zero_le _⟩ (pc2 := 13) rfl rfl ?_
  refine kb_istore_n C (pc2 := 14) (dkAt dkX3_readPerson 7 (q := (13, .istore_n 1, 1)) rfl) rfl rfl (by decide) (lv2 := fun v5 => [(1, .int v5), (0, rA G o0)]) (fun _ => rfl) h (fun v5 h => ?_)
  refine k_aload_n C (pc2 := 15) (dkAt dkX3_readPerson 8 (q := (14, .aload_n 0, 1)) rfl) rfl rfl 1 rfl ?_
  refine k_iconst C (pc2 := 16) (dkAt dkX3_readPerson 9 (q := (15, .iconst 0, 1)) rfl) rfl (v := 0) rfl ?_
  refine k_bipush C (pc2 := 18) (dkAt dkX3_readPerson 10 (q := (16, .bipush 13, 2)) rfl) rfl (v := 13) rfl ?_
  obtain ⟨q6, e7, h⟩ := ob_inv h
  refine kc_V C (As := [.int 0, .int 13]) (st2 := [.int q6.2]) (ct_X3_readNumber l G sh xs o0 h0 0 13 q3.1 q6 e7) (cl_X3_90 (hts_of C) ⟨Nat.le_of_ble_eq_true rfl, Nat.le_of_ble_eq_true rfl⟩ rfl rfl) h0.1 rfl rfl rfl rfl rfl (Nat.le_of_ble_eq_true rfl) (dkAt dkX3_readPerson 11 (q := (18, .invokevirtual 90, 3)) rfl) ⟨Nat.zero_le _, Nat.zero_le _⟩ (pc2 := 21) rfl rfl ?_
  refine kb_istore_n C (pc2 := 22) (dkAt dkX3_readPerson 12 (q := (21, .istore_n 2, 1)) rfl) rfl rfl (by decide) (lv2 := fun v8 => [(2, .int v8), (1, .int v5), (0, rA G o0)]) (fun _ => rfl) h (fun v8 h => ?_)
  refine k_aload_n C (pc2 := 23) (dkAt dkX3_readPerson 13 (q := (22, .aload_n 0, 1)) rfl) rfl rfl 2 rfl ?_
  refine k_iconst C (pc2 := 24) (dkAt dkX3_readPerson 14 (q := (23, .iconst 0, 1)) rfl) rfl (v := 0) rfl ?_
  refine k_bipush C (pc2 := 26) (dkAt dkX3_readPerson 15 (q := (24, .bipush 12, 2)) rfl) rfl (v := 12) rfl ?_
  obtain ⟨q9, e10, h⟩ := ob_inv h
  refine kc_V C (As := [.int 0, .int 12]) (st2 := [.int q9.2]) (ct_X3_readNumber l G sh xs o0 h0 0 12 q6.1 q9 e10) (cl_X3_90 (hts_of C) ⟨Nat.le_of_ble_eq_true rfl, Nat.le_of_ble_eq_true rfl⟩ rfl rfl) h0.1 rfl rfl rfl rfl rfl (Nat.le_of_ble_eq_true rfl) (dkAt dkX3_readPerson 16 (q := (26, .invokevirtual 90, 3)) rfl) ⟨Nat.zero_le _, Nat.zero_le _⟩ (pc2 := 29) rfl rfl ?_
  refine kb_istore_n C (pc2 := 30) (dkAt dkX3_readPerson 17 (q := (29, .istore_n 3, 1)) rfl) rfl rfl (by decide) (lv2 := fun v11 => [(3, .int v11), (2, .int v8), (1, .int v5), (0, rA G o0)]) (fun _ => rfl) h (fun v11 h => ?_)
  refine k_aload_n C (pc2 := 31) (dkAt dkX3_readPerson 18 (q := (30, .aload_n 0, 1)) rfl) rfl rfl 3 rfl ?_
  refine kf_X3_25 C (pc2 := 34) (o := o0) (o2 := 0) h0.1 (dkAt dkX3_readPerson 19 (q := (31, .getfield 25, 3)) rfl) rfl ?_
  refine k_iconst C (pc2 := 35) (dkAt dkX3_readPerson 20 (q := (34, .iconst (-1), 1)) rfl) rfl (v := (-1)) rfl ?_
  refine k_icmp_ne C (tgt := 49) (pc2 := 38) (dkAt dkX3_readPerson 21 (q := (35, .if_icmp .ne 14, 3)) rfl) (by decide) rfl h (fun h => ?_) (fun h => ?_)
  · exact k_vret C (dkAt dkX3_readPerson 29 (q := (49, .return_, 1)) rfl) rfl (Option.some.inj h) rfl
  · refine k_aload_n C (pc2 := 39) (dkAt dkX3_readPerson 22 (q := (38, .aload_n 0, 1)) rfl) rfl rfl 3 rfl ?_
    refine kf_X3_21 C (pc2 := 42) (o := o0) (o2 := o0 + 3) h0.1 rfl (dkAt dkX3_readPerson 23 (q := (39, .getfield 21, 3)) rfl) rfl ?_
    refine k_iload_n C (pc2 := 43) (dkAt dkX3_readPerson 24 (q := (42, .iload_n 1, 1)) rfl) rfl rfl 2 rfl ?_
    refine k_iload_n C (pc2 := 44) (dkAt dkX3_readPerson 25 (q := (43, .iload_n 2, 1)) rfl) rfl rfl 1 rfl ?_
    refine k_iload_n C (pc2 := 45) (dkAt dkX3_readPerson 26 (q := (44, .iload_n 3, 1)) rfl) rfl rfl 0 rfl ?_
    obtain ⟨q12, e13, h⟩ := ob_inv h
    refine kc_V C (As := [.int v5, .int v8, .int v11]) (st2 := [.int q12.2]) (ct_X1_takeIn l G sh xs (o0 + 3) h0.2.2 v5 v8 v11 q9.1 q12 e13) (cl_X3_98 (hts_of C) ⟨Nat.le_of_ble_eq_true rfl, Nat.le_of_ble_eq_true rfl⟩ rfl rfl) h0.2.2.1 rfl rfl rfl rfl rfl (Nat.le_of_ble_eq_true rfl) (dkAt dkX3_readPerson 27 (q := (45, .invokevirtual 98, 3)) rfl) ⟨Nat.zero_le _, Nat.zero_le _⟩ (pc2 := 48) rfl rfl ?_
    refine k_pop C (pc2 := 49) (dkAt dkX3_readPerson 28 (q := (48, .pop, 1)) rfl) rfl rfl ?_
    exact k_vret C (dkAt dkX3_readPerson 29 (q := (49, .return_, 1)) rfl) rfl (Option.some.inj h) rfl
set_option maxRecDepth 100000 in
set_option maxHeartbeats 4000000 in
theorem kl_X5_isWord_L28 {p : Program} {l : Launch} {e : Env} {s : State} {m : MethodId} {args : Array Value} {below : List Frame} {meth : Method} {c : Code} {G : GG} {sh : Sh} {xs : List va_E} (C : Cx p s m c args meth G RX5 cX5_isWord 3 (some .boolean)) (o0 : Nat) (h0 : isTp sh o0) (w1 : Nat) (h1 : w1 < 8) (r : Mm × Int32) (t : (Mm) ⊕ (Mm × Int32)) (hcont : ∀ (M2 : Mm), t = Sum.inl M2 → KW p l e rm_X5_isWord s m args below meth c G 3 (MQ below (QO G (some (.int r.2)) sh r.1 xs) args s 0 0 (gA G)) sh xs 0 0 M2 63 [] []) (hres : ∀ z, t = Sum.inr z → z = r) : ∀ (n : Nat) (x2 : Int32) (M : Mm), f_X5_isWord_L28 o0 w1 n x2 M = some t → KW p l e rm_X5_isWord s m args below meth c G 3 (MQ below (QO G (some (.int r.2)) sh r.1 xs) args s 0 0 (gA G)) sh xs 0 0 M 28 [(0, rA G o0), (1, .ref (gK G w1)), (2, .int x2)] [] := by
  intro n
  induction n with
  | zero =>
    intro x2 M h
    cases h
  | succ n ih =>
    intro x2 M h
    unfold f_X5_isWord_L28 at h
    refine k_iload_n C (pc2 := 29) (dkAt dkX5_isWord 16 (q := (28, .iload_n 2, 1)) rfl) rfl rfl 2 rfl ?_
    refine k_aload_n C (pc2 := 30) (dkAt dkX5_isWord 17 (q := (29, .aload_n 1, 1)) rfl) rfl rfl 1 rfl ?_
    obtain ⟨q3, e4, h⟩ := ob_inv h
    refine kc_Str C (i := w1) (As := []) (st2 := [.int q3, .int x2]) (ct_strLen l G sh xs w1 h1 M q3 e4) (cl_X5_45 (hts_of C) ⟨Nat.le_of_ble_eq_true rfl, Nat.le_of_ble_eq_true rfl⟩ rfl rfl) h1 rfl rfl (Nat.le_of_ble_eq_true rfl) (dkAt dkX5_isWord 18 (q := (30, .invokevirtual 45, 3)) rfl) ⟨Nat.zero_le _, Nat.zero_le _⟩ (pc2 := 33) rfl rfl ?_
    refine k_icmp_ge C (tgt := 63) (pc2 := 36) (dkAt dkX5_isWord 19 (q := (33, .if_icmp .ge 30, 3)) rfl) (by decide) rfl h (fun h => ?_) (fun h => ?_)
    · refine k_lv [] (lv2 := []) rfl ?_
      exact hcont M (Option.some.inj h).symm
    · refine k_aload_n C (pc2 := 37) (dkAt dkX5_isWord 20 (q := (36, .aload_n 0, 1)) rfl) rfl rfl 0 rfl ?_
      refine kf_X5_9 C (pc2 := 40) (o := o0) (o2 := o0 + 1) h0.1 rfl (dkAt dkX5_isWord 21 (q := (37, .getfield 9, 3)) rfl) rfl ?_
      refine k_aload_n C (pc2 := 41) (dkAt dkX5_isWord 22 (q := (40, .aload_n 0, 1)) rfl) rfl rfl 0 rfl ?_
      refine kf_X5_25 C (pc2 := 44) (o := o0) (o2 := 0) h0.1 (dkAt dkX5_isWord 23 (q := (41, .getfield 25, 3)) rfl) rfl ?_
      refine k_iload_n C (pc2 := 45) (dkAt dkX5_isWord 24 (q := (44, .iload_n 2, 1)) rfl) rfl rfl 2 rfl ?_
      refine k_iadd C (pc2 := 46) (dkAt dkX5_isWord 25 (q := (45, .iadd, 1)) rfl) rfl ?_
      refine k_iald C (pc2 := 47) (o := o0 + 1) (nA := 250) h0.2 (dkAt dkX5_isWord 26 (q := (46, .iaload, 1)) rfl) rfl h (fun h => ?_)
      refine k_aload_n C (pc2 := 48) (dkAt dkX5_isWord 27 (q := (47, .aload_n 1, 1)) rfl) rfl rfl 1 rfl ?_
      refine k_iload_n C (pc2 := 49) (dkAt dkX5_isWord 28 (q := (48, .iload_n 2, 1)) rfl) rfl rfl 2 rfl ?_
      obtain ⟨q5, e6, h⟩ := ob_inv h
      refine kc_Str C (i := w1) (As := [.int x2]) (st2 := [.int q5, .int (M.1 (o0 + 1) ((M.1 o0 3) + x2).toNatClampNeg)]) (ct_strAt l G sh xs w1 h1 x2 M q5 e6) (cl_X5_51 (hts_of C) ⟨Nat.le_of_ble_eq_true rfl, Nat.le_of_ble_eq_true rfl⟩ rfl rfl) h1 rfl rfl (Nat.le_of_ble_eq_true rfl) (dkAt dkX5_isWord 29 (q := (49, .invokevirtual 51, 3)) rfl) ⟨Nat.zero_le _, Nat.zero_le _⟩ (pc2 := 52) rfl rfl ?_
      refine k_icmp_eq C (tgt := 57) (pc2 := 55) (dkAt dkX5_isWord 30 (q := (52, .if_icmp .eq 5, 3)) rfl) (by decide) rfl h (fun h => ?_) (fun h => ?_)
      · refine kb_iinc C (pc2 := 60) (dkAt dkX5_isWord 33 (q := (57, .iinc 2 1, 3)) rfl) rfl (j := 2) rfl (v := x2 + 1) rfl (by decide) (lv2 := fun v7 => [(2, .int v7), (0, rA G o0), (1, .ref (gK G w1))]) (fun _ => rfl) h (fun v7 h => ?_)
        refine k_goto C (tgt := 28) (dkAt dkX5_isWord 34 (q := (60, .goto (-32), 3)) rfl) (by decide) ?_
        refine k_lv [1, 2, 0] (lv2 := [(0, rA G o0), (1, .ref (gK G w1)), (2, .int v7)]) rfl ?_
        exact ih v7 M h
      · refine k_iconst C (pc2 := 56) (dkAt dkX5_isWord 31 (q := (55, .iconst 0, 1)) rfl) rfl (v := 0) rfl ?_
        exact k_zret C (dkAt dkX5_isWord 32 (q := (56, .ireturn, 1)) rfl) rfl (pe2 (hres _ (Option.some.inj h).symm)) rfl (pe1 (hres _ (Option.some.inj h).symm)) rfl
set_option maxRecDepth 100000 in
set_option maxHeartbeats 4000000 in
theorem ct_X5_isWord (l : Launch) (G : GG) (sh : Sh) (xs : List va_E) (o0 : Nat) (h0 : isTp sh o0) (w1 : Nat) (h1 : w1 < 8) (M : Mm) (r : Mm × Int32) (h : f_X5_isWord o0 w1 M = some r) : Ct l yX5_isWord cX5_isWord 3 (some .boolean) rm_X5_isWord G [rA G o0, .ref (gK G w1)] sh M xs (some (.int r.2)) sh r.1 xs 0 0 := by
  refine ct_of (by decide) (Nat.le_of_ble_eq_true rfl) ?_
  intro p e s m args below meth c hnm C
  refine k_lv [0, 1] (lv2 := [(0, rA G o0), (1, .ref (gK G w1))]) rfl ?_
  unfold f_X5_isWord at h
  refine k_aload_n C (pc2 := 1) (dkAt dkX5_isWord 0 (q := (0, .aload_n 0, 1)) rfl) rfl rfl 0 rfl ?_
  refine kf_X5_32 C (pc2 := 4) (o := o0) (o2 := 0) h0.1 (dkAt dkX5_isWord 1 (q := (1, .getfield 32, 3)) rfl) rfl ?_
  refine k_iconst C (pc2 := 5) (dkAt dkX5_isWord 2 (q := (4, .iconst 1, 1)) rfl) rfl (v := 1) rfl ?_
  refine k_icmp_ne C (tgt := 24) (pc2 := 8) (dkAt dkX5_isWord 3 (q := (5, .if_icmp .ne 19, 3)) rfl) (by decide) rfl h (fun h => ?_) (fun h => ?_)
  · refine k_iconst C (pc2 := 25) (dkAt dkX5_isWord 12 (q := (24, .iconst 0, 1)) rfl) rfl (v := 0) rfl ?_
    exact k_zret C (dkAt dkX5_isWord 13 (q := (25, .ireturn, 1)) rfl) rfl (pe2 (Option.some.inj h)) rfl (pe1 (Option.some.inj h)) rfl
  · refine k_aload_n C (pc2 := 9) (dkAt dkX5_isWord 4 (q := (8, .aload_n 0, 1)) rfl) rfl rfl 0 rfl ?_
    refine kf_X5_19 C (pc2 := 12) (o := o0) (o2 := 0) h0.1 (dkAt dkX5_isWord 5 (q := (9, .getfield 19, 3)) rfl) rfl ?_
    refine k_aload_n C (pc2 := 13) (dkAt dkX5_isWord 6 (q := (12, .aload_n 0, 1)) rfl) rfl rfl 0 rfl ?_
    refine kf_X5_25 C (pc2 := 16) (o := o0) (o2 := 0) h0.1 (dkAt dkX5_isWord 7 (q := (13, .getfield 25, 3)) rfl) rfl ?_
    refine k_isub C (pc2 := 17) (dkAt dkX5_isWord 8 (q := (16, .isub, 1)) rfl) rfl ?_
    refine k_aload_n C (pc2 := 18) (dkAt dkX5_isWord 9 (q := (17, .aload_n 1, 1)) rfl) rfl rfl 1 rfl ?_
    obtain ⟨q1, e2, h⟩ := ob_inv h
    refine kc_Str C (i := w1) (As := []) (st2 := [.int q1, .int ((M.1 o0 4) - (M.1 o0 3))]) (ct_strLen l G sh xs w1 h1 M q1 e2) (cl_X5_45 (hts_of C) ⟨Nat.le_of_ble_eq_true rfl, Nat.le_of_ble_eq_true rfl⟩ rfl rfl) h1 rfl rfl (Nat.le_of_ble_eq_true rfl) (dkAt dkX5_isWord 10 (q := (18, .invokevirtual 45, 3)) rfl) ⟨Nat.zero_le _, Nat.zero_le _⟩ (pc2 := 21) rfl rfl ?_
    refine k_icmp_eq C (tgt := 26) (pc2 := 24) (dkAt dkX5_isWord 11 (q := (21, .if_icmp .eq 5, 3)) rfl) (by decide) rfl h (fun h => ?_) (fun h => ?_)
    · refine k_iconst C (pc2 := 27) (dkAt dkX5_isWord 14 (q := (26, .iconst 0, 1)) rfl) rfl (v := 0) rfl ?_
      refine k_istore_n C (pc2 := 28) (dkAt dkX5_isWord 15 (q := (27, .istore_n 2, 1)) rfl) rfl rfl (by decide) (lv2 := [(2, .int 0), (0, rA G o0), (1, .ref (gK G w1))]) rfl ?_
      refine k_lv [1, 2, 0] (lv2 := [(0, rA G o0), (1, .ref (gK G w1)), (2, .int 0)]) rfl ?_
      obtain ⟨t8, e9, hA, hB⟩ := obS_inv h
      refine kl_X5_isWord_L28 C o0 h0 w1 h1 r t8 ?_ ?_ 1000 0 M e9
      · intro M10 et
        have h := hA _ et
        refine k_iconst C (pc2 := 64) (dkAt dkX5_isWord 35 (q := (63, .iconst 1, 1)) rfl) rfl (v := 1) rfl ?_
        exact k_zret C (dkAt dkX5_isWord 36 (q := (64, .ireturn, 1)) rfl) rfl (pe2 (Option.some.inj h)) rfl (pe1 (Option.some.inj h)) rfl
      · intro z et
        have h := hB _ et
        exact Option.some.inj h
    · refine k_iconst C (pc2 := 25) (dkAt dkX5_isWord 12 (q := (24, .iconst 0, 1)) rfl) rfl (v := 0) rfl ?_
      exact k_zret C (dkAt dkX5_isWord 13 (q := (25, .ireturn, 1)) rfl) rfl (pe2 (Option.some.inj h)) rfl (pe1 (Option.some.inj h)) rfl
set_option maxRecDepth 100000 in
set_option maxHeartbeats 4000000 in
theorem ct_X3_readStatement (l : Launch) (G : GG) (sh : Sh) (xs : List va_E) (o0 : Nat) (h0 : isRd sh o0) (M : Mm) (r : Mm) (h : f_X3_readStatement o0 M = some r) : Ct l yX3_readStatement cX3_readStatement 1 none rm_X3_readStatement G [rA G o0] sh M xs none sh r xs 0 0 := by
  refine ct_of (by decide) (Nat.le_of_ble_eq_true rfl) ?_
  intro p e s m args below meth c hnm C
  refine k_lv [0] (lv2 := [(0, rA G o0)]) rfl ?_
  unfold f_X3_readStatement at h
  refine k_aload_n C (pc2 := 1) (dkAt dkX3_readStatement 0 (q := (0, .aload_n 0, 1)) rfl) rfl rfl 0 rfl ?_
  refine kf_X3_12 C (pc2 := 4) (o := o0) (o2 := o0 + 1) h0.1 rfl (dkAt dkX3_readStatement 1 (q := (1, .getfield 12, 3)) rfl) rfl ?_
  refine k_ldcs C (pc2 := 6) (dkAt dkX3_readStatement 2 (q := (4, .ldc 44, 2)) rfl) rfl (i := 0) (List.mem_of_getElem? (i := 0) rfl) ?_
  obtain ⟨q1, e2, h⟩ := ob_inv h
  refine kc_V C (As := [.ref (gK G 0)]) (st2 := [.int q1.2]) (ct_X5_isWord l G sh xs (o0 + 1) h0.2.1 0 (by decide) M q1 e2) (cl_X3_46 (hts_of C) ⟨Nat.le_of_ble_eq_true rfl, Nat.le_of_ble_eq_true rfl⟩ rfl rfl) h0.2.1.1 rfl rfl rfl rfl rfl (Nat.le_of_ble_eq_true rfl) (dkAt dkX3_readStatement 3 (q := (6, .invokevirtual 46, 3)) rfl) ⟨Nat.zero_le _, Nat.zero_le _⟩ (pc2 := 9) rfl rfl ?_
  refine k_if_eq C (tgt := 19) (pc2 := 12) (dkAt dkX3_readStatement 4 (q := (9, .ifCond .eq 10, 3)) rfl) (by decide) rfl h (fun h => ?_) (fun h => ?_)
  · refine k_aload_n C (pc2 := 20) (dkAt dkX3_readStatement 8 (q := (19, .aload_n 0, 1)) rfl) rfl rfl 0 rfl ?_
    refine kf_X3_12 C (pc2 := 23) (o := o0) (o2 := o0 + 1) h0.1 rfl (dkAt dkX3_readStatement 9 (q := (20, .getfield 12, 3)) rfl) rfl ?_
    refine k_ldcs C (pc2 := 25) (dkAt dkX3_readStatement 10 (q := (23, .ldc 53, 2)) rfl) rfl (i := 1) (List.mem_of_getElem? (i := 1) rfl) ?_
    obtain ⟨q3, e4, h⟩ := ob_inv h
    refine kc_V C (As := [.ref (gK G 1)]) (st2 := [.int q3.2]) (ct_X5_isWord l G sh xs (o0 + 1) h0.2.1 1 (by decide) q1.1 q3 e4) (cl_X3_46 (hts_of C) ⟨Nat.le_of_ble_eq_true rfl, Nat.le_of_ble_eq_true rfl⟩ rfl rfl) h0.2.1.1 rfl rfl rfl rfl rfl (Nat.le_of_ble_eq_true rfl) (dkAt dkX3_readStatement 11 (q := (25, .invokevirtual 46, 3)) rfl) ⟨Nat.zero_le _, Nat.zero_le _⟩ (pc2 := 28) rfl rfl ?_
    refine k_if_eq C (tgt := 48) (pc2 := 31) (dkAt dkX3_readStatement 12 (q := (28, .ifCond .eq 20, 3)) rfl) (by decide) rfl h (fun h => ?_) (fun h => ?_)
    · refine k_aload_n C (pc2 := 49) (dkAt dkX3_readStatement 20 (q := (48, .aload_n 0, 1)) rfl) rfl rfl 0 rfl ?_
      refine kf_X3_12 C (pc2 := 52) (o := o0) (o2 := o0 + 1) h0.1 rfl (dkAt dkX3_readStatement 21 (q := (49, .getfield 12, 3)) rfl) rfl ?_
      refine k_ldcs C (pc2 := 54) (dkAt dkX3_readStatement 22 (q := (52, .ldc 62, 2)) rfl) rfl (i := 2) (List.mem_of_getElem? (i := 2) rfl) ?_
      obtain ⟨q5, e6, h⟩ := ob_inv h
      refine kc_V C (As := [.ref (gK G 2)]) (st2 := [.int q5.2]) (ct_X5_isWord l G sh xs (o0 + 1) h0.2.1 2 (by decide) q3.1 q5 e6) (cl_X3_46 (hts_of C) ⟨Nat.le_of_ble_eq_true rfl, Nat.le_of_ble_eq_true rfl⟩ rfl rfl) h0.2.1.1 rfl rfl rfl rfl rfl (Nat.le_of_ble_eq_true rfl) (dkAt dkX3_readStatement 23 (q := (54, .invokevirtual 46, 3)) rfl) ⟨Nat.zero_le _, Nat.zero_le _⟩ (pc2 := 57) rfl rfl ?_
      refine k_if_eq C (tgt := 68) (pc2 := 60) (dkAt dkX3_readStatement 24 (q := (57, .ifCond .eq 11, 3)) rfl) (by decide) rfl h (fun h => ?_) (fun h => ?_)
      · refine k_aload_n C (pc2 := 69) (dkAt dkX3_readStatement 29 (q := (68, .aload_n 0, 1)) rfl) rfl rfl 0 rfl ?_
        refine kf_X3_12 C (pc2 := 72) (o := o0) (o2 := o0 + 1) h0.1 rfl (dkAt dkX3_readStatement 30 (q := (69, .getfield 12, 3)) rfl) rfl ?_
        refine k_ldcs C (pc2 := 74) (dkAt dkX3_readStatement 31 (q := (72, .ldc 68, 2)) rfl) rfl (i := 3) (List.mem_of_getElem? (i := 3) rfl) ?_
        obtain ⟨q7, e8, h⟩ := ob_inv h
        refine kc_V C (As := [.ref (gK G 3)]) (st2 := [.int q7.2]) (ct_X5_isWord l G sh xs (o0 + 1) h0.2.1 3 (by decide) q5.1 q7 e8) (cl_X3_46 (hts_of C) ⟨Nat.le_of_ble_eq_true rfl, Nat.le_of_ble_eq_true rfl⟩ rfl rfl) h0.2.1.1 rfl rfl rfl rfl rfl (Nat.le_of_ble_eq_true rfl) (dkAt dkX3_readStatement 32 (q := (74, .invokevirtual 46, 3)) rfl) ⟨Nat.zero_le _, Nat.zero_le _⟩ (pc2 := 77) rfl rfl ?_
        refine k_if_eq C (tgt := 88) (pc2 := 80) (dkAt dkX3_readStatement 33 (q := (77, .ifCond .eq 11, 3)) rfl) (by decide) rfl h (fun h => ?_) (fun h => ?_)
        · refine k_aload_n C (pc2 := 89) (dkAt dkX3_readStatement 38 (q := (88, .aload_n 0, 1)) rfl) rfl rfl 0 rfl ?_
          refine kf_X3_12 C (pc2 := 92) (o := o0) (o2 := o0 + 1) h0.1 rfl (dkAt dkX3_readStatement 39 (q := (89, .getfield 12, 3)) rfl) rfl ?_
          refine k_ldcs C (pc2 := 94) (dkAt dkX3_readStatement 40 (q := (92, .ldc 70, 2)) rfl) rfl (i := 4) (List.mem_of_getElem? (i := 4) rfl) ?_
          obtain ⟨q9, e10, h⟩ := ob_inv h
          refine kc_V C (As := [.ref (gK G 4)]) (st2 := [.int q9.2]) (ct_X5_isWord l G sh xs (o0 + 1) h0.2.1 4 (by decide) q7.1 q9 e10) (cl_X3_46 (hts_of C) ⟨Nat.le_of_ble_eq_true rfl, Nat.le_of_ble_eq_true rfl⟩ rfl rfl) h0.2.1.1 rfl rfl rfl rfl rfl (Nat.le_of_ble_eq_true rfl) (dkAt dkX3_readStatement 41 (q := (94, .invokevirtual 46, 3)) rfl) ⟨Nat.zero_le _, Nat.zero_le _⟩ (pc2 := 97) rfl rfl ?_
          refine k_if_eq C (tgt := 107) (pc2 := 100) (dkAt dkX3_readStatement 42 (q := (97, .ifCond .eq 10, 3)) rfl) (by decide) rfl h (fun h => ?_) (fun h => ?_)
          · refine k_aload_n C (pc2 := 108) (dkAt dkX3_readStatement 46 (q := (107, .aload_n 0, 1)) rfl) rfl rfl 0 rfl ?_
            refine kf_X3_12 C (pc2 := 111) (o := o0) (o2 := o0 + 1) h0.1 rfl (dkAt dkX3_readStatement 47 (q := (108, .getfield 12, 3)) rfl) rfl ?_
            refine k_ldcs C (pc2 := 113) (dkAt dkX3_readStatement 48 (q := (111, .ldc 75, 2)) rfl) rfl (i := 5) (List.mem_of_getElem? (i := 5) rfl) ?_
            obtain ⟨q11, e12, h⟩ := ob_inv h
            refine kc_V C (As := [.ref (gK G 5)]) (st2 := [.int q11.2]) (ct_X5_isWord l G sh xs (o0 + 1) h0.2.1 5 (by decide) q9.1 q11 e12) (cl_X3_46 (hts_of C) ⟨Nat.le_of_ble_eq_true rfl, Nat.le_of_ble_eq_true rfl⟩ rfl rfl) h0.2.1.1 rfl rfl rfl rfl rfl (Nat.le_of_ble_eq_true rfl) (dkAt dkX3_readStatement 49 (q := (113, .invokevirtual 46, 3)) rfl) ⟨Nat.zero_le _, Nat.zero_le _⟩ (pc2 := 116) rfl rfl ?_
            refine k_if_eq C (tgt := 126) (pc2 := 119) (dkAt dkX3_readStatement 50 (q := (116, .ifCond .eq 10, 3)) rfl) (by decide) rfl h (fun h => ?_) (fun h => ?_)
            · refine k_aload_n C (pc2 := 127) (dkAt dkX3_readStatement 54 (q := (126, .aload_n 0, 1)) rfl) rfl rfl 0 rfl ?_
              refine kf_X3_12 C (pc2 := 130) (o := o0) (o2 := o0 + 1) h0.1 rfl (dkAt dkX3_readStatement 55 (q := (127, .getfield 12, 3)) rfl) rfl ?_
              refine k_ldcs C (pc2 := 132) (dkAt dkX3_readStatement 56 (q := (130, .ldc 80, 2)) rfl) rfl (i := 6) (List.mem_of_getElem? (i := 6) rfl) ?_
              obtain ⟨q13, e14, h⟩ := ob_inv h
              refine kc_V C (As := [.ref (gK G 6)]) (st2 := [.int q13.2]) (ct_X5_isWord l G sh xs (o0 + 1) h0.2.1 6 (by decide) q11.1 q13 e14) (cl_X3_46 (hts_of C) ⟨Nat.le_of_ble_eq_true rfl, Nat.le_of_ble_eq_true rfl⟩ rfl rfl) h0.2.1.1 rfl rfl rfl rfl rfl (Nat.le_of_ble_eq_true rfl) (dkAt dkX3_readStatement 57 (q := (132, .invokevirtual 46, 3)) rfl) ⟨Nat.zero_le _, Nat.zero_le _⟩ (pc2 := 135) rfl rfl ?_
              refine k_if_eq C (tgt := 145) (pc2 := 138) (dkAt dkX3_readStatement 58 (q := (135, .ifCond .eq 10, 3)) rfl) (by decide) rfl h (fun h => ?_) (fun h => ?_)
              · refine k_aload_n C (pc2 := 146) (dkAt dkX3_readStatement 62 (q := (145, .aload_n 0, 1)) rfl) rfl rfl 0 rfl ?_
                refine kf_X3_12 C (pc2 := 149) (o := o0) (o2 := o0 + 1) h0.1 rfl (dkAt dkX3_readStatement 63 (q := (146, .getfield 12, 3)) rfl) rfl ?_
                refine k_ldcs C (pc2 := 151) (dkAt dkX3_readStatement 64 (q := (149, .ldc 85, 2)) rfl) rfl (i := 7) (List.mem_of_getElem? (i := 7) rfl) ?_
                obtain ⟨q15, e16, h⟩ := ob_inv h
                refine kc_V C (As := [.ref (gK G 7)]) (st2 := [.int q15.2]) (ct_X5_isWord l G sh xs (o0 + 1) h0.2.1 7 (by decide) q13.1 q15 e16) (cl_X3_46 (hts_of C) ⟨Nat.le_of_ble_eq_true rfl, Nat.le_of_ble_eq_true rfl⟩ rfl rfl) h0.2.1.1 rfl rfl rfl rfl rfl (Nat.le_of_ble_eq_true rfl) (dkAt dkX3_readStatement 65 (q := (151, .invokevirtual 46, 3)) rfl) ⟨Nat.zero_le _, Nat.zero_le _⟩ (pc2 := 154) rfl rfl ?_
                refine k_if_eq C (tgt := 164) (pc2 := 157) (dkAt dkX3_readStatement 66 (q := (154, .ifCond .eq 10, 3)) rfl) (by decide) rfl h (fun h => ?_) (fun h => ?_)
                · refine k_aload_n C (pc2 := 165) (dkAt dkX3_readStatement 70 (q := (164, .aload_n 0, 1)) rfl) rfl rfl 0 rfl ?_
                  refine k_aload_n C (pc2 := 166) (dkAt dkX3_readStatement 71 (q := (165, .aload_n 0, 1)) rfl) rfl rfl 0 rfl ?_
                  refine kf_X3_12 C (pc2 := 169) (o := o0) (o2 := o0 + 1) h0.1 rfl (dkAt dkX3_readStatement 72 (q := (166, .getfield 12, 3)) rfl) rfl ?_
                  refine kf_X3_41 C (pc2 := 172) (o := o0 + 1) (o2 := 0) h0.2.1.1 (dkAt dkX3_readStatement 73 (q := (169, .getfield 41, 3)) rfl) rfl ?_
                  refine kp_X3_25 C (pc2 := 175) (o := o0) h0.1 (dkAt dkX3_readStatement 74 (q := (172, .putfield 25, 3)) rfl) rfl h (fun M17 h => ?_)
                  exact k_vret C (dkAt dkX3_readStatement 75 (q := (175, .return_, 1)) rfl) rfl (Option.some.inj h) rfl
                · refine k_aload_n C (pc2 := 158) (dkAt dkX3_readStatement 67 (q := (157, .aload_n 0, 1)) rfl) rfl rfl 0 rfl ?_
                  obtain ⟨q18, e19, h⟩ := ob_inv h
                  refine kc_V C (As := []) (st2 := []) (ct_X3_readOut l G sh xs o0 h0 q15.1 q18 e19) (cl_X3_87 (hts_of C) ⟨Nat.le_of_ble_eq_true rfl, Nat.le_of_ble_eq_true rfl⟩ rfl rfl) h0.1 rfl rfl rfl rfl rfl (Nat.le_of_ble_eq_true rfl) (dkAt dkX3_readStatement 68 (q := (158, .invokevirtual 87, 3)) rfl) ⟨Nat.zero_le _, Nat.zero_le _⟩ (pc2 := 161) rfl rfl ?_
                  refine k_goto C (tgt := 175) (dkAt dkX3_readStatement 69 (q := (161, .goto 14, 3)) rfl) (by decide) ?_
                  exact k_vret C (dkAt dkX3_readStatement 75 (q := (175, .return_, 1)) rfl) rfl (Option.some.inj h) rfl
              · refine k_aload_n C (pc2 := 139) (dkAt dkX3_readStatement 59 (q := (138, .aload_n 0, 1)) rfl) rfl rfl 0 rfl ?_
                obtain ⟨q20, e21, h⟩ := ob_inv h
                refine kc_V C (As := []) (st2 := []) (ct_X3_readLose l G sh xs o0 h0 q13.1 q20 e21) (cl_X3_82 (hts_of C) ⟨Nat.le_of_ble_eq_true rfl, Nat.le_of_ble_eq_true rfl⟩ rfl rfl) h0.1 rfl rfl rfl rfl rfl (Nat.le_of_ble_eq_true rfl) (dkAt dkX3_readStatement 60 (q := (139, .invokevirtual 82, 3)) rfl) ⟨Nat.zero_le _, Nat.zero_le _⟩ (pc2 := 142) rfl rfl ?_
                refine k_goto C (tgt := 175) (dkAt dkX3_readStatement 61 (q := (142, .goto 33, 3)) rfl) (by decide) ?_
                exact k_vret C (dkAt dkX3_readStatement 75 (q := (175, .return_, 1)) rfl) rfl (Option.some.inj h) rfl
            · refine k_aload_n C (pc2 := 120) (dkAt dkX3_readStatement 51 (q := (119, .aload_n 0, 1)) rfl) rfl rfl 0 rfl ?_
              obtain ⟨q22, e23, h⟩ := ob_inv h
              refine kc_V C (As := []) (st2 := []) (ct_X3_readLeast l G sh xs o0 h0 q11.1 q22 e23) (cl_X3_77 (hts_of C) ⟨Nat.le_of_ble_eq_true rfl, Nat.le_of_ble_eq_true rfl⟩ rfl rfl) h0.1 rfl rfl rfl rfl rfl (Nat.le_of_ble_eq_true rfl) (dkAt dkX3_readStatement 52 (q := (120, .invokevirtual 77, 3)) rfl) ⟨Nat.zero_le _, Nat.zero_le _⟩ (pc2 := 123) rfl rfl ?_
              refine k_goto C (tgt := 175) (dkAt dkX3_readStatement 53 (q := (123, .goto 52, 3)) rfl) (by decide) ?_
              exact k_vret C (dkAt dkX3_readStatement 75 (q := (175, .return_, 1)) rfl) rfl (Option.some.inj h) rfl
          · refine k_aload_n C (pc2 := 101) (dkAt dkX3_readStatement 43 (q := (100, .aload_n 0, 1)) rfl) rfl rfl 0 rfl ?_
            obtain ⟨q24, e25, h⟩ := ob_inv h
            refine kc_V C (As := []) (st2 := []) (ct_X3_readHost l G sh xs o0 h0 q9.1 q24 e25) (cl_X3_72 (hts_of C) ⟨Nat.le_of_ble_eq_true rfl, Nat.le_of_ble_eq_true rfl⟩ rfl rfl) h0.1 rfl rfl rfl rfl rfl (Nat.le_of_ble_eq_true rfl) (dkAt dkX3_readStatement 44 (q := (101, .invokevirtual 72, 3)) rfl) ⟨Nat.zero_le _, Nat.zero_le _⟩ (pc2 := 104) rfl rfl ?_
            refine k_goto C (tgt := 175) (dkAt dkX3_readStatement 45 (q := (104, .goto 71, 3)) rfl) (by decide) ?_
            exact k_vret C (dkAt dkX3_readStatement 75 (q := (175, .return_, 1)) rfl) rfl (Option.some.inj h) rfl
        · refine k_aload_n C (pc2 := 81) (dkAt dkX3_readStatement 34 (q := (80, .aload_n 0, 1)) rfl) rfl rfl 0 rfl ?_
          refine k_iconst C (pc2 := 82) (dkAt dkX3_readStatement 35 (q := (81, .iconst 0, 1)) rfl) rfl (v := 0) rfl ?_
          obtain ⟨q26, e27, h⟩ := ob_inv h
          refine kc_V C (As := [.int 0]) (st2 := []) (ct_X3_readEvening l G sh xs o0 h0 0 q7.1 q26 e27) (cl_X3_64 (hts_of C) ⟨Nat.le_of_ble_eq_true rfl, Nat.le_of_ble_eq_true rfl⟩ rfl rfl) h0.1 rfl rfl rfl rfl rfl (Nat.le_of_ble_eq_true rfl) (dkAt dkX3_readStatement 36 (q := (82, .invokevirtual 64, 3)) rfl) ⟨Nat.zero_le _, Nat.zero_le _⟩ (pc2 := 85) rfl rfl ?_
          refine k_goto C (tgt := 175) (dkAt dkX3_readStatement 37 (q := (85, .goto 90, 3)) rfl) (by decide) ?_
          exact k_vret C (dkAt dkX3_readStatement 75 (q := (175, .return_, 1)) rfl) rfl (Option.some.inj h) rfl
      · refine k_aload_n C (pc2 := 61) (dkAt dkX3_readStatement 25 (q := (60, .aload_n 0, 1)) rfl) rfl rfl 0 rfl ?_
        refine k_iconst C (pc2 := 62) (dkAt dkX3_readStatement 26 (q := (61, .iconst 1, 1)) rfl) rfl (v := 1) rfl ?_
        obtain ⟨q28, e29, h⟩ := ob_inv h
        refine kc_V C (As := [.int 1]) (st2 := []) (ct_X3_readEvening l G sh xs o0 h0 1 q5.1 q28 e29) (cl_X3_64 (hts_of C) ⟨Nat.le_of_ble_eq_true rfl, Nat.le_of_ble_eq_true rfl⟩ rfl rfl) h0.1 rfl rfl rfl rfl rfl (Nat.le_of_ble_eq_true rfl) (dkAt dkX3_readStatement 27 (q := (62, .invokevirtual 64, 3)) rfl) ⟨Nat.zero_le _, Nat.zero_le _⟩ (pc2 := 65) rfl rfl ?_
        refine k_goto C (tgt := 175) (dkAt dkX3_readStatement 28 (q := (65, .goto 110, 3)) rfl) (by decide) ?_
        exact k_vret C (dkAt dkX3_readStatement 75 (q := (175, .return_, 1)) rfl) rfl (Option.some.inj h) rfl
    · refine k_aload_n C (pc2 := 32) (dkAt dkX3_readStatement 13 (q := (31, .aload_n 0, 1)) rfl) rfl rfl 0 rfl ?_
      refine kf_X3_21 C (pc2 := 35) (o := o0) (o2 := o0 + 3) h0.1 rfl (dkAt dkX3_readStatement 14 (q := (32, .getfield 21, 3)) rfl) rfl ?_
      obtain ⟨q30, e31, h⟩ := ob_inv h
      refine kc_V C (As := []) (st2 := [.int q30]) (ct_X1_isFull l G sh xs (o0 + 3) h0.2.2 q3.1 q30 e31) (cl_X3_55 (hts_of C) ⟨Nat.le_of_ble_eq_true rfl, Nat.le_of_ble_eq_true rfl⟩ rfl rfl) h0.2.2.1 rfl rfl rfl rfl rfl (Nat.le_of_ble_eq_true rfl) (dkAt dkX3_readStatement 15 (q := (35, .invokevirtual 55, 3)) rfl) ⟨Nat.zero_le _, Nat.zero_le _⟩ (pc2 := 38) rfl rfl ?_
      refine k_if_ne C (tgt := 48) (pc2 := 41) (dkAt dkX3_readStatement 16 (q := (38, .ifCond .ne 10, 3)) rfl) (by decide) rfl h (fun h => ?_) (fun h => ?_)
      · refine k_aload_n C (pc2 := 49) (dkAt dkX3_readStatement 20 (q := (48, .aload_n 0, 1)) rfl) rfl rfl 0 rfl ?_
        refine kf_X3_12 C (pc2 := 52) (o := o0) (o2 := o0 + 1) h0.1 rfl (dkAt dkX3_readStatement 21 (q := (49, .getfield 12, 3)) rfl) rfl ?_
        refine k_ldcs C (pc2 := 54) (dkAt dkX3_readStatement 22 (q := (52, .ldc 62, 2)) rfl) rfl (i := 2) (List.mem_of_getElem? (i := 2) rfl) ?_
        obtain ⟨q32, e33, h⟩ := ob_inv h
        refine kc_V C (As := [.ref (gK G 2)]) (st2 := [.int q32.2]) (ct_X5_isWord l G sh xs (o0 + 1) h0.2.1 2 (by decide) q3.1 q32 e33) (cl_X3_46 (hts_of C) ⟨Nat.le_of_ble_eq_true rfl, Nat.le_of_ble_eq_true rfl⟩ rfl rfl) h0.2.1.1 rfl rfl rfl rfl rfl (Nat.le_of_ble_eq_true rfl) (dkAt dkX3_readStatement 23 (q := (54, .invokevirtual 46, 3)) rfl) ⟨Nat.zero_le _, Nat.zero_le _⟩ (pc2 := 57) rfl rfl ?_
        refine k_if_eq C (tgt := 68) (pc2 := 60) (dkAt dkX3_readStatement 24 (q := (57, .ifCond .eq 11, 3)) rfl) (by decide) rfl h (fun h => ?_) (fun h => ?_)
        · refine k_aload_n C (pc2 := 69) (dkAt dkX3_readStatement 29 (q := (68, .aload_n 0, 1)) rfl) rfl rfl 0 rfl ?_
          refine kf_X3_12 C (pc2 := 72) (o := o0) (o2 := o0 + 1) h0.1 rfl (dkAt dkX3_readStatement 30 (q := (69, .getfield 12, 3)) rfl) rfl ?_
          refine k_ldcs C (pc2 := 74) (dkAt dkX3_readStatement 31 (q := (72, .ldc 68, 2)) rfl) rfl (i := 3) (List.mem_of_getElem? (i := 3) rfl) ?_
          obtain ⟨q34, e35, h⟩ := ob_inv h
          refine kc_V C (As := [.ref (gK G 3)]) (st2 := [.int q34.2]) (ct_X5_isWord l G sh xs (o0 + 1) h0.2.1 3 (by decide) q32.1 q34 e35) (cl_X3_46 (hts_of C) ⟨Nat.le_of_ble_eq_true rfl, Nat.le_of_ble_eq_true rfl⟩ rfl rfl) h0.2.1.1 rfl rfl rfl rfl rfl (Nat.le_of_ble_eq_true rfl) (dkAt dkX3_readStatement 32 (q := (74, .invokevirtual 46, 3)) rfl) ⟨Nat.zero_le _, Nat.zero_le _⟩ (pc2 := 77) rfl rfl ?_
          refine k_if_eq C (tgt := 88) (pc2 := 80) (dkAt dkX3_readStatement 33 (q := (77, .ifCond .eq 11, 3)) rfl) (by decide) rfl h (fun h => ?_) (fun h => ?_)
          · refine k_aload_n C (pc2 := 89) (dkAt dkX3_readStatement 38 (q := (88, .aload_n 0, 1)) rfl) rfl rfl 0 rfl ?_
            refine kf_X3_12 C (pc2 := 92) (o := o0) (o2 := o0 + 1) h0.1 rfl (dkAt dkX3_readStatement 39 (q := (89, .getfield 12, 3)) rfl) rfl ?_
            refine k_ldcs C (pc2 := 94) (dkAt dkX3_readStatement 40 (q := (92, .ldc 70, 2)) rfl) rfl (i := 4) (List.mem_of_getElem? (i := 4) rfl) ?_
            obtain ⟨q36, e37, h⟩ := ob_inv h
            refine kc_V C (As := [.ref (gK G 4)]) (st2 := [.int q36.2]) (ct_X5_isWord l G sh xs (o0 + 1) h0.2.1 4 (by decide) q34.1 q36 e37) (cl_X3_46 (hts_of C) ⟨Nat.le_of_ble_eq_true rfl, Nat.le_of_ble_eq_true rfl⟩ rfl rfl) h0.2.1.1 rfl rfl rfl rfl rfl (Nat.le_of_ble_eq_true rfl) (dkAt dkX3_readStatement 41 (q := (94, .invokevirtual 46, 3)) rfl) ⟨Nat.zero_le _, Nat.zero_le _⟩ (pc2 := 97) rfl rfl ?_
            refine k_if_eq C (tgt := 107) (pc2 := 100) (dkAt dkX3_readStatement 42 (q := (97, .ifCond .eq 10, 3)) rfl) (by decide) rfl h (fun h => ?_) (fun h => ?_)
            · refine k_aload_n C (pc2 := 108) (dkAt dkX3_readStatement 46 (q := (107, .aload_n 0, 1)) rfl) rfl rfl 0 rfl ?_
              refine kf_X3_12 C (pc2 := 111) (o := o0) (o2 := o0 + 1) h0.1 rfl (dkAt dkX3_readStatement 47 (q := (108, .getfield 12, 3)) rfl) rfl ?_
              refine k_ldcs C (pc2 := 113) (dkAt dkX3_readStatement 48 (q := (111, .ldc 75, 2)) rfl) rfl (i := 5) (List.mem_of_getElem? (i := 5) rfl) ?_
              obtain ⟨q38, e39, h⟩ := ob_inv h
              refine kc_V C (As := [.ref (gK G 5)]) (st2 := [.int q38.2]) (ct_X5_isWord l G sh xs (o0 + 1) h0.2.1 5 (by decide) q36.1 q38 e39) (cl_X3_46 (hts_of C) ⟨Nat.le_of_ble_eq_true rfl, Nat.le_of_ble_eq_true rfl⟩ rfl rfl) h0.2.1.1 rfl rfl rfl rfl rfl (Nat.le_of_ble_eq_true rfl) (dkAt dkX3_readStatement 49 (q := (113, .invokevirtual 46, 3)) rfl) ⟨Nat.zero_le _, Nat.zero_le _⟩ (pc2 := 116) rfl rfl ?_
              refine k_if_eq C (tgt := 126) (pc2 := 119) (dkAt dkX3_readStatement 50 (q := (116, .ifCond .eq 10, 3)) rfl) (by decide) rfl h (fun h => ?_) (fun h => ?_)
              · refine k_aload_n C (pc2 := 127) (dkAt dkX3_readStatement 54 (q := (126, .aload_n 0, 1)) rfl) rfl rfl 0 rfl ?_
                refine kf_X3_12 C (pc2 := 130) (o := o0) (o2 := o0 + 1) h0.1 rfl (dkAt dkX3_readStatement 55 (q := (127, .getfield 12, 3)) rfl) rfl ?_
                refine k_ldcs C (pc2 := 132) (dkAt dkX3_readStatement 56 (q := (130, .ldc 80, 2)) rfl) rfl (i := 6) (List.mem_of_getElem? (i := 6) rfl) ?_
                obtain ⟨q40, e41, h⟩ := ob_inv h
                refine kc_V C (As := [.ref (gK G 6)]) (st2 := [.int q40.2]) (ct_X5_isWord l G sh xs (o0 + 1) h0.2.1 6 (by decide) q38.1 q40 e41) (cl_X3_46 (hts_of C) ⟨Nat.le_of_ble_eq_true rfl, Nat.le_of_ble_eq_true rfl⟩ rfl rfl) h0.2.1.1 rfl rfl rfl rfl rfl (Nat.le_of_ble_eq_true rfl) (dkAt dkX3_readStatement 57 (q := (132, .invokevirtual 46, 3)) rfl) ⟨Nat.zero_le _, Nat.zero_le _⟩ (pc2 := 135) rfl rfl ?_
                refine k_if_eq C (tgt := 145) (pc2 := 138) (dkAt dkX3_readStatement 58 (q := (135, .ifCond .eq 10, 3)) rfl) (by decide) rfl h (fun h => ?_) (fun h => ?_)
                · refine k_aload_n C (pc2 := 146) (dkAt dkX3_readStatement 62 (q := (145, .aload_n 0, 1)) rfl) rfl rfl 0 rfl ?_
                  refine kf_X3_12 C (pc2 := 149) (o := o0) (o2 := o0 + 1) h0.1 rfl (dkAt dkX3_readStatement 63 (q := (146, .getfield 12, 3)) rfl) rfl ?_
                  refine k_ldcs C (pc2 := 151) (dkAt dkX3_readStatement 64 (q := (149, .ldc 85, 2)) rfl) rfl (i := 7) (List.mem_of_getElem? (i := 7) rfl) ?_
                  obtain ⟨q42, e43, h⟩ := ob_inv h
                  refine kc_V C (As := [.ref (gK G 7)]) (st2 := [.int q42.2]) (ct_X5_isWord l G sh xs (o0 + 1) h0.2.1 7 (by decide) q40.1 q42 e43) (cl_X3_46 (hts_of C) ⟨Nat.le_of_ble_eq_true rfl, Nat.le_of_ble_eq_true rfl⟩ rfl rfl) h0.2.1.1 rfl rfl rfl rfl rfl (Nat.le_of_ble_eq_true rfl) (dkAt dkX3_readStatement 65 (q := (151, .invokevirtual 46, 3)) rfl) ⟨Nat.zero_le _, Nat.zero_le _⟩ (pc2 := 154) rfl rfl ?_
                  refine k_if_eq C (tgt := 164) (pc2 := 157) (dkAt dkX3_readStatement 66 (q := (154, .ifCond .eq 10, 3)) rfl) (by decide) rfl h (fun h => ?_) (fun h => ?_)
                  · refine k_aload_n C (pc2 := 165) (dkAt dkX3_readStatement 70 (q := (164, .aload_n 0, 1)) rfl) rfl rfl 0 rfl ?_
                    refine k_aload_n C (pc2 := 166) (dkAt dkX3_readStatement 71 (q := (165, .aload_n 0, 1)) rfl) rfl rfl 0 rfl ?_
                    refine kf_X3_12 C (pc2 := 169) (o := o0) (o2 := o0 + 1) h0.1 rfl (dkAt dkX3_readStatement 72 (q := (166, .getfield 12, 3)) rfl) rfl ?_
                    refine kf_X3_41 C (pc2 := 172) (o := o0 + 1) (o2 := 0) h0.2.1.1 (dkAt dkX3_readStatement 73 (q := (169, .getfield 41, 3)) rfl) rfl ?_
                    refine kp_X3_25 C (pc2 := 175) (o := o0) h0.1 (dkAt dkX3_readStatement 74 (q := (172, .putfield 25, 3)) rfl) rfl h (fun M44 h => ?_)
                    exact k_vret C (dkAt dkX3_readStatement 75 (q := (175, .return_, 1)) rfl) rfl (Option.some.inj h) rfl
                  · refine k_aload_n C (pc2 := 158) (dkAt dkX3_readStatement 67 (q := (157, .aload_n 0, 1)) rfl) rfl rfl 0 rfl ?_
                    obtain ⟨q45, e46, h⟩ := ob_inv h
                    refine kc_V C (As := []) (st2 := []) (ct_X3_readOut l G sh xs o0 h0 q42.1 q45 e46) (cl_X3_87 (hts_of C) ⟨Nat.le_of_ble_eq_true rfl, Nat.le_of_ble_eq_true rfl⟩ rfl rfl) h0.1 rfl rfl rfl rfl rfl (Nat.le_of_ble_eq_true rfl) (dkAt dkX3_readStatement 68 (q := (158, .invokevirtual 87, 3)) rfl) ⟨Nat.zero_le _, Nat.zero_le _⟩ (pc2 := 161) rfl rfl ?_
                    refine k_goto C (tgt := 175) (dkAt dkX3_readStatement 69 (q := (161, .goto 14, 3)) rfl) (by decide) ?_
                    exact k_vret C (dkAt dkX3_readStatement 75 (q := (175, .return_, 1)) rfl) rfl (Option.some.inj h) rfl
                · refine k_aload_n C (pc2 := 139) (dkAt dkX3_readStatement 59 (q := (138, .aload_n 0, 1)) rfl) rfl rfl 0 rfl ?_
                  obtain ⟨q47, e48, h⟩ := ob_inv h
                  refine kc_V C (As := []) (st2 := []) (ct_X3_readLose l G sh xs o0 h0 q40.1 q47 e48) (cl_X3_82 (hts_of C) ⟨Nat.le_of_ble_eq_true rfl, Nat.le_of_ble_eq_true rfl⟩ rfl rfl) h0.1 rfl rfl rfl rfl rfl (Nat.le_of_ble_eq_true rfl) (dkAt dkX3_readStatement 60 (q := (139, .invokevirtual 82, 3)) rfl) ⟨Nat.zero_le _, Nat.zero_le _⟩ (pc2 := 142) rfl rfl ?_
                  refine k_goto C (tgt := 175) (dkAt dkX3_readStatement 61 (q := (142, .goto 33, 3)) rfl) (by decide) ?_
                  exact k_vret C (dkAt dkX3_readStatement 75 (q := (175, .return_, 1)) rfl) rfl (Option.some.inj h) rfl
              · refine k_aload_n C (pc2 := 120) (dkAt dkX3_readStatement 51 (q := (119, .aload_n 0, 1)) rfl) rfl rfl 0 rfl ?_
                obtain ⟨q49, e50, h⟩ := ob_inv h
                refine kc_V C (As := []) (st2 := []) (ct_X3_readLeast l G sh xs o0 h0 q38.1 q49 e50) (cl_X3_77 (hts_of C) ⟨Nat.le_of_ble_eq_true rfl, Nat.le_of_ble_eq_true rfl⟩ rfl rfl) h0.1 rfl rfl rfl rfl rfl (Nat.le_of_ble_eq_true rfl) (dkAt dkX3_readStatement 52 (q := (120, .invokevirtual 77, 3)) rfl) ⟨Nat.zero_le _, Nat.zero_le _⟩ (pc2 := 123) rfl rfl ?_
                refine k_goto C (tgt := 175) (dkAt dkX3_readStatement 53 (q := (123, .goto 52, 3)) rfl) (by decide) ?_
                exact k_vret C (dkAt dkX3_readStatement 75 (q := (175, .return_, 1)) rfl) rfl (Option.some.inj h) rfl
            · refine k_aload_n C (pc2 := 101) (dkAt dkX3_readStatement 43 (q := (100, .aload_n 0, 1)) rfl) rfl rfl 0 rfl ?_
              obtain ⟨q51, e52, h⟩ := ob_inv h
              refine kc_V C (As := []) (st2 := []) (ct_X3_readHost l G sh xs o0 h0 q36.1 q51 e52) (cl_X3_72 (hts_of C) ⟨Nat.le_of_ble_eq_true rfl, Nat.le_of_ble_eq_true rfl⟩ rfl rfl) h0.1 rfl rfl rfl rfl rfl (Nat.le_of_ble_eq_true rfl) (dkAt dkX3_readStatement 44 (q := (101, .invokevirtual 72, 3)) rfl) ⟨Nat.zero_le _, Nat.zero_le _⟩ (pc2 := 104) rfl rfl ?_
              refine k_goto C (tgt := 175) (dkAt dkX3_readStatement 45 (q := (104, .goto 71, 3)) rfl) (by decide) ?_
              exact k_vret C (dkAt dkX3_readStatement 75 (q := (175, .return_, 1)) rfl) rfl (Option.some.inj h) rfl
          · refine k_aload_n C (pc2 := 81) (dkAt dkX3_readStatement 34 (q := (80, .aload_n 0, 1)) rfl) rfl rfl 0 rfl ?_
            refine k_iconst C (pc2 := 82) (dkAt dkX3_readStatement 35 (q := (81, .iconst 0, 1)) rfl) rfl (v := 0) rfl ?_
            obtain ⟨q53, e54, h⟩ := ob_inv h
            refine kc_V C (As := [.int 0]) (st2 := []) (ct_X3_readEvening l G sh xs o0 h0 0 q34.1 q53 e54) (cl_X3_64 (hts_of C) ⟨Nat.le_of_ble_eq_true rfl, Nat.le_of_ble_eq_true rfl⟩ rfl rfl) h0.1 rfl rfl rfl rfl rfl (Nat.le_of_ble_eq_true rfl) (dkAt dkX3_readStatement 36 (q := (82, .invokevirtual 64, 3)) rfl) ⟨Nat.zero_le _, Nat.zero_le _⟩ (pc2 := 85) rfl rfl ?_
            refine k_goto C (tgt := 175) (dkAt dkX3_readStatement 37 (q := (85, .goto 90, 3)) rfl) (by decide) ?_
            exact k_vret C (dkAt dkX3_readStatement 75 (q := (175, .return_, 1)) rfl) rfl (Option.some.inj h) rfl
        · refine k_aload_n C (pc2 := 61) (dkAt dkX3_readStatement 25 (q := (60, .aload_n 0, 1)) rfl) rfl rfl 0 rfl ?_
          refine k_iconst C (pc2 := 62) (dkAt dkX3_readStatement 26 (q := (61, .iconst 1, 1)) rfl) rfl (v := 1) rfl ?_
          obtain ⟨q55, e56, h⟩ := ob_inv h
          refine kc_V C (As := [.int 1]) (st2 := []) (ct_X3_readEvening l G sh xs o0 h0 1 q32.1 q55 e56) (cl_X3_64 (hts_of C) ⟨Nat.le_of_ble_eq_true rfl, Nat.le_of_ble_eq_true rfl⟩ rfl rfl) h0.1 rfl rfl rfl rfl rfl (Nat.le_of_ble_eq_true rfl) (dkAt dkX3_readStatement 27 (q := (62, .invokevirtual 64, 3)) rfl) ⟨Nat.zero_le _, Nat.zero_le _⟩ (pc2 := 65) rfl rfl ?_
          refine k_goto C (tgt := 175) (dkAt dkX3_readStatement 28 (q := (65, .goto 110, 3)) rfl) (by decide) ?_
          exact k_vret C (dkAt dkX3_readStatement 75 (q := (175, .return_, 1)) rfl) rfl (Option.some.inj h) rfl
      · refine k_aload_n C (pc2 := 42) (dkAt dkX3_readStatement 17 (q := (41, .aload_n 0, 1)) rfl) rfl rfl 0 rfl ?_
        obtain ⟨q57, e58, h⟩ := ob_inv h
        refine kc_V C (As := []) (st2 := []) (ct_X3_readPerson l G sh xs o0 h0 q3.1 q57 e58) (cl_X3_59 (hts_of C) ⟨Nat.le_of_ble_eq_true rfl, Nat.le_of_ble_eq_true rfl⟩ rfl rfl) h0.1 rfl rfl rfl rfl rfl (Nat.le_of_ble_eq_true rfl) (dkAt dkX3_readStatement 18 (q := (42, .invokevirtual 59, 3)) rfl) ⟨Nat.zero_le _, Nat.zero_le _⟩ (pc2 := 45) rfl rfl ?_
        refine k_goto C (tgt := 175) (dkAt dkX3_readStatement 19 (q := (45, .goto 130, 3)) rfl) (by decide) ?_
        exact k_vret C (dkAt dkX3_readStatement 75 (q := (175, .return_, 1)) rfl) rfl (Option.some.inj h) rfl
  · refine k_aload_n C (pc2 := 13) (dkAt dkX3_readStatement 5 (q := (12, .aload_n 0, 1)) rfl) rfl rfl 0 rfl ?_
    obtain ⟨q59, e60, h⟩ := ob_inv h
    refine kc_V C (As := []) (st2 := []) (ct_X3_readDays l G sh xs o0 h0 q1.1 q59 e60) (cl_X3_50 (hts_of C) ⟨Nat.le_of_ble_eq_true rfl, Nat.le_of_ble_eq_true rfl⟩ rfl rfl) h0.1 rfl rfl rfl rfl rfl (Nat.le_of_ble_eq_true rfl) (dkAt dkX3_readStatement 6 (q := (13, .invokevirtual 50, 3)) rfl) ⟨Nat.zero_le _, Nat.zero_le _⟩ (pc2 := 16) rfl rfl ?_
    refine k_goto C (tgt := 175) (dkAt dkX3_readStatement 7 (q := (16, .goto 159, 3)) rfl) (by decide) ?_
    exact k_vret C (dkAt dkX3_readStatement 75 (q := (175, .return_, 1)) rfl) rfl (Option.some.inj h) rfl
set_option maxRecDepth 100000 in
set_option maxHeartbeats 4000000 in
theorem ct_X5_rewind (l : Launch) (G : GG) (sh : Sh) (xs : List va_E) (o0 : Nat) (h0 : isTp sh o0) (M : Mm) (r : Mm) (h : f_X5_rewind o0 M = some r) : Ct l yX5_rewind cX5_rewind 1 none rm_X5_rewind G [rA G o0] sh M xs none sh r xs 0 0 := by
  refine ct_of (by decide) (Nat.le_of_ble_eq_true rfl) ?_
  intro p e s m args below meth c hnm C
  refine k_lv [0] (lv2 := [(0, rA G o0)]) rfl ?_
  unfold f_X5_rewind at h
  refine k_aload_n C (pc2 := 1) (dkAt dkX5_rewind 0 (q := (0, .aload_n 0, 1)) rfl) rfl rfl 0 rfl ?_
  refine k_iconst C (pc2 := 2) (dkAt dkX5_rewind 1 (q := (1, .iconst 0, 1)) rfl) rfl (v := 0) rfl ?_
  refine kp_X5_19 C (pc2 := 5) (o := o0) h0.1 (dkAt dkX5_rewind 2 (q := (2, .putfield 19, 3)) rfl) rfl h (fun M1 h => ?_)
  refine k_aload_n C (pc2 := 6) (dkAt dkX5_rewind 3 (q := (5, .aload_n 0, 1)) rfl) rfl rfl 0 rfl ?_
  obtain ⟨q2, e3, h⟩ := ob_inv h
  refine kc_V C (As := []) (st2 := []) (ct_X5_nextToken l G sh xs o0 h0 M1 q2 e3) (cl_X5_22 (hts_of C) ⟨Nat.le_of_ble_eq_true rfl, Nat.le_of_ble_eq_true rfl⟩ rfl rfl) h0.1 rfl rfl rfl rfl rfl (Nat.le_of_ble_eq_true rfl) (dkAt dkX5_rewind 4 (q := (6, .invokevirtual 22, 3)) rfl) ⟨Nat.zero_le _, Nat.zero_le _⟩ (pc2 := 9) rfl rfl ?_
  exact k_vret C (dkAt dkX5_rewind 5 (q := (9, .return_, 1)) rfl) rfl (Option.some.inj h) rfl
set_option maxRecDepth 100000 in
set_option maxHeartbeats 4000000 in
theorem kl_X3_readStatements_L16 {p : Program} {l : Launch} {e : Env} {s : State} {m : MethodId} {args : Array Value} {below : List Frame} {meth : Method} {c : Code} {G : GG} {sh : Sh} {xs : List va_E} {Q : State → Prop} (C : Cx p s m c args meth G RX3 cX3_readStatements 3 (some .int)) (o0 : Nat) (h0 : isRd sh o0) (y1 : Int32) (M2 : Mm) (hcont : KW p l e rm_X3_readStatements s m args below meth c G 3 Q sh xs 0 0 M2 73 [(0, rA G o0), (1, .int y1)] []) : ∀ (n : Nat) (x1 : Int32) (x2 : Int32) (M : Mm), f_X3_readStatements_L16 o0 n x1 x2 M = some (y1, M2) → KW p l e rm_X3_readStatements s m args below meth c G 3 Q sh xs 0 0 M 16 [(0, rA G o0), (1, .int x1), (2, .int x2)] [] := by
  intro n
  induction n with
  | zero =>
    intro x1 x2 M h
    cases h
  | succ n ih =>
    intro x1 x2 M h
    unfold f_X3_readStatements_L16 at h
    refine k_iload_n C (pc2 := 17) (dkAt dkX3_readStatements 10 (q := (16, .iload_n 2, 1)) rfl) rfl rfl 2 rfl ?_
    refine k_if_eq C (tgt := 73) (pc2 := 20) (dkAt dkX3_readStatements 11 (q := (17, .ifCond .eq 56, 3)) rfl) (by decide) rfl h (fun h => ?_) (fun h => ?_)
    · refine k_lv [0, 1] (lv2 := [(0, rA G o0), (1, .int x1)]) rfl ?_
      cases h
      exact hcont
    · refine k_iload_n C (pc2 := 21) (dkAt dkX3_readStatements 12 (q := (20, .iload_n 1, 1)) rfl) rfl rfl 1 rfl ?_
      refine k_sipush C (pc2 := 24) (dkAt dkX3_readStatements 13 (q := (21, .sipush 250, 3)) rfl) rfl (v := 250) rfl ?_
      refine k_icmp_ge C (tgt := 73) (pc2 := 27) (dkAt dkX3_readStatements 14 (q := (24, .if_icmp .ge 49, 3)) rfl) (by decide) rfl h (fun h => ?_) (fun h => ?_)
      · refine k_lv [0, 1] (lv2 := [(0, rA G o0), (1, .int x1)]) rfl ?_
        cases h
        exact hcont
      · refine k_aload_n C (pc2 := 28) (dkAt dkX3_readStatements 15 (q := (27, .aload_n 0, 1)) rfl) rfl rfl 0 rfl ?_
        obtain ⟨q4, e5, h⟩ := ob_inv h
        refine kc_V C (As := []) (st2 := []) (ct_X3_readStatement l G sh xs o0 h0 M q4 e5) (cl_X3_32 (hts_of C) ⟨Nat.le_of_ble_eq_true rfl, Nat.le_of_ble_eq_true rfl⟩ rfl rfl) h0.1 rfl rfl rfl rfl rfl (Nat.le_of_ble_eq_true rfl) (dkAt dkX3_readStatements 16 (q := (28, .invokevirtual 32, 3)) rfl) ⟨Nat.zero_le _, Nat.zero_le _⟩ (pc2 := 31) rfl rfl ?_
        refine kb_iinc C (pc2 := 34) (dkAt dkX3_readStatements 17 (q := (31, .iinc 1 1, 3)) rfl) rfl (j := 1) rfl (v := x1 + 1) rfl (by decide) (lv2 := fun v6 => [(1, .int v6), (0, rA G o0), (2, .int x2)]) (fun _ => rfl) h (fun v6 h => ?_)
        refine k_aload_n C (pc2 := 35) (dkAt dkX3_readStatements 18 (q := (34, .aload_n 0, 1)) rfl) rfl rfl 1 rfl ?_
        refine kf_X3_25 C (pc2 := 38) (o := o0) (o2 := 0) h0.1 (dkAt dkX3_readStatements 19 (q := (35, .getfield 25, 3)) rfl) rfl ?_
        refine k_iconst C (pc2 := 39) (dkAt dkX3_readStatements 20 (q := (38, .iconst (-1), 1)) rfl) rfl (v := (-1)) rfl ?_
        refine k_icmp_ne C (tgt := 57) (pc2 := 42) (dkAt dkX3_readStatements 21 (q := (39, .if_icmp .ne 18, 3)) rfl) (by decide) rfl h (fun h => ?_) (fun h => ?_)
        · refine k_iconst C (pc2 := 58) (dkAt dkX3_readStatements 29 (q := (57, .iconst 0, 1)) rfl) rfl (v := 0) rfl ?_
          refine k_istore_n C (pc2 := 59) (dkAt dkX3_readStatements 30 (q := (58, .istore_n 2, 1)) rfl) rfl rfl (by decide) (lv2 := [(2, .int 0), (1, .int v6), (0, rA G o0)]) rfl ?_
          refine k_iload_n C (pc2 := 60) (dkAt dkX3_readStatements 31 (q := (59, .iload_n 2, 1)) rfl) rfl rfl 0 rfl ?_
          refine k_if_eq C (tgt := 16) (pc2 := 63) (dkAt dkX3_readStatements 32 (q := (60, .ifCond .eq (-44), 3)) rfl) (by decide) rfl h (fun h => ?_) (fun h => ?_)
          · refine k_lv [2, 1, 0] (lv2 := [(0, rA G o0), (1, .int v6), (2, .int 0)]) rfl ?_
            exact ih v6 0 q4 h
          · refine k_aload_n C (pc2 := 64) (dkAt dkX3_readStatements 33 (q := (63, .aload_n 0, 1)) rfl) rfl rfl 2 rfl ?_
            refine kf_X3_12 C (pc2 := 67) (o := o0) (o2 := o0 + 1) h0.1 rfl (dkAt dkX3_readStatements 34 (q := (64, .getfield 12, 3)) rfl) rfl ?_
            obtain ⟨q7, e8, h⟩ := ob_inv h
            refine kc_V C (As := []) (st2 := []) (ct_X5_nextToken l G sh xs (o0 + 1) h0.2.1 q4 q7 e8) (cl_X3_38 (hts_of C) ⟨Nat.le_of_ble_eq_true rfl, Nat.le_of_ble_eq_true rfl⟩ rfl rfl) h0.2.1.1 rfl rfl rfl rfl rfl (Nat.le_of_ble_eq_true rfl) (dkAt dkX3_readStatements 35 (q := (67, .invokevirtual 38, 3)) rfl) ⟨Nat.zero_le _, Nat.zero_le _⟩ (pc2 := 70) rfl rfl ?_
            refine k_goto C (tgt := 16) (dkAt dkX3_readStatements 36 (q := (70, .goto (-54), 3)) rfl) (by decide) ?_
            refine k_lv [2, 1, 0] (lv2 := [(0, rA G o0), (1, .int v6), (2, .int 0)]) rfl ?_
            exact ih v6 0 q7 h
        · refine k_aload_n C (pc2 := 43) (dkAt dkX3_readStatements 22 (q := (42, .aload_n 0, 1)) rfl) rfl rfl 1 rfl ?_
          refine kf_X3_12 C (pc2 := 46) (o := o0) (o2 := o0 + 1) h0.1 rfl (dkAt dkX3_readStatements 23 (q := (43, .getfield 12, 3)) rfl) rfl ?_
          refine kf_X3_35 C (pc2 := 49) (o := o0 + 1) (o2 := 0) h0.2.1.1 (dkAt dkX3_readStatements 24 (q := (46, .getfield 35, 3)) rfl) rfl ?_
          refine k_iconst C (pc2 := 50) (dkAt dkX3_readStatements 25 (q := (49, .iconst 3, 1)) rfl) rfl (v := 3) rfl ?_
          refine k_icmp_ne C (tgt := 57) (pc2 := 53) (dkAt dkX3_readStatements 26 (q := (50, .if_icmp .ne 7, 3)) rfl) (by decide) rfl h (fun h => ?_) (fun h => ?_)
          · refine k_iconst C (pc2 := 58) (dkAt dkX3_readStatements 29 (q := (57, .iconst 0, 1)) rfl) rfl (v := 0) rfl ?_
            refine k_istore_n C (pc2 := 59) (dkAt dkX3_readStatements 30 (q := (58, .istore_n 2, 1)) rfl) rfl rfl (by decide) (lv2 := [(2, .int 0), (1, .int v6), (0, rA G o0)]) rfl ?_
            refine k_iload_n C (pc2 := 60) (dkAt dkX3_readStatements 31 (q := (59, .iload_n 2, 1)) rfl) rfl rfl 0 rfl ?_
            refine k_if_eq C (tgt := 16) (pc2 := 63) (dkAt dkX3_readStatements 32 (q := (60, .ifCond .eq (-44), 3)) rfl) (by decide) rfl h (fun h => ?_) (fun h => ?_)
            · refine k_lv [2, 1, 0] (lv2 := [(0, rA G o0), (1, .int v6), (2, .int 0)]) rfl ?_
              exact ih v6 0 q4 h
            · refine k_aload_n C (pc2 := 64) (dkAt dkX3_readStatements 33 (q := (63, .aload_n 0, 1)) rfl) rfl rfl 2 rfl ?_
              refine kf_X3_12 C (pc2 := 67) (o := o0) (o2 := o0 + 1) h0.1 rfl (dkAt dkX3_readStatements 34 (q := (64, .getfield 12, 3)) rfl) rfl ?_
              obtain ⟨q9, e10, h⟩ := ob_inv h
              refine kc_V C (As := []) (st2 := []) (ct_X5_nextToken l G sh xs (o0 + 1) h0.2.1 q4 q9 e10) (cl_X3_38 (hts_of C) ⟨Nat.le_of_ble_eq_true rfl, Nat.le_of_ble_eq_true rfl⟩ rfl rfl) h0.2.1.1 rfl rfl rfl rfl rfl (Nat.le_of_ble_eq_true rfl) (dkAt dkX3_readStatements 35 (q := (67, .invokevirtual 38, 3)) rfl) ⟨Nat.zero_le _, Nat.zero_le _⟩ (pc2 := 70) rfl rfl ?_
              refine k_goto C (tgt := 16) (dkAt dkX3_readStatements 36 (q := (70, .goto (-54), 3)) rfl) (by decide) ?_
              refine k_lv [2, 1, 0] (lv2 := [(0, rA G o0), (1, .int v6), (2, .int 0)]) rfl ?_
              exact ih v6 0 q9 h
          · refine k_iconst C (pc2 := 54) (dkAt dkX3_readStatements 27 (q := (53, .iconst 1, 1)) rfl) rfl (v := 1) rfl ?_
            refine k_goto C (tgt := 58) (dkAt dkX3_readStatements 28 (q := (54, .goto 4, 3)) rfl) (by decide) ?_
            refine k_istore_n C (pc2 := 59) (dkAt dkX3_readStatements 30 (q := (58, .istore_n 2, 1)) rfl) rfl rfl (by decide) (lv2 := [(2, .int 1), (1, .int v6), (0, rA G o0)]) rfl ?_
            refine k_iload_n C (pc2 := 60) (dkAt dkX3_readStatements 31 (q := (59, .iload_n 2, 1)) rfl) rfl rfl 0 rfl ?_
            refine k_if_eq C (tgt := 16) (pc2 := 63) (dkAt dkX3_readStatements 32 (q := (60, .ifCond .eq (-44), 3)) rfl) (by decide) rfl h (fun h => ?_) (fun h => ?_)
            · refine k_lv [2, 1, 0] (lv2 := [(0, rA G o0), (1, .int v6), (2, .int 1)]) rfl ?_
              exact ih v6 1 q4 h
            · refine k_aload_n C (pc2 := 64) (dkAt dkX3_readStatements 33 (q := (63, .aload_n 0, 1)) rfl) rfl rfl 2 rfl ?_
              refine kf_X3_12 C (pc2 := 67) (o := o0) (o2 := o0 + 1) h0.1 rfl (dkAt dkX3_readStatements 34 (q := (64, .getfield 12, 3)) rfl) rfl ?_
              obtain ⟨q11, e12, h⟩ := ob_inv h
              refine kc_V C (As := []) (st2 := []) (ct_X5_nextToken l G sh xs (o0 + 1) h0.2.1 q4 q11 e12) (cl_X3_38 (hts_of C) ⟨Nat.le_of_ble_eq_true rfl, Nat.le_of_ble_eq_true rfl⟩ rfl rfl) h0.2.1.1 rfl rfl rfl rfl rfl (Nat.le_of_ble_eq_true rfl) (dkAt dkX3_readStatements 35 (q := (67, .invokevirtual 38, 3)) rfl) ⟨Nat.zero_le _, Nat.zero_le _⟩ (pc2 := 70) rfl rfl ?_
              refine k_goto C (tgt := 16) (dkAt dkX3_readStatements 36 (q := (70, .goto (-54), 3)) rfl) (by decide) ?_
              refine k_lv [2, 1, 0] (lv2 := [(0, rA G o0), (1, .int v6), (2, .int 1)]) rfl ?_
              exact ih v6 1 q11 h
set_option maxRecDepth 100000 in
set_option maxHeartbeats 4000000 in
theorem ct_X3_readStatements (l : Launch) (G : GG) (sh : Sh) (xs : List va_E) (o0 : Nat) (h0 : isRd sh o0) (M : Mm) (r : Mm × Int32) (h : f_X3_readStatements o0 M = some r) : Ct l yX3_readStatements cX3_readStatements 3 (some .int) rm_X3_readStatements G [rA G o0] sh M xs (some (.int r.2)) sh r.1 xs 0 0 := by
  refine ct_of (by decide) (Nat.le_of_ble_eq_true rfl) ?_
  intro p e s m args below meth c hnm C
  refine k_lv [0] (lv2 := [(0, rA G o0)]) rfl ?_
  unfold f_X3_readStatements at h
  refine k_aload_n C (pc2 := 1) (dkAt dkX3_readStatements 0 (q := (0, .aload_n 0, 1)) rfl) rfl rfl 0 rfl ?_
  refine k_iconst C (pc2 := 2) (dkAt dkX3_readStatements 1 (q := (1, .iconst (-1), 1)) rfl) rfl (v := (-1)) rfl ?_
  refine kp_X3_25 C (pc2 := 5) (o := o0) h0.1 (dkAt dkX3_readStatements 2 (q := (2, .putfield 25, 3)) rfl) rfl h (fun M1 h => ?_)
  refine k_aload_n C (pc2 := 6) (dkAt dkX3_readStatements 3 (q := (5, .aload_n 0, 1)) rfl) rfl rfl 0 rfl ?_
  refine kf_X3_12 C (pc2 := 9) (o := o0) (o2 := o0 + 1) h0.1 rfl (dkAt dkX3_readStatements 4 (q := (6, .getfield 12, 3)) rfl) rfl ?_
  obtain ⟨q2, e3, h⟩ := ob_inv h
  refine kc_V C (As := []) (st2 := []) (ct_X5_rewind l G sh xs (o0 + 1) h0.2.1 M1 q2 e3) (cl_X3_29 (hts_of C) ⟨Nat.le_of_ble_eq_true rfl, Nat.le_of_ble_eq_true rfl⟩ rfl rfl) h0.2.1.1 rfl rfl rfl rfl rfl (Nat.le_of_ble_eq_true rfl) (dkAt dkX3_readStatements 5 (q := (9, .invokevirtual 29, 3)) rfl) ⟨Nat.zero_le _, Nat.zero_le _⟩ (pc2 := 12) rfl rfl ?_
  refine k_iconst C (pc2 := 13) (dkAt dkX3_readStatements 6 (q := (12, .iconst 0, 1)) rfl) rfl (v := 0) rfl ?_
  refine k_istore_n C (pc2 := 14) (dkAt dkX3_readStatements 7 (q := (13, .istore_n 1, 1)) rfl) rfl rfl (by decide) (lv2 := [(1, .int 0), (0, rA G o0)]) rfl ?_
  refine k_iconst C (pc2 := 15) (dkAt dkX3_readStatements 8 (q := (14, .iconst 1, 1)) rfl) rfl (v := 1) rfl ?_
  refine k_istore_n C (pc2 := 16) (dkAt dkX3_readStatements 9 (q := (15, .istore_n 2, 1)) rfl) rfl rfl (by decide) (lv2 := [(2, .int 1), (1, .int 0), (0, rA G o0)]) rfl ?_
  refine k_lv [2, 1, 0] (lv2 := [(0, rA G o0), (1, .int 0), (2, .int 1)]) rfl ?_
  obtain ⟨v15, M16, e14, h⟩ := ob2_inv h
  refine kl_X3_readStatements_L16 C o0 h0 v15 M16 ?_ 1000 0 1 q2 e14
  refine k_aload_n C (pc2 := 74) (dkAt dkX3_readStatements 37 (q := (73, .aload_n 0, 1)) rfl) rfl rfl 0 rfl ?_
  refine kf_X3_25 C (pc2 := 77) (o := o0) (o2 := 0) h0.1 (dkAt dkX3_readStatements 38 (q := (74, .getfield 25, 3)) rfl) rfl ?_
  refine k_iconst C (pc2 := 78) (dkAt dkX3_readStatements 39 (q := (77, .iconst (-1), 1)) rfl) rfl (v := (-1)) rfl ?_
  refine k_icmp_ne C (tgt := 102) (pc2 := 81) (dkAt dkX3_readStatements 40 (q := (78, .if_icmp .ne 24, 3)) rfl) (by decide) rfl h (fun h => ?_) (fun h => ?_)
  · refine k_iload_n C (pc2 := 103) (dkAt dkX3_readStatements 50 (q := (102, .iload_n 1, 1)) rfl) rfl rfl 1 rfl ?_
    exact k_iret C (dkAt dkX3_readStatements 51 (q := (103, .ireturn, 1)) rfl) (pe2 (Option.some.inj h)) rfl (pe1 (Option.some.inj h)) rfl
  · refine k_aload_n C (pc2 := 82) (dkAt dkX3_readStatements 41 (q := (81, .aload_n 0, 1)) rfl) rfl rfl 0 rfl ?_
    refine kf_X3_12 C (pc2 := 85) (o := o0) (o2 := o0 + 1) h0.1 rfl (dkAt dkX3_readStatements 42 (q := (82, .getfield 12, 3)) rfl) rfl ?_
    refine kf_X3_35 C (pc2 := 88) (o := o0 + 1) (o2 := 0) h0.2.1.1 (dkAt dkX3_readStatements 43 (q := (85, .getfield 35, 3)) rfl) rfl ?_
    refine k_if_eq C (tgt := 102) (pc2 := 91) (dkAt dkX3_readStatements 44 (q := (88, .ifCond .eq 14, 3)) rfl) (by decide) rfl h (fun h => ?_) (fun h => ?_)
    · refine k_iload_n C (pc2 := 103) (dkAt dkX3_readStatements 50 (q := (102, .iload_n 1, 1)) rfl) rfl rfl 1 rfl ?_
      exact k_iret C (dkAt dkX3_readStatements 51 (q := (103, .ireturn, 1)) rfl) (pe2 (Option.some.inj h)) rfl (pe1 (Option.some.inj h)) rfl
    · refine k_aload_n C (pc2 := 92) (dkAt dkX3_readStatements 45 (q := (91, .aload_n 0, 1)) rfl) rfl rfl 0 rfl ?_
      refine k_aload_n C (pc2 := 93) (dkAt dkX3_readStatements 46 (q := (92, .aload_n 0, 1)) rfl) rfl rfl 0 rfl ?_
      refine kf_X3_12 C (pc2 := 96) (o := o0) (o2 := o0 + 1) h0.1 rfl (dkAt dkX3_readStatements 47 (q := (93, .getfield 12, 3)) rfl) rfl ?_
      refine kf_X3_41 C (pc2 := 99) (o := o0 + 1) (o2 := 0) h0.2.1.1 (dkAt dkX3_readStatements 48 (q := (96, .getfield 41, 3)) rfl) rfl ?_
      refine kp_X3_25 C (pc2 := 102) (o := o0) h0.1 (dkAt dkX3_readStatements 49 (q := (99, .putfield 25, 3)) rfl) rfl h (fun M17 h => ?_)
      refine k_iload_n C (pc2 := 103) (dkAt dkX3_readStatements 50 (q := (102, .iload_n 1, 1)) rfl) rfl rfl 1 rfl ?_
      exact k_iret C (dkAt dkX3_readStatements 51 (q := (103, .ireturn, 1)) rfl) (pe2 (Option.some.inj h)) rfl (pe1 (Option.some.inj h)) rfl
set_option maxRecDepth 100000 in
set_option maxHeartbeats 4000000 in
theorem ct_X4_holdsRow (l : Launch) (G : GG) (sh : Sh) (xs : List va_E) (o0 : Nat) (h0 : isSh sh o0) (M : Mm) (r : Int32) (h : f_X4_holdsRow o0 M = some r) : Ct l yX4_holdsRow cX4_holdsRow 1 (some .boolean) rm_X4_holdsRow G [rA G o0] sh M xs (some (.int r)) sh M xs 0 0 := by
  refine ct_of (by decide) (Nat.le_of_ble_eq_true rfl) ?_
  intro p e s m args below meth c hnm C
  refine k_lv [0] (lv2 := [(0, rA G o0)]) rfl ?_
  unfold f_X4_holdsRow at h
  refine k_aload_n C (pc2 := 1) (dkAt dkX4_holdsRow 0 (q := (0, .aload_n 0, 1)) rfl) rfl rfl 0 rfl ?_
  refine kf_X4_9 C (pc2 := 4) (o := o0) (o2 := 0) h0.1 (dkAt dkX4_holdsRow 1 (q := (1, .getfield 9, 3)) rfl) rfl ?_
  refine k_iconst C (pc2 := 5) (dkAt dkX4_holdsRow 2 (q := (4, .iconst 0, 1)) rfl) rfl (v := 0) rfl ?_
  refine k_iconst C (pc2 := 6) (dkAt dkX4_holdsRow 3 (q := (5, .iconst 4, 1)) rfl) rfl (v := 4) rfl ?_
  obtain ⟨q1, e2, h⟩ := ob_inv h
  refine kc_SN C (As := [.int (M.1 o0 0), .int 0, .int 4]) (st2 := [.int q1]) (ct_X7_within l G sh xs (M.1 o0 0) 0 4 M q1 e2) (cl_X4_19 (hts_of C) C.2.2.2.2.1 ⟨Nat.le_of_ble_eq_true rfl, Nat.le_of_ble_eq_true rfl⟩ rfl rfl) rfl rfl (Nat.le_of_ble_eq_true rfl) (dkAt dkX4_holdsRow 4 (q := (6, .invokestatic 19, 3)) rfl) ⟨Nat.zero_le _, Nat.zero_le _⟩ (pc2 := 9) rfl rfl ?_
  obtain ⟨hb, h⟩ := chb_inv h
  exact k_zret C (dkAt dkX4_holdsRow 5 (q := (9, .ireturn, 1)) rfl) hb (Option.some.inj h) rfl rfl rfl
set_option maxRecDepth 100000 in
set_option maxHeartbeats 4000000 in
theorem ct_X4_holdsPerson (l : Launch) (G : GG) (sh : Sh) (xs : List va_E) (o0 : Nat) (h0 : isSh sh o0) (M : Mm) (r : Int32) (h : f_X4_holdsPerson o0 M = some r) : Ct l yX4_holdsPerson cX4_holdsPerson 1 (some .boolean) rm_X4_holdsPerson G [rA G o0] sh M xs (some (.int r)) sh M xs 0 0 := by
  refine ct_of (by decide) (Nat.le_of_ble_eq_true rfl) ?_
  intro p e s m args below meth c hnm C
  refine k_lv [0] (lv2 := [(0, rA G o0)]) rfl ?_
  unfold f_X4_holdsPerson at h
  refine k_aload_n C (pc2 := 1) (dkAt dkX4_holdsPerson 0 (q := (0, .aload_n 0, 1)) rfl) rfl rfl 0 rfl ?_
  refine kf_X4_9 C (pc2 := 4) (o := o0) (o2 := 0) h0.1 (dkAt dkX4_holdsPerson 1 (q := (1, .getfield 9, 3)) rfl) rfl ?_
  refine k_bipush C (pc2 := 6) (dkAt dkX4_holdsPerson 2 (q := (4, .bipush 10, 2)) rfl) rfl (v := 10) rfl ?_
  refine k_icmp_lt C (tgt := 13) (pc2 := 9) (dkAt dkX4_holdsPerson 3 (q := (6, .if_icmp .lt 7, 3)) rfl) (by decide) rfl h (fun h => ?_) (fun h => ?_)
  · refine k_iconst C (pc2 := 14) (dkAt dkX4_holdsPerson 6 (q := (13, .iconst 0, 1)) rfl) rfl (v := 0) rfl ?_
    exact k_zret C (dkAt dkX4_holdsPerson 7 (q := (14, .ireturn, 1)) rfl) rfl (Option.some.inj h) rfl rfl rfl
  · refine k_iconst C (pc2 := 10) (dkAt dkX4_holdsPerson 4 (q := (9, .iconst 1, 1)) rfl) rfl (v := 1) rfl ?_
    refine k_goto C (tgt := 14) (dkAt dkX4_holdsPerson 5 (q := (10, .goto 4, 3)) rfl) (by decide) ?_
    exact k_zret C (dkAt dkX4_holdsPerson 7 (q := (14, .ireturn, 1)) rfl) rfl (Option.some.inj h) rfl rfl rfl
set_option maxRecDepth 100000 in
set_option maxHeartbeats 4000000 in
theorem ct_X4_personHeld (l : Launch) (G : GG) (sh : Sh) (xs : List va_E) (o0 : Nat) (h0 : isSh sh o0) (M : Mm) (r : Int32) (h : f_X4_personHeld o0 M = some r) : Ct l yX4_personHeld cX4_personHeld 1 (some .int) rm_X4_personHeld G [rA G o0] sh M xs (some (.int r)) sh M xs 0 0 := by
  refine ct_of (by decide) (Nat.le_of_ble_eq_true rfl) ?_
  intro p e s m args below meth c hnm C
  refine k_lv [0] (lv2 := [(0, rA G o0)]) rfl ?_
  unfold f_X4_personHeld at h
  refine k_aload_n C (pc2 := 1) (dkAt dkX4_personHeld 0 (q := (0, .aload_n 0, 1)) rfl) rfl rfl 0 rfl ?_
  obtain ⟨q1, e2, h⟩ := ob_inv h
  refine kc_V C (As := []) (st2 := [.int q1]) (ct_X4_holdsPerson l G sh xs o0 h0 M q1 e2) (cl_X4_23 (hts_of C) ⟨Nat.le_of_ble_eq_true rfl, Nat.le_of_ble_eq_true rfl⟩ rfl rfl) h0.1 rfl rfl rfl rfl rfl (Nat.le_of_ble_eq_true rfl) (dkAt dkX4_personHeld 1 (q := (1, .invokevirtual 23, 3)) rfl) ⟨Nat.zero_le _, Nat.zero_le _⟩ (pc2 := 4) rfl rfl ?_
  refine k_if_eq C (tgt := 17) (pc2 := 7) (dkAt dkX4_personHeld 2 (q := (4, .ifCond .eq 13, 3)) rfl) (by decide) rfl h (fun h => ?_) (fun h => ?_)
  · refine k_iconst C (pc2 := 18) (dkAt dkX4_personHeld 8 (q := (17, .iconst (-1), 1)) rfl) rfl (v := (-1)) rfl ?_
    exact k_iret C (dkAt dkX4_personHeld 9 (q := (18, .ireturn, 1)) rfl) (Option.some.inj h) rfl rfl rfl
  · refine k_aload_n C (pc2 := 8) (dkAt dkX4_personHeld 3 (q := (7, .aload_n 0, 1)) rfl) rfl rfl 0 rfl ?_
    refine kf_X4_9 C (pc2 := 11) (o := o0) (o2 := 0) h0.1 (dkAt dkX4_personHeld 4 (q := (8, .getfield 9, 3)) rfl) rfl ?_
    refine k_bipush C (pc2 := 13) (dkAt dkX4_personHeld 5 (q := (11, .bipush 10, 2)) rfl) rfl (v := 10) rfl ?_
    refine k_isub C (pc2 := 14) (dkAt dkX4_personHeld 6 (q := (13, .isub, 1)) rfl) rfl ?_
    refine k_goto C (tgt := 18) (dkAt dkX4_personHeld 7 (q := (14, .goto 4, 3)) rfl) (by decide) ?_
    exact k_iret C (dkAt dkX4_personHeld 9 (q := (18, .ireturn, 1)) rfl) (Option.some.inj h) rfl rfl rfl
set_option maxRecDepth 100000 in
set_option maxHeartbeats 4000000 in
theorem ct_X4_holdNothing (l : Launch) (G : GG) (sh : Sh) (xs : List va_E) (o0 : Nat) (h0 : isSh sh o0) (M : Mm) (r : Mm) (h : f_X4_holdNothing o0 M = some r) : Ct l yX4_holdNothing cX4_holdNothing 1 none rm_X4_holdNothing G [rA G o0] sh M xs none sh r xs 0 0 := by
  refine ct_of (by decide) (Nat.le_of_ble_eq_true rfl) ?_
  intro p e s m args below meth c hnm C
  refine k_lv [0] (lv2 := [(0, rA G o0)]) rfl ?_
  unfold f_X4_holdNothing at h
  refine k_aload_n C (pc2 := 1) (dkAt dkX4_holdNothing 0 (q := (0, .aload_n 0, 1)) rfl) rfl rfl 0 rfl ?_
  refine k_iconst C (pc2 := 2) (dkAt dkX4_holdNothing 1 (q := (1, .iconst (-1), 1)) rfl) rfl (v := (-1)) rfl ?_
  refine kp_X4_9 C (pc2 := 5) (o := o0) h0.1 (dkAt dkX4_holdNothing 2 (q := (2, .putfield 9, 3)) rfl) rfl h (fun M1 h => ?_)
  refine k_aload_n C (pc2 := 6) (dkAt dkX4_holdNothing 3 (q := (5, .aload_n 0, 1)) rfl) rfl rfl 0 rfl ?_
  refine k_iconst C (pc2 := 7) (dkAt dkX4_holdNothing 4 (q := (6, .iconst 0, 1)) rfl) rfl (v := 0) rfl ?_
  refine kp_X4_27 C (pc2 := 10) (o := o0) h0.1 (dkAt dkX4_holdNothing 5 (q := (7, .putfield 27, 3)) rfl) rfl h (fun M2 h => ?_)
  exact k_vret C (dkAt dkX4_holdNothing 6 (q := (10, .return_, 1)) rfl) rfl (Option.some.inj h) rfl
set_option maxRecDepth 100000 in
set_option maxHeartbeats 4000000 in
theorem ct_X4_holdPerson (l : Launch) (G : GG) (sh : Sh) (xs : List va_E) (o0 : Nat) (h0 : isSh sh o0) (x1 : Int32) (M : Mm) (r : Mm) (h : f_X4_holdPerson o0 x1 M = some r) : Ct l yX4_holdPerson cX4_holdPerson 2 none rm_X4_holdPerson G [rA G o0, .int x1] sh M xs none sh r xs 0 0 := by
  refine ct_of (by decide) (Nat.le_of_ble_eq_true rfl) ?_
  intro p e s m args below meth c hnm C
  refine k_lv [0, 1] (lv2 := [(0, rA G o0), (1, .int x1)]) rfl ?_
  unfold f_X4_holdPerson at h
  refine k_aload_n C (pc2 := 1) (dkAt dkX4_holdPerson 0 (q := (0, .aload_n 0, 1)) rfl) rfl rfl 0 rfl ?_
  refine k_bipush C (pc2 := 3) (dkAt dkX4_holdPerson 1 (q := (1, .bipush 10, 2)) rfl) rfl (v := 10) rfl ?_
  refine k_iload_n C (pc2 := 4) (dkAt dkX4_holdPerson 2 (q := (3, .iload_n 1, 1)) rfl) rfl rfl 1 rfl ?_
  refine k_iadd C (pc2 := 5) (dkAt dkX4_holdPerson 3 (q := (4, .iadd, 1)) rfl) rfl ?_
  refine kp_X4_9 C (pc2 := 8) (o := o0) h0.1 (dkAt dkX4_holdPerson 4 (q := (5, .putfield 9, 3)) rfl) rfl h (fun M1 h => ?_)
  refine k_aload_n C (pc2 := 9) (dkAt dkX4_holdPerson 5 (q := (8, .aload_n 0, 1)) rfl) rfl rfl 0 rfl ?_
  refine k_iconst C (pc2 := 10) (dkAt dkX4_holdPerson 6 (q := (9, .iconst 0, 1)) rfl) rfl (v := 0) rfl ?_
  refine kp_X4_27 C (pc2 := 13) (o := o0) h0.1 (dkAt dkX4_holdPerson 7 (q := (10, .putfield 27, 3)) rfl) rfl h (fun M2 h => ?_)
  exact k_vret C (dkAt dkX4_holdPerson 8 (q := (13, .return_, 1)) rfl) rfl (Option.some.inj h) rfl
set_option maxRecDepth 100000 in
set_option maxHeartbeats 4000000 in
theorem kl_J7_fill_d0a16_L6 {p : Program} {l : Launch} {e : Env} {s : State} {m : MethodId} {args : Array Value} {below : List Frame} {meth : Method} {c : Code} {G : GG} {sh : Sh} {xs : List va_E} {Q : State → Prop} (C : Cx p s m c args meth G RJ7 cJ7_fill_d0a16 5 none) (nA : Nat) (o0 : Nat) (h0 : sh[o0]? = some (10, nA)) (x1 : Int64) (x4 : Int32) (M2 : Mm) (hcont : KW p l e rm_J7_fill_d0a16 s m args below meth c G 5 Q sh xs 0 0 M2 22 [] []) : ∀ (n : Nat) (x3 : Int32) (M : Mm), f_J7_fill_d0a16_L6 nA o0 x1 x4 n x3 M = some M2 → KW p l e rm_J7_fill_d0a16 s m args below meth c G 5 Q sh xs 0 0 M 6 [(0, rA G o0), (1, .long x1), (3, .int x3), (4, .int x4)] [] := by
  intro n
  induction n with
  | zero =>
    intro x3 M h
    cases h
  | succ n ih =>
    intro x3 M h
    unfold f_J7_fill_d0a16_L6 at h
    refine k_iload_n C (pc2 := 7) (dkAt dkJ7_fill_d0a16 5 (q := (6, .iload_n 3, 1)) rfl) rfl rfl 2 rfl ?_
    refine k_iload C (pc2 := 9) (dkAt dkJ7_fill_d0a16 6 (q := (7, .iload 4, 2)) rfl) rfl 3 rfl ?_
    refine k_icmp_ge C (tgt := 22) (pc2 := 12) (dkAt dkJ7_fill_d0a16 7 (q := (9, .if_icmp .ge 13, 3)) rfl) (by decide) rfl h (fun h => ?_) (fun h => ?_)
    · refine k_lv [] (lv2 := []) rfl ?_
      cases h
      exact hcont
    · refine k_aload_n C (pc2 := 13) (dkAt dkJ7_fill_d0a16 8 (q := (12, .aload_n 0, 1)) rfl) rfl rfl 0 rfl ?_
      refine k_iload_n C (pc2 := 14) (dkAt dkJ7_fill_d0a16 9 (q := (13, .iload_n 3, 1)) rfl) rfl rfl 2 rfl ?_
      refine k_lload_n C (pc2 := 15) (dkAt dkJ7_fill_d0a16 10 (q := (14, .lload_n 1, 1)) rfl) rfl rfl 1 rfl ?_
      refine k_last C (pc2 := 16) (o := o0) (nA := nA) h0 (dkAt dkJ7_fill_d0a16 11 (q := (15, .lastore, 1)) rfl) rfl h (fun M2 h => ?_)
      refine kb_iinc C (pc2 := 19) (dkAt dkJ7_fill_d0a16 12 (q := (16, .iinc 3 1, 3)) rfl) rfl (j := 2) rfl (v := x3 + 1) rfl (by decide) (lv2 := fun v3 => [(3, .int v3), (0, rA G o0), (1, .long x1), (4, .int x4)]) (fun _ => rfl) h (fun v3 h => ?_)
      refine k_goto C (tgt := 6) (dkAt dkJ7_fill_d0a16 13 (q := (19, .goto (-13), 3)) rfl) (by decide) ?_
      refine k_lv [1, 2, 0, 3] (lv2 := [(0, rA G o0), (1, .long x1), (3, .int v3), (4, .int x4)]) rfl ?_
      exact ih v3 M2 h
set_option maxRecDepth 100000 in
set_option maxHeartbeats 4000000 in
theorem ct_J7_fill_d0a16 (l : Launch) (G : GG) (sh : Sh) (xs : List va_E) (nA : Nat) (o0 : Nat) (h0 : sh[o0]? = some (10, nA)) (x1 : Int64) (M : Mm) (r : Mm) (h : f_J7_fill_d0a16 nA o0 x1 M = some r) : Ct l yJ7_fill_d0a16 cJ7_fill_d0a16 5 none rm_J7_fill_d0a16 G [rA G o0, .long x1] sh M xs none sh r xs 0 0 := by
  refine ct_of (by decide) (Nat.le_of_ble_eq_true rfl) ?_
  intro p e s m args below meth c hnm C
  refine k_lv [0, 1] (lv2 := [(0, rA G o0), (1, .long x1)]) rfl ?_
  unfold f_J7_fill_d0a16 at h
  refine k_iconst C (pc2 := 1) (dkAt dkJ7_fill_d0a16 0 (q := (0, .iconst 0, 1)) rfl) rfl (v := 0) rfl ?_
  refine k_istore_n C (pc2 := 2) (dkAt dkJ7_fill_d0a16 1 (q := (1, .istore_n 3, 1)) rfl) rfl rfl (by decide) (lv2 := [(3, .int 0), (0, rA G o0), (1, .long x1)]) rfl ?_
  refine k_aload_n C (pc2 := 3) (dkAt dkJ7_fill_d0a16 2 (q := (2, .aload_n 0, 1)) rfl) rfl rfl 1 rfl ?_
  refine k_alen_l C (pc2 := 4) (o := o0) (nA := nA) h0 (v := Int32.ofNat nA) rfl (dkAt dkJ7_fill_d0a16 3 (q := (3, .arraylength, 1)) rfl) rfl ?_
  refine kb_istore C (pc2 := 6) (dkAt dkJ7_fill_d0a16 4 (q := (4, .istore 4, 2)) rfl) rfl (by decide) (lv2 := fun v1 => [(4, .int v1), (3, .int 0), (0, rA G o0), (1, .long x1)]) (fun _ => rfl) h (fun v1 h => ?_)
  refine k_lv [2, 3, 1, 0] (lv2 := [(0, rA G o0), (1, .long x1), (3, .int 0), (4, .int v1)]) rfl ?_
  obtain ⟨M6, e5, h⟩ := ob_inv h
  refine kl_J7_fill_d0a16_L6 C nA o0 h0 x1 v1 M6 ?_ 1000 0 M e5
  exact k_vret C (dkAt dkJ7_fill_d0a16 14 (q := (22, .return_, 1)) rfl) rfl (Option.some.inj h) rfl
set_option maxRecDepth 100000 in
set_option maxHeartbeats 4000000 in
theorem ct_X4_holdRow (l : Launch) (G : GG) (sh : Sh) (xs : List va_E) (o0 : Nat) (h0 : isSh sh o0) (x1 : Int32) (x2 : Int32) (M : Mm) (r : Mm) (h : f_X4_holdRow o0 x1 x2 M = some r) : Ct l yX4_holdRow cX4_holdRow 3 none rm_X4_holdRow G [rA G o0, .int x1, .int x2] sh M xs none sh r xs 0 0 := by
  refine ct_of (by decide) (Nat.le_of_ble_eq_true rfl) ?_
  intro p e s m args below meth c hnm C
  refine k_lv [0, 1, 2] (lv2 := [(0, rA G o0), (1, .int x1), (2, .int x2)]) rfl ?_
  unfold f_X4_holdRow at h
  refine k_aload_n C (pc2 := 1) (dkAt dkX4_holdRow 0 (q := (0, .aload_n 0, 1)) rfl) rfl rfl 0 rfl ?_
  refine k_iload_n C (pc2 := 2) (dkAt dkX4_holdRow 1 (q := (1, .iload_n 1, 1)) rfl) rfl rfl 1 rfl ?_
  refine kp_X4_9 C (pc2 := 5) (o := o0) h0.1 (dkAt dkX4_holdRow 2 (q := (2, .putfield 9, 3)) rfl) rfl h (fun M1 h => ?_)
  refine k_aload_n C (pc2 := 6) (dkAt dkX4_holdRow 3 (q := (5, .aload_n 0, 1)) rfl) rfl rfl 0 rfl ?_
  refine k_iload_n C (pc2 := 7) (dkAt dkX4_holdRow 4 (q := (6, .iload_n 2, 1)) rfl) rfl rfl 2 rfl ?_
  refine kp_X4_27 C (pc2 := 10) (o := o0) h0.1 (dkAt dkX4_holdRow 5 (q := (7, .putfield 27, 3)) rfl) rfl h (fun M2 h => ?_)
  refine k_aload_n C (pc2 := 11) (dkAt dkX4_holdRow 6 (q := (10, .aload_n 0, 1)) rfl) rfl rfl 0 rfl ?_
  refine kf_X4_15 C (pc2 := 14) (o := o0) (o2 := o0 + 1) h0.1 rfl (dkAt dkX4_holdRow 7 (q := (11, .getfield 15, 3)) rfl) rfl ?_
  refine k_lconst C (pc2 := 15) (dkAt dkX4_holdRow 8 (q := (14, .lconst 0, 1)) rfl) rfl (v := 0) rfl ?_
  obtain ⟨q3, e4, h⟩ := ob_inv h
  refine kc_S C (As := [rA G (o0 + 1), .long 0]) (st2 := []) (ct_J7_fill_d0a16 l G sh xs 40 (o0 + 1) h0.2 0 M2 q3 e4) (cl_X4_30 (hts_of C) ⟨Nat.le_of_ble_eq_true rfl, Nat.le_of_ble_eq_true rfl⟩ rfl rfl) rfl rfl (Nat.le_of_ble_eq_true rfl) (dkAt dkX4_holdRow 9 (q := (15, .invokestatic 30, 3)) rfl) ⟨Nat.zero_le _, Nat.zero_le _⟩ (pc2 := 18) rfl rfl ?_
  exact k_vret C (dkAt dkX4_holdRow 10 (q := (18, .return_, 1)) rfl) rfl (Option.some.inj h) rfl
set_option maxRecDepth 100000 in
set_option maxHeartbeats 4000000 in
theorem ct_X4_elementAt (l : Launch) (G : GG) (sh : Sh) (xs : List va_E) (o0 : Nat) (h0 : isSh sh o0) (x1 : Int32) (M : Mm) (r : Int64) (h : f_X4_elementAt o0 x1 M = some r) : Ct l yX4_elementAt cX4_elementAt 2 (some .long) rm_X4_elementAt G [rA G o0, .int x1] sh M xs (some (.long r)) sh M xs 0 0 := by
  refine ct_of (by decide) (Nat.le_of_ble_eq_true rfl) ?_
  intro p e s m args below meth c hnm C
  refine k_lv [0, 1] (lv2 := [(0, rA G o0), (1, .int x1)]) rfl ?_
  unfold f_X4_elementAt at h
  refine k_iload_n C (pc2 := 1) (dkAt dkX4_elementAt 0 (q := (0, .iload_n 1, 1)) rfl) rfl rfl 1 rfl ?_
  refine k_iconst C (pc2 := 2) (dkAt dkX4_elementAt 1 (q := (1, .iconst 0, 1)) rfl) rfl (v := 0) rfl ?_
  refine k_aload_n C (pc2 := 3) (dkAt dkX4_elementAt 2 (q := (2, .aload_n 0, 1)) rfl) rfl rfl 0 rfl ?_
  refine kf_X4_27 C (pc2 := 6) (o := o0) (o2 := 0) h0.1 (dkAt dkX4_elementAt 3 (q := (3, .getfield 27, 3)) rfl) rfl ?_
  refine k_iconst C (pc2 := 7) (dkAt dkX4_elementAt 4 (q := (6, .iconst 1, 1)) rfl) rfl (v := 1) rfl ?_
  refine k_isub C (pc2 := 8) (dkAt dkX4_elementAt 5 (q := (7, .isub, 1)) rfl) rfl ?_
  obtain ⟨q1, e2, h⟩ := ob_inv h
  refine kc_SN C (As := [.int x1, .int 0, .int ((M.1 o0 1) - 1)]) (st2 := [.int q1]) (ct_X7_within l G sh xs x1 0 ((M.1 o0 1) - 1) M q1 e2) (cl_X4_19 (hts_of C) C.2.2.2.2.1 ⟨Nat.le_of_ble_eq_true rfl, Nat.le_of_ble_eq_true rfl⟩ rfl rfl) rfl rfl (Nat.le_of_ble_eq_true rfl) (dkAt dkX4_elementAt 6 (q := (8, .invokestatic 19, 3)) rfl) ⟨Nat.zero_le _, Nat.zero_le _⟩ (pc2 := 11) rfl rfl ?_
  refine k_if_eq C (tgt := 23) (pc2 := 14) (dkAt dkX4_elementAt 7 (q := (11, .ifCond .eq 12, 3)) rfl) (by decide) rfl h (fun h => ?_) (fun h => ?_)
  · refine k_lconst C (pc2 := 24) (dkAt dkX4_elementAt 13 (q := (23, .lconst 0, 1)) rfl) rfl (v := 0) rfl ?_
    exact k_lret C (dkAt dkX4_elementAt 14 (q := (24, .lreturn, 1)) rfl) (Option.some.inj h) rfl rfl rfl
  · refine k_aload_n C (pc2 := 15) (dkAt dkX4_elementAt 8 (q := (14, .aload_n 0, 1)) rfl) rfl rfl 0 rfl ?_
    refine kf_X4_15 C (pc2 := 18) (o := o0) (o2 := o0 + 1) h0.1 rfl (dkAt dkX4_elementAt 9 (q := (15, .getfield 15, 3)) rfl) rfl ?_
    refine k_iload_n C (pc2 := 19) (dkAt dkX4_elementAt 10 (q := (18, .iload_n 1, 1)) rfl) rfl rfl 1 rfl ?_
    refine k_lald C (pc2 := 20) (o := o0 + 1) (nA := 40) h0.2 (dkAt dkX4_elementAt 11 (q := (19, .laload, 1)) rfl) rfl h (fun h => ?_)
    refine k_goto C (tgt := 24) (dkAt dkX4_elementAt 12 (q := (20, .goto 4, 3)) rfl) (by decide) ?_
    exact k_lret C (dkAt dkX4_elementAt 14 (q := (24, .lreturn, 1)) rfl) (Option.some.inj h) rfl rfl rfl
