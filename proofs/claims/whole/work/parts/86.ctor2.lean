/-! constructors, on -/
def rm_X6_init : Room := { frames := 1, cells := 11, slots := 148, locals := 12 }
set_option maxRecDepth 100000 in
set_option maxHeartbeats 4000000 in
theorem ct_X6_init (l : Launch) (G : GG) (sh : Sh) (M : Mm) (x0 : List va_E) (o : Nat) (ho : o = sh.length + x0.length) : Ct l yX6_init cX6_init 1 none rm_X6_init G [rA G o] sh M (x0 ++ [.inr (6, [.null, .null, .null, .int 0])]) none sh M (x0 ++ [.inr (6, [rA G (o + 1), rA G (o + 10), rA G (o + 11), .int 0]), rArr G 4 8 (o + 1) 1 1, eI G 14, eI G 14, eI G 14, eI G 14, eI G 14, eI G 14, eI G 14, eI G 14, eI G 14, eI G 14]) 11 148 := by
  refine ct_of (by decide) (Nat.le_of_ble_eq_true rfl) ?_
  intro p e s m args below meth c hnm C
  have hnm : meth.name = "<init>" := hnm
  refine k_lv [0] (lv2 := [(0, rA G o)]) rfl ?_
  refine k_aload_n C (pc2 := 1) (dkAt dkX6_init 0 (q := (0, .aload_n 0, 1)) rfl) rfl rfl 0 rfl ?_
  refine k_obj C tM_X6_3 tI_objectInit tC_objectInit (dkAt dkX6_init 1 (q := (1, .invokespecial 3, 3)) rfl) ⟨Nat.le_of_ble_eq_true rfl, Nat.le_of_ble_eq_true rfl⟩ (pc2 := 4) rfl ?_
  refine k_aload_n C (pc2 := 5) (dkAt dkX6_init 2 (q := (4, .aload_n 0, 1)) rfl) rfl rfl 0 rfl ?_
  refine k_bipush C (pc2 := 7) (dkAt dkX6_init 3 (q := (5, .bipush 8, 2)) rfl) rfl (v := 8) rfl ?_
  refine k_bipush C (pc2 := 9) (dkAt dkX6_init 4 (q := (7, .bipush 14, 2)) rfl) rfl (v := 14) rfl ?_
  refine k_xgrid C (ty := .int) (t := 4) (ti := 0) (N := 8) (K := 14) (row := (14, .inl fun _ => 0)) (n := 1) ho rfl (by rw [show "[" ++ (FieldType.array .int).toString = "[[I" by decide +kernel]; exact tCL_X6_9) C.2.2.2.2.2.1.2.2.2.2.2.2.1 tAC_int rfl rfl (fun h => h) (fun h => h) (dkAt dkX6_init 5 (q := (9, .multianewarray 9 2, 4)) rfl) (by decide) (by decide) rfl rfl (Nat.le_of_ble_eq_true rfl) (Nat.le_of_ble_eq_true rfl) rfl rfl rfl ⟨Nat.le_of_ble_eq_true rfl, Nat.le_of_ble_eq_true rfl⟩ (pc2 := 13) rfl (L2 := [.inr (6, [.null, .null, .null, .int 0]), rArr G 4 8 (o + 1) 1 1, eI G 14, eI G 14, eI G 14, eI G 14, eI G 14, eI G 14, eI G 14, eI G 14]) rfl ?_
  refine k_xputF C (ci := 6) (N := 4) (T := TX6) (fi := 0) (fs2 := [rA G (o + 1), .null, .null, .int 0]) ho tyX6 rfl tU_X6 tyX6_ok nmX6 (Nat.le_of_ble_eq_true rfl) tF_X6_11 rfl rfl hnm rfl rfl rfl rfl (Nat.le_of_ble_eq_true rfl) (dkAt dkX6_init 6 (q := (13, .putfield 11, 3)) rfl) (pc2 := 16) rfl rfl ?_
  refine k_aload_n C (pc2 := 17) (dkAt dkX6_init 7 (q := (16, .aload_n 0, 1)) rfl) rfl rfl 0 rfl ?_
  refine k_bipush C (pc2 := 19) (dkAt dkX6_init 8 (q := (17, .bipush 14, 2)) rfl) rfl (v := 14) rfl ?_
  refine k_xnewI C (N := 14) (n := 10) ho rfl (dkAt dkX6_init 9 (q := (19, .newarray .int, 2)) rfl) (by decide) rfl (Nat.le_of_ble_eq_true rfl) ⟨Nat.le_of_ble_eq_true rfl, Nat.le_of_ble_eq_true rfl⟩ (pc2 := 21) rfl (L2 := [.inr (6, [rA G (o + 1), .null, .null, .int 0]), rArr G 4 8 (o + 1) 1 1, eI G 14, eI G 14, eI G 14, eI G 14, eI G 14, eI G 14, eI G 14, eI G 14, eI G 14]) rfl ?_
  refine k_xputF C (ci := 6) (N := 4) (T := TX6) (fi := 1) (fs2 := [rA G (o + 1), rA G (o + 10), .null, .int 0]) ho tyX6 rfl tU_X6 tyX6_ok nmX6 (Nat.le_of_ble_eq_true rfl) tF_X6_16 rfl rfl hnm rfl rfl rfl rfl (Nat.le_of_ble_eq_true rfl) (dkAt dkX6_init 10 (q := (21, .putfield 16, 3)) rfl) (pc2 := 24) rfl rfl ?_
  refine k_aload_n C (pc2 := 25) (dkAt dkX6_init 11 (q := (24, .aload_n 0, 1)) rfl) rfl rfl 0 rfl ?_
  refine k_bipush C (pc2 := 27) (dkAt dkX6_init 12 (q := (25, .bipush 14, 2)) rfl) rfl (v := 14) rfl ?_
  refine k_xnewI C (N := 14) (n := 11) ho rfl (dkAt dkX6_init 13 (q := (27, .newarray .int, 2)) rfl) (by decide) rfl (Nat.le_of_ble_eq_true rfl) ⟨Nat.le_of_ble_eq_true rfl, Nat.le_of_ble_eq_true rfl⟩ (pc2 := 29) rfl (L2 := [.inr (6, [rA G (o + 1), rA G (o + 10), .null, .int 0]), rArr G 4 8 (o + 1) 1 1, eI G 14, eI G 14, eI G 14, eI G 14, eI G 14, eI G 14, eI G 14, eI G 14, eI G 14, eI G 14]) rfl ?_
  refine k_xputF C (ci := 6) (N := 4) (T := TX6) (fi := 2) (fs2 := [rA G (o + 1), rA G (o + 10), rA G (o + 11), .int 0]) ho tyX6 rfl tU_X6 tyX6_ok nmX6 (Nat.le_of_ble_eq_true rfl) tF_X6_20 rfl rfl hnm rfl rfl rfl rfl (Nat.le_of_ble_eq_true rfl) (dkAt dkX6_init 14 (q := (29, .putfield 20, 3)) rfl) (pc2 := 32) rfl rfl ?_
  exact k_vret C (dkAt dkX6_init 15 (q := (32, .return_, 1)) rfl) rfl rfl rfl
def rm_X0_init : Room := { frames := 1, cells := 3, slots := 20, locals := 12 }
set_option maxRecDepth 100000 in
set_option maxHeartbeats 4000000 in
theorem ct_X0_init (l : Launch) (G : GG) (sh : Sh) (M : Mm) (x0 : List va_E) (o : Nat) (ho : o = sh.length + x0.length) : Ct l yX0_init cX0_init 1 none rm_X0_init G [rA G o] sh M (x0 ++ [.inr (0, [.null, .null, .null, .int 0])]) none sh M (x0 ++ [.inr (0, [rA G (o + 1), rA G (o + 2), rA G (o + 3), .int 0]), eI G 14, eI G 3, eI G 3]) 3 20 := by
  refine ct_of (by decide) (Nat.le_of_ble_eq_true rfl) ?_
  intro p e s m args below meth c hnm C
  have hnm : meth.name = "<init>" := hnm
  refine k_lv [0] (lv2 := [(0, rA G o)]) rfl ?_
  refine k_aload_n C (pc2 := 1) (dkAt dkX0_init 0 (q := (0, .aload_n 0, 1)) rfl) rfl rfl 0 rfl ?_
  refine k_obj C tM_X0_3 tI_objectInit tC_objectInit (dkAt dkX0_init 1 (q := (1, .invokespecial 3, 3)) rfl) ⟨Nat.le_of_ble_eq_true rfl, Nat.le_of_ble_eq_true rfl⟩ (pc2 := 4) rfl ?_
  refine k_aload_n C (pc2 := 5) (dkAt dkX0_init 2 (q := (4, .aload_n 0, 1)) rfl) rfl rfl 0 rfl ?_
  refine k_bipush C (pc2 := 7) (dkAt dkX0_init 3 (q := (5, .bipush 14, 2)) rfl) rfl (v := 14) rfl ?_
  refine k_xnewI C (N := 14) (n := 1) ho rfl (dkAt dkX0_init 4 (q := (7, .newarray .int, 2)) rfl) (by decide) rfl (Nat.le_of_ble_eq_true rfl) ⟨Nat.le_of_ble_eq_true rfl, Nat.le_of_ble_eq_true rfl⟩ (pc2 := 9) rfl (L2 := [.inr (0, [.null, .null, .null, .int 0]), eI G 14]) rfl ?_
  refine k_xputF C (ci := 0) (N := 4) (T := TX0) (fi := 0) (fs2 := [rA G (o + 1), .null, .null, .int 0]) ho tyX0 rfl tU_X0 tyX0_ok nmX0 (Nat.le_of_ble_eq_true rfl) tF_X0_9 rfl rfl hnm rfl rfl rfl rfl (Nat.le_of_ble_eq_true rfl) (dkAt dkX0_init 5 (q := (9, .putfield 9, 3)) rfl) (pc2 := 12) rfl rfl ?_
  refine k_aload_n C (pc2 := 13) (dkAt dkX0_init 6 (q := (12, .aload_n 0, 1)) rfl) rfl rfl 0 rfl ?_
  refine k_iconst C (pc2 := 14) (dkAt dkX0_init 7 (q := (13, .iconst 3, 1)) rfl) rfl (v := 3) rfl ?_
  refine k_xnewI C (N := 3) (n := 2) ho rfl (dkAt dkX0_init 8 (q := (14, .newarray .int, 2)) rfl) (by decide) rfl (Nat.le_of_ble_eq_true rfl) ⟨Nat.le_of_ble_eq_true rfl, Nat.le_of_ble_eq_true rfl⟩ (pc2 := 16) rfl (L2 := [.inr (0, [rA G (o + 1), .null, .null, .int 0]), eI G 14, eI G 3]) rfl ?_
  refine k_xputF C (ci := 0) (N := 4) (T := TX0) (fi := 1) (fs2 := [rA G (o + 1), rA G (o + 2), .null, .int 0]) ho tyX0 rfl tU_X0 tyX0_ok nmX0 (Nat.le_of_ble_eq_true rfl) tF_X0_15 rfl rfl hnm rfl rfl rfl rfl (Nat.le_of_ble_eq_true rfl) (dkAt dkX0_init 9 (q := (16, .putfield 15, 3)) rfl) (pc2 := 19) rfl rfl ?_
  refine k_aload_n C (pc2 := 20) (dkAt dkX0_init 10 (q := (19, .aload_n 0, 1)) rfl) rfl rfl 0 rfl ?_
  refine k_iconst C (pc2 := 21) (dkAt dkX0_init 11 (q := (20, .iconst 3, 1)) rfl) rfl (v := 3) rfl ?_
  refine k_xnewI C (N := 3) (n := 3) ho rfl (dkAt dkX0_init 12 (q := (21, .newarray .int, 2)) rfl) (by decide) rfl (Nat.le_of_ble_eq_true rfl) ⟨Nat.le_of_ble_eq_true rfl, Nat.le_of_ble_eq_true rfl⟩ (pc2 := 23) rfl (L2 := [.inr (0, [rA G (o + 1), rA G (o + 2), .null, .int 0]), eI G 14, eI G 3, eI G 3]) rfl ?_
  refine k_xputF C (ci := 0) (N := 4) (T := TX0) (fi := 2) (fs2 := [rA G (o + 1), rA G (o + 2), rA G (o + 3), .int 0]) ho tyX0 rfl tU_X0 tyX0_ok nmX0 (Nat.le_of_ble_eq_true rfl) tF_X0_18 rfl rfl hnm rfl rfl rfl rfl (Nat.le_of_ble_eq_true rfl) (dkAt dkX0_init 13 (q := (23, .putfield 18, 3)) rfl) (pc2 := 26) rfl rfl ?_
  exact k_vret C (dkAt dkX0_init 14 (q := (26, .return_, 1)) rfl) rfl rfl rfl
def rm_X3_init : Room := { frames := 3, cells := 12, slots := 311, locals := 53 }
set_option maxRecDepth 100000 in
set_option maxHeartbeats 4000000 in
theorem ct_X3_init (l : Launch) (G : GG) (sh : Sh) (M : Mm) (x0 : List va_E) (o : Nat) (ho : o = sh.length + x0.length) : Ct l yX3_init cX3_init 1 none rm_X3_init G [rA G o] sh M (x0 ++ [.inr (3, [.null, .null, .int 0])]) none sh M (x0 ++ [.inr (3, [rA G (o + 1), rA G (o + 3), .int 0]), .inr (5, [rA G (o + 1 + 1), .int 0, .int 0, .int 0, .int 0]), eI G 250, .inr (1, [.int 11, .int 0, .int 0, .int 2, .int 1, .int 0, .int 1, rA G (o + 3 + 1)]), rArr G 2 8 (o + 3 + 1) 1 1, .inr (2, [.int 0, .int 0, .int 0, .int 0, .int 0]), .inr (2, [.int 0, .int 0, .int 0, .int 0, .int 0]), .inr (2, [.int 0, .int 0, .int 0, .int 0, .int 0]), .inr (2, [.int 0, .int 0, .int 0, .int 0, .int 0]), .inr (2, [.int 0, .int 0, .int 0, .int 0, .int 0]), .inr (2, [.int 0, .int 0, .int 0, .int 0, .int 0]), .inr (2, [.int 0, .int 0, .int 0, .int 0, .int 0]), .inr (2, [.int 0, .int 0, .int 0, .int 0, .int 0])]) 12 311 := by
  refine ct_of (by decide) (Nat.le_of_ble_eq_true rfl) ?_
  intro p e s m args below meth c hnm C
  have hnm : meth.name = "<init>" := hnm
  refine k_lv [0] (lv2 := [(0, rA G o)]) rfl ?_
  refine k_aload_n C (pc2 := 1) (dkAt dkX3_init 0 (q := (0, .aload_n 0, 1)) rfl) rfl rfl 0 rfl ?_
  refine k_obj C tM_X3_3 tI_objectInit tC_objectInit (dkAt dkX3_init 1 (q := (1, .invokespecial 3, 3)) rfl) ⟨Nat.le_of_ble_eq_true rfl, Nat.le_of_ble_eq_true rfl⟩ (pc2 := 4) rfl ?_
  refine k_aload_n C (pc2 := 5) (dkAt dkX3_init 2 (q := (4, .aload_n 0, 1)) rfl) rfl rfl 0 rfl ?_
  refine k_xnew C (ci := 5) (C2 := RX5) (T := TX5) (N := 5) (n := 1) (fs := [.null, .int 0, .int 0, .int 0, .int 0]) ho rfl tyX5 rfl tU_X5 tyX5_ok tCL_X3_9 tIN_X5 tN_X5 dfX5 (dkAt dkX3_init 3 (q := (5, .new 9, 3)) rfl) ⟨Nat.le_of_ble_eq_true rfl, Nat.le_of_ble_eq_true rfl⟩ (pc2 := 8) rfl (L2 := [.inr (3, [.null, .null, .int 0]), .inr (5, [.null, .int 0, .int 0, .int 0, .int 0])]) rfl ?_
  refine k_dup C (pc2 := 9) (dkAt dkX3_init 4 (q := (8, .dup, 1)) rfl) rfl rfl ?_
  refine k_xctorN C (o := o) (n := 1) (L := [.inr (3, [.null, .null, .int 0])]) (r := .inr (5, [.null, .int 0, .int 0, .int 0, .int 0])) (cs := [.inr (5, [rA G (o + 1 + 1), .int 0, .int 0, .int 0, .int 0]), eI G 250]) (ct_X5_init l G sh M (x0 ++ [.inr (3, [.null, .null, .int 0])]) (o + 1) (ho_app ho rfl)) (cl_X3_11 (hts_of C) C.2.2.2.2.1 ⟨Nat.le_of_ble_eq_true rfl, Nat.le_of_ble_eq_true rfl⟩ rfl rfl) rfl (Nat.le_of_ble_eq_true rfl) (dkAt dkX3_init 5 (q := (9, .invokespecial 11, 3)) rfl) ⟨Nat.le_of_ble_eq_true rfl, Nat.le_of_ble_eq_true rfl⟩ (pc2 := 12) rfl rfl (L2 := [.inr (3, [.null, .null, .int 0]), .inr (5, [rA G (o + 1 + 1), .int 0, .int 0, .int 0, .int 0]), eI G 250]) rfl ?_
  refine k_xputF C (ci := 3) (N := 3) (T := TX3) (fi := 0) (fs2 := [rA G (o + 1), .null, .int 0]) ho tyX3 rfl tU_X3 tyX3_ok nmX3 (Nat.le_of_ble_eq_true rfl) tF_X3_12 rfl rfl hnm rfl rfl rfl rfl (Nat.le_of_ble_eq_true rfl) (dkAt dkX3_init 6 (q := (12, .putfield 12, 3)) rfl) (pc2 := 15) rfl rfl ?_
  refine k_aload_n C (pc2 := 16) (dkAt dkX3_init 7 (q := (15, .aload_n 0, 1)) rfl) rfl rfl 0 rfl ?_
  refine k_xnew C (ci := 1) (C2 := RX1) (T := TX1) (N := 8) (n := 3) (fs := [.int 0, .int 0, .int 0, .int 0, .int 0, .int 0, .int 0, .null]) ho rfl tyX1 rfl tU_X1 tyX1_ok tCL_X3_18 tIN_X1 tN_X1 dfX1 (dkAt dkX3_init 8 (q := (16, .new 18, 3)) rfl) ⟨Nat.le_of_ble_eq_true rfl, Nat.le_of_ble_eq_true rfl⟩ (pc2 := 19) rfl (L2 := [.inr (3, [rA G (o + 1), .null, .int 0]), .inr (5, [rA G (o + 1 + 1), .int 0, .int 0, .int 0, .int 0]), eI G 250, .inr (1, [.int 0, .int 0, .int 0, .int 0, .int 0, .int 0, .int 0, .null])]) rfl ?_
  refine k_dup C (pc2 := 20) (dkAt dkX3_init 9 (q := (19, .dup, 1)) rfl) rfl rfl ?_
  refine k_xctor C (o := o) (n := 3) (L := [.inr (3, [rA G (o + 1), .null, .int 0]), .inr (5, [rA G (o + 1 + 1), .int 0, .int 0, .int 0, .int 0]), eI G 250]) (r := .inr (1, [.int 0, .int 0, .int 0, .int 0, .int 0, .int 0, .int 0, .null])) (cs := [.inr (1, [.int 11, .int 0, .int 0, .int 2, .int 1, .int 0, .int 1, rA G (o + 3 + 1)]), rArr G 2 8 (o + 3 + 1) 1 1, .inr (2, [.int 0, .int 0, .int 0, .int 0, .int 0]), .inr (2, [.int 0, .int 0, .int 0, .int 0, .int 0]), .inr (2, [.int 0, .int 0, .int 0, .int 0, .int 0]), .inr (2, [.int 0, .int 0, .int 0, .int 0, .int 0]), .inr (2, [.int 0, .int 0, .int 0, .int 0, .int 0]), .inr (2, [.int 0, .int 0, .int 0, .int 0, .int 0]), .inr (2, [.int 0, .int 0, .int 0, .int 0, .int 0]), .inr (2, [.int 0, .int 0, .int 0, .int 0, .int 0])]) (ct_X1_init l G sh M (x0 ++ [.inr (3, [rA G (o + 1), .null, .int 0]), .inr (5, [rA G (o + 1 + 1), .int 0, .int 0, .int 0, .int 0]), eI G 250]) (o + 3) (ho_app ho rfl)) (cl_X3_20 (hts_of C) ⟨Nat.le_of_ble_eq_true rfl, Nat.le_of_ble_eq_true rfl⟩ rfl rfl) rfl (Nat.le_of_ble_eq_true rfl) (dkAt dkX3_init 10 (q := (20, .invokespecial 20, 3)) rfl) ⟨Nat.le_of_ble_eq_true rfl, Nat.le_of_ble_eq_true rfl⟩ (pc2 := 23) rfl rfl (L2 := [.inr (3, [rA G (o + 1), .null, .int 0]), .inr (5, [rA G (o + 1 + 1), .int 0, .int 0, .int 0, .int 0]), eI G 250, .inr (1, [.int 11, .int 0, .int 0, .int 2, .int 1, .int 0, .int 1, rA G (o + 3 + 1)]), rArr G 2 8 (o + 3 + 1) 1 1, .inr (2, [.int 0, .int 0, .int 0, .int 0, .int 0]), .inr (2, [.int 0, .int 0, .int 0, .int 0, .int 0]), .inr (2, [.int 0, .int 0, .int 0, .int 0, .int 0]), .inr (2, [.int 0, .int 0, .int 0, .int 0, .int 0]), .inr (2, [.int 0, .int 0, .int 0, .int 0, .int 0]), .inr (2, [.int 0, .int 0, .int 0, .int 0, .int 0]), .inr (2, [.int 0, .int 0, .int 0, .int 0, .int 0]), .inr (2, [.int 0, .int 0, .int 0, .int 0, .int 0])]) rfl ?_
  refine k_xputF C (ci := 3) (N := 3) (T := TX3) (fi := 1) (fs2 := [rA G (o + 1), rA G (o + 3), .int 0]) ho tyX3 rfl tU_X3 tyX3_ok nmX3 (Nat.le_of_ble_eq_true rfl) tF_X3_21 rfl rfl hnm rfl rfl rfl rfl (Nat.le_of_ble_eq_true rfl) (dkAt dkX3_init 11 (q := (23, .putfield 21, 3)) rfl) (pc2 := 26) rfl rfl ?_
  exact k_vret C (dkAt dkX3_init 12 (q := (26, .return_, 1)) rfl) rfl rfl rfl
