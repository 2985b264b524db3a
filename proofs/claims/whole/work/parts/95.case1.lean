/-! the law's cases -/
section LAWS
variable {p : Program} {l : Launch} {e : Env} {s : State} {m : MethodId} {args : Array Value} {below : List Frame} {meth : Method} {c : Code} {G : GG} {Q : State → Prop} {sh : List (Nat × Nat)} {ck cn : Nat} {M : Mm} {b L i : Nat} {y : Nat → Int32} {a : AB}
set_option maxRecDepth 100000 in
set_option maxHeartbeats 4000000 in
/-- 16: tick -/
theorem lc_16 (D : LawC p s m c args meth G b L y i) (I : Inv sh a M) (hck : ck + 37 ≤ 600000) (hcn : cn + 902 ≤ 7302250) (hk : Cont p l e s m args below meth c G Q b i ck cn) : KW p l e room_1 s m args below meth c G 4 Q sh [] ck cn M 33 (lvL G b i) [.int (nI 16)] := by
  obtain ⟨C, hX, hbl, hbA, hL, hi⟩ := D
  obtain ⟨iX, iM, iC, iR, iW, iK⟩ := id I
  obtain ⟨M2, e1, r1, f1⟩ := X7_tick iC iW.1 (y (i + 1)) (y (i + 2))
  obtain ⟨M3, e2, r2, f2, f3⟩ := X8_tick (iR.frC f1) iW.1 (y (i + 1)) (y (i + 2))
  have I3 := I.step r1 f1 r2 f2 f3 (W_tick iW (y (i + 1)) (y (i + 2)))
  refine k_swIn C (tgt := 879) (off := 846) (dkAt dkL_law_0 21 (q := (33, .tableswitch 2040 0 63 #[271, 314, 387, 450, 484, 507, 540, 573, 596, 639, 698, 731, 764, 787, 800, 813, 846, 879, 902, 925, 948, 961, 994, 1037, 1080, 1123, 1156, 1179, 1202, 1215, 1248, 1261, 1284, 1297, 1310, 1343, 1376, 1399, 1422, 1455, 1468, 1491, 1514, 1537, 1550, 1573, 1586, 1599, 1622, 1665, 1688, 1721, 1754, 1787, 1830, 1863, 1886, 1909, 1932, 1945, 1968, 1991, 2004, 2017], 271)) rfl) (by decide) (by decide) rfl (by decide) ?_
  refine k_aload_n C (pc2 := 880) (dkAt dkL_law_4 87 (q := (879, .aload_n 1, 1)) rfl) rfl rfl 2 rfl ?_
  refine k_arg C hX hbl hbA (j := 1) (w := y (i + 1)) rfl (by omega) hL rfl (dkAt dkL_law_4 88 (q := (880, .aload_n 0, 1)) rfl) (dkAt dkL_law_4 89 (q := (881, .iload_n 3, 1)) rfl) (dkAt dkL_law_4 90 (q := (882, .iconst 1, 1)) rfl) (dkAt dkL_law_4 91 (q := (883, .iadd, 1)) rfl) (dkAt dkL_law_4 92 (q := (884, .iaload, 1)) rfl) (pc2 := 885) rfl ?_
  refine k_arg C hX hbl hbA (j := 2) (w := y (i + 2)) rfl (by omega) hL rfl (dkAt dkL_law_4 93 (q := (885, .aload_n 0, 1)) rfl) (dkAt dkL_law_4 94 (q := (886, .iload_n 3, 1)) rfl) (dkAt dkL_law_4 95 (q := (887, .iconst 2, 1)) rfl) (dkAt dkL_law_4 96 (q := (888, .iadd, 1)) rfl) (dkAt dkL_law_4 97 (q := (889, .iaload, 1)) rfl) (pc2 := 890) rfl ?_
  refine k_callV C (As := [.int (y (i + 1)), .int (y (i + 2))]) (rest := []) (o := 0) (mc := 0) (ms := 0) (ct_X7_tick l G sh [] iX (y (i + 1)) (y (i + 2)) M _ e1) (cl_L_87 (hts_of C) ⟨Nat.le_of_ble_eq_true rfl, Nat.le_of_ble_eq_true rfl⟩ rfl rfl) iX.1 rfl rfl rfl rfl rfl (Nat.le_of_ble_eq_true rfl) (dkAt dkL_law_4 98 (q := (890, .invokevirtual 87, 3)) rfl) ⟨Nat.le_trans (Nat.le_add_right ck 37) hck, Nat.le_trans (Nat.le_add_right cn 902) hcn⟩ (pc2 := 893) rfl ?_
  refine k_aload_n C (pc2 := 894) (dkAt dkL_law_4 99 (q := (893, .aload_n 2, 1)) rfl) rfl rfl 1 rfl ?_
  refine k_arg C hX hbl hbA (j := 1) (w := y (i + 1)) rfl (by omega) hL rfl (dkAt dkL_law_5 0 (q := (894, .aload_n 0, 1)) rfl) (dkAt dkL_law_5 1 (q := (895, .iload_n 3, 1)) rfl) (dkAt dkL_law_5 2 (q := (896, .iconst 1, 1)) rfl) (dkAt dkL_law_5 3 (q := (897, .iadd, 1)) rfl) (dkAt dkL_law_5 4 (q := (898, .iaload, 1)) rfl) (pc2 := 899) rfl ?_
  refine k_arg C hX hbl hbA (j := 2) (w := y (i + 2)) rfl (by omega) hL rfl (dkAt dkL_law_5 5 (q := (899, .aload_n 0, 1)) rfl) (dkAt dkL_law_5 6 (q := (900, .iload_n 3, 1)) rfl) (dkAt dkL_law_5 7 (q := (901, .iconst 2, 1)) rfl) (dkAt dkL_law_5 8 (q := (902, .iadd, 1)) rfl) (dkAt dkL_law_5 9 (q := (903, .iaload, 1)) rfl) (pc2 := 904) rfl ?_
  refine k_callV C (As := [.int (y (i + 1)), .int (y (i + 2))]) (rest := [.int _]) (o := 69) (mc := 0) (ms := 0) (ct_X8_tick l G sh [] 69 iM (y (i + 1)) (y (i + 2)) M2 _ e2) (cl_L_90 (hts_of C) ⟨Nat.le_of_ble_eq_true rfl, Nat.le_of_ble_eq_true rfl⟩ rfl rfl) iM.1 rfl rfl rfl rfl rfl (Nat.le_of_ble_eq_true rfl) (dkAt dkL_law_5 10 (q := (904, .invokevirtual 90, 3)) rfl) ⟨Nat.le_trans (Nat.le_add_right ck 37) hck, Nat.le_trans (Nat.le_add_right cn 902) hcn⟩ (pc2 := 907) rfl ?_
  refine k_icmp_eq C (tgt := 2073) (pc2 := 910) (A := some ()) (B := none) (r := ()) (dkAt dkL_law_5 11 (q := (907, .if_icmp .eq 1166, 3)) rfl) (by decide) rfl (if_pos rfl) (fun _ => ?_) (fun z => by cases z)
  exact hk sh _ _ _ _ I3 (Nat.le_add_right ck 37) (Nat.le_add_right cn 902)
set_option maxRecDepth 100000 in
set_option maxHeartbeats 4000000 in
/-- 17: count -/
theorem lc_17 (D : LawC p s m c args meth G b L y i) (I : Inv sh a M) (hck : ck + 37 ≤ 600000) (hcn : cn + 902 ≤ 7302250) (hk : Cont p l e s m args below meth c G Q b i ck cn) : KW p l e room_1 s m args below meth c G 4 Q sh [] ck cn M 33 (lvL G b i) [.int (nI 17)] := by
  obtain ⟨C, hX, hbl, hbA, hL, hi⟩ := D
  obtain ⟨iX, iM, iC, iR, iW, iK⟩ := id I
  obtain ⟨M2, e1, r1, f1⟩ := X7_count iC iW.1 (y (i + 1))
  obtain ⟨M3, e2, r2, f2, f3⟩ := X8_count (iR.frC f1) iW.1 (y (i + 1))
  have I3 := I.step r1 f1 r2 f2 f3 (W_count iW (y (i + 1)))
  refine k_swIn C (tgt := 912) (off := 879) (dkAt dkL_law_0 21 (q := (33, .tableswitch 2040 0 63 #[271, 314, 387, 450, 484, 507, 540, 573, 596, 639, 698, 731, 764, 787, 800, 813, 846, 879, 902, 925, 948, 961, 994, 1037, 1080, 1123, 1156, 1179, 1202, 1215, 1248, 1261, 1284, 1297, 1310, 1343, 1376, 1399, 1422, 1455, 1468, 1491, 1514, 1537, 1550, 1573, 1586, 1599, 1622, 1665, 1688, 1721, 1754, 1787, 1830, 1863, 1886, 1909, 1932, 1945, 1968, 1991, 2004, 2017], 271)) rfl) (by decide) (by decide) rfl (by decide) ?_
  refine k_aload_n C (pc2 := 913) (dkAt dkL_law_5 14 (q := (912, .aload_n 1, 1)) rfl) rfl rfl 2 rfl ?_
  refine k_arg C hX hbl hbA (j := 1) (w := y (i + 1)) rfl (by omega) hL rfl (dkAt dkL_law_5 15 (q := (913, .aload_n 0, 1)) rfl) (dkAt dkL_law_5 16 (q := (914, .iload_n 3, 1)) rfl) (dkAt dkL_law_5 17 (q := (915, .iconst 1, 1)) rfl) (dkAt dkL_law_5 18 (q := (916, .iadd, 1)) rfl) (dkAt dkL_law_5 19 (q := (917, .iaload, 1)) rfl) (pc2 := 918) rfl ?_
  refine k_callV C (As := [.int (y (i + 1))]) (rest := []) (o := 0) (mc := 0) (ms := 0) (ct_X7_count l G sh [] iX (y (i + 1)) M _ e1) (cl_L_91 (hts_of C) ⟨Nat.le_of_ble_eq_true rfl, Nat.le_of_ble_eq_true rfl⟩ rfl rfl) iX.1 rfl rfl rfl rfl rfl (Nat.le_of_ble_eq_true rfl) (dkAt dkL_law_5 20 (q := (918, .invokevirtual 91, 3)) rfl) ⟨Nat.le_trans (Nat.le_add_right ck 37) hck, Nat.le_trans (Nat.le_add_right cn 902) hcn⟩ (pc2 := 921) rfl ?_
  refine k_aload_n C (pc2 := 922) (dkAt dkL_law_5 21 (q := (921, .aload_n 2, 1)) rfl) rfl rfl 1 rfl ?_
  refine k_arg C hX hbl hbA (j := 1) (w := y (i + 1)) rfl (by omega) hL rfl (dkAt dkL_law_5 22 (q := (922, .aload_n 0, 1)) rfl) (dkAt dkL_law_5 23 (q := (923, .iload_n 3, 1)) rfl) (dkAt dkL_law_5 24 (q := (924, .iconst 1, 1)) rfl) (dkAt dkL_law_5 25 (q := (925, .iadd, 1)) rfl) (dkAt dkL_law_5 26 (q := (926, .iaload, 1)) rfl) (pc2 := 927) rfl ?_
  refine k_callV C (As := [.int (y (i + 1))]) (rest := [.int _]) (o := 69) (mc := 0) (ms := 0) (ct_X8_count l G sh [] 69 iM (y (i + 1)) M2 _ e2) (cl_L_94 (hts_of C) ⟨Nat.le_of_ble_eq_true rfl, Nat.le_of_ble_eq_true rfl⟩ rfl rfl) iM.1 rfl rfl rfl rfl rfl (Nat.le_of_ble_eq_true rfl) (dkAt dkL_law_5 27 (q := (927, .invokevirtual 94, 3)) rfl) ⟨Nat.le_trans (Nat.le_add_right ck 37) hck, Nat.le_trans (Nat.le_add_right cn 902) hcn⟩ (pc2 := 930) rfl ?_
  refine k_icmp_eq C (tgt := 2073) (pc2 := 933) (A := some ()) (B := none) (r := ()) (dkAt dkL_law_5 28 (q := (930, .if_icmp .eq 1143, 3)) rfl) (by decide) rfl (if_pos rfl) (fun _ => ?_) (fun z => by cases z)
  exact hk sh _ _ _ _ I3 (Nat.le_add_right ck 37) (Nat.le_add_right cn 902)
set_option maxRecDepth 100000 in
set_option maxHeartbeats 4000000 in
/-- 18: best -/
theorem lc_18 (D : LawC p s m c args meth G b L y i) (I : Inv sh a M) (hck : ck + 37 ≤ 600000) (hcn : cn + 902 ≤ 7302250) (hk : Cont p l e s m args below meth c G Q b i ck cn) : KW p l e room_1 s m args below meth c G 4 Q sh [] ck cn M 33 (lvL G b i) [.int (nI 18)] := by
  obtain ⟨C, hX, hbl, hbA, hL, hi⟩ := D
  obtain ⟨iX, iM, iC, iR, iW, iK⟩ := id I
  obtain ⟨M2, e1, r1, f1⟩ := X7_best iC iW.1 (y (i + 1))
  obtain ⟨M3, e2, r2, f2, f3⟩ := X8_best (iR.frC f1) iW.1 (y (i + 1))
  have I3 := I.step r1 f1 r2 f2 f3 (W_best iW (y (i + 1)))
  refine k_swIn C (tgt := 935) (off := 902) (dkAt dkL_law_0 21 (q := (33, .tableswitch 2040 0 63 #[271, 314, 387, 450, 484, 507, 540, 573, 596, 639, 698, 731, 764, 787, 800, 813, 846, 879, 902, 925, 948, 961, 994, 1037, 1080, 1123, 1156, 1179, 1202, 1215, 1248, 1261, 1284, 1297, 1310, 1343, 1376, 1399, 1422, 1455, 1468, 1491, 1514, 1537, 1550, 1573, 1586, 1599, 1622, 1665, 1688, 1721, 1754, 1787, 1830, 1863, 1886, 1909, 1932, 1945, 1968, 1991, 2004, 2017], 271)) rfl) (by decide) (by decide) rfl (by decide) ?_
  refine k_aload_n C (pc2 := 936) (dkAt dkL_law_5 31 (q := (935, .aload_n 1, 1)) rfl) rfl rfl 2 rfl ?_
  refine k_arg C hX hbl hbA (j := 1) (w := y (i + 1)) rfl (by omega) hL rfl (dkAt dkL_law_5 32 (q := (936, .aload_n 0, 1)) rfl) (dkAt dkL_law_5 33 (q := (937, .iload_n 3, 1)) rfl) (dkAt dkL_law_5 34 (q := (938, .iconst 1, 1)) rfl) (dkAt dkL_law_5 35 (q := (939, .iadd, 1)) rfl) (dkAt dkL_law_5 36 (q := (940, .iaload, 1)) rfl) (pc2 := 941) rfl ?_
  refine k_callV C (As := [.int (y (i + 1))]) (rest := []) (o := 0) (mc := 0) (ms := 0) (ct_X7_best l G sh [] iX (y (i + 1)) M _ e1) (cl_L_95 (hts_of C) ⟨Nat.le_of_ble_eq_true rfl, Nat.le_of_ble_eq_true rfl⟩ rfl rfl) iX.1 rfl rfl rfl rfl rfl (Nat.le_of_ble_eq_true rfl) (dkAt dkL_law_5 37 (q := (941, .invokevirtual 95, 3)) rfl) ⟨Nat.le_trans (Nat.le_add_right ck 37) hck, Nat.le_trans (Nat.le_add_right cn 902) hcn⟩ (pc2 := 944) rfl ?_
  refine k_aload_n C (pc2 := 945) (dkAt dkL_law_5 38 (q := (944, .aload_n 2, 1)) rfl) rfl rfl 1 rfl ?_
  refine k_arg C hX hbl hbA (j := 1) (w := y (i + 1)) rfl (by omega) hL rfl (dkAt dkL_law_5 39 (q := (945, .aload_n 0, 1)) rfl) (dkAt dkL_law_5 40 (q := (946, .iload_n 3, 1)) rfl) (dkAt dkL_law_5 41 (q := (947, .iconst 1, 1)) rfl) (dkAt dkL_law_5 42 (q := (948, .iadd, 1)) rfl) (dkAt dkL_law_5 43 (q := (949, .iaload, 1)) rfl) (pc2 := 950) rfl ?_
  refine k_callV C (As := [.int (y (i + 1))]) (rest := [.int _]) (o := 69) (mc := 0) (ms := 0) (ct_X8_best l G sh [] 69 iM (y (i + 1)) M2 _ e2) (cl_L_98 (hts_of C) ⟨Nat.le_of_ble_eq_true rfl, Nat.le_of_ble_eq_true rfl⟩ rfl rfl) iM.1 rfl rfl rfl rfl rfl (Nat.le_of_ble_eq_true rfl) (dkAt dkL_law_5 44 (q := (950, .invokevirtual 98, 3)) rfl) ⟨Nat.le_trans (Nat.le_add_right ck 37) hck, Nat.le_trans (Nat.le_add_right cn 902) hcn⟩ (pc2 := 953) rfl ?_
  refine k_icmp_eq C (tgt := 2073) (pc2 := 956) (A := some ()) (B := none) (r := ()) (dkAt dkL_law_5 45 (q := (953, .if_icmp .eq 1120, 3)) rfl) (by decide) rfl (if_pos rfl) (fun _ => ?_) (fun z => by cases z)
  exact hk sh _ _ _ _ I3 (Nat.le_add_right ck 37) (Nat.le_add_right cn 902)
set_option maxRecDepth 100000 in
set_option maxHeartbeats 4000000 in
/-- 19: there -/
theorem lc_19 (D : LawC p s m c args meth G b L y i) (I : Inv sh a M) (hck : ck + 37 ≤ 600000) (hcn : cn + 902 ≤ 7302250) (hk : Cont p l e s m args below meth c G Q b i ck cn) : KW p l e room_1 s m args below meth c G 4 Q sh [] ck cn M 33 (lvL G b i) [.int (nI 19)] := by
  obtain ⟨C, hX, hbl, hbA, hL, hi⟩ := D
  obtain ⟨iX, iM, iC, iR, iW, iK⟩ := id I
  obtain ⟨M2, e1, r1, f1⟩ := X7_there iC iW.1 (y (i + 1))
  obtain ⟨M3, e2, r2, f2, f3⟩ := X8_there (iR.frC f1) iW.1 (y (i + 1))
  have I3 := I.step r1 f1 r2 f2 f3 (W_there iW (y (i + 1)))
  refine k_swIn C (tgt := 958) (off := 925) (dkAt dkL_law_0 21 (q := (33, .tableswitch 2040 0 63 #[271, 314, 387, 450, 484, 507, 540, 573, 596, 639, 698, 731, 764, 787, 800, 813, 846, 879, 902, 925, 948, 961, 994, 1037, 1080, 1123, 1156, 1179, 1202, 1215, 1248, 1261, 1284, 1297, 1310, 1343, 1376, 1399, 1422, 1455, 1468, 1491, 1514, 1537, 1550, 1573, 1586, 1599, 1622, 1665, 1688, 1721, 1754, 1787, 1830, 1863, 1886, 1909, 1932, 1945, 1968, 1991, 2004, 2017], 271)) rfl) (by decide) (by decide) rfl (by decide) ?_
  refine k_aload_n C (pc2 := 959) (dkAt dkL_law_5 48 (q := (958, .aload_n 1, 1)) rfl) rfl rfl 2 rfl ?_
  refine k_arg C hX hbl hbA (j := 1) (w := y (i + 1)) rfl (by omega) hL rfl (dkAt dkL_law_5 49 (q := (959, .aload_n 0, 1)) rfl) (dkAt dkL_law_5 50 (q := (960, .iload_n 3, 1)) rfl) (dkAt dkL_law_5 51 (q := (961, .iconst 1, 1)) rfl) (dkAt dkL_law_5 52 (q := (962, .iadd, 1)) rfl) (dkAt dkL_law_5 53 (q := (963, .iaload, 1)) rfl) (pc2 := 964) rfl ?_
  refine k_callV C (As := [.int (y (i + 1))]) (rest := []) (o := 0) (mc := 0) (ms := 0) (ct_X7_there l G sh [] iX (y (i + 1)) M _ e1) (cl_L_99 (hts_of C) ⟨Nat.le_of_ble_eq_true rfl, Nat.le_of_ble_eq_true rfl⟩ rfl rfl) iX.1 rfl rfl rfl rfl rfl (Nat.le_of_ble_eq_true rfl) (dkAt dkL_law_5 54 (q := (964, .invokevirtual 99, 3)) rfl) ⟨Nat.le_trans (Nat.le_add_right ck 37) hck, Nat.le_trans (Nat.le_add_right cn 902) hcn⟩ (pc2 := 967) rfl ?_
  refine k_aload_n C (pc2 := 968) (dkAt dkL_law_5 55 (q := (967, .aload_n 2, 1)) rfl) rfl rfl 1 rfl ?_
  refine k_arg C hX hbl hbA (j := 1) (w := y (i + 1)) rfl (by omega) hL rfl (dkAt dkL_law_5 56 (q := (968, .aload_n 0, 1)) rfl) (dkAt dkL_law_5 57 (q := (969, .iload_n 3, 1)) rfl) (dkAt dkL_law_5 58 (q := (970, .iconst 1, 1)) rfl) (dkAt dkL_law_5 59 (q := (971, .iadd, 1)) rfl) (dkAt dkL_law_5 60 (q := (972, .iaload, 1)) rfl) (pc2 := 973) rfl ?_
  refine k_callV C (As := [.int (y (i + 1))]) (rest := [.int _]) (o := 69) (mc := 0) (ms := 0) (ct_X8_there l G sh [] 69 iM (y (i + 1)) M2 _ e2) (cl_L_102 (hts_of C) ⟨Nat.le_of_ble_eq_true rfl, Nat.le_of_ble_eq_true rfl⟩ rfl rfl) iM.1 rfl rfl rfl rfl rfl (Nat.le_of_ble_eq_true rfl) (dkAt dkL_law_5 61 (q := (973, .invokevirtual 102, 3)) rfl) ⟨Nat.le_trans (Nat.le_add_right ck 37) hck, Nat.le_trans (Nat.le_add_right cn 902) hcn⟩ (pc2 := 976) rfl ?_
  refine k_icmp_eq C (tgt := 2073) (pc2 := 979) (A := some ()) (B := none) (r := ()) (dkAt dkL_law_5 62 (q := (976, .if_icmp .eq 1097, 3)) rfl) (by decide) rfl (if_pos rfl) (fun _ => ?_) (fun z => by cases z)
  exact hk sh _ _ _ _ I3 (Nat.le_add_right ck 37) (Nat.le_add_right cn 902)
set_option maxRecDepth 100000 in
set_option maxHeartbeats 4000000 in
/-- 20: all -/
theorem lc_20 (D : LawC p s m c args meth G b L y i) (I : Inv sh a M) (hck : ck + 37 ≤ 600000) (hcn : cn + 902 ≤ 7302250) (hk : Cont p l e s m args below meth c G Q b i ck cn) : KW p l e room_1 s m args below meth c G 4 Q sh [] ck cn M 33 (lvL G b i) [.int (nI 20)] := by
  obtain ⟨C, hX, hbl, hbA, hL, hi⟩ := D
  obtain ⟨iX, iM, iC, iR, iW, iK⟩ := id I
  have e1 := X7_all iC iW.1 
  have e2 := X8_all iR iW.1 
  refine k_swIn C (tgt := 981) (off := 948) (dkAt dkL_law_0 21 (q := (33, .tableswitch 2040 0 63 #[271, 314, 387, 450, 484, 507, 540, 573, 596, 639, 698, 731, 764, 787, 800, 813, 846, 879, 902, 925, 948, 961, 994, 1037, 1080, 1123, 1156, 1179, 1202, 1215, 1248, 1261, 1284, 1297, 1310, 1343, 1376, 1399, 1422, 1455, 1468, 1491, 1514, 1537, 1550, 1573, 1586, 1599, 1622, 1665, 1688, 1721, 1754, 1787, 1830, 1863, 1886, 1909, 1932, 1945, 1968, 1991, 2004, 2017], 271)) rfl) (by decide) (by decide) rfl (by decide) ?_
  refine k_aload_n C (pc2 := 982) (dkAt dkL_law_5 65 (q := (981, .aload_n 1, 1)) rfl) rfl rfl 2 rfl ?_
  refine k_callV C (As := []) (rest := []) (o := 0) (mc := 0) (ms := 0) (ct_X7_all l G sh [] iX  M _ e1) (cl_L_103 (hts_of C) ⟨Nat.le_of_ble_eq_true rfl, Nat.le_of_ble_eq_true rfl⟩ rfl rfl) iX.1 rfl rfl rfl rfl rfl (Nat.le_of_ble_eq_true rfl) (dkAt dkL_law_5 66 (q := (982, .invokevirtual 103, 3)) rfl) ⟨Nat.le_trans (Nat.le_add_right ck 37) hck, Nat.le_trans (Nat.le_add_right cn 902) hcn⟩ (pc2 := 985) rfl ?_
  refine k_aload_n C (pc2 := 986) (dkAt dkL_law_5 67 (q := (985, .aload_n 2, 1)) rfl) rfl rfl 1 rfl ?_
  refine k_callV C (As := []) (rest := [.int _]) (o := 69) (mc := 0) (ms := 0) (ct_X8_all l G sh [] 69 iM  M _ e2) (cl_L_106 (hts_of C) ⟨Nat.le_of_ble_eq_true rfl, Nat.le_of_ble_eq_true rfl⟩ rfl rfl) iM.1 rfl rfl rfl rfl rfl (Nat.le_of_ble_eq_true rfl) (dkAt dkL_law_5 68 (q := (986, .invokevirtual 106, 3)) rfl) ⟨Nat.le_trans (Nat.le_add_right ck 37) hck, Nat.le_trans (Nat.le_add_right cn 902) hcn⟩ (pc2 := 989) rfl ?_
  refine k_icmp_eq C (tgt := 2073) (pc2 := 992) (A := some ()) (B := none) (r := ()) (dkAt dkL_law_5 69 (q := (989, .if_icmp .eq 1084, 3)) rfl) (by decide) rfl (if_pos rfl) (fun _ => ?_) (fun z => by cases z)
  exact hk sh _ _ _ _ I (Nat.le_add_right ck 37) (Nat.le_add_right cn 902)
set_option maxRecDepth 100000 in
set_option maxHeartbeats 4000000 in
/-- 21: held -/
theorem lc_21 (D : LawC p s m c args meth G b L y i) (I : Inv sh a M) (hck : ck + 37 ≤ 600000) (hcn : cn + 902 ≤ 7302250) (hk : Cont p l e s m args below meth c G Q b i ck cn) : KW p l e room_1 s m args below meth c G 4 Q sh [] ck cn M 33 (lvL G b i) [.int (nI 21)] := by
  obtain ⟨C, hX, hbl, hbA, hL, hi⟩ := D
  obtain ⟨iX, iM, iC, iR, iW, iK⟩ := id I
  obtain ⟨M2, e1, r1, f1⟩ := X7_held iC iW.1 (y (i + 1)) (y (i + 2))
  obtain ⟨M3, e2, r2, f2, f3⟩ := X8_held (iR.frC f1) iW.1 (y (i + 1)) (y (i + 2))
  have I3 := I.step r1 f1 r2 f2 f3 (W_held iW (y (i + 1)) (y (i + 2)))
  refine k_swIn C (tgt := 994) (off := 961) (dkAt dkL_law_0 21 (q := (33, .tableswitch 2040 0 63 #[271, 314, 387, 450, 484, 507, 540, 573, 596, 639, 698, 731, 764, 787, 800, 813, 846, 879, 902, 925, 948, 961, 994, 1037, 1080, 1123, 1156, 1179, 1202, 1215, 1248, 1261, 1284, 1297, 1310, 1343, 1376, 1399, 1422, 1455, 1468, 1491, 1514, 1537, 1550, 1573, 1586, 1599, 1622, 1665, 1688, 1721, 1754, 1787, 1830, 1863, 1886, 1909, 1932, 1945, 1968, 1991, 2004, 2017], 271)) rfl) (by decide) (by decide) rfl (by decide) ?_
  refine k_aload_n C (pc2 := 995) (dkAt dkL_law_5 72 (q := (994, .aload_n 1, 1)) rfl) rfl rfl 2 rfl ?_
  refine k_arg C hX hbl hbA (j := 1) (w := y (i + 1)) rfl (by omega) hL rfl (dkAt dkL_law_5 73 (q := (995, .aload_n 0, 1)) rfl) (dkAt dkL_law_5 74 (q := (996, .iload_n 3, 1)) rfl) (dkAt dkL_law_5 75 (q := (997, .iconst 1, 1)) rfl) (dkAt dkL_law_5 76 (q := (998, .iadd, 1)) rfl) (dkAt dkL_law_5 77 (q := (999, .iaload, 1)) rfl) (pc2 := 1000) rfl ?_
  refine k_arg C hX hbl hbA (j := 2) (w := y (i + 2)) rfl (by omega) hL rfl (dkAt dkL_law_5 78 (q := (1000, .aload_n 0, 1)) rfl) (dkAt dkL_law_5 79 (q := (1001, .iload_n 3, 1)) rfl) (dkAt dkL_law_5 80 (q := (1002, .iconst 2, 1)) rfl) (dkAt dkL_law_5 81 (q := (1003, .iadd, 1)) rfl) (dkAt dkL_law_5 82 (q := (1004, .iaload, 1)) rfl) (pc2 := 1005) rfl ?_
  refine k_callV C (As := [.int (y (i + 1)), .int (y (i + 2))]) (rest := []) (o := 0) (mc := 0) (ms := 0) (ct_X7_held l G sh [] iX (y (i + 1)) (y (i + 2)) M _ e1) (cl_L_107 (hts_of C) ⟨Nat.le_of_ble_eq_true rfl, Nat.le_of_ble_eq_true rfl⟩ rfl rfl) iX.1 rfl rfl rfl rfl rfl (Nat.le_of_ble_eq_true rfl) (dkAt dkL_law_5 83 (q := (1005, .invokevirtual 107, 3)) rfl) ⟨Nat.le_trans (Nat.le_add_right ck 37) hck, Nat.le_trans (Nat.le_add_right cn 902) hcn⟩ (pc2 := 1008) rfl ?_
  refine k_aload_n C (pc2 := 1009) (dkAt dkL_law_5 84 (q := (1008, .aload_n 2, 1)) rfl) rfl rfl 1 rfl ?_
  refine k_arg C hX hbl hbA (j := 1) (w := y (i + 1)) rfl (by omega) hL rfl (dkAt dkL_law_5 85 (q := (1009, .aload_n 0, 1)) rfl) (dkAt dkL_law_5 86 (q := (1010, .iload_n 3, 1)) rfl) (dkAt dkL_law_5 87 (q := (1011, .iconst 1, 1)) rfl) (dkAt dkL_law_5 88 (q := (1012, .iadd, 1)) rfl) (dkAt dkL_law_5 89 (q := (1013, .iaload, 1)) rfl) (pc2 := 1014) rfl ?_
  refine k_arg C hX hbl hbA (j := 2) (w := y (i + 2)) rfl (by omega) hL rfl (dkAt dkL_law_5 90 (q := (1014, .aload_n 0, 1)) rfl) (dkAt dkL_law_5 91 (q := (1015, .iload_n 3, 1)) rfl) (dkAt dkL_law_5 92 (q := (1016, .iconst 2, 1)) rfl) (dkAt dkL_law_5 93 (q := (1017, .iadd, 1)) rfl) (dkAt dkL_law_5 94 (q := (1018, .iaload, 1)) rfl) (pc2 := 1019) rfl ?_
  refine k_callV C (As := [.int (y (i + 1)), .int (y (i + 2))]) (rest := [.int _]) (o := 69) (mc := 0) (ms := 0) (ct_X8_held l G sh [] 69 iM (y (i + 1)) (y (i + 2)) M2 _ e2) (cl_L_110 (hts_of C) ⟨Nat.le_of_ble_eq_true rfl, Nat.le_of_ble_eq_true rfl⟩ rfl rfl) iM.1 rfl rfl rfl rfl rfl (Nat.le_of_ble_eq_true rfl) (dkAt dkL_law_5 95 (q := (1019, .invokevirtual 110, 3)) rfl) ⟨Nat.le_trans (Nat.le_add_right ck 37) hck, Nat.le_trans (Nat.le_add_right cn 902) hcn⟩ (pc2 := 1022) rfl ?_
  refine k_icmp_eq C (tgt := 2073) (pc2 := 1025) (A := some ()) (B := none) (r := ()) (dkAt dkL_law_5 96 (q := (1022, .if_icmp .eq 1051, 3)) rfl) (by decide) rfl (if_pos rfl) (fun _ => ?_) (fun z => by cases z)
  exact hk sh _ _ _ _ I3 (Nat.le_add_right ck 37) (Nat.le_add_right cn 902)
set_option maxRecDepth 100000 in
set_option maxHeartbeats 4000000 in
/-- 22: odds -/
theorem lc_22 (D : LawC p s m c args meth G b L y i) (I : Inv sh a M) (hck : ck + 37 ≤ 600000) (hcn : cn + 902 ≤ 7302250) (hk : Cont p l e s m args below meth c G Q b i ck cn) : KW p l e room_1 s m args below meth c G 4 Q sh [] ck cn M 33 (lvL G b i) [.int (nI 22)] := by
  obtain ⟨C, hX, hbl, hbA, hL, hi⟩ := D
  obtain ⟨iX, iM, iC, iR, iW, iK⟩ := id I
  obtain ⟨M2, e1, r1, f1⟩ := X7_odds iC (y (i + 1)) (y (i + 2)) (y (i + 3))
  obtain ⟨M3, e2, r2, f2, f3⟩ := X8_odds (iR.frC f1) (y (i + 1)) (y (i + 2)) (y (i + 3))
  have I3 := I.step r1 f1 r2 f2 f3 (W_odds iW (y (i + 1)) (y (i + 2)) (y (i + 3)))
  refine k_swIn C (tgt := 1027) (off := 994) (dkAt dkL_law_0 21 (q := (33, .tableswitch 2040 0 63 #[271, 314, 387, 450, 484, 507, 540, 573, 596, 639, 698, 731, 764, 787, 800, 813, 846, 879, 902, 925, 948, 961, 994, 1037, 1080, 1123, 1156, 1179, 1202, 1215, 1248, 1261, 1284, 1297, 1310, 1343, 1376, 1399, 1422, 1455, 1468, 1491, 1514, 1537, 1550, 1573, 1586, 1599, 1622, 1665, 1688, 1721, 1754, 1787, 1830, 1863, 1886, 1909, 1932, 1945, 1968, 1991, 2004, 2017], 271)) rfl) (by decide) (by decide) rfl (by decide) ?_
  refine k_aload_n C (pc2 := 1028) (dkAt dkL_law_5 99 (q := (1027, .aload_n 1, 1)) rfl) rfl rfl 2 rfl ?_
  refine k_arg C hX hbl hbA (j := 1) (w := y (i + 1)) rfl (by omega) hL rfl (dkAt dkL_law_6 0 (q := (1028, .aload_n 0, 1)) rfl) (dkAt dkL_law_6 1 (q := (1029, .iload_n 3, 1)) rfl) (dkAt dkL_law_6 2 (q := (1030, .iconst 1, 1)) rfl) (dkAt dkL_law_6 3 (q := (1031, .iadd, 1)) rfl) (dkAt dkL_law_6 4 (q := (1032, .iaload, 1)) rfl) (pc2 := 1033) rfl ?_
  refine k_arg C hX hbl hbA (j := 2) (w := y (i + 2)) rfl (by omega) hL rfl (dkAt dkL_law_6 5 (q := (1033, .aload_n 0, 1)) rfl) (dkAt dkL_law_6 6 (q := (1034, .iload_n 3, 1)) rfl) (dkAt dkL_law_6 7 (q := (1035, .iconst 2, 1)) rfl) (dkAt dkL_law_6 8 (q := (1036, .iadd, 1)) rfl) (dkAt dkL_law_6 9 (q := (1037, .iaload, 1)) rfl) (pc2 := 1038) rfl ?_
  refine k_arg C hX hbl hbA (j := 3) (w := y (i + 3)) rfl (by omega) hL rfl (dkAt dkL_law_6 10 (q := (1038, .aload_n 0, 1)) rfl) (dkAt dkL_law_6 11 (q := (1039, .iload_n 3, 1)) rfl) (dkAt dkL_law_6 12 (q := (1040, .iconst 3, 1)) rfl) (dkAt dkL_law_6 13 (q := (1041, .iadd, 1)) rfl) (dkAt dkL_law_6 14 (q := (1042, .iaload, 1)) rfl) (pc2 := 1043) rfl ?_
  refine k_callV C (As := [.int (y (i + 1)), .int (y (i + 2)), .int (y (i + 3))]) (rest := []) (o := 0) (mc := 0) (ms := 0) (ct_X7_odds l G sh [] iX (y (i + 1)) (y (i + 2)) (y (i + 3)) M _ e1) (cl_L_111 (hts_of C) ⟨Nat.le_of_ble_eq_true rfl, Nat.le_of_ble_eq_true rfl⟩ rfl rfl) iX.1 rfl rfl rfl rfl rfl (Nat.le_of_ble_eq_true rfl) (dkAt dkL_law_6 15 (q := (1043, .invokevirtual 111, 3)) rfl) ⟨Nat.le_trans (Nat.le_add_right ck 37) hck, Nat.le_trans (Nat.le_add_right cn 902) hcn⟩ (pc2 := 1046) rfl ?_
  refine k_aload_n C (pc2 := 1047) (dkAt dkL_law_6 16 (q := (1046, .aload_n 2, 1)) rfl) rfl rfl 1 rfl ?_
  refine k_arg C hX hbl hbA (j := 1) (w := y (i + 1)) rfl (by omega) hL rfl (dkAt dkL_law_6 17 (q := (1047, .aload_n 0, 1)) rfl) (dkAt dkL_law_6 18 (q := (1048, .iload_n 3, 1)) rfl) (dkAt dkL_law_6 19 (q := (1049, .iconst 1, 1)) rfl) (dkAt dkL_law_6 20 (q := (1050, .iadd, 1)) rfl) (dkAt dkL_law_6 21 (q := (1051, .iaload, 1)) rfl) (pc2 := 1052) rfl ?_
  refine k_arg C hX hbl hbA (j := 2) (w := y (i + 2)) rfl (by omega) hL rfl (dkAt dkL_law_6 22 (q := (1052, .aload_n 0, 1)) rfl) (dkAt dkL_law_6 23 (q := (1053, .iload_n 3, 1)) rfl) (dkAt dkL_law_6 24 (q := (1054, .iconst 2, 1)) rfl) (dkAt dkL_law_6 25 (q := (1055, .iadd, 1)) rfl) (dkAt dkL_law_6 26 (q := (1056, .iaload, 1)) rfl) (pc2 := 1057) rfl ?_
  refine k_arg C hX hbl hbA (j := 3) (w := y (i + 3)) rfl (by omega) hL rfl (dkAt dkL_law_6 27 (q := (1057, .aload_n 0, 1)) rfl) (dkAt dkL_law_6 28 (q := (1058, .iload_n 3, 1)) rfl) (dkAt dkL_law_6 29 (q := (1059, .iconst 3, 1)) rfl) (dkAt dkL_law_6 30 (q := (1060, .iadd, 1)) rfl) (dkAt dkL_law_6 31 (q := (1061, .iaload, 1)) rfl) (pc2 := 1062) rfl ?_
  refine k_callV C (As := [.int (y (i + 1)), .int (y (i + 2)), .int (y (i + 3))]) (rest := [.int _]) (o := 69) (mc := 0) (ms := 0) (ct_X8_odds l G sh [] 69 iM (y (i + 1)) (y (i + 2)) (y (i + 3)) M2 _ e2) (cl_L_114 (hts_of C) ⟨Nat.le_of_ble_eq_true rfl, Nat.le_of_ble_eq_true rfl⟩ rfl rfl) iM.1 rfl rfl rfl rfl rfl (Nat.le_of_ble_eq_true rfl) (dkAt dkL_law_6 32 (q := (1062, .invokevirtual 114, 3)) rfl) ⟨Nat.le_trans (Nat.le_add_right ck 37) hck, Nat.le_trans (Nat.le_add_right cn 902) hcn⟩ (pc2 := 1065) rfl ?_
  refine k_icmp_eq C (tgt := 2073) (pc2 := 1068) (A := some ()) (B := none) (r := ()) (dkAt dkL_law_6 33 (q := (1065, .if_icmp .eq 1008, 3)) rfl) (by decide) rfl (if_pos rfl) (fun _ => ?_) (fun z => by cases z)
  exact hk sh _ _ _ _ I3 (Nat.le_add_right ck 37) (Nat.le_add_right cn 902)
set_option maxRecDepth 100000 in
set_option maxHeartbeats 4000000 in
/-- 23: offer -/
theorem lc_23 (D : LawC p s m c args meth G b L y i) (I : Inv sh a M) (hck : ck + 37 ≤ 600000) (hcn : cn + 902 ≤ 7302250) (hk : Cont p l e s m args below meth c G Q b i ck cn) : KW p l e room_1 s m args below meth c G 4 Q sh [] ck cn M 33 (lvL G b i) [.int (nI 23)] := by
  obtain ⟨C, hX, hbl, hbA, hL, hi⟩ := D
  obtain ⟨iX, iM, iC, iR, iW, iK⟩ := id I
  obtain ⟨M2, e1, r1, f1⟩ := X7_offer iC (y (i + 1)) (y (i + 2)) (y (i + 3))
  obtain ⟨M3, e2, r2, f2, f3⟩ := X8_offer (iR.frC f1) (y (i + 1)) (y (i + 2)) (y (i + 3))
  have I3 := I.step r1 f1 r2 f2 f3 (W_offer iW (y (i + 1)) (y (i + 2)) (y (i + 3)))
  refine k_swIn C (tgt := 1070) (off := 1037) (dkAt dkL_law_0 21 (q := (33, .tableswitch 2040 0 63 #[271, 314, 387, 450, 484, 507, 540, 573, 596, 639, 698, 731, 764, 787, 800, 813, 846, 879, 902, 925, 948, 961, 994, 1037, 1080, 1123, 1156, 1179, 1202, 1215, 1248, 1261, 1284, 1297, 1310, 1343, 1376, 1399, 1422, 1455, 1468, 1491, 1514, 1537, 1550, 1573, 1586, 1599, 1622, 1665, 1688, 1721, 1754, 1787, 1830, 1863, 1886, 1909, 1932, 1945, 1968, 1991, 2004, 2017], 271)) rfl) (by decide) (by decide) rfl (by decide) ?_
  refine k_aload_n C (pc2 := 1071) (dkAt dkL_law_6 36 (q := (1070, .aload_n 1, 1)) rfl) rfl rfl 2 rfl ?_
  refine k_arg C hX hbl hbA (j := 1) (w := y (i + 1)) rfl (by omega) hL rfl (dkAt dkL_law_6 37 (q := (1071, .aload_n 0, 1)) rfl) (dkAt dkL_law_6 38 (q := (1072, .iload_n 3, 1)) rfl) (dkAt dkL_law_6 39 (q := (1073, .iconst 1, 1)) rfl) (dkAt dkL_law_6 40 (q := (1074, .iadd, 1)) rfl) (dkAt dkL_law_6 41 (q := (1075, .iaload, 1)) rfl) (pc2 := 1076) rfl ?_
  refine k_arg C hX hbl hbA (j := 2) (w := y (i + 2)) rfl (by omega) hL rfl (dkAt dkL_law_6 42 (q := (1076, .aload_n 0, 1)) rfl) (dkAt dkL_law_6 43 (q := (1077, .iload_n 3, 1)) rfl) (dkAt dkL_law_6 44 (q := (1078, .iconst 2, 1)) rfl) (dkAt dkL_law_6 45 (q := (1079, .iadd, 1)) rfl) (dkAt dkL_law_6 46 (q := (1080, .iaload, 1)) rfl) (pc2 := 1081) rfl ?_
  refine k_arg C hX hbl hbA (j := 3) (w := y (i + 3)) rfl (by omega) hL rfl (dkAt dkL_law_6 47 (q := (1081, .aload_n 0, 1)) rfl) (dkAt dkL_law_6 48 (q := (1082, .iload_n 3, 1)) rfl) (dkAt dkL_law_6 49 (q := (1083, .iconst 3, 1)) rfl) (dkAt dkL_law_6 50 (q := (1084, .iadd, 1)) rfl) (dkAt dkL_law_6 51 (q := (1085, .iaload, 1)) rfl) (pc2 := 1086) rfl ?_
  refine k_callV C (As := [.int (y (i + 1)), .int (y (i + 2)), .int (y (i + 3))]) (rest := []) (o := 0) (mc := 0) (ms := 0) (ct_X7_offer l G sh [] iX (y (i + 1)) (y (i + 2)) (y (i + 3)) M _ e1) (cl_L_115 (hts_of C) ⟨Nat.le_of_ble_eq_true rfl, Nat.le_of_ble_eq_true rfl⟩ rfl rfl) iX.1 rfl rfl rfl rfl rfl (Nat.le_of_ble_eq_true rfl) (dkAt dkL_law_6 52 (q := (1086, .invokevirtual 115, 3)) rfl) ⟨Nat.le_trans (Nat.le_add_right ck 37) hck, Nat.le_trans (Nat.le_add_right cn 902) hcn⟩ (pc2 := 1089) rfl ?_
  refine k_aload_n C (pc2 := 1090) (dkAt dkL_law_6 53 (q := (1089, .aload_n 2, 1)) rfl) rfl rfl 1 rfl ?_
  refine k_arg C hX hbl hbA (j := 1) (w := y (i + 1)) rfl (by omega) hL rfl (dkAt dkL_law_6 54 (q := (1090, .aload_n 0, 1)) rfl) (dkAt dkL_law_6 55 (q := (1091, .iload_n 3, 1)) rfl) (dkAt dkL_law_6 56 (q := (1092, .iconst 1, 1)) rfl) (dkAt dkL_law_6 57 (q := (1093, .iadd, 1)) rfl) (dkAt dkL_law_6 58 (q := (1094, .iaload, 1)) rfl) (pc2 := 1095) rfl ?_
  refine k_arg C hX hbl hbA (j := 2) (w := y (i + 2)) rfl (by omega) hL rfl (dkAt dkL_law_6 59 (q := (1095, .aload_n 0, 1)) rfl) (dkAt dkL_law_6 60 (q := (1096, .iload_n 3, 1)) rfl) (dkAt dkL_law_6 61 (q := (1097, .iconst 2, 1)) rfl) (dkAt dkL_law_6 62 (q := (1098, .iadd, 1)) rfl) (dkAt dkL_law_6 63 (q := (1099, .iaload, 1)) rfl) (pc2 := 1100) rfl ?_
  refine k_arg C hX hbl hbA (j := 3) (w := y (i + 3)) rfl (by omega) hL rfl (dkAt dkL_law_6 64 (q := (1100, .aload_n 0, 1)) rfl) (dkAt dkL_law_6 65 (q := (1101, .iload_n 3, 1)) rfl) (dkAt dkL_law_6 66 (q := (1102, .iconst 3, 1)) rfl) (dkAt dkL_law_6 67 (q := (1103, .iadd, 1)) rfl) (dkAt dkL_law_6 68 (q := (1104, .iaload, 1)) rfl) (pc2 := 1105) rfl ?_
  refine k_callV C (As := [.int (y (i + 1)), .int (y (i + 2)), .int (y (i + 3))]) (rest := [.int _]) (o := 69) (mc := 0) (ms := 0) (ct_X8_offer l G sh [] 69 iM (y (i + 1)) (y (i + 2)) (y (i + 3)) M2 _ e2) (cl_L_118 (hts_of C) ⟨Nat.le_of_ble_eq_true rfl, Nat.le_of_ble_eq_true rfl⟩ rfl rfl) iM.1 rfl rfl rfl rfl rfl (Nat.le_of_ble_eq_true rfl) (dkAt dkL_law_6 69 (q := (1105, .invokevirtual 118, 3)) rfl) ⟨Nat.le_trans (Nat.le_add_right ck 37) hck, Nat.le_trans (Nat.le_add_right cn 902) hcn⟩ (pc2 := 1108) rfl ?_
  refine k_icmp_eq C (tgt := 2073) (pc2 := 1111) (A := some ()) (B := none) (r := ()) (dkAt dkL_law_6 70 (q := (1108, .if_icmp .eq 965, 3)) rfl) (by decide) rfl (if_pos rfl) (fun _ => ?_) (fun z => by cases z)
  exact hk sh _ _ _ _ I3 (Nat.le_add_right ck 37) (Nat.le_add_right cn 902)
set_option maxRecDepth 100000 in
set_option maxHeartbeats 4000000 in
/-- 24: never -/
theorem lc_24 (D : LawC p s m c args meth G b L y i) (I : Inv sh a M) (hck : ck + 37 ≤ 600000) (hcn : cn + 902 ≤ 7302250) (hk : Cont p l e s m args below meth c G Q b i ck cn) : KW p l e room_1 s m args below meth c G 4 Q sh [] ck cn M 33 (lvL G b i) [.int (nI 24)] := by
  obtain ⟨C, hX, hbl, hbA, hL, hi⟩ := D
  obtain ⟨iX, iM, iC, iR, iW, iK⟩ := id I
  obtain ⟨M2, e1, r1, f1⟩ := X7_never iC (y (i + 1)) (y (i + 2)) (y (i + 3))
  obtain ⟨M3, e2, r2, f2, f3⟩ := X8_never (iR.frC f1) (y (i + 1)) (y (i + 2)) (y (i + 3))
  have I3 := I.step r1 f1 r2 f2 f3 (W_never iW (y (i + 1)) (y (i + 2)) (y (i + 3)))
  refine k_swIn C (tgt := 1113) (off := 1080) (dkAt dkL_law_0 21 (q := (33, .tableswitch 2040 0 63 #[271, 314, 387, 450, 484, 507, 540, 573, 596, 639, 698, 731, 764, 787, 800, 813, 846, 879, 902, 925, 948, 961, 994, 1037, 1080, 1123, 1156, 1179, 1202, 1215, 1248, 1261, 1284, 1297, 1310, 1343, 1376, 1399, 1422, 1455, 1468, 1491, 1514, 1537, 1550, 1573, 1586, 1599, 1622, 1665, 1688, 1721, 1754, 1787, 1830, 1863, 1886, 1909, 1932, 1945, 1968, 1991, 2004, 2017], 271)) rfl) (by decide) (by decide) rfl (by decide) ?_
  refine k_aload_n C (pc2 := 1114) (dkAt dkL_law_6 73 (q := (1113, .aload_n 1, 1)) rfl) rfl rfl 2 rfl ?_
  refine k_arg C hX hbl hbA (j := 1) (w := y (i + 1)) rfl (by omega) hL rfl (dkAt dkL_law_6 74 (q := (1114, .aload_n 0, 1)) rfl) (dkAt dkL_law_6 75 (q := (1115, .iload_n 3, 1)) rfl) (dkAt dkL_law_6 76 (q := (1116, .iconst 1, 1)) rfl) (dkAt dkL_law_6 77 (q := (1117, .iadd, 1)) rfl) (dkAt dkL_law_6 78 (q := (1118, .iaload, 1)) rfl) (pc2 := 1119) rfl ?_
  refine k_arg C hX hbl hbA (j := 2) (w := y (i + 2)) rfl (by omega) hL rfl (dkAt dkL_law_6 79 (q := (1119, .aload_n 0, 1)) rfl) (dkAt dkL_law_6 80 (q := (1120, .iload_n 3, 1)) rfl) (dkAt dkL_law_6 81 (q := (1121, .iconst 2, 1)) rfl) (dkAt dkL_law_6 82 (q := (1122, .iadd, 1)) rfl) (dkAt dkL_law_6 83 (q := (1123, .iaload, 1)) rfl) (pc2 := 1124) rfl ?_
  refine k_arg C hX hbl hbA (j := 3) (w := y (i + 3)) rfl (by omega) hL rfl (dkAt dkL_law_6 84 (q := (1124, .aload_n 0, 1)) rfl) (dkAt dkL_law_6 85 (q := (1125, .iload_n 3, 1)) rfl) (dkAt dkL_law_6 86 (q := (1126, .iconst 3, 1)) rfl) (dkAt dkL_law_6 87 (q := (1127, .iadd, 1)) rfl) (dkAt dkL_law_6 88 (q := (1128, .iaload, 1)) rfl) (pc2 := 1129) rfl ?_
  refine k_callV C (As := [.int (y (i + 1)), .int (y (i + 2)), .int (y (i + 3))]) (rest := []) (o := 0) (mc := 0) (ms := 0) (ct_X7_never l G sh [] iX (y (i + 1)) (y (i + 2)) (y (i + 3)) M _ e1) (cl_L_119 (hts_of C) ⟨Nat.le_of_ble_eq_true rfl, Nat.le_of_ble_eq_true rfl⟩ rfl rfl) iX.1 rfl rfl rfl rfl rfl (Nat.le_of_ble_eq_true rfl) (dkAt dkL_law_6 89 (q := (1129, .invokevirtual 119, 3)) rfl) ⟨Nat.le_trans (Nat.le_add_right ck 37) hck, Nat.le_trans (Nat.le_add_right cn 902) hcn⟩ (pc2 := 1132) rfl ?_
  refine k_aload_n C (pc2 := 1133) (dkAt dkL_law_6 90 (q := (1132, .aload_n 2, 1)) rfl) rfl rfl 1 rfl ?_
  refine k_arg C hX hbl hbA (j := 1) (w := y (i + 1)) rfl (by omega) hL rfl (dkAt dkL_law_6 91 (q := (1133, .aload_n 0, 1)) rfl) (dkAt dkL_law_6 92 (q := (1134, .iload_n 3, 1)) rfl) (dkAt dkL_law_6 93 (q := (1135, .iconst 1, 1)) rfl) (dkAt dkL_law_6 94 (q := (1136, .iadd, 1)) rfl) (dkAt dkL_law_6 95 (q := (1137, .iaload, 1)) rfl) (pc2 := 1138) rfl ?_
  refine k_arg C hX hbl hbA (j := 2) (w := y (i + 2)) rfl (by omega) hL rfl (dkAt dkL_law_6 96 (q := (1138, .aload_n 0, 1)) rfl) (dkAt dkL_law_6 97 (q := (1139, .iload_n 3, 1)) rfl) (dkAt dkL_law_6 98 (q := (1140, .iconst 2, 1)) rfl) (dkAt dkL_law_6 99 (q := (1141, .iadd, 1)) rfl) (dkAt dkL_law_7 0 (q := (1142, .iaload, 1)) rfl) (pc2 := 1143) rfl ?_
  refine k_arg C hX hbl hbA (j := 3) (w := y (i + 3)) rfl (by omega) hL rfl (dkAt dkL_law_7 1 (q := (1143, .aload_n 0, 1)) rfl) (dkAt dkL_law_7 2 (q := (1144, .iload_n 3, 1)) rfl) (dkAt dkL_law_7 3 (q := (1145, .iconst 3, 1)) rfl) (dkAt dkL_law_7 4 (q := (1146, .iadd, 1)) rfl) (dkAt dkL_law_7 5 (q := (1147, .iaload, 1)) rfl) (pc2 := 1148) rfl ?_
  refine k_callV C (As := [.int (y (i + 1)), .int (y (i + 2)), .int (y (i + 3))]) (rest := [.int _]) (o := 69) (mc := 0) (ms := 0) (ct_X8_never l G sh [] 69 iM (y (i + 1)) (y (i + 2)) (y (i + 3)) M2 _ e2) (cl_L_122 (hts_of C) ⟨Nat.le_of_ble_eq_true rfl, Nat.le_of_ble_eq_true rfl⟩ rfl rfl) iM.1 rfl rfl rfl rfl rfl (Nat.le_of_ble_eq_true rfl) (dkAt dkL_law_7 6 (q := (1148, .invokevirtual 122, 3)) rfl) ⟨Nat.le_trans (Nat.le_add_right ck 37) hck, Nat.le_trans (Nat.le_add_right cn 902) hcn⟩ (pc2 := 1151) rfl ?_
  refine k_icmp_eq C (tgt := 2073) (pc2 := 1154) (A := some ()) (B := none) (r := ()) (dkAt dkL_law_7 7 (q := (1151, .if_icmp .eq 922, 3)) rfl) (by decide) rfl (if_pos rfl) (fun _ => ?_) (fun z => by cases z)
  exact hk sh _ _ _ _ I3 (Nat.le_add_right ck 37) (Nat.le_add_right cn 902)
set_option maxRecDepth 100000 in
set_option maxHeartbeats 4000000 in
/-- 25: known -/
theorem lc_25 (D : LawC p s m c args meth G b L y i) (I : Inv sh a M) (hck : ck + 37 ≤ 600000) (hcn : cn + 902 ≤ 7302250) (hk : Cont p l e s m args below meth c G Q b i ck cn) : KW p l e room_1 s m args below meth c G 4 Q sh [] ck cn M 33 (lvL G b i) [.int (nI 25)] := by
  obtain ⟨C, hX, hbl, hbA, hL, hi⟩ := D
  obtain ⟨iX, iM, iC, iR, iW, iK⟩ := id I
  obtain ⟨M2, e1, r1, f1⟩ := X7_known iC iW.1 (y (i + 1)) (y (i + 2))
  obtain ⟨M3, e2, r2, f2, f3⟩ := X8_known (iR.frC f1) iW.1 (y (i + 1)) (y (i + 2))
  have I3 := I.step r1 f1 r2 f2 f3 (W_known iW (y (i + 1)) (y (i + 2)))
  refine k_swIn C (tgt := 1156) (off := 1123) (dkAt dkL_law_0 21 (q := (33, .tableswitch 2040 0 63 #[271, 314, 387, 450, 484, 507, 540, 573, 596, 639, 698, 731, 764, 787, 800, 813, 846, 879, 902, 925, 948, 961, 994, 1037, 1080, 1123, 1156, 1179, 1202, 1215, 1248, 1261, 1284, 1297, 1310, 1343, 1376, 1399, 1422, 1455, 1468, 1491, 1514, 1537, 1550, 1573, 1586, 1599, 1622, 1665, 1688, 1721, 1754, 1787, 1830, 1863, 1886, 1909, 1932, 1945, 1968, 1991, 2004, 2017], 271)) rfl) (by decide) (by decide) rfl (by decide) ?_
  refine k_aload_n C (pc2 := 1157) (dkAt dkL_law_7 10 (q := (1156, .aload_n 1, 1)) rfl) rfl rfl 2 rfl ?_
  refine k_arg C hX hbl hbA (j := 1) (w := y (i + 1)) rfl (by omega) hL rfl (dkAt dkL_law_7 11 (q := (1157, .aload_n 0, 1)) rfl) (dkAt dkL_law_7 12 (q := (1158, .iload_n 3, 1)) rfl) (dkAt dkL_law_7 13 (q := (1159, .iconst 1, 1)) rfl) (dkAt dkL_law_7 14 (q := (1160, .iadd, 1)) rfl) (dkAt dkL_law_7 15 (q := (1161, .iaload, 1)) rfl) (pc2 := 1162) rfl ?_
  refine k_arg C hX hbl hbA (j := 2) (w := y (i + 2)) rfl (by omega) hL rfl (dkAt dkL_law_7 16 (q := (1162, .aload_n 0, 1)) rfl) (dkAt dkL_law_7 17 (q := (1163, .iload_n 3, 1)) rfl) (dkAt dkL_law_7 18 (q := (1164, .iconst 2, 1)) rfl) (dkAt dkL_law_7 19 (q := (1165, .iadd, 1)) rfl) (dkAt dkL_law_7 20 (q := (1166, .iaload, 1)) rfl) (pc2 := 1167) rfl ?_
  refine k_callV C (As := [.int (y (i + 1)), .int (y (i + 2))]) (rest := []) (o := 0) (mc := 0) (ms := 0) (ct_X7_known l G sh [] iX (y (i + 1)) (y (i + 2)) M _ e1) (cl_L_123 (hts_of C) ⟨Nat.le_of_ble_eq_true rfl, Nat.le_of_ble_eq_true rfl⟩ rfl rfl) iX.1 rfl rfl rfl rfl rfl (Nat.le_of_ble_eq_true rfl) (dkAt dkL_law_7 21 (q := (1167, .invokevirtual 123, 3)) rfl) ⟨Nat.le_trans (Nat.le_add_right ck 37) hck, Nat.le_trans (Nat.le_add_right cn 902) hcn⟩ (pc2 := 1170) rfl ?_
  refine k_aload_n C (pc2 := 1171) (dkAt dkL_law_7 22 (q := (1170, .aload_n 2, 1)) rfl) rfl rfl 1 rfl ?_
  refine k_arg C hX hbl hbA (j := 1) (w := y (i + 1)) rfl (by omega) hL rfl (dkAt dkL_law_7 23 (q := (1171, .aload_n 0, 1)) rfl) (dkAt dkL_law_7 24 (q := (1172, .iload_n 3, 1)) rfl) (dkAt dkL_law_7 25 (q := (1173, .iconst 1, 1)) rfl) (dkAt dkL_law_7 26 (q := (1174, .iadd, 1)) rfl) (dkAt dkL_law_7 27 (q := (1175, .iaload, 1)) rfl) (pc2 := 1176) rfl ?_
  refine k_arg C hX hbl hbA (j := 2) (w := y (i + 2)) rfl (by omega) hL rfl (dkAt dkL_law_7 28 (q := (1176, .aload_n 0, 1)) rfl) (dkAt dkL_law_7 29 (q := (1177, .iload_n 3, 1)) rfl) (dkAt dkL_law_7 30 (q := (1178, .iconst 2, 1)) rfl) (dkAt dkL_law_7 31 (q := (1179, .iadd, 1)) rfl) (dkAt dkL_law_7 32 (q := (1180, .iaload, 1)) rfl) (pc2 := 1181) rfl ?_
  refine k_callV C (As := [.int (y (i + 1)), .int (y (i + 2))]) (rest := [.int _]) (o := 69) (mc := 0) (ms := 0) (ct_X8_known l G sh [] 69 iM (y (i + 1)) (y (i + 2)) M2 _ e2) (cl_L_126 (hts_of C) ⟨Nat.le_of_ble_eq_true rfl, Nat.le_of_ble_eq_true rfl⟩ rfl rfl) iM.1 rfl rfl rfl rfl rfl (Nat.le_of_ble_eq_true rfl) (dkAt dkL_law_7 33 (q := (1181, .invokevirtual 126, 3)) rfl) ⟨Nat.le_trans (Nat.le_add_right ck 37) hck, Nat.le_trans (Nat.le_add_right cn 902) hcn⟩ (pc2 := 1184) rfl ?_
  refine k_icmp_eq C (tgt := 2073) (pc2 := 1187) (A := some ()) (B := none) (r := ()) (dkAt dkL_law_7 34 (q := (1184, .if_icmp .eq 889, 3)) rfl) (by decide) rfl (if_pos rfl) (fun _ => ?_) (fun z => by cases z)
  exact hk sh _ _ _ _ I3 (Nat.le_add_right ck 37) (Nat.le_add_right cn 902)
set_option maxRecDepth 100000 in
set_option maxHeartbeats 4000000 in
/-- 26: first -/
theorem lc_26 (D : LawC p s m c args meth G b L y i) (I : Inv sh a M) (hck : ck + 37 ≤ 600000) (hcn : cn + 902 ≤ 7302250) (hk : Cont p l e s m args below meth c G Q b i ck cn) : KW p l e room_1 s m args below meth c G 4 Q sh [] ck cn M 33 (lvL G b i) [.int (nI 26)] := by
  obtain ⟨C, hX, hbl, hbA, hL, hi⟩ := D
  obtain ⟨iX, iM, iC, iR, iW, iK⟩ := id I
  obtain ⟨M2, e1, r1, f1⟩ := X7_first iC iW.1 (y (i + 1))
  obtain ⟨M3, e2, r2, f2, f3⟩ := X8_first (iR.frC f1) iW.1 (y (i + 1))
  have I3 := I.step r1 f1 r2 f2 f3 (W_first iW (y (i + 1)))
  refine k_swIn C (tgt := 1189) (off := 1156) (dkAt dkL_law_0 21 (q := (33, .tableswitch 2040 0 63 #[271, 314, 387, 450, 484, 507, 540, 573, 596, 639, 698, 731, 764, 787, 800, 813, 846, 879, 902, 925, 948, 961, 994, 1037, 1080, 1123, 1156, 1179, 1202, 1215, 1248, 1261, 1284, 1297, 1310, 1343, 1376, 1399, 1422, 1455, 1468, 1491, 1514, 1537, 1550, 1573, 1586, 1599, 1622, 1665, 1688, 1721, 1754, 1787, 1830, 1863, 1886, 1909, 1932, 1945, 1968, 1991, 2004, 2017], 271)) rfl) (by decide) (by decide) rfl (by decide) ?_
  refine k_aload_n C (pc2 := 1190) (dkAt dkL_law_7 37 (q := (1189, .aload_n 1, 1)) rfl) rfl rfl 2 rfl ?_
  refine k_arg C hX hbl hbA (j := 1) (w := y (i + 1)) rfl (by omega) hL rfl (dkAt dkL_law_7 38 (q := (1190, .aload_n 0, 1)) rfl) (dkAt dkL_law_7 39 (q := (1191, .iload_n 3, 1)) rfl) (dkAt dkL_law_7 40 (q := (1192, .iconst 1, 1)) rfl) (dkAt dkL_law_7 41 (q := (1193, .iadd, 1)) rfl) (dkAt dkL_law_7 42 (q := (1194, .iaload, 1)) rfl) (pc2 := 1195) rfl ?_
  refine k_callV C (As := [.int (y (i + 1))]) (rest := []) (o := 0) (mc := 0) (ms := 0) (ct_X7_first l G sh [] iX (y (i + 1)) M _ e1) (cl_L_127 (hts_of C) ⟨Nat.le_of_ble_eq_true rfl, Nat.le_of_ble_eq_true rfl⟩ rfl rfl) iX.1 rfl rfl rfl rfl rfl (Nat.le_of_ble_eq_true rfl) (dkAt dkL_law_7 43 (q := (1195, .invokevirtual 127, 3)) rfl) ⟨Nat.le_trans (Nat.le_add_right ck 37) hck, Nat.le_trans (Nat.le_add_right cn 902) hcn⟩ (pc2 := 1198) rfl ?_
  refine k_aload_n C (pc2 := 1199) (dkAt dkL_law_7 44 (q := (1198, .aload_n 2, 1)) rfl) rfl rfl 1 rfl ?_
  refine k_arg C hX hbl hbA (j := 1) (w := y (i + 1)) rfl (by omega) hL rfl (dkAt dkL_law_7 45 (q := (1199, .aload_n 0, 1)) rfl) (dkAt dkL_law_7 46 (q := (1200, .iload_n 3, 1)) rfl) (dkAt dkL_law_7 47 (q := (1201, .iconst 1, 1)) rfl) (dkAt dkL_law_7 48 (q := (1202, .iadd, 1)) rfl) (dkAt dkL_law_7 49 (q := (1203, .iaload, 1)) rfl) (pc2 := 1204) rfl ?_
  refine k_callV C (As := [.int (y (i + 1))]) (rest := [.int _]) (o := 69) (mc := 0) (ms := 0) (ct_X8_first l G sh [] 69 iM (y (i + 1)) M2 _ e2) (cl_L_130 (hts_of C) ⟨Nat.le_of_ble_eq_true rfl, Nat.le_of_ble_eq_true rfl⟩ rfl rfl) iM.1 rfl rfl rfl rfl rfl (Nat.le_of_ble_eq_true rfl) (dkAt dkL_law_7 50 (q := (1204, .invokevirtual 130, 3)) rfl) ⟨Nat.le_trans (Nat.le_add_right ck 37) hck, Nat.le_trans (Nat.le_add_right cn 902) hcn⟩ (pc2 := 1207) rfl ?_
  refine k_icmp_eq C (tgt := 2073) (pc2 := 1210) (A := some ()) (B := none) (r := ()) (dkAt dkL_law_7 51 (q := (1207, .if_icmp .eq 866, 3)) rfl) (by decide) rfl (if_pos rfl) (fun _ => ?_) (fun z => by cases z)
  exact hk sh _ _ _ _ I3 (Nat.le_add_right ck 37) (Nat.le_add_right cn 902)
set_option maxRecDepth 100000 in
set_option maxHeartbeats 4000000 in
/-- 27: two -/
theorem lc_27 (D : LawC p s m c args meth G b L y i) (I : Inv sh a M) (hck : ck + 37 ≤ 600000) (hcn : cn + 902 ≤ 7302250) (hk : Cont p l e s m args below meth c G Q b i ck cn) : KW p l e room_1 s m args below meth c G 4 Q sh [] ck cn M 33 (lvL G b i) [.int (nI 27)] := by
  obtain ⟨C, hX, hbl, hbA, hL, hi⟩ := D
  obtain ⟨iX, iM, iC, iR, iW, iK⟩ := id I
  obtain ⟨M2, e1, r1, f1⟩ := X7_two iC iW.1 (y (i + 1))
  obtain ⟨M3, e2, r2, f2, f3⟩ := X8_two (iR.frC f1) iW.1 (y (i + 1))
  have I3 := I.step r1 f1 r2 f2 f3 (W_meet iW 2 (y (i + 1)))
  refine k_swIn C (tgt := 1212) (off := 1179) (dkAt dkL_law_0 21 (q := (33, .tableswitch 2040 0 63 #[271, 314, 387, 450, 484, 507, 540, 573, 596, 639, 698, 731, 764, 787, 800, 813, 846, 879, 902, 925, 948, 961, 994, 1037, 1080, 1123, 1156, 1179, 1202, 1215, 1248, 1261, 1284, 1297, 1310, 1343, 1376, 1399, 1422, 1455, 1468, 1491, 1514, 1537, 1550, 1573, 1586, 1599, 1622, 1665, 1688, 1721, 1754, 1787, 1830, 1863, 1886, 1909, 1932, 1945, 1968, 1991, 2004, 2017], 271)) rfl) (by decide) (by decide) rfl (by decide) ?_
  refine k_aload_n C (pc2 := 1213) (dkAt dkL_law_7 54 (q := (1212, .aload_n 1, 1)) rfl) rfl rfl 2 rfl ?_
  refine k_arg C hX hbl hbA (j := 1) (w := y (i + 1)) rfl (by omega) hL rfl (dkAt dkL_law_7 55 (q := (1213, .aload_n 0, 1)) rfl) (dkAt dkL_law_7 56 (q := (1214, .iload_n 3, 1)) rfl) (dkAt dkL_law_7 57 (q := (1215, .iconst 1, 1)) rfl) (dkAt dkL_law_7 58 (q := (1216, .iadd, 1)) rfl) (dkAt dkL_law_7 59 (q := (1217, .iaload, 1)) rfl) (pc2 := 1218) rfl ?_
  refine k_callV C (As := [.int (y (i + 1))]) (rest := []) (o := 0) (mc := 0) (ms := 0) (ct_X7_two l G sh [] iX (y (i + 1)) M _ e1) (cl_L_131 (hts_of C) ⟨Nat.le_of_ble_eq_true rfl, Nat.le_of_ble_eq_true rfl⟩ rfl rfl) iX.1 rfl rfl rfl rfl rfl (Nat.le_of_ble_eq_true rfl) (dkAt dkL_law_7 60 (q := (1218, .invokevirtual 131, 3)) rfl) ⟨Nat.le_trans (Nat.le_add_right ck 37) hck, Nat.le_trans (Nat.le_add_right cn 902) hcn⟩ (pc2 := 1221) rfl ?_
  refine k_aload_n C (pc2 := 1222) (dkAt dkL_law_7 61 (q := (1221, .aload_n 2, 1)) rfl) rfl rfl 1 rfl ?_
  refine k_arg C hX hbl hbA (j := 1) (w := y (i + 1)) rfl (by omega) hL rfl (dkAt dkL_law_7 62 (q := (1222, .aload_n 0, 1)) rfl) (dkAt dkL_law_7 63 (q := (1223, .iload_n 3, 1)) rfl) (dkAt dkL_law_7 64 (q := (1224, .iconst 1, 1)) rfl) (dkAt dkL_law_7 65 (q := (1225, .iadd, 1)) rfl) (dkAt dkL_law_7 66 (q := (1226, .iaload, 1)) rfl) (pc2 := 1227) rfl ?_
  refine k_callV C (As := [.int (y (i + 1))]) (rest := [.int _]) (o := 69) (mc := 0) (ms := 0) (ct_X8_two l G sh [] 69 iM (y (i + 1)) M2 _ e2) (cl_L_134 (hts_of C) ⟨Nat.le_of_ble_eq_true rfl, Nat.le_of_ble_eq_true rfl⟩ rfl rfl) iM.1 rfl rfl rfl rfl rfl (Nat.le_of_ble_eq_true rfl) (dkAt dkL_law_7 67 (q := (1227, .invokevirtual 134, 3)) rfl) ⟨Nat.le_trans (Nat.le_add_right ck 37) hck, Nat.le_trans (Nat.le_add_right cn 902) hcn⟩ (pc2 := 1230) rfl ?_
  refine k_icmp_eq C (tgt := 2073) (pc2 := 1233) (A := some ()) (B := none) (r := ()) (dkAt dkL_law_7 68 (q := (1230, .if_icmp .eq 843, 3)) rfl) (by decide) rfl (if_pos rfl) (fun _ => ?_) (fun z => by cases z)
  exact hk sh _ _ _ _ I3 (Nat.le_add_right ck 37) (Nat.le_add_right cn 902)
set_option maxRecDepth 100000 in
set_option maxHeartbeats 4000000 in
/-- 28: fixed -/
theorem lc_28 (D : LawC p s m c args meth G b L y i) (I : Inv sh a M) (hck : ck + 37 ≤ 600000) (hcn : cn + 902 ≤ 7302250) (hk : Cont p l e s m args below meth c G Q b i ck cn) : KW p l e room_1 s m args below meth c G 4 Q sh [] ck cn M 33 (lvL G b i) [.int (nI 28)] := by
  obtain ⟨C, hX, hbl, hbA, hL, hi⟩ := D
  obtain ⟨iX, iM, iC, iR, iW, iK⟩ := id I
  have e1 := C_fixed iC.1 iW.1.1
  have e2 := M_fixed iR.1 iW.1.1
  refine k_swIn C (tgt := 1235) (off := 1202) (dkAt dkL_law_0 21 (q := (33, .tableswitch 2040 0 63 #[271, 314, 387, 450, 484, 507, 540, 573, 596, 639, 698, 731, 764, 787, 800, 813, 846, 879, 902, 925, 948, 961, 994, 1037, 1080, 1123, 1156, 1179, 1202, 1215, 1248, 1261, 1284, 1297, 1310, 1343, 1376, 1399, 1422, 1455, 1468, 1491, 1514, 1537, 1550, 1573, 1586, 1599, 1622, 1665, 1688, 1721, 1754, 1787, 1830, 1863, 1886, 1909, 1932, 1945, 1968, 1991, 2004, 2017], 271)) rfl) (by decide) (by decide) rfl (by decide) ?_
  refine k_aload_n C (pc2 := 1236) (dkAt dkL_law_7 71 (q := (1235, .aload_n 1, 1)) rfl) rfl rfl 2 rfl ?_
  refine k_callV C (As := []) (rest := []) (o := 0) (mc := 0) (ms := 0) (ct_X7_fixed l G sh [] iX  M _ e1) (cl_L_135 (hts_of C) ⟨Nat.le_of_ble_eq_true rfl, Nat.le_of_ble_eq_true rfl⟩ rfl rfl) iX.1 rfl rfl rfl rfl rfl (Nat.le_of_ble_eq_true rfl) (dkAt dkL_law_7 72 (q := (1236, .invokevirtual 135, 3)) rfl) ⟨Nat.le_trans (Nat.le_add_right ck 37) hck, Nat.le_trans (Nat.le_add_right cn 902) hcn⟩ (pc2 := 1239) rfl ?_
  refine k_aload_n C (pc2 := 1240) (dkAt dkL_law_7 73 (q := (1239, .aload_n 2, 1)) rfl) rfl rfl 1 rfl ?_
  refine k_callV C (As := []) (rest := [.int _]) (o := 69) (mc := 0) (ms := 0) (ct_X8_fixed l G sh [] 69 iM  M _ e2) (cl_L_138 (hts_of C) ⟨Nat.le_of_ble_eq_true rfl, Nat.le_of_ble_eq_true rfl⟩ rfl rfl) iM.1 rfl rfl rfl rfl rfl (Nat.le_of_ble_eq_true rfl) (dkAt dkL_law_7 74 (q := (1240, .invokevirtual 138, 3)) rfl) ⟨Nat.le_trans (Nat.le_add_right ck 37) hck, Nat.le_trans (Nat.le_add_right cn 902) hcn⟩ (pc2 := 1243) rfl ?_
  refine k_icmp_eq C (tgt := 2073) (pc2 := 1246) (A := some ()) (B := none) (r := ()) (dkAt dkL_law_7 75 (q := (1243, .if_icmp .eq 830, 3)) rfl) (by decide) rfl (if_pos rfl) (fun _ => ?_) (fun z => by cases z)
  exact hk sh _ _ _ _ I (Nat.le_add_right ck 37) (Nat.le_add_right cn 902)
set_option maxRecDepth 100000 in
set_option maxHeartbeats 4000000 in
/-- 29: fair -/
theorem lc_29 (D : LawC p s m c args meth G b L y i) (I : Inv sh a M) (hck : ck + 37 ≤ 600000) (hcn : cn + 902 ≤ 7302250) (hk : Cont p l e s m args below meth c G Q b i ck cn) : KW p l e room_1 s m args below meth c G 4 Q sh [] ck cn M 33 (lvL G b i) [.int (nI 29)] := by
  obtain ⟨C, hX, hbl, hbA, hL, hi⟩ := D
  obtain ⟨iX, iM, iC, iR, iW, iK⟩ := id I
  obtain ⟨M2, e1, r1, f1⟩ := X7_fair iC iW.1 (y (i + 1)) (y (i + 2))
  obtain ⟨M3, e2, r2, f2, f3⟩ := X8_fair (iR.frC f1) iW.1 (y (i + 1)) (y (i + 2))
  have I3 := I.step r1 f1 r2 f2 f3 (W_fair iW (y (i + 1)) (y (i + 2)))
  refine k_swIn C (tgt := 1248) (off := 1215) (dkAt dkL_law_0 21 (q := (33, .tableswitch 2040 0 63 #[271, 314, 387, 450, 484, 507, 540, 573, 596, 639, 698, 731, 764, 787, 800, 813, 846, 879, 902, 925, 948, 961, 994, 1037, 1080, 1123, 1156, 1179, 1202, 1215, 1248, 1261, 1284, 1297, 1310, 1343, 1376, 1399, 1422, 1455, 1468, 1491, 1514, 1537, 1550, 1573, 1586, 1599, 1622, 1665, 1688, 1721, 1754, 1787, 1830, 1863, 1886, 1909, 1932, 1945, 1968, 1991, 2004, 2017], 271)) rfl) (by decide) (by decide) rfl (by decide) ?_
  refine k_aload_n C (pc2 := 1249) (dkAt dkL_law_7 78 (q := (1248, .aload_n 1, 1)) rfl) rfl rfl 2 rfl ?_
  refine k_arg C hX hbl hbA (j := 1) (w := y (i + 1)) rfl (by omega) hL rfl (dkAt dkL_law_7 79 (q := (1249, .aload_n 0, 1)) rfl) (dkAt dkL_law_7 80 (q := (1250, .iload_n 3, 1)) rfl) (dkAt dkL_law_7 81 (q := (1251, .iconst 1, 1)) rfl) (dkAt dkL_law_7 82 (q := (1252, .iadd, 1)) rfl) (dkAt dkL_law_7 83 (q := (1253, .iaload, 1)) rfl) (pc2 := 1254) rfl ?_
  refine k_arg C hX hbl hbA (j := 2) (w := y (i + 2)) rfl (by omega) hL rfl (dkAt dkL_law_7 84 (q := (1254, .aload_n 0, 1)) rfl) (dkAt dkL_law_7 85 (q := (1255, .iload_n 3, 1)) rfl) (dkAt dkL_law_7 86 (q := (1256, .iconst 2, 1)) rfl) (dkAt dkL_law_7 87 (q := (1257, .iadd, 1)) rfl) (dkAt dkL_law_7 88 (q := (1258, .iaload, 1)) rfl) (pc2 := 1259) rfl ?_
  refine k_callV C (As := [.int (y (i + 1)), .int (y (i + 2))]) (rest := []) (o := 0) (mc := 0) (ms := 0) (ct_X7_fair l G sh [] iX (y (i + 1)) (y (i + 2)) M _ e1) (cl_L_139 (hts_of C) ⟨Nat.le_of_ble_eq_true rfl, Nat.le_of_ble_eq_true rfl⟩ rfl rfl) iX.1 rfl rfl rfl rfl rfl (Nat.le_of_ble_eq_true rfl) (dkAt dkL_law_7 89 (q := (1259, .invokevirtual 139, 3)) rfl) ⟨Nat.le_trans (Nat.le_add_right ck 37) hck, Nat.le_trans (Nat.le_add_right cn 902) hcn⟩ (pc2 := 1262) rfl ?_
  refine k_aload_n C (pc2 := 1263) (dkAt dkL_law_7 90 (q := (1262, .aload_n 2, 1)) rfl) rfl rfl 1 rfl ?_
  refine k_arg C hX hbl hbA (j := 1) (w := y (i + 1)) rfl (by omega) hL rfl (dkAt dkL_law_7 91 (q := (1263, .aload_n 0, 1)) rfl) (dkAt dkL_law_7 92 (q := (1264, .iload_n 3, 1)) rfl) (dkAt dkL_law_7 93 (q := (1265, .iconst 1, 1)) rfl) (dkAt dkL_law_7 94 (q := (1266, .iadd, 1)) rfl) (dkAt dkL_law_7 95 (q := (1267, .iaload, 1)) rfl) (pc2 := 1268) rfl ?_
  refine k_arg C hX hbl hbA (j := 2) (w := y (i + 2)) rfl (by omega) hL rfl (dkAt dkL_law_7 96 (q := (1268, .aload_n 0, 1)) rfl) (dkAt dkL_law_7 97 (q := (1269, .iload_n 3, 1)) rfl) (dkAt dkL_law_7 98 (q := (1270, .iconst 2, 1)) rfl) (dkAt dkL_law_7 99 (q := (1271, .iadd, 1)) rfl) (dkAt dkL_law_8 0 (q := (1272, .iaload, 1)) rfl) (pc2 := 1273) rfl ?_
  refine k_callV C (As := [.int (y (i + 1)), .int (y (i + 2))]) (rest := [.int _]) (o := 69) (mc := 0) (ms := 0) (ct_X8_fair l G sh [] 69 iM (y (i + 1)) (y (i + 2)) M2 _ e2) (cl_L_142 (hts_of C) ⟨Nat.le_of_ble_eq_true rfl, Nat.le_of_ble_eq_true rfl⟩ rfl rfl) iM.1 rfl rfl rfl rfl rfl (Nat.le_of_ble_eq_true rfl) (dkAt dkL_law_8 1 (q := (1273, .invokevirtual 142, 3)) rfl) ⟨Nat.le_trans (Nat.le_add_right ck 37) hck, Nat.le_trans (Nat.le_add_right cn 902) hcn⟩ (pc2 := 1276) rfl ?_
  refine k_icmp_eq C (tgt := 2073) (pc2 := 1279) (A := some ()) (B := none) (r := ()) (dkAt dkL_law_8 2 (q := (1276, .if_icmp .eq 797, 3)) rfl) (by decide) rfl (if_pos rfl) (fun _ => ?_) (fun z => by cases z)
  exact hk sh _ _ _ _ I3 (Nat.le_add_right ck 37) (Nat.le_add_right cn 902)
set_option maxRecDepth 100000 in
set_option maxHeartbeats 4000000 in
/-- 30: worst -/
theorem lc_30 (D : LawC p s m c args meth G b L y i) (I : Inv sh a M) (hck : ck + 37 ≤ 600000) (hcn : cn + 902 ≤ 7302250) (hk : Cont p l e s m args below meth c G Q b i ck cn) : KW p l e room_1 s m args below meth c G 4 Q sh [] ck cn M 33 (lvL G b i) [.int (nI 30)] := by
  obtain ⟨C, hX, hbl, hbA, hL, hi⟩ := D
  obtain ⟨iX, iM, iC, iR, iW, iK⟩ := id I
  obtain ⟨M2, e1, r1, f1⟩ := X7_worst iC iW.1 
  obtain ⟨M3, e2, r2, f2, f3⟩ := X8_worst (iR.frC f1) iW.1 
  have I3 := I.step r1 f1 r2 f2 f3 (W_worst iW )
  refine k_swIn C (tgt := 1281) (off := 1248) (dkAt dkL_law_0 21 (q := (33, .tableswitch 2040 0 63 #[271, 314, 387, 450, 484, 507, 540, 573, 596, 639, 698, 731, 764, 787, 800, 813, 846, 879, 902, 925, 948, 961, 994, 1037, 1080, 1123, 1156, 1179, 1202, 1215, 1248, 1261, 1284, 1297, 1310, 1343, 1376, 1399, 1422, 1455, 1468, 1491, 1514, 1537, 1550, 1573, 1586, 1599, 1622, 1665, 1688, 1721, 1754, 1787, 1830, 1863, 1886, 1909, 1932, 1945, 1968, 1991, 2004, 2017], 271)) rfl) (by decide) (by decide) rfl (by decide) ?_
  refine k_aload_n C (pc2 := 1282) (dkAt dkL_law_8 5 (q := (1281, .aload_n 1, 1)) rfl) rfl rfl 2 rfl ?_
  refine k_callV C (As := []) (rest := []) (o := 0) (mc := 0) (ms := 0) (ct_X7_worst l G sh [] iX  M _ e1) (cl_L_143 (hts_of C) ⟨Nat.le_of_ble_eq_true rfl, Nat.le_of_ble_eq_true rfl⟩ rfl rfl) iX.1 rfl rfl rfl rfl rfl (Nat.le_of_ble_eq_true rfl) (dkAt dkL_law_8 6 (q := (1282, .invokevirtual 143, 3)) rfl) ⟨Nat.le_trans (Nat.le_add_right ck 37) hck, Nat.le_trans (Nat.le_add_right cn 902) hcn⟩ (pc2 := 1285) rfl ?_
  refine k_aload_n C (pc2 := 1286) (dkAt dkL_law_8 7 (q := (1285, .aload_n 2, 1)) rfl) rfl rfl 1 rfl ?_
  refine k_callV C (As := []) (rest := [.int _]) (o := 69) (mc := 0) (ms := 0) (ct_X8_worst l G sh [] 69 iM  M2 _ e2) (cl_L_146 (hts_of C) ⟨Nat.le_of_ble_eq_true rfl, Nat.le_of_ble_eq_true rfl⟩ rfl rfl) iM.1 rfl rfl rfl rfl rfl (Nat.le_of_ble_eq_true rfl) (dkAt dkL_law_8 8 (q := (1286, .invokevirtual 146, 3)) rfl) ⟨Nat.le_trans (Nat.le_add_right ck 37) hck, Nat.le_trans (Nat.le_add_right cn 902) hcn⟩ (pc2 := 1289) rfl ?_
  refine k_icmp_eq C (tgt := 2073) (pc2 := 1292) (A := some ()) (B := none) (r := ()) (dkAt dkL_law_8 9 (q := (1289, .if_icmp .eq 784, 3)) rfl) (by decide) rfl (if_pos rfl) (fun _ => ?_) (fun z => by cases z)
  exact hk sh _ _ _ _ I3 (Nat.le_add_right ck 37) (Nat.le_add_right cn 902)
set_option maxRecDepth 100000 in
set_option maxHeartbeats 4000000 in
/-- 31: drop -/
theorem lc_31 (D : LawC p s m c args meth G b L y i) (I : Inv sh a M) (hck : ck + 37 ≤ 600000) (hcn : cn + 902 ≤ 7302250) (hk : Cont p l e s m args below meth c G Q b i ck cn) : KW p l e room_1 s m args below meth c G 4 Q sh [] ck cn M 33 (lvL G b i) [.int (nI 31)] := by
  obtain ⟨C, hX, hbl, hbA, hL, hi⟩ := D
  obtain ⟨iX, iM, iC, iR, iW, iK⟩ := id I
  obtain ⟨M2, e1, r1, f1⟩ := X7_drop iC iW.1 (y (i + 1))
  obtain ⟨M3, e2, r2, f2, f3⟩ := X8_drop (iR.frC f1) iW.1 (y (i + 1))
  have I3 := I.step r1 f1 r2 f2 f3 (W_drop iW (y (i + 1)))
  refine k_swIn C (tgt := 1294) (off := 1261) (dkAt dkL_law_0 21 (q := (33, .tableswitch 2040 0 63 #[271, 314, 387, 450, 484, 507, 540, 573, 596, 639, 698, 731, 764, 787, 800, 813, 846, 879, 902, 925, 948, 961, 994, 1037, 1080, 1123, 1156, 1179, 1202, 1215, 1248, 1261, 1284, 1297, 1310, 1343, 1376, 1399, 1422, 1455, 1468, 1491, 1514, 1537, 1550, 1573, 1586, 1599, 1622, 1665, 1688, 1721, 1754, 1787, 1830, 1863, 1886, 1909, 1932, 1945, 1968, 1991, 2004, 2017], 271)) rfl) (by decide) (by decide) rfl (by decide) ?_
  refine k_aload_n C (pc2 := 1295) (dkAt dkL_law_8 12 (q := (1294, .aload_n 1, 1)) rfl) rfl rfl 2 rfl ?_
  refine k_arg C hX hbl hbA (j := 1) (w := y (i + 1)) rfl (by omega) hL rfl (dkAt dkL_law_8 13 (q := (1295, .aload_n 0, 1)) rfl) (dkAt dkL_law_8 14 (q := (1296, .iload_n 3, 1)) rfl) (dkAt dkL_law_8 15 (q := (1297, .iconst 1, 1)) rfl) (dkAt dkL_law_8 16 (q := (1298, .iadd, 1)) rfl) (dkAt dkL_law_8 17 (q := (1299, .iaload, 1)) rfl) (pc2 := 1300) rfl ?_
  refine k_callV C (As := [.int (y (i + 1))]) (rest := []) (o := 0) (mc := 0) (ms := 0) (ct_X7_drop l G sh [] iX (y (i + 1)) M _ e1) (cl_L_147 (hts_of C) ⟨Nat.le_of_ble_eq_true rfl, Nat.le_of_ble_eq_true rfl⟩ rfl rfl) iX.1 rfl rfl rfl rfl rfl (Nat.le_of_ble_eq_true rfl) (dkAt dkL_law_8 18 (q := (1300, .invokevirtual 147, 3)) rfl) ⟨Nat.le_trans (Nat.le_add_right ck 37) hck, Nat.le_trans (Nat.le_add_right cn 902) hcn⟩ (pc2 := 1303) rfl ?_
  refine k_aload_n C (pc2 := 1304) (dkAt dkL_law_8 19 (q := (1303, .aload_n 2, 1)) rfl) rfl rfl 1 rfl ?_
  refine k_arg C hX hbl hbA (j := 1) (w := y (i + 1)) rfl (by omega) hL rfl (dkAt dkL_law_8 20 (q := (1304, .aload_n 0, 1)) rfl) (dkAt dkL_law_8 21 (q := (1305, .iload_n 3, 1)) rfl) (dkAt dkL_law_8 22 (q := (1306, .iconst 1, 1)) rfl) (dkAt dkL_law_8 23 (q := (1307, .iadd, 1)) rfl) (dkAt dkL_law_8 24 (q := (1308, .iaload, 1)) rfl) (pc2 := 1309) rfl ?_
  refine k_callV C (As := [.int (y (i + 1))]) (rest := [.int _]) (o := 69) (mc := 0) (ms := 0) (ct_X8_drop l G sh [] 69 iM (y (i + 1)) M2 _ e2) (cl_L_150 (hts_of C) ⟨Nat.le_of_ble_eq_true rfl, Nat.le_of_ble_eq_true rfl⟩ rfl rfl) iM.1 rfl rfl rfl rfl rfl (Nat.le_of_ble_eq_true rfl) (dkAt dkL_law_8 25 (q := (1309, .invokevirtual 150, 3)) rfl) ⟨Nat.le_trans (Nat.le_add_right ck 37) hck, Nat.le_trans (Nat.le_add_right cn 902) hcn⟩ (pc2 := 1312) rfl ?_
  refine k_icmp_eq C (tgt := 2073) (pc2 := 1315) (A := some ()) (B := none) (r := ()) (dkAt dkL_law_8 26 (q := (1312, .if_icmp .eq 761, 3)) rfl) (by decide) rfl (if_pos rfl) (fun _ => ?_) (fun z => by cases z)
  exact hk sh _ _ _ _ I3 (Nat.le_add_right ck 37) (Nat.le_add_right cn 902)
end LAWS
