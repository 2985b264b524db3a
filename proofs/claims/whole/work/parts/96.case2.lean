/-! the law's cases -/
section LAWS
variable {p : Program} {l : Launch} {e : Env} {s : State} {m : MethodId} {args : Array Value} {below : List Frame} {meth : Method} {c : Code} {G : GG} {Q : State → Prop} {sh : List (Nat × Nat)} {ck cn : Nat} {M : Mm} {b L i : Nat} {y : Nat → Int32} {a : AB}
set_option maxRecDepth 100000 in
set_option maxHeartbeats 4000000 in
/-- 32: pairs -/
theorem lc_32 (D : LawC p s m c args meth G b L y i) (I : Inv sh a M) (hck : ck + 37 ≤ 600000) (hcn : cn + 902 ≤ 7302250) (hk : Cont p l e s m args below meth c G Q b i ck cn) : KW p l e room_1 s m args below meth c G 4 Q sh [] ck cn M 33 (lvL G b i) [.int (nI 32)] := by
  obtain ⟨C, hX, hbl, hbA, hL, hi⟩ := D
  obtain ⟨iX, iM, iC, iR, iW, iK⟩ := id I
  have e1 := C_pairs iC.1 iW.1.1
  have e2 := M_pairs iR.1 iW.1.1
  refine k_swIn C (tgt := 1317) (off := 1284) (dkAt dkL_law_0 21 (q := (33, .tableswitch 2040 0 63 #[271, 314, 387, 450, 484, 507, 540, 573, 596, 639, 698, 731, 764, 787, 800, 813, 846, 879, 902, 925, 948, 961, 994, 1037, 1080, 1123, 1156, 1179, 1202, 1215, 1248, 1261, 1284, 1297, 1310, 1343, 1376, 1399, 1422, 1455, 1468, 1491, 1514, 1537, 1550, 1573, 1586, 1599, 1622, 1665, 1688, 1721, 1754, 1787, 1830, 1863, 1886, 1909, 1932, 1945, 1968, 1991, 2004, 2017], 271)) rfl) (by decide) (by decide) rfl (by decide) ?_
  refine k_aload_n C (pc2 := 1318) (dkAt dkL_law_8 29 (q := (1317, .aload_n 1, 1)) rfl) rfl rfl 2 rfl ?_
  refine k_callV C (As := []) (rest := []) (o := 0) (mc := 0) (ms := 0) (ct_X7_pairs l G sh [] iX  M _ e1) (cl_L_151 (hts_of C) ⟨Nat.le_of_ble_eq_true rfl, Nat.le_of_ble_eq_true rfl⟩ rfl rfl) iX.1 rfl rfl rfl rfl rfl (Nat.le_of_ble_eq_true rfl) (dkAt dkL_law_8 30 (q := (1318, .invokevirtual 151, 3)) rfl) ⟨Nat.le_trans (Nat.le_add_right ck 37) hck, Nat.le_trans (Nat.le_add_right cn 902) hcn⟩ (pc2 := 1321) rfl ?_
  refine k_aload_n C (pc2 := 1322) (dkAt dkL_law_8 31 (q := (1321, .aload_n 2, 1)) rfl) rfl rfl 1 rfl ?_
  refine k_callV C (As := []) (rest := [.int _]) (o := 69) (mc := 0) (ms := 0) (ct_X8_pairs l G sh [] 69 iM  M _ e2) (cl_L_154 (hts_of C) ⟨Nat.le_of_ble_eq_true rfl, Nat.le_of_ble_eq_true rfl⟩ rfl rfl) iM.1 rfl rfl rfl rfl rfl (Nat.le_of_ble_eq_true rfl) (dkAt dkL_law_8 32 (q := (1322, .invokevirtual 154, 3)) rfl) ⟨Nat.le_trans (Nat.le_add_right ck 37) hck, Nat.le_trans (Nat.le_add_right cn 902) hcn⟩ (pc2 := 1325) rfl ?_
  refine k_icmp_eq C (tgt := 2073) (pc2 := 1328) (A := some ()) (B := none) (r := ()) (dkAt dkL_law_8 33 (q := (1325, .if_icmp .eq 748, 3)) rfl) (by decide) rfl (if_pos rfl) (fun _ => ?_) (fun z => by cases z)
  exact hk sh _ _ _ _ I (Nat.le_add_right ck 37) (Nat.le_add_right cn 902)
set_option maxRecDepth 100000 in
set_option maxHeartbeats 4000000 in
/-- 33: quiet -/
theorem lc_33 (D : LawC p s m c args meth G b L y i) (I : Inv sh a M) (hck : ck + 37 ≤ 600000) (hcn : cn + 902 ≤ 7302250) (hk : Cont p l e s m args below meth c G Q b i ck cn) : KW p l e room_1 s m args below meth c G 4 Q sh [] ck cn M 33 (lvL G b i) [.int (nI 33)] := by
  obtain ⟨C, hX, hbl, hbA, hL, hi⟩ := D
  obtain ⟨iX, iM, iC, iR, iW, iK⟩ := id I
  obtain ⟨M2, e1, r1, f1⟩ := X7_quiet iC iW.1 
  obtain ⟨M3, e2, r2, f2, f3⟩ := X8_quiet (iR.frC f1) iW.1 
  have I3 := I.step r1 f1 r2 f2 f3 (W_quiet iW )
  refine k_swIn C (tgt := 1330) (off := 1297) (dkAt dkL_law_0 21 (q := (33, .tableswitch 2040 0 63 #[271, 314, 387, 450, 484, 507, 540, 573, 596, 639, 698, 731, 764, 787, 800, 813, 846, 879, 902, 925, 948, 961, 994, 1037, 1080, 1123, 1156, 1179, 1202, 1215, 1248, 1261, 1284, 1297, 1310, 1343, 1376, 1399, 1422, 1455, 1468, 1491, 1514, 1537, 1550, 1573, 1586, 1599, 1622, 1665, 1688, 1721, 1754, 1787, 1830, 1863, 1886, 1909, 1932, 1945, 1968, 1991, 2004, 2017], 271)) rfl) (by decide) (by decide) rfl (by decide) ?_
  refine k_aload_n C (pc2 := 1331) (dkAt dkL_law_8 36 (q := (1330, .aload_n 1, 1)) rfl) rfl rfl 2 rfl ?_
  refine k_callV C (As := []) (rest := []) (o := 0) (mc := 0) (ms := 0) (ct_X7_quiet l G sh [] iX  M _ e1) (cl_L_155 (hts_of C) ⟨Nat.le_of_ble_eq_true rfl, Nat.le_of_ble_eq_true rfl⟩ rfl rfl) iX.1 rfl rfl rfl rfl rfl (Nat.le_of_ble_eq_true rfl) (dkAt dkL_law_8 37 (q := (1331, .invokevirtual 155, 3)) rfl) ⟨Nat.le_trans (Nat.le_add_right ck 37) hck, Nat.le_trans (Nat.le_add_right cn 902) hcn⟩ (pc2 := 1334) rfl ?_
  refine k_aload_n C (pc2 := 1335) (dkAt dkL_law_8 38 (q := (1334, .aload_n 2, 1)) rfl) rfl rfl 1 rfl ?_
  refine k_callV C (As := []) (rest := [.int _]) (o := 69) (mc := 0) (ms := 0) (ct_X8_quiet l G sh [] 69 iM  M2 _ e2) (cl_L_158 (hts_of C) ⟨Nat.le_of_ble_eq_true rfl, Nat.le_of_ble_eq_true rfl⟩ rfl rfl) iM.1 rfl rfl rfl rfl rfl (Nat.le_of_ble_eq_true rfl) (dkAt dkL_law_8 39 (q := (1335, .invokevirtual 158, 3)) rfl) ⟨Nat.le_trans (Nat.le_add_right ck 37) hck, Nat.le_trans (Nat.le_add_right cn 902) hcn⟩ (pc2 := 1338) rfl ?_
  refine k_icmp_eq C (tgt := 2073) (pc2 := 1341) (A := some ()) (B := none) (r := ()) (dkAt dkL_law_8 40 (q := (1338, .if_icmp .eq 735, 3)) rfl) (by decide) rfl (if_pos rfl) (fun _ => ?_) (fun z => by cases z)
  exact hk sh _ _ _ _ I3 (Nat.le_add_right ck 37) (Nat.le_add_right cn 902)
set_option maxRecDepth 100000 in
set_option maxHeartbeats 4000000 in
/-- 34: agree -/
theorem lc_34 (D : LawC p s m c args meth G b L y i) (I : Inv sh a M) (hck : ck + 37 ≤ 600000) (hcn : cn + 902 ≤ 7302250) (hk : Cont p l e s m args below meth c G Q b i ck cn) : KW p l e room_1 s m args below meth c G 4 Q sh [] ck cn M 33 (lvL G b i) [.int (nI 34)] := by
  obtain ⟨C, hX, hbl, hbA, hL, hi⟩ := D
  obtain ⟨iX, iM, iC, iR, iW, iK⟩ := id I
  obtain ⟨M2, e1, r1, f1⟩ := X7_agree iC iW.1 (y (i + 1)) (y (i + 2))
  obtain ⟨M3, e2, r2, f2, f3⟩ := X8_agree (iR.frC f1) iW.1 (y (i + 1)) (y (i + 2))
  have I3 := I.step r1 f1 r2 f2 f3 (W_agree iW (y (i + 1)) (y (i + 2)))
  refine k_swIn C (tgt := 1343) (off := 1310) (dkAt dkL_law_0 21 (q := (33, .tableswitch 2040 0 63 #[271, 314, 387, 450, 484, 507, 540, 573, 596, 639, 698, 731, 764, 787, 800, 813, 846, 879, 902, 925, 948, 961, 994, 1037, 1080, 1123, 1156, 1179, 1202, 1215, 1248, 1261, 1284, 1297, 1310, 1343, 1376, 1399, 1422, 1455, 1468, 1491, 1514, 1537, 1550, 1573, 1586, 1599, 1622, 1665, 1688, 1721, 1754, 1787, 1830, 1863, 1886, 1909, 1932, 1945, 1968, 1991, 2004, 2017], 271)) rfl) (by decide) (by decide) rfl (by decide) ?_
  refine k_aload_n C (pc2 := 1344) (dkAt dkL_law_8 43 (q := (1343, .aload_n 1, 1)) rfl) rfl rfl 2 rfl ?_
  refine k_arg C hX hbl hbA (j := 1) (w := y (i + 1)) rfl (by omega) hL rfl (dkAt dkL_law_8 44 (q := (1344, .aload_n 0, 1)) rfl) (dkAt dkL_law_8 45 (q := (1345, .iload_n 3, 1)) rfl) (dkAt dkL_law_8 46 (q := (1346, .iconst 1, 1)) rfl) (dkAt dkL_law_8 47 (q := (1347, .iadd, 1)) rfl) (dkAt dkL_law_8 48 (q := (1348, .iaload, 1)) rfl) (pc2 := 1349) rfl ?_
  refine k_arg C hX hbl hbA (j := 2) (w := y (i + 2)) rfl (by omega) hL rfl (dkAt dkL_law_8 49 (q := (1349, .aload_n 0, 1)) rfl) (dkAt dkL_law_8 50 (q := (1350, .iload_n 3, 1)) rfl) (dkAt dkL_law_8 51 (q := (1351, .iconst 2, 1)) rfl) (dkAt dkL_law_8 52 (q := (1352, .iadd, 1)) rfl) (dkAt dkL_law_8 53 (q := (1353, .iaload, 1)) rfl) (pc2 := 1354) rfl ?_
  refine k_callV C (As := [.int (y (i + 1)), .int (y (i + 2))]) (rest := []) (o := 0) (mc := 0) (ms := 0) (ct_X7_agree l G sh [] iX (y (i + 1)) (y (i + 2)) M _ e1) (cl_L_159 (hts_of C) ⟨Nat.le_of_ble_eq_true rfl, Nat.le_of_ble_eq_true rfl⟩ rfl rfl) iX.1 rfl rfl rfl rfl rfl (Nat.le_of_ble_eq_true rfl) (dkAt dkL_law_8 54 (q := (1354, .invokevirtual 159, 3)) rfl) ⟨Nat.le_trans (Nat.le_add_right ck 37) hck, Nat.le_trans (Nat.le_add_right cn 902) hcn⟩ (pc2 := 1357) rfl ?_
  refine k_aload_n C (pc2 := 1358) (dkAt dkL_law_8 55 (q := (1357, .aload_n 2, 1)) rfl) rfl rfl 1 rfl ?_
  refine k_arg C hX hbl hbA (j := 1) (w := y (i + 1)) rfl (by omega) hL rfl (dkAt dkL_law_8 56 (q := (1358, .aload_n 0, 1)) rfl) (dkAt dkL_law_8 57 (q := (1359, .iload_n 3, 1)) rfl) (dkAt dkL_law_8 58 (q := (1360, .iconst 1, 1)) rfl) (dkAt dkL_law_8 59 (q := (1361, .iadd, 1)) rfl) (dkAt dkL_law_8 60 (q := (1362, .iaload, 1)) rfl) (pc2 := 1363) rfl ?_
  refine k_arg C hX hbl hbA (j := 2) (w := y (i + 2)) rfl (by omega) hL rfl (dkAt dkL_law_8 61 (q := (1363, .aload_n 0, 1)) rfl) (dkAt dkL_law_8 62 (q := (1364, .iload_n 3, 1)) rfl) (dkAt dkL_law_8 63 (q := (1365, .iconst 2, 1)) rfl) (dkAt dkL_law_8 64 (q := (1366, .iadd, 1)) rfl) (dkAt dkL_law_8 65 (q := (1367, .iaload, 1)) rfl) (pc2 := 1368) rfl ?_
  refine k_callV C (As := [.int (y (i + 1)), .int (y (i + 2))]) (rest := [.int _]) (o := 69) (mc := 0) (ms := 0) (ct_X8_agree l G sh [] 69 iM (y (i + 1)) (y (i + 2)) M2 _ e2) (cl_L_162 (hts_of C) ⟨Nat.le_of_ble_eq_true rfl, Nat.le_of_ble_eq_true rfl⟩ rfl rfl) iM.1 rfl rfl rfl rfl rfl (Nat.le_of_ble_eq_true rfl) (dkAt dkL_law_8 66 (q := (1368, .invokevirtual 162, 3)) rfl) ⟨Nat.le_trans (Nat.le_add_right ck 37) hck, Nat.le_trans (Nat.le_add_right cn 902) hcn⟩ (pc2 := 1371) rfl ?_
  refine k_icmp_eq C (tgt := 2073) (pc2 := 1374) (A := some ()) (B := none) (r := ()) (dkAt dkL_law_8 67 (q := (1371, .if_icmp .eq 702, 3)) rfl) (by decide) rfl (if_pos rfl) (fun _ => ?_) (fun z => by cases z)
  exact hk sh _ _ _ _ I3 (Nat.le_add_right ck 37) (Nat.le_add_right cn 902)
set_option maxRecDepth 100000 in
set_option maxHeartbeats 4000000 in
/-- 35: votes -/
theorem lc_35 (D : LawC p s m c args meth G b L y i) (I : Inv sh a M) (hck : ck + 37 ≤ 600000) (hcn : cn + 902 ≤ 7302250) (hk : Cont p l e s m args below meth c G Q b i ck cn) : KW p l e room_1 s m args below meth c G 4 Q sh [] ck cn M 33 (lvL G b i) [.int (nI 35)] := by
  obtain ⟨C, hX, hbl, hbA, hL, hi⟩ := D
  obtain ⟨iX, iM, iC, iR, iW, iK⟩ := id I
  obtain ⟨M2, e1, r1, f1⟩ := X7_votes iC iW.1 (y (i + 1)) (y (i + 2))
  obtain ⟨M3, e2, r2, f2, f3⟩ := X8_votes (iR.frC f1) iW.1 (y (i + 1)) (y (i + 2))
  have I3 := I.step r1 f1 r2 f2 f3 (W_votes iW (y (i + 1)) (y (i + 2)))
  refine k_swIn C (tgt := 1376) (off := 1343) (dkAt dkL_law_0 21 (q := (33, .tableswitch 2040 0 63 #[271, 314, 387, 450, 484, 507, 540, 573, 596, 639, 698, 731, 764, 787, 800, 813, 846, 879, 902, 925, 948, 961, 994, 1037, 1080, 1123, 1156, 1179, 1202, 1215, 1248, 1261, 1284, 1297, 1310, 1343, 1376, 1399, 1422, 1455, 1468, 1491, 1514, 1537, 1550, 1573, 1586, 1599, 1622, 1665, 1688, 1721, 1754, 1787, 1830, 1863, 1886, 1909, 1932, 1945, 1968, 1991, 2004, 2017], 271)) rfl) (by decide) (by decide) rfl (by decide) ?_
  refine k_aload_n C (pc2 := 1377) (dkAt dkL_law_8 70 (q := (1376, .aload_n 1, 1)) rfl) rfl rfl 2 rfl ?_
  refine k_arg C hX hbl hbA (j := 1) (w := y (i + 1)) rfl (by omega) hL rfl (dkAt dkL_law_8 71 (q := (1377, .aload_n 0, 1)) rfl) (dkAt dkL_law_8 72 (q := (1378, .iload_n 3, 1)) rfl) (dkAt dkL_law_8 73 (q := (1379, .iconst 1, 1)) rfl) (dkAt dkL_law_8 74 (q := (1380, .iadd, 1)) rfl) (dkAt dkL_law_8 75 (q := (1381, .iaload, 1)) rfl) (pc2 := 1382) rfl ?_
  refine k_arg C hX hbl hbA (j := 2) (w := y (i + 2)) rfl (by omega) hL rfl (dkAt dkL_law_8 76 (q := (1382, .aload_n 0, 1)) rfl) (dkAt dkL_law_8 77 (q := (1383, .iload_n 3, 1)) rfl) (dkAt dkL_law_8 78 (q := (1384, .iconst 2, 1)) rfl) (dkAt dkL_law_8 79 (q := (1385, .iadd, 1)) rfl) (dkAt dkL_law_8 80 (q := (1386, .iaload, 1)) rfl) (pc2 := 1387) rfl ?_
  refine k_callV C (As := [.int (y (i + 1)), .int (y (i + 2))]) (rest := []) (o := 0) (mc := 0) (ms := 0) (ct_X7_votes l G sh [] iX (y (i + 1)) (y (i + 2)) M _ e1) (cl_L_163 (hts_of C) ⟨Nat.le_of_ble_eq_true rfl, Nat.le_of_ble_eq_true rfl⟩ rfl rfl) iX.1 rfl rfl rfl rfl rfl (Nat.le_of_ble_eq_true rfl) (dkAt dkL_law_8 81 (q := (1387, .invokevirtual 163, 3)) rfl) ⟨Nat.le_trans (Nat.le_add_right ck 37) hck, Nat.le_trans (Nat.le_add_right cn 902) hcn⟩ (pc2 := 1390) rfl ?_
  refine k_aload_n C (pc2 := 1391) (dkAt dkL_law_8 82 (q := (1390, .aload_n 2, 1)) rfl) rfl rfl 1 rfl ?_
  refine k_arg C hX hbl hbA (j := 1) (w := y (i + 1)) rfl (by omega) hL rfl (dkAt dkL_law_8 83 (q := (1391, .aload_n 0, 1)) rfl) (dkAt dkL_law_8 84 (q := (1392, .iload_n 3, 1)) rfl) (dkAt dkL_law_8 85 (q := (1393, .iconst 1, 1)) rfl) (dkAt dkL_law_8 86 (q := (1394, .iadd, 1)) rfl) (dkAt dkL_law_8 87 (q := (1395, .iaload, 1)) rfl) (pc2 := 1396) rfl ?_
  refine k_arg C hX hbl hbA (j := 2) (w := y (i + 2)) rfl (by omega) hL rfl (dkAt dkL_law_8 88 (q := (1396, .aload_n 0, 1)) rfl) (dkAt dkL_law_8 89 (q := (1397, .iload_n 3, 1)) rfl) (dkAt dkL_law_8 90 (q := (1398, .iconst 2, 1)) rfl) (dkAt dkL_law_8 91 (q := (1399, .iadd, 1)) rfl) (dkAt dkL_law_8 92 (q := (1400, .iaload, 1)) rfl) (pc2 := 1401) rfl ?_
  refine k_callV C (As := [.int (y (i + 1)), .int (y (i + 2))]) (rest := [.int _]) (o := 69) (mc := 0) (ms := 0) (ct_X8_votes l G sh [] 69 iM (y (i + 1)) (y (i + 2)) M2 _ e2) (cl_L_166 (hts_of C) ⟨Nat.le_of_ble_eq_true rfl, Nat.le_of_ble_eq_true rfl⟩ rfl rfl) iM.1 rfl rfl rfl rfl rfl (Nat.le_of_ble_eq_true rfl) (dkAt dkL_law_8 93 (q := (1401, .invokevirtual 166, 3)) rfl) ⟨Nat.le_trans (Nat.le_add_right ck 37) hck, Nat.le_trans (Nat.le_add_right cn 902) hcn⟩ (pc2 := 1404) rfl ?_
  refine k_icmp_eq C (tgt := 2073) (pc2 := 1407) (A := some ()) (B := none) (r := ()) (dkAt dkL_law_8 94 (q := (1404, .if_icmp .eq 669, 3)) rfl) (by decide) rfl (if_pos rfl) (fun _ => ?_) (fun z => by cases z)
  exact hk sh _ _ _ _ I3 (Nat.le_add_right ck 37) (Nat.le_add_right cn 902)
set_option maxRecDepth 100000 in
set_option maxHeartbeats 4000000 in
/-- 36: order -/
theorem lc_36 (D : LawC p s m c args meth G b L y i) (I : Inv sh a M) (hck : ck + 37 ≤ 600000) (hcn : cn + 902 ≤ 7302250) (hk : Cont p l e s m args below meth c G Q b i ck cn) : KW p l e room_1 s m args below meth c G 4 Q sh [] ck cn M 33 (lvL G b i) [.int (nI 36)] := by
  obtain ⟨C, hX, hbl, hbA, hL, hi⟩ := D
  obtain ⟨iX, iM, iC, iR, iW, iK⟩ := id I
  obtain ⟨M2, e1, r1, f1⟩ := X7_order iC iW.1 (y (i + 1))
  obtain ⟨M3, e2, r2, f2, f3⟩ := X8_order (iR.frC f1) iW.1 (y (i + 1))
  have I3 := I.step r1 f1 r2 f2 f3 (W_order iW (y (i + 1)))
  refine k_swIn C (tgt := 1409) (off := 1376) (dkAt dkL_law_0 21 (q := (33, .tableswitch 2040 0 63 #[271, 314, 387, 450, 484, 507, 540, 573, 596, 639, 698, 731, 764, 787, 800, 813, 846, 879, 902, 925, 948, 961, 994, 1037, 1080, 1123, 1156, 1179, 1202, 1215, 1248, 1261, 1284, 1297, 1310, 1343, 1376, 1399, 1422, 1455, 1468, 1491, 1514, 1537, 1550, 1573, 1586, 1599, 1622, 1665, 1688, 1721, 1754, 1787, 1830, 1863, 1886, 1909, 1932, 1945, 1968, 1991, 2004, 2017], 271)) rfl) (by decide) (by decide) rfl (by decide) ?_
  refine k_aload_n C (pc2 := 1410) (dkAt dkL_law_8 97 (q := (1409, .aload_n 1, 1)) rfl) rfl rfl 2 rfl ?_
  refine k_arg C hX hbl hbA (j := 1) (w := y (i + 1)) rfl (by omega) hL rfl (dkAt dkL_law_8 98 (q := (1410, .aload_n 0, 1)) rfl) (dkAt dkL_law_8 99 (q := (1411, .iload_n 3, 1)) rfl) (dkAt dkL_law_9 0 (q := (1412, .iconst 1, 1)) rfl) (dkAt dkL_law_9 1 (q := (1413, .iadd, 1)) rfl) (dkAt dkL_law_9 2 (q := (1414, .iaload, 1)) rfl) (pc2 := 1415) rfl ?_
  refine k_callV C (As := [.int (y (i + 1))]) (rest := []) (o := 0) (mc := 0) (ms := 0) (ct_X7_order l G sh [] iX (y (i + 1)) M _ e1) (cl_L_167 (hts_of C) ⟨Nat.le_of_ble_eq_true rfl, Nat.le_of_ble_eq_true rfl⟩ rfl rfl) iX.1 rfl rfl rfl rfl rfl (Nat.le_of_ble_eq_true rfl) (dkAt dkL_law_9 3 (q := (1415, .invokevirtual 167, 3)) rfl) ⟨Nat.le_trans (Nat.le_add_right ck 37) hck, Nat.le_trans (Nat.le_add_right cn 902) hcn⟩ (pc2 := 1418) rfl ?_
  refine k_aload_n C (pc2 := 1419) (dkAt dkL_law_9 4 (q := (1418, .aload_n 2, 1)) rfl) rfl rfl 1 rfl ?_
  refine k_arg C hX hbl hbA (j := 1) (w := y (i + 1)) rfl (by omega) hL rfl (dkAt dkL_law_9 5 (q := (1419, .aload_n 0, 1)) rfl) (dkAt dkL_law_9 6 (q := (1420, .iload_n 3, 1)) rfl) (dkAt dkL_law_9 7 (q := (1421, .iconst 1, 1)) rfl) (dkAt dkL_law_9 8 (q := (1422, .iadd, 1)) rfl) (dkAt dkL_law_9 9 (q := (1423, .iaload, 1)) rfl) (pc2 := 1424) rfl ?_
  refine k_callV C (As := [.int (y (i + 1))]) (rest := [.int _]) (o := 69) (mc := 0) (ms := 0) (ct_X8_order l G sh [] 69 iM (y (i + 1)) M2 _ e2) (cl_L_170 (hts_of C) ⟨Nat.le_of_ble_eq_true rfl, Nat.le_of_ble_eq_true rfl⟩ rfl rfl) iM.1 rfl rfl rfl rfl rfl (Nat.le_of_ble_eq_true rfl) (dkAt dkL_law_9 10 (q := (1424, .invokevirtual 170, 3)) rfl) ⟨Nat.le_trans (Nat.le_add_right ck 37) hck, Nat.le_trans (Nat.le_add_right cn 902) hcn⟩ (pc2 := 1427) rfl ?_
  refine k_icmp_eq C (tgt := 2073) (pc2 := 1430) (A := some ()) (B := none) (r := ()) (dkAt dkL_law_9 11 (q := (1427, .if_icmp .eq 646, 3)) rfl) (by decide) rfl (if_pos rfl) (fun _ => ?_) (fun z => by cases z)
  exact hk sh _ _ _ _ I3 (Nat.le_add_right ck 37) (Nat.le_add_right cn 902)
set_option maxRecDepth 100000 in
set_option maxHeartbeats 4000000 in
/-- 37: without -/
theorem lc_37 (D : LawC p s m c args meth G b L y i) (I : Inv sh a M) (hck : ck + 37 ≤ 600000) (hcn : cn + 902 ≤ 7302250) (hk : Cont p l e s m args below meth c G Q b i ck cn) : KW p l e room_1 s m args below meth c G 4 Q sh [] ck cn M 33 (lvL G b i) [.int (nI 37)] := by
  obtain ⟨C, hX, hbl, hbA, hL, hi⟩ := D
  obtain ⟨iX, iM, iC, iR, iW, iK⟩ := id I
  obtain ⟨M2, e1, r1, f1⟩ := X7_without iC iW.1 (y (i + 1))
  obtain ⟨M3, e2, r2, f2, f3⟩ := X8_without (iR.frC f1) iW.1 (y (i + 1))
  have I3 := I.step r1 f1 r2 f2 f3 (W_without iW (y (i + 1)))
  refine k_swIn C (tgt := 1432) (off := 1399) (dkAt dkL_law_0 21 (q := (33, .tableswitch 2040 0 63 #[271, 314, 387, 450, 484, 507, 540, 573, 596, 639, 698, 731, 764, 787, 800, 813, 846, 879, 902, 925, 948, 961, 994, 1037, 1080, 1123, 1156, 1179, 1202, 1215, 1248, 1261, 1284, 1297, 1310, 1343, 1376, 1399, 1422, 1455, 1468, 1491, 1514, 1537, 1550, 1573, 1586, 1599, 1622, 1665, 1688, 1721, 1754, 1787, 1830, 1863, 1886, 1909, 1932, 1945, 1968, 1991, 2004, 2017], 271)) rfl) (by decide) (by decide) rfl (by decide) ?_
  refine k_aload_n C (pc2 := 1433) (dkAt dkL_law_9 14 (q := (1432, .aload_n 1, 1)) rfl) rfl rfl 2 rfl ?_
  refine k_arg C hX hbl hbA (j := 1) (w := y (i + 1)) rfl (by omega) hL rfl (dkAt dkL_law_9 15 (q := (1433, .aload_n 0, 1)) rfl) (dkAt dkL_law_9 16 (q := (1434, .iload_n 3, 1)) rfl) (dkAt dkL_law_9 17 (q := (1435, .iconst 1, 1)) rfl) (dkAt dkL_law_9 18 (q := (1436, .iadd, 1)) rfl) (dkAt dkL_law_9 19 (q := (1437, .iaload, 1)) rfl) (pc2 := 1438) rfl ?_
  refine k_callV C (As := [.int (y (i + 1))]) (rest := []) (o := 0) (mc := 0) (ms := 0) (ct_X7_without l G sh [] iX (y (i + 1)) M _ e1) (cl_L_171 (hts_of C) ⟨Nat.le_of_ble_eq_true rfl, Nat.le_of_ble_eq_true rfl⟩ rfl rfl) iX.1 rfl rfl rfl rfl rfl (Nat.le_of_ble_eq_true rfl) (dkAt dkL_law_9 20 (q := (1438, .invokevirtual 171, 3)) rfl) ⟨Nat.le_trans (Nat.le_add_right ck 37) hck, Nat.le_trans (Nat.le_add_right cn 902) hcn⟩ (pc2 := 1441) rfl ?_
  refine k_aload_n C (pc2 := 1442) (dkAt dkL_law_9 21 (q := (1441, .aload_n 2, 1)) rfl) rfl rfl 1 rfl ?_
  refine k_arg C hX hbl hbA (j := 1) (w := y (i + 1)) rfl (by omega) hL rfl (dkAt dkL_law_9 22 (q := (1442, .aload_n 0, 1)) rfl) (dkAt dkL_law_9 23 (q := (1443, .iload_n 3, 1)) rfl) (dkAt dkL_law_9 24 (q := (1444, .iconst 1, 1)) rfl) (dkAt dkL_law_9 25 (q := (1445, .iadd, 1)) rfl) (dkAt dkL_law_9 26 (q := (1446, .iaload, 1)) rfl) (pc2 := 1447) rfl ?_
  refine k_callV C (As := [.int (y (i + 1))]) (rest := [.int _]) (o := 69) (mc := 0) (ms := 0) (ct_X8_without l G sh [] 69 iM (y (i + 1)) M2 _ e2) (cl_L_174 (hts_of C) ⟨Nat.le_of_ble_eq_true rfl, Nat.le_of_ble_eq_true rfl⟩ rfl rfl) iM.1 rfl rfl rfl rfl rfl (Nat.le_of_ble_eq_true rfl) (dkAt dkL_law_9 27 (q := (1447, .invokevirtual 174, 3)) rfl) ⟨Nat.le_trans (Nat.le_add_right ck 37) hck, Nat.le_trans (Nat.le_add_right cn 902) hcn⟩ (pc2 := 1450) rfl ?_
  refine k_icmp_eq C (tgt := 2073) (pc2 := 1453) (A := some ()) (B := none) (r := ()) (dkAt dkL_law_9 28 (q := (1450, .if_icmp .eq 623, 3)) rfl) (by decide) rfl (if_pos rfl) (fun _ => ?_) (fun z => by cases z)
  exact hk sh _ _ _ _ I3 (Nat.le_add_right ck 37) (Nat.le_add_right cn 902)
set_option maxRecDepth 100000 in
set_option maxHeartbeats 4000000 in
/-- 38: until -/
theorem lc_38 (D : LawC p s m c args meth G b L y i) (I : Inv sh a M) (hck : ck + 37 ≤ 600000) (hcn : cn + 902 ≤ 7302250) (hk : Cont p l e s m args below meth c G Q b i ck cn) : KW p l e room_1 s m args below meth c G 4 Q sh [] ck cn M 33 (lvL G b i) [.int (nI 38)] := by
  obtain ⟨C, hX, hbl, hbA, hL, hi⟩ := D
  obtain ⟨iX, iM, iC, iR, iW, iK⟩ := id I
  obtain ⟨M2, e1, r1, f1⟩ := X7_until iC iW.1 (y (i + 1)) (y (i + 2))
  obtain ⟨M3, e2, r2, f2, f3⟩ := X8_until (iR.frC f1) iW.1 (y (i + 1)) (y (i + 2))
  have I3 := I.step r1 f1 r2 f2 f3 (W_until iW (y (i + 1)) (y (i + 2)))
  refine k_swIn C (tgt := 1455) (off := 1422) (dkAt dkL_law_0 21 (q := (33, .tableswitch 2040 0 63 #[271, 314, 387, 450, 484, 507, 540, 573, 596, 639, 698, 731, 764, 787, 800, 813, 846, 879, 902, 925, 948, 961, 994, 1037, 1080, 1123, 1156, 1179, 1202, 1215, 1248, 1261, 1284, 1297, 1310, 1343, 1376, 1399, 1422, 1455, 1468, 1491, 1514, 1537, 1550, 1573, 1586, 1599, 1622, 1665, 1688, 1721, 1754, 1787, 1830, 1863, 1886, 1909, 1932, 1945, 1968, 1991, 2004, 2017], 271)) rfl) (by decide) (by decide) rfl (by decide) ?_
  refine k_aload_n C (pc2 := 1456) (dkAt dkL_law_9 31 (q := (1455, .aload_n 1, 1)) rfl) rfl rfl 2 rfl ?_
  refine k_arg C hX hbl hbA (j := 1) (w := y (i + 1)) rfl (by omega) hL rfl (dkAt dkL_law_9 32 (q := (1456, .aload_n 0, 1)) rfl) (dkAt dkL_law_9 33 (q := (1457, .iload_n 3, 1)) rfl) (dkAt dkL_law_9 34 (q := (1458, .iconst 1, 1)) rfl) (dkAt dkL_law_9 35 (q := (1459, .iadd, 1)) rfl) (dkAt dkL_law_9 36 (q := (1460, .iaload, 1)) rfl) (pc2 := 1461) rfl ?_
  refine k_arg C hX hbl hbA (j := 2) (w := y (i + 2)) rfl (by omega) hL rfl (dkAt dkL_law_9 37 (q := (1461, .aload_n 0, 1)) rfl) (dkAt dkL_law_9 38 (q := (1462, .iload_n 3, 1)) rfl) (dkAt dkL_law_9 39 (q := (1463, .iconst 2, 1)) rfl) (dkAt dkL_law_9 40 (q := (1464, .iadd, 1)) rfl) (dkAt dkL_law_9 41 (q := (1465, .iaload, 1)) rfl) (pc2 := 1466) rfl ?_
  refine k_callV C (As := [.int (y (i + 1)), .int (y (i + 2))]) (rest := []) (o := 0) (mc := 0) (ms := 0) (ct_X7_until l G sh [] iX (y (i + 1)) (y (i + 2)) M _ e1) (cl_L_175 (hts_of C) ⟨Nat.le_of_ble_eq_true rfl, Nat.le_of_ble_eq_true rfl⟩ rfl rfl) iX.1 rfl rfl rfl rfl rfl (Nat.le_of_ble_eq_true rfl) (dkAt dkL_law_9 42 (q := (1466, .invokevirtual 175, 3)) rfl) ⟨Nat.le_trans (Nat.le_add_right ck 37) hck, Nat.le_trans (Nat.le_add_right cn 902) hcn⟩ (pc2 := 1469) rfl ?_
  refine k_aload_n C (pc2 := 1470) (dkAt dkL_law_9 43 (q := (1469, .aload_n 2, 1)) rfl) rfl rfl 1 rfl ?_
  refine k_arg C hX hbl hbA (j := 1) (w := y (i + 1)) rfl (by omega) hL rfl (dkAt dkL_law_9 44 (q := (1470, .aload_n 0, 1)) rfl) (dkAt dkL_law_9 45 (q := (1471, .iload_n 3, 1)) rfl) (dkAt dkL_law_9 46 (q := (1472, .iconst 1, 1)) rfl) (dkAt dkL_law_9 47 (q := (1473, .iadd, 1)) rfl) (dkAt dkL_law_9 48 (q := (1474, .iaload, 1)) rfl) (pc2 := 1475) rfl ?_
  refine k_arg C hX hbl hbA (j := 2) (w := y (i + 2)) rfl (by omega) hL rfl (dkAt dkL_law_9 49 (q := (1475, .aload_n 0, 1)) rfl) (dkAt dkL_law_9 50 (q := (1476, .iload_n 3, 1)) rfl) (dkAt dkL_law_9 51 (q := (1477, .iconst 2, 1)) rfl) (dkAt dkL_law_9 52 (q := (1478, .iadd, 1)) rfl) (dkAt dkL_law_9 53 (q := (1479, .iaload, 1)) rfl) (pc2 := 1480) rfl ?_
  refine k_callV C (As := [.int (y (i + 1)), .int (y (i + 2))]) (rest := [.int _]) (o := 69) (mc := 0) (ms := 0) (ct_X8_until l G sh [] 69 iM (y (i + 1)) (y (i + 2)) M2 _ e2) (cl_L_178 (hts_of C) ⟨Nat.le_of_ble_eq_true rfl, Nat.le_of_ble_eq_true rfl⟩ rfl rfl) iM.1 rfl rfl rfl rfl rfl (Nat.le_of_ble_eq_true rfl) (dkAt dkL_law_9 54 (q := (1480, .invokevirtual 178, 3)) rfl) ⟨Nat.le_trans (Nat.le_add_right ck 37) hck, Nat.le_trans (Nat.le_add_right cn 902) hcn⟩ (pc2 := 1483) rfl ?_
  refine k_icmp_eq C (tgt := 2073) (pc2 := 1486) (A := some ()) (B := none) (r := ()) (dkAt dkL_law_9 55 (q := (1483, .if_icmp .eq 590, 3)) rfl) (by decide) rfl (if_pos rfl) (fun _ => ?_) (fun z => by cases z)
  exact hk sh _ _ _ _ I3 (Nat.le_add_right ck 37) (Nat.le_add_right cn 902)
set_option maxRecDepth 100000 in
set_option maxHeartbeats 4000000 in
/-- 39: alone -/
theorem lc_39 (D : LawC p s m c args meth G b L y i) (I : Inv sh a M) (hck : ck + 37 ≤ 600000) (hcn : cn + 902 ≤ 7302250) (hk : Cont p l e s m args below meth c G Q b i ck cn) : KW p l e room_1 s m args below meth c G 4 Q sh [] ck cn M 33 (lvL G b i) [.int (nI 39)] := by
  obtain ⟨C, hX, hbl, hbA, hL, hi⟩ := D
  obtain ⟨iX, iM, iC, iR, iW, iK⟩ := id I
  have e1 := C_alone iC.1 iW.1.1
  have e2 := M_alone iR.1 iW.1.1
  refine k_swIn C (tgt := 1488) (off := 1455) (dkAt dkL_law_0 21 (q := (33, .tableswitch 2040 0 63 #[271, 314, 387, 450, 484, 507, 540, 573, 596, 639, 698, 731, 764, 787, 800, 813, 846, 879, 902, 925, 948, 961, 994, 1037, 1080, 1123, 1156, 1179, 1202, 1215, 1248, 1261, 1284, 1297, 1310, 1343, 1376, 1399, 1422, 1455, 1468, 1491, 1514, 1537, 1550, 1573, 1586, 1599, 1622, 1665, 1688, 1721, 1754, 1787, 1830, 1863, 1886, 1909, 1932, 1945, 1968, 1991, 2004, 2017], 271)) rfl) (by decide) (by decide) rfl (by decide) ?_
  refine k_aload_n C (pc2 := 1489) (dkAt dkL_law_9 58 (q := (1488, .aload_n 1, 1)) rfl) rfl rfl 2 rfl ?_
  refine k_callV C (As := []) (rest := []) (o := 0) (mc := 0) (ms := 0) (ct_X7_alone l G sh [] iX  M _ e1) (cl_L_179 (hts_of C) ⟨Nat.le_of_ble_eq_true rfl, Nat.le_of_ble_eq_true rfl⟩ rfl rfl) iX.1 rfl rfl rfl rfl rfl (Nat.le_of_ble_eq_true rfl) (dkAt dkL_law_9 59 (q := (1489, .invokevirtual 179, 3)) rfl) ⟨Nat.le_trans (Nat.le_add_right ck 37) hck, Nat.le_trans (Nat.le_add_right cn 902) hcn⟩ (pc2 := 1492) rfl ?_
  refine k_aload_n C (pc2 := 1493) (dkAt dkL_law_9 60 (q := (1492, .aload_n 2, 1)) rfl) rfl rfl 1 rfl ?_
  refine k_callV C (As := []) (rest := [.int _]) (o := 69) (mc := 0) (ms := 0) (ct_X8_alone l G sh [] 69 iM  M _ e2) (cl_L_182 (hts_of C) ⟨Nat.le_of_ble_eq_true rfl, Nat.le_of_ble_eq_true rfl⟩ rfl rfl) iM.1 rfl rfl rfl rfl rfl (Nat.le_of_ble_eq_true rfl) (dkAt dkL_law_9 61 (q := (1493, .invokevirtual 182, 3)) rfl) ⟨Nat.le_trans (Nat.le_add_right ck 37) hck, Nat.le_trans (Nat.le_add_right cn 902) hcn⟩ (pc2 := 1496) rfl ?_
  refine k_icmp_eq C (tgt := 2073) (pc2 := 1499) (A := some ()) (B := none) (r := ()) (dkAt dkL_law_9 62 (q := (1496, .if_icmp .eq 577, 3)) rfl) (by decide) rfl (if_pos rfl) (fun _ => ?_) (fun z => by cases z)
  exact hk sh _ _ _ _ I (Nat.le_add_right ck 37) (Nat.le_add_right cn 902)
set_option maxRecDepth 100000 in
set_option maxHeartbeats 4000000 in
/-- 40: with -/
theorem lc_40 (D : LawC p s m c args meth G b L y i) (I : Inv sh a M) (hck : ck + 37 ≤ 600000) (hcn : cn + 902 ≤ 7302250) (hk : Cont p l e s m args below meth c G Q b i ck cn) : KW p l e room_1 s m args below meth c G 4 Q sh [] ck cn M 33 (lvL G b i) [.int (nI 40)] := by
  obtain ⟨C, hX, hbl, hbA, hL, hi⟩ := D
  obtain ⟨iX, iM, iC, iR, iW, iK⟩ := id I
  obtain ⟨M2, e1, r1, f1⟩ := X7_with iC iW.1 (y (i + 1))
  obtain ⟨M3, e2, r2, f2, f3⟩ := X8_with (iR.frC f1) iW.1 (y (i + 1))
  have I3 := I.step r1 f1 r2 f2 f3 (W_with iW (y (i + 1)))
  refine k_swIn C (tgt := 1501) (off := 1468) (dkAt dkL_law_0 21 (q := (33, .tableswitch 2040 0 63 #[271, 314, 387, 450, 484, 507, 540, 573, 596, 639, 698, 731, 764, 787, 800, 813, 846, 879, 902, 925, 948, 961, 994, 1037, 1080, 1123, 1156, 1179, 1202, 1215, 1248, 1261, 1284, 1297, 1310, 1343, 1376, 1399, 1422, 1455, 1468, 1491, 1514, 1537, 1550, 1573, 1586, 1599, 1622, 1665, 1688, 1721, 1754, 1787, 1830, 1863, 1886, 1909, 1932, 1945, 1968, 1991, 2004, 2017], 271)) rfl) (by decide) (by decide) rfl (by decide) ?_
  refine k_aload_n C (pc2 := 1502) (dkAt dkL_law_9 65 (q := (1501, .aload_n 1, 1)) rfl) rfl rfl 2 rfl ?_
  refine k_arg C hX hbl hbA (j := 1) (w := y (i + 1)) rfl (by omega) hL rfl (dkAt dkL_law_9 66 (q := (1502, .aload_n 0, 1)) rfl) (dkAt dkL_law_9 67 (q := (1503, .iload_n 3, 1)) rfl) (dkAt dkL_law_9 68 (q := (1504, .iconst 1, 1)) rfl) (dkAt dkL_law_9 69 (q := (1505, .iadd, 1)) rfl) (dkAt dkL_law_9 70 (q := (1506, .iaload, 1)) rfl) (pc2 := 1507) rfl ?_
  refine k_callV C (As := [.int (y (i + 1))]) (rest := []) (o := 0) (mc := 0) (ms := 0) (ct_X7_with l G sh [] iX (y (i + 1)) M _ e1) (cl_L_183 (hts_of C) ⟨Nat.le_of_ble_eq_true rfl, Nat.le_of_ble_eq_true rfl⟩ rfl rfl) iX.1 rfl rfl rfl rfl rfl (Nat.le_of_ble_eq_true rfl) (dkAt dkL_law_9 71 (q := (1507, .invokevirtual 183, 3)) rfl) ⟨Nat.le_trans (Nat.le_add_right ck 37) hck, Nat.le_trans (Nat.le_add_right cn 902) hcn⟩ (pc2 := 1510) rfl ?_
  refine k_aload_n C (pc2 := 1511) (dkAt dkL_law_9 72 (q := (1510, .aload_n 2, 1)) rfl) rfl rfl 1 rfl ?_
  refine k_arg C hX hbl hbA (j := 1) (w := y (i + 1)) rfl (by omega) hL rfl (dkAt dkL_law_9 73 (q := (1511, .aload_n 0, 1)) rfl) (dkAt dkL_law_9 74 (q := (1512, .iload_n 3, 1)) rfl) (dkAt dkL_law_9 75 (q := (1513, .iconst 1, 1)) rfl) (dkAt dkL_law_9 76 (q := (1514, .iadd, 1)) rfl) (dkAt dkL_law_9 77 (q := (1515, .iaload, 1)) rfl) (pc2 := 1516) rfl ?_
  refine k_callV C (As := [.int (y (i + 1))]) (rest := [.int _]) (o := 69) (mc := 0) (ms := 0) (ct_X8_with l G sh [] 69 iM (y (i + 1)) M2 _ e2) (cl_L_186 (hts_of C) ⟨Nat.le_of_ble_eq_true rfl, Nat.le_of_ble_eq_true rfl⟩ rfl rfl) iM.1 rfl rfl rfl rfl rfl (Nat.le_of_ble_eq_true rfl) (dkAt dkL_law_9 78 (q := (1516, .invokevirtual 186, 3)) rfl) ⟨Nat.le_trans (Nat.le_add_right ck 37) hck, Nat.le_trans (Nat.le_add_right cn 902) hcn⟩ (pc2 := 1519) rfl ?_
  refine k_icmp_eq C (tgt := 2073) (pc2 := 1522) (A := some ()) (B := none) (r := ()) (dkAt dkL_law_9 79 (q := (1519, .if_icmp .eq 554, 3)) rfl) (by decide) rfl (if_pos rfl) (fun _ => ?_) (fun z => by cases z)
  exact hk sh _ _ _ _ I3 (Nat.le_add_right ck 37) (Nat.le_add_right cn 902)
set_option maxRecDepth 100000 in
set_option maxHeartbeats 4000000 in
/-- 41: reach -/
theorem lc_41 (D : LawC p s m c args meth G b L y i) (I : Inv sh a M) (hck : ck + 37 ≤ 600000) (hcn : cn + 902 ≤ 7302250) (hk : Cont p l e s m args below meth c G Q b i ck cn) : KW p l e room_1 s m args below meth c G 4 Q sh [] ck cn M 33 (lvL G b i) [.int (nI 41)] := by
  obtain ⟨C, hX, hbl, hbA, hL, hi⟩ := D
  obtain ⟨iX, iM, iC, iR, iW, iK⟩ := id I
  obtain ⟨M2, e1, r1, f1⟩ := X7_reach iC iW.1 (y (i + 1))
  obtain ⟨M3, e2, r2, f2, f3⟩ := X8_reach (iR.frC f1) iW.1 (y (i + 1))
  have I3 := I.step r1 f1 r2 f2 f3 (W_reach iW (y (i + 1)))
  refine k_swIn C (tgt := 1524) (off := 1491) (dkAt dkL_law_0 21 (q := (33, .tableswitch 2040 0 63 #[271, 314, 387, 450, 484, 507, 540, 573, 596, 639, 698, 731, 764, 787, 800, 813, 846, 879, 902, 925, 948, 961, 994, 1037, 1080, 1123, 1156, 1179, 1202, 1215, 1248, 1261, 1284, 1297, 1310, 1343, 1376, 1399, 1422, 1455, 1468, 1491, 1514, 1537, 1550, 1573, 1586, 1599, 1622, 1665, 1688, 1721, 1754, 1787, 1830, 1863, 1886, 1909, 1932, 1945, 1968, 1991, 2004, 2017], 271)) rfl) (by decide) (by decide) rfl (by decide) ?_
  refine k_aload_n C (pc2 := 1525) (dkAt dkL_law_9 82 (q := (1524, .aload_n 1, 1)) rfl) rfl rfl 2 rfl ?_
  refine k_arg C hX hbl hbA (j := 1) (w := y (i + 1)) rfl (by omega) hL rfl (dkAt dkL_law_9 83 (q := (1525, .aload_n 0, 1)) rfl) (dkAt dkL_law_9 84 (q := (1526, .iload_n 3, 1)) rfl) (dkAt dkL_law_9 85 (q := (1527, .iconst 1, 1)) rfl) (dkAt dkL_law_9 86 (q := (1528, .iadd, 1)) rfl) (dkAt dkL_law_9 87 (q := (1529, .iaload, 1)) rfl) (pc2 := 1530) rfl ?_
  refine k_callV C (As := [.int (y (i + 1))]) (rest := []) (o := 0) (mc := 0) (ms := 0) (ct_X7_reach l G sh [] iX (y (i + 1)) M _ e1) (cl_L_187 (hts_of C) ⟨Nat.le_of_ble_eq_true rfl, Nat.le_of_ble_eq_true rfl⟩ rfl rfl) iX.1 rfl rfl rfl rfl rfl (Nat.le_of_ble_eq_true rfl) (dkAt dkL_law_9 88 (q := (1530, .invokevirtual 187, 3)) rfl) ⟨Nat.le_trans (Nat.le_add_right ck 37) hck, Nat.le_trans (Nat.le_add_right cn 902) hcn⟩ (pc2 := 1533) rfl ?_
  refine k_aload_n C (pc2 := 1534) (dkAt dkL_law_9 89 (q := (1533, .aload_n 2, 1)) rfl) rfl rfl 1 rfl ?_
  refine k_arg C hX hbl hbA (j := 1) (w := y (i + 1)) rfl (by omega) hL rfl (dkAt dkL_law_9 90 (q := (1534, .aload_n 0, 1)) rfl) (dkAt dkL_law_9 91 (q := (1535, .iload_n 3, 1)) rfl) (dkAt dkL_law_9 92 (q := (1536, .iconst 1, 1)) rfl) (dkAt dkL_law_9 93 (q := (1537, .iadd, 1)) rfl) (dkAt dkL_law_9 94 (q := (1538, .iaload, 1)) rfl) (pc2 := 1539) rfl ?_
  refine k_callV C (As := [.int (y (i + 1))]) (rest := [.int _]) (o := 69) (mc := 0) (ms := 0) (ct_X8_reach l G sh [] 69 iM (y (i + 1)) M2 _ e2) (cl_L_190 (hts_of C) ⟨Nat.le_of_ble_eq_true rfl, Nat.le_of_ble_eq_true rfl⟩ rfl rfl) iM.1 rfl rfl rfl rfl rfl (Nat.le_of_ble_eq_true rfl) (dkAt dkL_law_9 95 (q := (1539, .invokevirtual 190, 3)) rfl) ⟨Nat.le_trans (Nat.le_add_right ck 37) hck, Nat.le_trans (Nat.le_add_right cn 902) hcn⟩ (pc2 := 1542) rfl ?_
  refine k_icmp_eq C (tgt := 2073) (pc2 := 1545) (A := some ()) (B := none) (r := ()) (dkAt dkL_law_9 96 (q := (1542, .if_icmp .eq 531, 3)) rfl) (by decide) rfl (if_pos rfl) (fun _ => ?_) (fun z => by cases z)
  exact hk sh _ _ _ _ I3 (Nat.le_add_right ck 37) (Nat.le_add_right cn 902)
set_option maxRecDepth 100000 in
set_option maxHeartbeats 4000000 in
/-- 42: three -/
theorem lc_42 (D : LawC p s m c args meth G b L y i) (I : Inv sh a M) (hck : ck + 37 ≤ 600000) (hcn : cn + 902 ≤ 7302250) (hk : Cont p l e s m args below meth c G Q b i ck cn) : KW p l e room_1 s m args below meth c G 4 Q sh [] ck cn M 33 (lvL G b i) [.int (nI 42)] := by
  obtain ⟨C, hX, hbl, hbA, hL, hi⟩ := D
  obtain ⟨iX, iM, iC, iR, iW, iK⟩ := id I
  obtain ⟨M2, e1, r1, f1⟩ := X7_three iC iW.1 (y (i + 1))
  obtain ⟨M3, e2, r2, f2, f3⟩ := X8_three (iR.frC f1) iW.1 (y (i + 1))
  have I3 := I.step r1 f1 r2 f2 f3 (W_meet iW 3 (y (i + 1)))
  refine k_swIn C (tgt := 1547) (off := 1514) (dkAt dkL_law_0 21 (q := (33, .tableswitch 2040 0 63 #[271, 314, 387, 450, 484, 507, 540, 573, 596, 639, 698, 731, 764, 787, 800, 813, 846, 879, 902, 925, 948, 961, 994, 1037, 1080, 1123, 1156, 1179, 1202, 1215, 1248, 1261, 1284, 1297, 1310, 1343, 1376, 1399, 1422, 1455, 1468, 1491, 1514, 1537, 1550, 1573, 1586, 1599, 1622, 1665, 1688, 1721, 1754, 1787, 1830, 1863, 1886, 1909, 1932, 1945, 1968, 1991, 2004, 2017], 271)) rfl) (by decide) (by decide) rfl (by decide) ?_
  refine k_aload_n C (pc2 := 1548) (dkAt dkL_law_9 99 (q := (1547, .aload_n 1, 1)) rfl) rfl rfl 2 rfl ?_
  refine k_arg C hX hbl hbA (j := 1) (w := y (i + 1)) rfl (by omega) hL rfl (dkAt dkL_law_10 0 (q := (1548, .aload_n 0, 1)) rfl) (dkAt dkL_law_10 1 (q := (1549, .iload_n 3, 1)) rfl) (dkAt dkL_law_10 2 (q := (1550, .iconst 1, 1)) rfl) (dkAt dkL_law_10 3 (q := (1551, .iadd, 1)) rfl) (dkAt dkL_law_10 4 (q := (1552, .iaload, 1)) rfl) (pc2 := 1553) rfl ?_
  refine k_callV C (As := [.int (y (i + 1))]) (rest := []) (o := 0) (mc := 0) (ms := 0) (ct_X7_three l G sh [] iX (y (i + 1)) M _ e1) (cl_L_191 (hts_of C) ⟨Nat.le_of_ble_eq_true rfl, Nat.le_of_ble_eq_true rfl⟩ rfl rfl) iX.1 rfl rfl rfl rfl rfl (Nat.le_of_ble_eq_true rfl) (dkAt dkL_law_10 5 (q := (1553, .invokevirtual 191, 3)) rfl) ⟨Nat.le_trans (Nat.le_add_right ck 37) hck, Nat.le_trans (Nat.le_add_right cn 902) hcn⟩ (pc2 := 1556) rfl ?_
  refine k_aload_n C (pc2 := 1557) (dkAt dkL_law_10 6 (q := (1556, .aload_n 2, 1)) rfl) rfl rfl 1 rfl ?_
  refine k_arg C hX hbl hbA (j := 1) (w := y (i + 1)) rfl (by omega) hL rfl (dkAt dkL_law_10 7 (q := (1557, .aload_n 0, 1)) rfl) (dkAt dkL_law_10 8 (q := (1558, .iload_n 3, 1)) rfl) (dkAt dkL_law_10 9 (q := (1559, .iconst 1, 1)) rfl) (dkAt dkL_law_10 10 (q := (1560, .iadd, 1)) rfl) (dkAt dkL_law_10 11 (q := (1561, .iaload, 1)) rfl) (pc2 := 1562) rfl ?_
  refine k_callV C (As := [.int (y (i + 1))]) (rest := [.int _]) (o := 69) (mc := 0) (ms := 0) (ct_X8_three l G sh [] 69 iM (y (i + 1)) M2 _ e2) (cl_L_194 (hts_of C) ⟨Nat.le_of_ble_eq_true rfl, Nat.le_of_ble_eq_true rfl⟩ rfl rfl) iM.1 rfl rfl rfl rfl rfl (Nat.le_of_ble_eq_true rfl) (dkAt dkL_law_10 12 (q := (1562, .invokevirtual 194, 3)) rfl) ⟨Nat.le_trans (Nat.le_add_right ck 37) hck, Nat.le_trans (Nat.le_add_right cn 902) hcn⟩ (pc2 := 1565) rfl ?_
  refine k_icmp_eq C (tgt := 2073) (pc2 := 1568) (A := some ()) (B := none) (r := ()) (dkAt dkL_law_10 13 (q := (1565, .if_icmp .eq 508, 3)) rfl) (by decide) rfl (if_pos rfl) (fun _ => ?_) (fun z => by cases z)
  exact hk sh _ _ _ _ I3 (Nat.le_add_right ck 37) (Nat.le_add_right cn 902)
set_option maxRecDepth 100000 in
set_option maxHeartbeats 4000000 in
/-- 43: run -/
theorem lc_43 (D : LawC p s m c args meth G b L y i) (I : Inv sh a M) (hck : ck + 37 ≤ 600000) (hcn : cn + 902 ≤ 7302250) (hk : Cont p l e s m args below meth c G Q b i ck cn) : KW p l e room_1 s m args below meth c G 4 Q sh [] ck cn M 33 (lvL G b i) [.int (nI 43)] := by
  obtain ⟨C, hX, hbl, hbA, hL, hi⟩ := D
  obtain ⟨iX, iM, iC, iR, iW, iK⟩ := id I
  have e1 := C_run iC.1 iW.1.1
  have e2 := M_run iR.1 iW.1.1
  refine k_swIn C (tgt := 1570) (off := 1537) (dkAt dkL_law_0 21 (q := (33, .tableswitch 2040 0 63 #[271, 314, 387, 450, 484, 507, 540, 573, 596, 639, 698, 731, 764, 787, 800, 813, 846, 879, 902, 925, 948, 961, 994, 1037, 1080, 1123, 1156, 1179, 1202, 1215, 1248, 1261, 1284, 1297, 1310, 1343, 1376, 1399, 1422, 1455, 1468, 1491, 1514, 1537, 1550, 1573, 1586, 1599, 1622, 1665, 1688, 1721, 1754, 1787, 1830, 1863, 1886, 1909, 1932, 1945, 1968, 1991, 2004, 2017], 271)) rfl) (by decide) (by decide) rfl (by decide) ?_
  refine k_aload_n C (pc2 := 1571) (dkAt dkL_law_10 16 (q := (1570, .aload_n 1, 1)) rfl) rfl rfl 2 rfl ?_
  refine k_callV C (As := []) (rest := []) (o := 0) (mc := 0) (ms := 0) (ct_X7_run l G sh [] iX  M _ e1) (cl_L_195 (hts_of C) ⟨Nat.le_of_ble_eq_true rfl, Nat.le_of_ble_eq_true rfl⟩ rfl rfl) iX.1 rfl rfl rfl rfl rfl (Nat.le_of_ble_eq_true rfl) (dkAt dkL_law_10 17 (q := (1571, .invokevirtual 195, 3)) rfl) ⟨Nat.le_trans (Nat.le_add_right ck 37) hck, Nat.le_trans (Nat.le_add_right cn 902) hcn⟩ (pc2 := 1574) rfl ?_
  refine k_aload_n C (pc2 := 1575) (dkAt dkL_law_10 18 (q := (1574, .aload_n 2, 1)) rfl) rfl rfl 1 rfl ?_
  refine k_callV C (As := []) (rest := [.int _]) (o := 69) (mc := 0) (ms := 0) (ct_X8_run l G sh [] 69 iM  M _ e2) (cl_L_198 (hts_of C) ⟨Nat.le_of_ble_eq_true rfl, Nat.le_of_ble_eq_true rfl⟩ rfl rfl) iM.1 rfl rfl rfl rfl rfl (Nat.le_of_ble_eq_true rfl) (dkAt dkL_law_10 19 (q := (1575, .invokevirtual 198, 3)) rfl) ⟨Nat.le_trans (Nat.le_add_right ck 37) hck, Nat.le_trans (Nat.le_add_right cn 902) hcn⟩ (pc2 := 1578) rfl ?_
  refine k_icmp_eq C (tgt := 2073) (pc2 := 1581) (A := some ()) (B := none) (r := ()) (dkAt dkL_law_10 20 (q := (1578, .if_icmp .eq 495, 3)) rfl) (by decide) rfl (if_pos rfl) (fun _ => ?_) (fun z => by cases z)
  exact hk sh _ _ _ _ I (Nat.le_add_right ck 37) (Nat.le_add_right cn 902)
set_option maxRecDepth 100000 in
set_option maxHeartbeats 4000000 in
/-- 44: weeks -/
theorem lc_44 (D : LawC p s m c args meth G b L y i) (I : Inv sh a M) (hck : ck + 37 ≤ 600000) (hcn : cn + 902 ≤ 7302250) (hk : Cont p l e s m args below meth c G Q b i ck cn) : KW p l e room_1 s m args below meth c G 4 Q sh [] ck cn M 33 (lvL G b i) [.int (nI 44)] := by
  obtain ⟨C, hX, hbl, hbA, hL, hi⟩ := D
  obtain ⟨iX, iM, iC, iR, iW, iK⟩ := id I
  obtain ⟨M2, e1, r1, f1⟩ := X7_weeks iC iW.1 (y (i + 1))
  obtain ⟨M3, e2, r2, f2, f3⟩ := X8_weeks (iR.frC f1) iW.1 (y (i + 1))
  have I3 := I.step r1 f1 r2 f2 f3 (W_weeks iW (y (i + 1)))
  refine k_swIn C (tgt := 1583) (off := 1550) (dkAt dkL_law_0 21 (q := (33, .tableswitch 2040 0 63 #[271, 314, 387, 450, 484, 507, 540, 573, 596, 639, 698, 731, 764, 787, 800, 813, 846, 879, 902, 925, 948, 961, 994, 1037, 1080, 1123, 1156, 1179, 1202, 1215, 1248, 1261, 1284, 1297, 1310, 1343, 1376, 1399, 1422, 1455, 1468, 1491, 1514, 1537, 1550, 1573, 1586, 1599, 1622, 1665, 1688, 1721, 1754, 1787, 1830, 1863, 1886, 1909, 1932, 1945, 1968, 1991, 2004, 2017], 271)) rfl) (by decide) (by decide) rfl (by decide) ?_
  refine k_aload_n C (pc2 := 1584) (dkAt dkL_law_10 23 (q := (1583, .aload_n 1, 1)) rfl) rfl rfl 2 rfl ?_
  refine k_arg C hX hbl hbA (j := 1) (w := y (i + 1)) rfl (by omega) hL rfl (dkAt dkL_law_10 24 (q := (1584, .aload_n 0, 1)) rfl) (dkAt dkL_law_10 25 (q := (1585, .iload_n 3, 1)) rfl) (dkAt dkL_law_10 26 (q := (1586, .iconst 1, 1)) rfl) (dkAt dkL_law_10 27 (q := (1587, .iadd, 1)) rfl) (dkAt dkL_law_10 28 (q := (1588, .iaload, 1)) rfl) (pc2 := 1589) rfl ?_
  refine k_callV C (As := [.int (y (i + 1))]) (rest := []) (o := 0) (mc := 0) (ms := 0) (ct_X7_weeks l G sh [] iX (y (i + 1)) M _ e1) (cl_L_199 (hts_of C) ⟨Nat.le_of_ble_eq_true rfl, Nat.le_of_ble_eq_true rfl⟩ rfl rfl) iX.1 rfl rfl rfl rfl rfl (Nat.le_of_ble_eq_true rfl) (dkAt dkL_law_10 29 (q := (1589, .invokevirtual 199, 3)) rfl) ⟨Nat.le_trans (Nat.le_add_right ck 37) hck, Nat.le_trans (Nat.le_add_right cn 902) hcn⟩ (pc2 := 1592) rfl ?_
  refine k_aload_n C (pc2 := 1593) (dkAt dkL_law_10 30 (q := (1592, .aload_n 2, 1)) rfl) rfl rfl 1 rfl ?_
  refine k_arg C hX hbl hbA (j := 1) (w := y (i + 1)) rfl (by omega) hL rfl (dkAt dkL_law_10 31 (q := (1593, .aload_n 0, 1)) rfl) (dkAt dkL_law_10 32 (q := (1594, .iload_n 3, 1)) rfl) (dkAt dkL_law_10 33 (q := (1595, .iconst 1, 1)) rfl) (dkAt dkL_law_10 34 (q := (1596, .iadd, 1)) rfl) (dkAt dkL_law_10 35 (q := (1597, .iaload, 1)) rfl) (pc2 := 1598) rfl ?_
  refine k_callV C (As := [.int (y (i + 1))]) (rest := [.int _]) (o := 69) (mc := 0) (ms := 0) (ct_X8_weeks l G sh [] 69 iM (y (i + 1)) M2 _ e2) (cl_L_202 (hts_of C) ⟨Nat.le_of_ble_eq_true rfl, Nat.le_of_ble_eq_true rfl⟩ rfl rfl) iM.1 rfl rfl rfl rfl rfl (Nat.le_of_ble_eq_true rfl) (dkAt dkL_law_10 36 (q := (1598, .invokevirtual 202, 3)) rfl) ⟨Nat.le_trans (Nat.le_add_right ck 37) hck, Nat.le_trans (Nat.le_add_right cn 902) hcn⟩ (pc2 := 1601) rfl ?_
  refine k_icmp_eq C (tgt := 2073) (pc2 := 1604) (A := some ()) (B := none) (r := ()) (dkAt dkL_law_10 37 (q := (1601, .if_icmp .eq 472, 3)) rfl) (by decide) rfl (if_pos rfl) (fun _ => ?_) (fun z => by cases z)
  exact hk sh _ _ _ _ I3 (Nat.le_add_right ck 37) (Nat.le_add_right cn 902)
set_option maxRecDepth 100000 in
set_option maxHeartbeats 4000000 in
/-- 45: spread -/
theorem lc_45 (D : LawC p s m c args meth G b L y i) (I : Inv sh a M) (hck : ck + 37 ≤ 600000) (hcn : cn + 902 ≤ 7302250) (hk : Cont p l e s m args below meth c G Q b i ck cn) : KW p l e room_1 s m args below meth c G 4 Q sh [] ck cn M 33 (lvL G b i) [.int (nI 45)] := by
  obtain ⟨C, hX, hbl, hbA, hL, hi⟩ := D
  obtain ⟨iX, iM, iC, iR, iW, iK⟩ := id I
  have e1 := C_spread iC.1 iW.1.1
  have e2 := M_spread iR.1 iW.1.1
  refine k_swIn C (tgt := 1606) (off := 1573) (dkAt dkL_law_0 21 (q := (33, .tableswitch 2040 0 63 #[271, 314, 387, 450, 484, 507, 540, 573, 596, 639, 698, 731, 764, 787, 800, 813, 846, 879, 902, 925, 948, 961, 994, 1037, 1080, 1123, 1156, 1179, 1202, 1215, 1248, 1261, 1284, 1297, 1310, 1343, 1376, 1399, 1422, 1455, 1468, 1491, 1514, 1537, 1550, 1573, 1586, 1599, 1622, 1665, 1688, 1721, 1754, 1787, 1830, 1863, 1886, 1909, 1932, 1945, 1968, 1991, 2004, 2017], 271)) rfl) (by decide) (by decide) rfl (by decide) ?_
  refine k_aload_n C (pc2 := 1607) (dkAt dkL_law_10 40 (q := (1606, .aload_n 1, 1)) rfl) rfl rfl 2 rfl ?_
  refine k_callV C (As := []) (rest := []) (o := 0) (mc := 0) (ms := 0) (ct_X7_spread l G sh [] iX  M _ e1) (cl_L_203 (hts_of C) ⟨Nat.le_of_ble_eq_true rfl, Nat.le_of_ble_eq_true rfl⟩ rfl rfl) iX.1 rfl rfl rfl rfl rfl (Nat.le_of_ble_eq_true rfl) (dkAt dkL_law_10 41 (q := (1607, .invokevirtual 203, 3)) rfl) ⟨Nat.le_trans (Nat.le_add_right ck 37) hck, Nat.le_trans (Nat.le_add_right cn 902) hcn⟩ (pc2 := 1610) rfl ?_
  refine k_aload_n C (pc2 := 1611) (dkAt dkL_law_10 42 (q := (1610, .aload_n 2, 1)) rfl) rfl rfl 1 rfl ?_
  refine k_callV C (As := []) (rest := [.int _]) (o := 69) (mc := 0) (ms := 0) (ct_X8_spread l G sh [] 69 iM  M _ e2) (cl_L_206 (hts_of C) ⟨Nat.le_of_ble_eq_true rfl, Nat.le_of_ble_eq_true rfl⟩ rfl rfl) iM.1 rfl rfl rfl rfl rfl (Nat.le_of_ble_eq_true rfl) (dkAt dkL_law_10 43 (q := (1611, .invokevirtual 206, 3)) rfl) ⟨Nat.le_trans (Nat.le_add_right ck 37) hck, Nat.le_trans (Nat.le_add_right cn 902) hcn⟩ (pc2 := 1614) rfl ?_
  refine k_icmp_eq C (tgt := 2073) (pc2 := 1617) (A := some ()) (B := none) (r := ()) (dkAt dkL_law_10 44 (q := (1614, .if_icmp .eq 459, 3)) rfl) (by decide) rfl (if_pos rfl) (fun _ => ?_) (fun z => by cases z)
  exact hk sh _ _ _ _ I (Nat.le_add_right ck 37) (Nat.le_add_right cn 902)
set_option maxRecDepth 100000 in
set_option maxHeartbeats 4000000 in
/-- 46: mean -/
theorem lc_46 (D : LawC p s m c args meth G b L y i) (I : Inv sh a M) (hck : ck + 37 ≤ 600000) (hcn : cn + 902 ≤ 7302250) (hk : Cont p l e s m args below meth c G Q b i ck cn) : KW p l e room_1 s m args below meth c G 4 Q sh [] ck cn M 33 (lvL G b i) [.int (nI 46)] := by
  obtain ⟨C, hX, hbl, hbA, hL, hi⟩ := D
  obtain ⟨iX, iM, iC, iR, iW, iK⟩ := id I
  have e1 := C_mean iC.1 iW.1.1
  have e2 := M_mean iR.1 iW.1.1
  refine k_swIn C (tgt := 1619) (off := 1586) (dkAt dkL_law_0 21 (q := (33, .tableswitch 2040 0 63 #[271, 314, 387, 450, 484, 507, 540, 573, 596, 639, 698, 731, 764, 787, 800, 813, 846, 879, 902, 925, 948, 961, 994, 1037, 1080, 1123, 1156, 1179, 1202, 1215, 1248, 1261, 1284, 1297, 1310, 1343, 1376, 1399, 1422, 1455, 1468, 1491, 1514, 1537, 1550, 1573, 1586, 1599, 1622, 1665, 1688, 1721, 1754, 1787, 1830, 1863, 1886, 1909, 1932, 1945, 1968, 1991, 2004, 2017], 271)) rfl) (by decide) (by decide) rfl (by decide) ?_
  refine k_aload_n C (pc2 := 1620) (dkAt dkL_law_10 47 (q := (1619, .aload_n 1, 1)) rfl) rfl rfl 2 rfl ?_
  refine k_callV C (As := []) (rest := []) (o := 0) (mc := 0) (ms := 0) (ct_X7_mean l G sh [] iX  M _ e1) (cl_L_207 (hts_of C) ⟨Nat.le_of_ble_eq_true rfl, Nat.le_of_ble_eq_true rfl⟩ rfl rfl) iX.1 rfl rfl rfl rfl rfl (Nat.le_of_ble_eq_true rfl) (dkAt dkL_law_10 48 (q := (1620, .invokevirtual 207, 3)) rfl) ⟨Nat.le_trans (Nat.le_add_right ck 37) hck, Nat.le_trans (Nat.le_add_right cn 902) hcn⟩ (pc2 := 1623) rfl ?_
  refine k_aload_n C (pc2 := 1624) (dkAt dkL_law_10 49 (q := (1623, .aload_n 2, 1)) rfl) rfl rfl 1 rfl ?_
  refine k_callV C (As := []) (rest := [.int _]) (o := 69) (mc := 0) (ms := 0) (ct_X8_mean l G sh [] 69 iM  M _ e2) (cl_L_210 (hts_of C) ⟨Nat.le_of_ble_eq_true rfl, Nat.le_of_ble_eq_true rfl⟩ rfl rfl) iM.1 rfl rfl rfl rfl rfl (Nat.le_of_ble_eq_true rfl) (dkAt dkL_law_10 50 (q := (1624, .invokevirtual 210, 3)) rfl) ⟨Nat.le_trans (Nat.le_add_right ck 37) hck, Nat.le_trans (Nat.le_add_right cn 902) hcn⟩ (pc2 := 1627) rfl ?_
  refine k_icmp_eq C (tgt := 2073) (pc2 := 1630) (A := some ()) (B := none) (r := ()) (dkAt dkL_law_10 51 (q := (1627, .if_icmp .eq 446, 3)) rfl) (by decide) rfl (if_pos rfl) (fun _ => ?_) (fun z => by cases z)
  exact hk sh _ _ _ _ I (Nat.le_add_right ck 37) (Nat.le_add_right cn 902)
set_option maxRecDepth 100000 in
set_option maxHeartbeats 4000000 in
/-- 47: withHost -/
theorem lc_47 (D : LawC p s m c args meth G b L y i) (I : Inv sh a M) (hck : ck + 37 ≤ 600000) (hcn : cn + 902 ≤ 7302250) (hk : Cont p l e s m args below meth c G Q b i ck cn) : KW p l e room_1 s m args below meth c G 4 Q sh [] ck cn M 33 (lvL G b i) [.int (nI 47)] := by
  obtain ⟨C, hX, hbl, hbA, hL, hi⟩ := D
  obtain ⟨iX, iM, iC, iR, iW, iK⟩ := id I
  obtain ⟨M2, e1, r1, f1⟩ := X7_withHost iC iW.1 (y (i + 1))
  obtain ⟨M3, e2, r2, f2, f3⟩ := X8_withHost (iR.frC f1) iW.1 (y (i + 1))
  have I3 := I.step r1 f1 r2 f2 f3 (W_withHost iW (y (i + 1)))
  refine k_swIn C (tgt := 1632) (off := 1599) (dkAt dkL_law_0 21 (q := (33, .tableswitch 2040 0 63 #[271, 314, 387, 450, 484, 507, 540, 573, 596, 639, 698, 731, 764, 787, 800, 813, 846, 879, 902, 925, 948, 961, 994, 1037, 1080, 1123, 1156, 1179, 1202, 1215, 1248, 1261, 1284, 1297, 1310, 1343, 1376, 1399, 1422, 1455, 1468, 1491, 1514, 1537, 1550, 1573, 1586, 1599, 1622, 1665, 1688, 1721, 1754, 1787, 1830, 1863, 1886, 1909, 1932, 1945, 1968, 1991, 2004, 2017], 271)) rfl) (by decide) (by decide) rfl (by decide) ?_
  refine k_aload_n C (pc2 := 1633) (dkAt dkL_law_10 54 (q := (1632, .aload_n 1, 1)) rfl) rfl rfl 2 rfl ?_
  refine k_arg C hX hbl hbA (j := 1) (w := y (i + 1)) rfl (by omega) hL rfl (dkAt dkL_law_10 55 (q := (1633, .aload_n 0, 1)) rfl) (dkAt dkL_law_10 56 (q := (1634, .iload_n 3, 1)) rfl) (dkAt dkL_law_10 57 (q := (1635, .iconst 1, 1)) rfl) (dkAt dkL_law_10 58 (q := (1636, .iadd, 1)) rfl) (dkAt dkL_law_10 59 (q := (1637, .iaload, 1)) rfl) (pc2 := 1638) rfl ?_
  refine k_callV C (As := [.int (y (i + 1))]) (rest := []) (o := 0) (mc := 0) (ms := 0) (ct_X7_withHost l G sh [] iX (y (i + 1)) M _ e1) (cl_L_211 (hts_of C) ⟨Nat.le_of_ble_eq_true rfl, Nat.le_of_ble_eq_true rfl⟩ rfl rfl) iX.1 rfl rfl rfl rfl rfl (Nat.le_of_ble_eq_true rfl) (dkAt dkL_law_10 60 (q := (1638, .invokevirtual 211, 3)) rfl) ⟨Nat.le_trans (Nat.le_add_right ck 37) hck, Nat.le_trans (Nat.le_add_right cn 902) hcn⟩ (pc2 := 1641) rfl ?_
  refine k_aload_n C (pc2 := 1642) (dkAt dkL_law_10 61 (q := (1641, .aload_n 2, 1)) rfl) rfl rfl 1 rfl ?_
  refine k_arg C hX hbl hbA (j := 1) (w := y (i + 1)) rfl (by omega) hL rfl (dkAt dkL_law_10 62 (q := (1642, .aload_n 0, 1)) rfl) (dkAt dkL_law_10 63 (q := (1643, .iload_n 3, 1)) rfl) (dkAt dkL_law_10 64 (q := (1644, .iconst 1, 1)) rfl) (dkAt dkL_law_10 65 (q := (1645, .iadd, 1)) rfl) (dkAt dkL_law_10 66 (q := (1646, .iaload, 1)) rfl) (pc2 := 1647) rfl ?_
  refine k_callV C (As := [.int (y (i + 1))]) (rest := [.int _]) (o := 69) (mc := 0) (ms := 0) (ct_X8_withHost l G sh [] 69 iM (y (i + 1)) M2 _ e2) (cl_L_214 (hts_of C) ⟨Nat.le_of_ble_eq_true rfl, Nat.le_of_ble_eq_true rfl⟩ rfl rfl) iM.1 rfl rfl rfl rfl rfl (Nat.le_of_ble_eq_true rfl) (dkAt dkL_law_10 67 (q := (1647, .invokevirtual 214, 3)) rfl) ⟨Nat.le_trans (Nat.le_add_right ck 37) hck, Nat.le_trans (Nat.le_add_right cn 902) hcn⟩ (pc2 := 1650) rfl ?_
  refine k_icmp_eq C (tgt := 2073) (pc2 := 1653) (A := some ()) (B := none) (r := ()) (dkAt dkL_law_10 68 (q := (1650, .if_icmp .eq 423, 3)) rfl) (by decide) rfl (if_pos rfl) (fun _ => ?_) (fun z => by cases z)
  exact hk sh _ _ _ _ I3 (Nat.le_add_right ck 37) (Nat.le_add_right cn 902)
end LAWS
