/-! the law's cases -/
section LAWS
variable {p : Program} {l : Launch} {e : Env} {s : State} {m : MethodId} {args : Array Value} {below : List Frame} {meth : Method} {c : Code} {G : GG} {Q : State → Prop} {sh : List (Nat × Nat)} {ck cn : Nat} {M : Mm} {b L i : Nat} {y : Nat → Int32} {a : AB}
set_option maxRecDepth 100000 in
set_option maxHeartbeats 4000000 in
/-- 48: most -/
theorem lc_48 (D : LawC p s m c args meth G b L y i) (I : Inv sh a M) (hck : ck + 37 ≤ 600000) (hcn : cn + 902 ≤ 7302250) (hk : Cont p l e s m args below meth c G Q b i ck cn) : KW p l e room_1 s m args below meth c G 4 Q sh [] ck cn M 33 (lvL G b i) [.int (nI 48)] := by
  obtain ⟨C, hX, hbl, hbA, hL, hi⟩ := D
  obtain ⟨iX, iM, iC, iR, iW, iK⟩ := id I
  obtain ⟨M2, e1, r1, f1⟩ := X7_most iC (y (i + 1)) (y (i + 2)) (y (i + 3))
  obtain ⟨M3, e2, r2, f2, f3⟩ := X8_most (iR.frC f1) (y (i + 1)) (y (i + 2)) (y (i + 3))
  have I3 := I.step r1 f1 r2 f2 f3 (W_most iW (y (i + 1)) (y (i + 2)) (y (i + 3)))
  refine k_swIn C (tgt := 1655) (off := 1622) (dkAt dkL_law_0 21 (q := (33, .tableswitch 2040 0 63 #[271, 314, 387, 450, 484, 507, 540, 573, 596, 639, 698, 731, 764, 787, 800, 813, 846, 879, 902, 925, 948, 961, 994, 1037, 1080, 1123, 1156, 1179, 1202, 1215, 1248, 1261, 1284, 1297, 1310, 1343, 1376, 1399, 1422, 1455, 1468, 1491, 1514, 1537, 1550, 1573, 1586, 1599, 1622, 1665, 1688, 1721, 1754, 1787, 1830, 1863, 1886, 1909, 1932, 1945, 1968, 1991, 2004, 2017], 271)) rfl) (by decide) (by decide) rfl (by decide) ?_
  refine k_aload_n C (pc2 := 1656) (dkAt dkL_law_10 71 (q := (1655, .aload_n 1, 1)) rfl) rfl rfl 2 rfl ?_
  refine k_arg C hX hbl hbA (j := 1) (w := y (i + 1)) rfl (by omega) hL rfl (dkAt dkL_law_10 72 (q := (1656, .aload_n 0, 1)) rfl) (dkAt dkL_law_10 73 (q := (1657, .iload_n 3, 1)) rfl) (dkAt dkL_law_10 74 (q := (1658, .iconst 1, 1)) rfl) (dkAt dkL_law_10 75 (q := (1659, .iadd, 1)) rfl) (dkAt dkL_law_10 76 (q := (1660, .iaload, 1)) rfl) (pc2 := 1661) rfl ?_
  refine k_arg C hX hbl hbA (j := 2) (w := y (i + 2)) rfl (by omega) hL rfl (dkAt dkL_law_10 77 (q := (1661, .aload_n 0, 1)) rfl) (dkAt dkL_law_10 78 (q := (1662, .iload_n 3, 1)) rfl) (dkAt dkL_law_10 79 (q := (1663, .iconst 2, 1)) rfl) (dkAt dkL_law_10 80 (q := (1664, .iadd, 1)) rfl) (dkAt dkL_law_10 81 (q := (1665, .iaload, 1)) rfl) (pc2 := 1666) rfl ?_
  refine k_arg C hX hbl hbA (j := 3) (w := y (i + 3)) rfl (by omega) hL rfl (dkAt dkL_law_10 82 (q := (1666, .aload_n 0, 1)) rfl) (dkAt dkL_law_10 83 (q := (1667, .iload_n 3, 1)) rfl) (dkAt dkL_law_10 84 (q := (1668, .iconst 3, 1)) rfl) (dkAt dkL_law_10 85 (q := (1669, .iadd, 1)) rfl) (dkAt dkL_law_10 86 (q := (1670, .iaload, 1)) rfl) (pc2 := 1671) rfl ?_
  refine k_callV C (As := [.int (y (i + 1)), .int (y (i + 2)), .int (y (i + 3))]) (rest := []) (o := 0) (mc := 0) (ms := 0) (ct_X7_most l G sh [] iX (y (i + 1)) (y (i + 2)) (y (i + 3)) M _ e1) (cl_L_215 (hts_of C) ⟨Nat.le_of_ble_eq_true rfl, Nat.le_of_ble_eq_true rfl⟩ rfl rfl) iX.1 rfl rfl rfl rfl rfl (Nat.le_of_ble_eq_true rfl) (dkAt dkL_law_10 87 (q := (1671, .invokevirtual 215, 3)) rfl) ⟨Nat.le_trans (Nat.le_add_right ck 37) hck, Nat.le_trans (Nat.le_add_right cn 902) hcn⟩ (pc2 := 1674) rfl ?_
  refine k_aload_n C (pc2 := 1675) (dkAt dkL_law_10 88 (q := (1674, .aload_n 2, 1)) rfl) rfl rfl 1 rfl ?_
  refine k_arg C hX hbl hbA (j := 1) (w := y (i + 1)) rfl (by omega) hL rfl (dkAt dkL_law_10 89 (q := (1675, .aload_n 0, 1)) rfl) (dkAt dkL_law_10 90 (q := (1676, .iload_n 3, 1)) rfl) (dkAt dkL_law_10 91 (q := (1677, .iconst 1, 1)) rfl) (dkAt dkL_law_10 92 (q := (1678, .iadd, 1)) rfl) (dkAt dkL_law_10 93 (q := (1679, .iaload, 1)) rfl) (pc2 := 1680) rfl ?_
  refine k_arg C hX hbl hbA (j := 2) (w := y (i + 2)) rfl (by omega) hL rfl (dkAt dkL_law_10 94 (q := (1680, .aload_n 0, 1)) rfl) (dkAt dkL_law_10 95 (q := (1681, .iload_n 3, 1)) rfl) (dkAt dkL_law_10 96 (q := (1682, .iconst 2, 1)) rfl) (dkAt dkL_law_10 97 (q := (1683, .iadd, 1)) rfl) (dkAt dkL_law_10 98 (q := (1684, .iaload, 1)) rfl) (pc2 := 1685) rfl ?_
  refine k_arg C hX hbl hbA (j := 3) (w := y (i + 3)) rfl (by omega) hL rfl (dkAt dkL_law_10 99 (q := (1685, .aload_n 0, 1)) rfl) (dkAt dkL_law_11 0 (q := (1686, .iload_n 3, 1)) rfl) (dkAt dkL_law_11 1 (q := (1687, .iconst 3, 1)) rfl) (dkAt dkL_law_11 2 (q := (1688, .iadd, 1)) rfl) (dkAt dkL_law_11 3 (q := (1689, .iaload, 1)) rfl) (pc2 := 1690) rfl ?_
  refine k_callV C (As := [.int (y (i + 1)), .int (y (i + 2)), .int (y (i + 3))]) (rest := [.int _]) (o := 69) (mc := 0) (ms := 0) (ct_X8_most l G sh [] 69 iM (y (i + 1)) (y (i + 2)) (y (i + 3)) M2 _ e2) (cl_L_218 (hts_of C) ⟨Nat.le_of_ble_eq_true rfl, Nat.le_of_ble_eq_true rfl⟩ rfl rfl) iM.1 rfl rfl rfl rfl rfl (Nat.le_of_ble_eq_true rfl) (dkAt dkL_law_11 4 (q := (1690, .invokevirtual 218, 3)) rfl) ⟨Nat.le_trans (Nat.le_add_right ck 37) hck, Nat.le_trans (Nat.le_add_right cn 902) hcn⟩ (pc2 := 1693) rfl ?_
  refine k_icmp_eq C (tgt := 2073) (pc2 := 1696) (A := some ()) (B := none) (r := ()) (dkAt dkL_law_11 5 (q := (1693, .if_icmp .eq 380, 3)) rfl) (by decide) rfl (if_pos rfl) (fun _ => ?_) (fun z => by cases z)
  exact hk sh _ _ _ _ I3 (Nat.le_add_right ck 37) (Nat.le_add_right cn 902)
set_option maxRecDepth 100000 in
set_option maxHeartbeats 4000000 in
/-- 49: later -/
theorem lc_49 (D : LawC p s m c args meth G b L y i) (I : Inv sh a M) (hck : ck + 37 ≤ 600000) (hcn : cn + 902 ≤ 7302250) (hk : Cont p l e s m args below meth c G Q b i ck cn) : KW p l e room_1 s m args below meth c G 4 Q sh [] ck cn M 33 (lvL G b i) [.int (nI 49)] := by
  obtain ⟨C, hX, hbl, hbA, hL, hi⟩ := D
  obtain ⟨iX, iM, iC, iR, iW, iK⟩ := id I
  obtain ⟨M2, e1, r1, f1⟩ := X7_later iC iW.1 (y (i + 1))
  obtain ⟨M3, e2, r2, f2, f3⟩ := X8_later (iR.frC f1) iW.1 (y (i + 1))
  have I3 := I.step r1 f1 r2 f2 f3 (W_later iW (y (i + 1)))
  refine k_swIn C (tgt := 1698) (off := 1665) (dkAt dkL_law_0 21 (q := (33, .tableswitch 2040 0 63 #[271, 314, 387, 450, 484, 507, 540, 573, 596, 639, 698, 731, 764, 787, 800, 813, 846, 879, 902, 925, 948, 961, 994, 1037, 1080, 1123, 1156, 1179, 1202, 1215, 1248, 1261, 1284, 1297, 1310, 1343, 1376, 1399, 1422, 1455, 1468, 1491, 1514, 1537, 1550, 1573, 1586, 1599, 1622, 1665, 1688, 1721, 1754, 1787, 1830, 1863, 1886, 1909, 1932, 1945, 1968, 1991, 2004, 2017], 271)) rfl) (by decide) (by decide) rfl (by decide) ?_
  refine k_aload_n C (pc2 := 1699) (dkAt dkL_law_11 8 (q := (1698, .aload_n 1, 1)) rfl) rfl rfl 2 rfl ?_
  refine k_arg C hX hbl hbA (j := 1) (w := y (i + 1)) rfl (by omega) hL rfl (dkAt dkL_law_11 9 (q := (1699, .aload_n 0, 1)) rfl) (dkAt dkL_law_11 10 (q := (1700, .iload_n 3, 1)) rfl) (dkAt dkL_law_11 11 (q := (1701, .iconst 1, 1)) rfl) (dkAt dkL_law_11 12 (q := (1702, .iadd, 1)) rfl) (dkAt dkL_law_11 13 (q := (1703, .iaload, 1)) rfl) (pc2 := 1704) rfl ?_
  refine k_callV C (As := [.int (y (i + 1))]) (rest := []) (o := 0) (mc := 0) (ms := 0) (ct_X7_later l G sh [] iX (y (i + 1)) M _ e1) (cl_L_219 (hts_of C) ⟨Nat.le_of_ble_eq_true rfl, Nat.le_of_ble_eq_true rfl⟩ rfl rfl) iX.1 rfl rfl rfl rfl rfl (Nat.le_of_ble_eq_true rfl) (dkAt dkL_law_11 14 (q := (1704, .invokevirtual 219, 3)) rfl) ⟨Nat.le_trans (Nat.le_add_right ck 37) hck, Nat.le_trans (Nat.le_add_right cn 902) hcn⟩ (pc2 := 1707) rfl ?_
  refine k_aload_n C (pc2 := 1708) (dkAt dkL_law_11 15 (q := (1707, .aload_n 2, 1)) rfl) rfl rfl 1 rfl ?_
  refine k_arg C hX hbl hbA (j := 1) (w := y (i + 1)) rfl (by omega) hL rfl (dkAt dkL_law_11 16 (q := (1708, .aload_n 0, 1)) rfl) (dkAt dkL_law_11 17 (q := (1709, .iload_n 3, 1)) rfl) (dkAt dkL_law_11 18 (q := (1710, .iconst 1, 1)) rfl) (dkAt dkL_law_11 19 (q := (1711, .iadd, 1)) rfl) (dkAt dkL_law_11 20 (q := (1712, .iaload, 1)) rfl) (pc2 := 1713) rfl ?_
  refine k_callV C (As := [.int (y (i + 1))]) (rest := [.int _]) (o := 69) (mc := 0) (ms := 0) (ct_X8_later l G sh [] 69 iM (y (i + 1)) M2 _ e2) (cl_L_222 (hts_of C) ⟨Nat.le_of_ble_eq_true rfl, Nat.le_of_ble_eq_true rfl⟩ rfl rfl) iM.1 rfl rfl rfl rfl rfl (Nat.le_of_ble_eq_true rfl) (dkAt dkL_law_11 21 (q := (1713, .invokevirtual 222, 3)) rfl) ⟨Nat.le_trans (Nat.le_add_right ck 37) hck, Nat.le_trans (Nat.le_add_right cn 902) hcn⟩ (pc2 := 1716) rfl ?_
  refine k_icmp_eq C (tgt := 2073) (pc2 := 1719) (A := some ()) (B := none) (r := ()) (dkAt dkL_law_11 22 (q := (1716, .if_icmp .eq 357, 3)) rfl) (by decide) rfl (if_pos rfl) (fun _ => ?_) (fun z => by cases z)
  exact hk sh _ _ _ _ I3 (Nat.le_add_right ck 37) (Nat.le_add_right cn 902)
set_option maxRecDepth 100000 in
set_option maxHeartbeats 4000000 in
/-- 50: meant -/
theorem lc_50 (D : LawC p s m c args meth G b L y i) (I : Inv sh a M) (hck : ck + 37 ≤ 600000) (hcn : cn + 902 ≤ 7302250) (hk : Cont p l e s m args below meth c G Q b i ck cn) : KW p l e room_1 s m args below meth c G 4 Q sh [] ck cn M 33 (lvL G b i) [.int (nI 50)] := by
  obtain ⟨C, hX, hbl, hbA, hL, hi⟩ := D
  obtain ⟨iX, iM, iC, iR, iW, iK⟩ := id I
  obtain ⟨M2, e1, r1, f1⟩ := X7_meant iC iW.1 (y (i + 1)) (y (i + 2))
  obtain ⟨M3, e2, r2, f2, f3⟩ := X8_meant (iR.frC f1) iW.1 (y (i + 1)) (y (i + 2))
  have I3 := I.step r1 f1 r2 f2 f3 (W_meant iW (y (i + 1)) (y (i + 2)))
  refine k_swIn C (tgt := 1721) (off := 1688) (dkAt dkL_law_0 21 (q := (33, .tableswitch 2040 0 63 #[271, 314, 387, 450, 484, 507, 540, 573, 596, 639, 698, 731, 764, 787, 800, 813, 846, 879, 902, 925, 948, 961, 994, 1037, 1080, 1123, 1156, 1179, 1202, 1215, 1248, 1261, 1284, 1297, 1310, 1343, 1376, 1399, 1422, 1455, 1468, 1491, 1514, 1537, 1550, 1573, 1586, 1599, 1622, 1665, 1688, 1721, 1754, 1787, 1830, 1863, 1886, 1909, 1932, 1945, 1968, 1991, 2004, 2017], 271)) rfl) (by decide) (by decide) rfl (by decide) ?_
  refine k_aload_n C (pc2 := 1722) (dkAt dkL_law_11 25 (q := (1721, .aload_n 1, 1)) rfl) rfl rfl 2 rfl ?_
  refine k_arg C hX hbl hbA (j := 1) (w := y (i + 1)) rfl (by omega) hL rfl (dkAt dkL_law_11 26 (q := (1722, .aload_n 0, 1)) rfl) (dkAt dkL_law_11 27 (q := (1723, .iload_n 3, 1)) rfl) (dkAt dkL_law_11 28 (q := (1724, .iconst 1, 1)) rfl) (dkAt dkL_law_11 29 (q := (1725, .iadd, 1)) rfl) (dkAt dkL_law_11 30 (q := (1726, .iaload, 1)) rfl) (pc2 := 1727) rfl ?_
  refine k_arg C hX hbl hbA (j := 2) (w := y (i + 2)) rfl (by omega) hL rfl (dkAt dkL_law_11 31 (q := (1727, .aload_n 0, 1)) rfl) (dkAt dkL_law_11 32 (q := (1728, .iload_n 3, 1)) rfl) (dkAt dkL_law_11 33 (q := (1729, .iconst 2, 1)) rfl) (dkAt dkL_law_11 34 (q := (1730, .iadd, 1)) rfl) (dkAt dkL_law_11 35 (q := (1731, .iaload, 1)) rfl) (pc2 := 1732) rfl ?_
  refine k_callV C (As := [.int (y (i + 1)), .int (y (i + 2))]) (rest := []) (o := 0) (mc := 0) (ms := 0) (ct_X7_meant l G sh [] iX (y (i + 1)) (y (i + 2)) M _ e1) (cl_L_223 (hts_of C) ⟨Nat.le_of_ble_eq_true rfl, Nat.le_of_ble_eq_true rfl⟩ rfl rfl) iX.1 rfl rfl rfl rfl rfl (Nat.le_of_ble_eq_true rfl) (dkAt dkL_law_11 36 (q := (1732, .invokevirtual 223, 3)) rfl) ⟨Nat.le_trans (Nat.le_add_right ck 37) hck, Nat.le_trans (Nat.le_add_right cn 902) hcn⟩ (pc2 := 1735) rfl ?_
  refine k_aload_n C (pc2 := 1736) (dkAt dkL_law_11 37 (q := (1735, .aload_n 2, 1)) rfl) rfl rfl 1 rfl ?_
  refine k_arg C hX hbl hbA (j := 1) (w := y (i + 1)) rfl (by omega) hL rfl (dkAt dkL_law_11 38 (q := (1736, .aload_n 0, 1)) rfl) (dkAt dkL_law_11 39 (q := (1737, .iload_n 3, 1)) rfl) (dkAt dkL_law_11 40 (q := (1738, .iconst 1, 1)) rfl) (dkAt dkL_law_11 41 (q := (1739, .iadd, 1)) rfl) (dkAt dkL_law_11 42 (q := (1740, .iaload, 1)) rfl) (pc2 := 1741) rfl ?_
  refine k_arg C hX hbl hbA (j := 2) (w := y (i + 2)) rfl (by omega) hL rfl (dkAt dkL_law_11 43 (q := (1741, .aload_n 0, 1)) rfl) (dkAt dkL_law_11 44 (q := (1742, .iload_n 3, 1)) rfl) (dkAt dkL_law_11 45 (q := (1743, .iconst 2, 1)) rfl) (dkAt dkL_law_11 46 (q := (1744, .iadd, 1)) rfl) (dkAt dkL_law_11 47 (q := (1745, .iaload, 1)) rfl) (pc2 := 1746) rfl ?_
  refine k_callV C (As := [.int (y (i + 1)), .int (y (i + 2))]) (rest := [.int _]) (o := 69) (mc := 0) (ms := 0) (ct_X8_meant l G sh [] 69 iM (y (i + 1)) (y (i + 2)) M2 _ e2) (cl_L_226 (hts_of C) ⟨Nat.le_of_ble_eq_true rfl, Nat.le_of_ble_eq_true rfl⟩ rfl rfl) iM.1 rfl rfl rfl rfl rfl (Nat.le_of_ble_eq_true rfl) (dkAt dkL_law_11 48 (q := (1746, .invokevirtual 226, 3)) rfl) ⟨Nat.le_trans (Nat.le_add_right ck 37) hck, Nat.le_trans (Nat.le_add_right cn 902) hcn⟩ (pc2 := 1749) rfl ?_
  refine k_icmp_eq C (tgt := 2073) (pc2 := 1752) (A := some ()) (B := none) (r := ()) (dkAt dkL_law_11 49 (q := (1749, .if_icmp .eq 324, 3)) rfl) (by decide) rfl (if_pos rfl) (fun _ => ?_) (fun z => by cases z)
  exact hk sh _ _ _ _ I3 (Nat.le_add_right ck 37) (Nat.le_add_right cn 902)
set_option maxRecDepth 100000 in
set_option maxHeartbeats 4000000 in
/-- 51: freed -/
theorem lc_51 (D : LawC p s m c args meth G b L y i) (I : Inv sh a M) (hck : ck + 37 ≤ 600000) (hcn : cn + 902 ≤ 7302250) (hk : Cont p l e s m args below meth c G Q b i ck cn) : KW p l e room_1 s m args below meth c G 4 Q sh [] ck cn M 33 (lvL G b i) [.int (nI 51)] := by
  obtain ⟨C, hX, hbl, hbA, hL, hi⟩ := D
  obtain ⟨iX, iM, iC, iR, iW, iK⟩ := id I
  obtain ⟨M2, e1, r1, f1⟩ := X7_freed iC iW.1 (y (i + 1)) (y (i + 2))
  obtain ⟨M3, e2, r2, f2, f3⟩ := X8_freed (iR.frC f1) iW.1 (y (i + 1)) (y (i + 2))
  have I3 := I.step r1 f1 r2 f2 f3 (W_freed iW (y (i + 1)) (y (i + 2)))
  refine k_swIn C (tgt := 1754) (off := 1721) (dkAt dkL_law_0 21 (q := (33, .tableswitch 2040 0 63 #[271, 314, 387, 450, 484, 507, 540, 573, 596, 639, 698, 731, 764, 787, 800, 813, 846, 879, 902, 925, 948, 961, 994, 1037, 1080, 1123, 1156, 1179, 1202, 1215, 1248, 1261, 1284, 1297, 1310, 1343, 1376, 1399, 1422, 1455, 1468, 1491, 1514, 1537, 1550, 1573, 1586, 1599, 1622, 1665, 1688, 1721, 1754, 1787, 1830, 1863, 1886, 1909, 1932, 1945, 1968, 1991, 2004, 2017], 271)) rfl) (by decide) (by decide) rfl (by decide) ?_
  refine k_aload_n C (pc2 := 1755) (dkAt dkL_law_11 52 (q := (1754, .aload_n 1, 1)) rfl) rfl rfl 2 rfl ?_
  refine k_arg C hX hbl hbA (j := 1) (w := y (i + 1)) rfl (by omega) hL rfl (dkAt dkL_law_11 53 (q := (1755, .aload_n 0, 1)) rfl) (dkAt dkL_law_11 54 (q := (1756, .iload_n 3, 1)) rfl) (dkAt dkL_law_11 55 (q := (1757, .iconst 1, 1)) rfl) (dkAt dkL_law_11 56 (q := (1758, .iadd, 1)) rfl) (dkAt dkL_law_11 57 (q := (1759, .iaload, 1)) rfl) (pc2 := 1760) rfl ?_
  refine k_arg C hX hbl hbA (j := 2) (w := y (i + 2)) rfl (by omega) hL rfl (dkAt dkL_law_11 58 (q := (1760, .aload_n 0, 1)) rfl) (dkAt dkL_law_11 59 (q := (1761, .iload_n 3, 1)) rfl) (dkAt dkL_law_11 60 (q := (1762, .iconst 2, 1)) rfl) (dkAt dkL_law_11 61 (q := (1763, .iadd, 1)) rfl) (dkAt dkL_law_11 62 (q := (1764, .iaload, 1)) rfl) (pc2 := 1765) rfl ?_
  refine k_callV C (As := [.int (y (i + 1)), .int (y (i + 2))]) (rest := []) (o := 0) (mc := 0) (ms := 0) (ct_X7_freed l G sh [] iX (y (i + 1)) (y (i + 2)) M _ e1) (cl_L_227 (hts_of C) ⟨Nat.le_of_ble_eq_true rfl, Nat.le_of_ble_eq_true rfl⟩ rfl rfl) iX.1 rfl rfl rfl rfl rfl (Nat.le_of_ble_eq_true rfl) (dkAt dkL_law_11 63 (q := (1765, .invokevirtual 227, 3)) rfl) ⟨Nat.le_trans (Nat.le_add_right ck 37) hck, Nat.le_trans (Nat.le_add_right cn 902) hcn⟩ (pc2 := 1768) rfl ?_
  refine k_aload_n C (pc2 := 1769) (dkAt dkL_law_11 64 (q := (1768, .aload_n 2, 1)) rfl) rfl rfl 1 rfl ?_
  refine k_arg C hX hbl hbA (j := 1) (w := y (i + 1)) rfl (by omega) hL rfl (dkAt dkL_law_11 65 (q := (1769, .aload_n 0, 1)) rfl) (dkAt dkL_law_11 66 (q := (1770, .iload_n 3, 1)) rfl) (dkAt dkL_law_11 67 (q := (1771, .iconst 1, 1)) rfl) (dkAt dkL_law_11 68 (q := (1772, .iadd, 1)) rfl) (dkAt dkL_law_11 69 (q := (1773, .iaload, 1)) rfl) (pc2 := 1774) rfl ?_
  refine k_arg C hX hbl hbA (j := 2) (w := y (i + 2)) rfl (by omega) hL rfl (dkAt dkL_law_11 70 (q := (1774, .aload_n 0, 1)) rfl) (dkAt dkL_law_11 71 (q := (1775, .iload_n 3, 1)) rfl) (dkAt dkL_law_11 72 (q := (1776, .iconst 2, 1)) rfl) (dkAt dkL_law_11 73 (q := (1777, .iadd, 1)) rfl) (dkAt dkL_law_11 74 (q := (1778, .iaload, 1)) rfl) (pc2 := 1779) rfl ?_
  refine k_callV C (As := [.int (y (i + 1)), .int (y (i + 2))]) (rest := [.int _]) (o := 69) (mc := 0) (ms := 0) (ct_X8_freed l G sh [] 69 iM (y (i + 1)) (y (i + 2)) M2 _ e2) (cl_L_230 (hts_of C) ⟨Nat.le_of_ble_eq_true rfl, Nat.le_of_ble_eq_true rfl⟩ rfl rfl) iM.1 rfl rfl rfl rfl rfl (Nat.le_of_ble_eq_true rfl) (dkAt dkL_law_11 75 (q := (1779, .invokevirtual 230, 3)) rfl) ⟨Nat.le_trans (Nat.le_add_right ck 37) hck, Nat.le_trans (Nat.le_add_right cn 902) hcn⟩ (pc2 := 1782) rfl ?_
  refine k_icmp_eq C (tgt := 2073) (pc2 := 1785) (A := some ()) (B := none) (r := ()) (dkAt dkL_law_11 76 (q := (1782, .if_icmp .eq 291, 3)) rfl) (by decide) rfl (if_pos rfl) (fun _ => ?_) (fun z => by cases z)
  exact hk sh _ _ _ _ I3 (Nat.le_add_right ck 37) (Nat.le_add_right cn 902)
set_option maxRecDepth 100000 in
set_option maxHeartbeats 4000000 in
/-- 52: judge -/
theorem lc_52 (D : LawC p s m c args meth G b L y i) (I : Inv sh a M) (hck : ck + 37 ≤ 600000) (hcn : cn + 902 ≤ 7302250) (hk : Cont p l e s m args below meth c G Q b i ck cn) : KW p l e room_1 s m args below meth c G 4 Q sh [] ck cn M 33 (lvL G b i) [.int (nI 52)] := by
  obtain ⟨C, hX, hbl, hbA, hL, hi⟩ := D
  obtain ⟨iX, iM, iC, iR, iW, iK⟩ := id I
  obtain ⟨M2, e1, r1, f1⟩ := X7_judge iC iW.1 (y (i + 1)) (y (i + 2))
  obtain ⟨M3, e2, r2, f2, f3⟩ := X8_judge (iR.frC f1) iW.1 (y (i + 1)) (y (i + 2))
  have I3 := I.step r1 f1 r2 f2 f3 (W_judge iW (y (i + 1)) (y (i + 2)))
  refine k_swIn C (tgt := 1787) (off := 1754) (dkAt dkL_law_0 21 (q := (33, .tableswitch 2040 0 63 #[271, 314, 387, 450, 484, 507, 540, 573, 596, 639, 698, 731, 764, 787, 800, 813, 846, 879, 902, 925, 948, 961, 994, 1037, 1080, 1123, 1156, 1179, 1202, 1215, 1248, 1261, 1284, 1297, 1310, 1343, 1376, 1399, 1422, 1455, 1468, 1491, 1514, 1537, 1550, 1573, 1586, 1599, 1622, 1665, 1688, 1721, 1754, 1787, 1830, 1863, 1886, 1909, 1932, 1945, 1968, 1991, 2004, 2017], 271)) rfl) (by decide) (by decide) rfl (by decide) ?_
  refine k_aload_n C (pc2 := 1788) (dkAt dkL_law_11 79 (q := (1787, .aload_n 1, 1)) rfl) rfl rfl 2 rfl ?_
  refine k_arg C hX hbl hbA (j := 1) (w := y (i + 1)) rfl (by omega) hL rfl (dkAt dkL_law_11 80 (q := (1788, .aload_n 0, 1)) rfl) (dkAt dkL_law_11 81 (q := (1789, .iload_n 3, 1)) rfl) (dkAt dkL_law_11 82 (q := (1790, .iconst 1, 1)) rfl) (dkAt dkL_law_11 83 (q := (1791, .iadd, 1)) rfl) (dkAt dkL_law_11 84 (q := (1792, .iaload, 1)) rfl) (pc2 := 1793) rfl ?_
  refine k_arg C hX hbl hbA (j := 2) (w := y (i + 2)) rfl (by omega) hL rfl (dkAt dkL_law_11 85 (q := (1793, .aload_n 0, 1)) rfl) (dkAt dkL_law_11 86 (q := (1794, .iload_n 3, 1)) rfl) (dkAt dkL_law_11 87 (q := (1795, .iconst 2, 1)) rfl) (dkAt dkL_law_11 88 (q := (1796, .iadd, 1)) rfl) (dkAt dkL_law_11 89 (q := (1797, .iaload, 1)) rfl) (pc2 := 1798) rfl ?_
  refine k_callV C (As := [.int (y (i + 1)), .int (y (i + 2))]) (rest := []) (o := 0) (mc := 0) (ms := 0) (ct_X7_judge l G sh [] iX (y (i + 1)) (y (i + 2)) M _ e1) (cl_L_231 (hts_of C) ⟨Nat.le_of_ble_eq_true rfl, Nat.le_of_ble_eq_true rfl⟩ rfl rfl) iX.1 rfl rfl rfl rfl rfl (Nat.le_of_ble_eq_true rfl) (dkAt dkL_law_11 90 (q := (1798, .invokevirtual 231, 3)) rfl) ⟨Nat.le_trans (Nat.le_add_right ck 37) hck, Nat.le_trans (Nat.le_add_right cn 902) hcn⟩ (pc2 := 1801) rfl ?_
  refine k_aload_n C (pc2 := 1802) (dkAt dkL_law_11 91 (q := (1801, .aload_n 2, 1)) rfl) rfl rfl 1 rfl ?_
  refine k_arg C hX hbl hbA (j := 1) (w := y (i + 1)) rfl (by omega) hL rfl (dkAt dkL_law_11 92 (q := (1802, .aload_n 0, 1)) rfl) (dkAt dkL_law_11 93 (q := (1803, .iload_n 3, 1)) rfl) (dkAt dkL_law_11 94 (q := (1804, .iconst 1, 1)) rfl) (dkAt dkL_law_11 95 (q := (1805, .iadd, 1)) rfl) (dkAt dkL_law_11 96 (q := (1806, .iaload, 1)) rfl) (pc2 := 1807) rfl ?_
  refine k_arg C hX hbl hbA (j := 2) (w := y (i + 2)) rfl (by omega) hL rfl (dkAt dkL_law_11 97 (q := (1807, .aload_n 0, 1)) rfl) (dkAt dkL_law_11 98 (q := (1808, .iload_n 3, 1)) rfl) (dkAt dkL_law_11 99 (q := (1809, .iconst 2, 1)) rfl) (dkAt dkL_law_12 0 (q := (1810, .iadd, 1)) rfl) (dkAt dkL_law_12 1 (q := (1811, .iaload, 1)) rfl) (pc2 := 1812) rfl ?_
  refine k_callV C (As := [.int (y (i + 1)), .int (y (i + 2))]) (rest := [.int _]) (o := 69) (mc := 0) (ms := 0) (ct_X8_judge l G sh [] 69 iM (y (i + 1)) (y (i + 2)) M2 _ e2) (cl_L_234 (hts_of C) ⟨Nat.le_of_ble_eq_true rfl, Nat.le_of_ble_eq_true rfl⟩ rfl rfl) iM.1 rfl rfl rfl rfl rfl (Nat.le_of_ble_eq_true rfl) (dkAt dkL_law_12 2 (q := (1812, .invokevirtual 234, 3)) rfl) ⟨Nat.le_trans (Nat.le_add_right ck 37) hck, Nat.le_trans (Nat.le_add_right cn 902) hcn⟩ (pc2 := 1815) rfl ?_
  refine k_icmp_eq C (tgt := 2073) (pc2 := 1818) (A := some ()) (B := none) (r := ()) (dkAt dkL_law_12 3 (q := (1815, .if_icmp .eq 258, 3)) rfl) (by decide) rfl (if_pos rfl) (fun _ => ?_) (fun z => by cases z)
  exact hk sh _ _ _ _ I3 (Nat.le_add_right ck 37) (Nat.le_add_right cn 902)
set_option maxRecDepth 100000 in
set_option maxHeartbeats 4000000 in
/-- 53: leftOut -/
theorem lc_53 (D : LawC p s m c args meth G b L y i) (I : Inv sh a M) (hck : ck + 37 ≤ 600000) (hcn : cn + 902 ≤ 7302250) (hk : Cont p l e s m args below meth c G Q b i ck cn) : KW p l e room_1 s m args below meth c G 4 Q sh [] ck cn M 33 (lvL G b i) [.int (nI 53)] := by
  obtain ⟨C, hX, hbl, hbA, hL, hi⟩ := D
  obtain ⟨iX, iM, iC, iR, iW, iK⟩ := id I
  obtain ⟨M2, e1, r1, f1⟩ := X7_leftOut iC iW.1 (y (i + 1)) (y (i + 2)) (y (i + 3))
  obtain ⟨M3, e2, r2, f2, f3⟩ := X8_leftOut (iR.frC f1) iW.1 (y (i + 1)) (y (i + 2)) (y (i + 3))
  have I3 := I.step r1 f1 r2 f2 f3 (W_leftOut iW (y (i + 1)) (y (i + 2)) (y (i + 3)))
  refine k_swIn C (tgt := 1820) (off := 1787) (dkAt dkL_law_0 21 (q := (33, .tableswitch 2040 0 63 #[271, 314, 387, 450, 484, 507, 540, 573, 596, 639, 698, 731, 764, 787, 800, 813, 846, 879, 902, 925, 948, 961, 994, 1037, 1080, 1123, 1156, 1179, 1202, 1215, 1248, 1261, 1284, 1297, 1310, 1343, 1376, 1399, 1422, 1455, 1468, 1491, 1514, 1537, 1550, 1573, 1586, 1599, 1622, 1665, 1688, 1721, 1754, 1787, 1830, 1863, 1886, 1909, 1932, 1945, 1968, 1991, 2004, 2017], 271)) rfl) (by decide) (by decide) rfl (by decide) ?_
  refine k_aload_n C (pc2 := 1821) (dkAt dkL_law_12 6 (q := (1820, .aload_n 1, 1)) rfl) rfl rfl 2 rfl ?_
  refine k_arg C hX hbl hbA (j := 1) (w := y (i + 1)) rfl (by omega) hL rfl (dkAt dkL_law_12 7 (q := (1821, .aload_n 0, 1)) rfl) (dkAt dkL_law_12 8 (q := (1822, .iload_n 3, 1)) rfl) (dkAt dkL_law_12 9 (q := (1823, .iconst 1, 1)) rfl) (dkAt dkL_law_12 10 (q := (1824, .iadd, 1)) rfl) (dkAt dkL_law_12 11 (q := (1825, .iaload, 1)) rfl) (pc2 := 1826) rfl ?_
  refine k_arg C hX hbl hbA (j := 2) (w := y (i + 2)) rfl (by omega) hL rfl (dkAt dkL_law_12 12 (q := (1826, .aload_n 0, 1)) rfl) (dkAt dkL_law_12 13 (q := (1827, .iload_n 3, 1)) rfl) (dkAt dkL_law_12 14 (q := (1828, .iconst 2, 1)) rfl) (dkAt dkL_law_12 15 (q := (1829, .iadd, 1)) rfl) (dkAt dkL_law_12 16 (q := (1830, .iaload, 1)) rfl) (pc2 := 1831) rfl ?_
  refine k_arg C hX hbl hbA (j := 3) (w := y (i + 3)) rfl (by omega) hL rfl (dkAt dkL_law_12 17 (q := (1831, .aload_n 0, 1)) rfl) (dkAt dkL_law_12 18 (q := (1832, .iload_n 3, 1)) rfl) (dkAt dkL_law_12 19 (q := (1833, .iconst 3, 1)) rfl) (dkAt dkL_law_12 20 (q := (1834, .iadd, 1)) rfl) (dkAt dkL_law_12 21 (q := (1835, .iaload, 1)) rfl) (pc2 := 1836) rfl ?_
  refine k_callV C (As := [.int (y (i + 1)), .int (y (i + 2)), .int (y (i + 3))]) (rest := []) (o := 0) (mc := 0) (ms := 0) (ct_X7_leftOut l G sh [] iX (y (i + 1)) (y (i + 2)) (y (i + 3)) M _ e1) (cl_L_235 (hts_of C) ⟨Nat.le_of_ble_eq_true rfl, Nat.le_of_ble_eq_true rfl⟩ rfl rfl) iX.1 rfl rfl rfl rfl rfl (Nat.le_of_ble_eq_true rfl) (dkAt dkL_law_12 22 (q := (1836, .invokevirtual 235, 3)) rfl) ⟨Nat.le_trans (Nat.le_add_right ck 37) hck, Nat.le_trans (Nat.le_add_right cn 902) hcn⟩ (pc2 := 1839) rfl ?_
  refine k_aload_n C (pc2 := 1840) (dkAt dkL_law_12 23 (q := (1839, .aload_n 2, 1)) rfl) rfl rfl 1 rfl ?_
  refine k_arg C hX hbl hbA (j := 1) (w := y (i + 1)) rfl (by omega) hL rfl (dkAt dkL_law_12 24 (q := (1840, .aload_n 0, 1)) rfl) (dkAt dkL_law_12 25 (q := (1841, .iload_n 3, 1)) rfl) (dkAt dkL_law_12 26 (q := (1842, .iconst 1, 1)) rfl) (dkAt dkL_law_12 27 (q := (1843, .iadd, 1)) rfl) (dkAt dkL_law_12 28 (q := (1844, .iaload, 1)) rfl) (pc2 := 1845) rfl ?_
  refine k_arg C hX hbl hbA (j := 2) (w := y (i + 2)) rfl (by omega) hL rfl (dkAt dkL_law_12 29 (q := (1845, .aload_n 0, 1)) rfl) (dkAt dkL_law_12 30 (q := (1846, .iload_n 3, 1)) rfl) (dkAt dkL_law_12 31 (q := (1847, .iconst 2, 1)) rfl) (dkAt dkL_law_12 32 (q := (1848, .iadd, 1)) rfl) (dkAt dkL_law_12 33 (q := (1849, .iaload, 1)) rfl) (pc2 := 1850) rfl ?_
  refine k_arg C hX hbl hbA (j := 3) (w := y (i + 3)) rfl (by omega) hL rfl (dkAt dkL_law_12 34 (q := (1850, .aload_n 0, 1)) rfl) (dkAt dkL_law_12 35 (q := (1851, .iload_n 3, 1)) rfl) (dkAt dkL_law_12 36 (q := (1852, .iconst 3, 1)) rfl) (dkAt dkL_law_12 37 (q := (1853, .iadd, 1)) rfl) (dkAt dkL_law_12 38 (q := (1854, .iaload, 1)) rfl) (pc2 := 1855) rfl ?_
  refine k_callV C (As := [.int (y (i + 1)), .int (y (i + 2)), .int (y (i + 3))]) (rest := [.int _]) (o := 69) (mc := 0) (ms := 0) (ct_X8_leftOut l G sh [] 69 iM (y (i + 1)) (y (i + 2)) (y (i + 3)) M2 _ e2) (cl_L_238 (hts_of C) ⟨Nat.le_of_ble_eq_true rfl, Nat.le_of_ble_eq_true rfl⟩ rfl rfl) iM.1 rfl rfl rfl rfl rfl (Nat.le_of_ble_eq_true rfl) (dkAt dkL_law_12 39 (q := (1855, .invokevirtual 238, 3)) rfl) ⟨Nat.le_trans (Nat.le_add_right ck 37) hck, Nat.le_trans (Nat.le_add_right cn 902) hcn⟩ (pc2 := 1858) rfl ?_
  refine k_icmp_eq C (tgt := 2073) (pc2 := 1861) (A := some ()) (B := none) (r := ()) (dkAt dkL_law_12 40 (q := (1858, .if_icmp .eq 215, 3)) rfl) (by decide) rfl (if_pos rfl) (fun _ => ?_) (fun z => by cases z)
  exact hk sh _ _ _ _ I3 (Nat.le_add_right ck 37) (Nat.le_add_right cn 902)
set_option maxRecDepth 100000 in
set_option maxHeartbeats 4000000 in
/-- 54: done -/
theorem lc_54 (D : LawC p s m c args meth G b L y i) (I : Inv sh a M) (hck : ck + 37 ≤ 600000) (hcn : cn + 902 ≤ 7302250) (hk : Cont p l e s m args below meth c G Q b i ck cn) : KW p l e room_1 s m args below meth c G 4 Q sh [] ck cn M 33 (lvL G b i) [.int (nI 54)] := by
  obtain ⟨C, hX, hbl, hbA, hL, hi⟩ := D
  obtain ⟨iX, iM, iC, iR, iW, iK⟩ := id I
  obtain ⟨M2, e1, r1, f1⟩ := X7_done iC iW.1 (y (i + 1)) (y (i + 2))
  obtain ⟨M3, e2, r2, f2, f3⟩ := X8_done (iR.frC f1) iW.1 (y (i + 1)) (y (i + 2))
  have I3 := I.step r1 f1 r2 f2 f3 (W_done iW (y (i + 1)) (y (i + 2)))
  refine k_swIn C (tgt := 1863) (off := 1830) (dkAt dkL_law_0 21 (q := (33, .tableswitch 2040 0 63 #[271, 314, 387, 450, 484, 507, 540, 573, 596, 639, 698, 731, 764, 787, 800, 813, 846, 879, 902, 925, 948, 961, 994, 1037, 1080, 1123, 1156, 1179, 1202, 1215, 1248, 1261, 1284, 1297, 1310, 1343, 1376, 1399, 1422, 1455, 1468, 1491, 1514, 1537, 1550, 1573, 1586, 1599, 1622, 1665, 1688, 1721, 1754, 1787, 1830, 1863, 1886, 1909, 1932, 1945, 1968, 1991, 2004, 2017], 271)) rfl) (by decide) (by decide) rfl (by decide) ?_
  refine k_aload_n C (pc2 := 1864) (dkAt dkL_law_12 43 (q := (1863, .aload_n 1, 1)) rfl) rfl rfl 2 rfl ?_
  refine k_arg C hX hbl hbA (j := 1) (w := y (i + 1)) rfl (by omega) hL rfl (dkAt dkL_law_12 44 (q := (1864, .aload_n 0, 1)) rfl) (dkAt dkL_law_12 45 (q := (1865, .iload_n 3, 1)) rfl) (dkAt dkL_law_12 46 (q := (1866, .iconst 1, 1)) rfl) (dkAt dkL_law_12 47 (q := (1867, .iadd, 1)) rfl) (dkAt dkL_law_12 48 (q := (1868, .iaload, 1)) rfl) (pc2 := 1869) rfl ?_
  refine k_arg C hX hbl hbA (j := 2) (w := y (i + 2)) rfl (by omega) hL rfl (dkAt dkL_law_12 49 (q := (1869, .aload_n 0, 1)) rfl) (dkAt dkL_law_12 50 (q := (1870, .iload_n 3, 1)) rfl) (dkAt dkL_law_12 51 (q := (1871, .iconst 2, 1)) rfl) (dkAt dkL_law_12 52 (q := (1872, .iadd, 1)) rfl) (dkAt dkL_law_12 53 (q := (1873, .iaload, 1)) rfl) (pc2 := 1874) rfl ?_
  refine k_callV C (As := [.int (y (i + 1)), .int (y (i + 2))]) (rest := []) (o := 0) (mc := 0) (ms := 0) (ct_X7_done l G sh [] iX (y (i + 1)) (y (i + 2)) M _ e1) (cl_L_239 (hts_of C) ⟨Nat.le_of_ble_eq_true rfl, Nat.le_of_ble_eq_true rfl⟩ rfl rfl) iX.1 rfl rfl rfl rfl rfl (Nat.le_of_ble_eq_true rfl) (dkAt dkL_law_12 54 (q := (1874, .invokevirtual 239, 3)) rfl) ⟨Nat.le_trans (Nat.le_add_right ck 37) hck, Nat.le_trans (Nat.le_add_right cn 902) hcn⟩ (pc2 := 1877) rfl ?_
  refine k_aload_n C (pc2 := 1878) (dkAt dkL_law_12 55 (q := (1877, .aload_n 2, 1)) rfl) rfl rfl 1 rfl ?_
  refine k_arg C hX hbl hbA (j := 1) (w := y (i + 1)) rfl (by omega) hL rfl (dkAt dkL_law_12 56 (q := (1878, .aload_n 0, 1)) rfl) (dkAt dkL_law_12 57 (q := (1879, .iload_n 3, 1)) rfl) (dkAt dkL_law_12 58 (q := (1880, .iconst 1, 1)) rfl) (dkAt dkL_law_12 59 (q := (1881, .iadd, 1)) rfl) (dkAt dkL_law_12 60 (q := (1882, .iaload, 1)) rfl) (pc2 := 1883) rfl ?_
  refine k_arg C hX hbl hbA (j := 2) (w := y (i + 2)) rfl (by omega) hL rfl (dkAt dkL_law_12 61 (q := (1883, .aload_n 0, 1)) rfl) (dkAt dkL_law_12 62 (q := (1884, .iload_n 3, 1)) rfl) (dkAt dkL_law_12 63 (q := (1885, .iconst 2, 1)) rfl) (dkAt dkL_law_12 64 (q := (1886, .iadd, 1)) rfl) (dkAt dkL_law_12 65 (q := (1887, .iaload, 1)) rfl) (pc2 := 1888) rfl ?_
  refine k_callV C (As := [.int (y (i + 1)), .int (y (i + 2))]) (rest := [.int _]) (o := 69) (mc := 0) (ms := 0) (ct_X8_done l G sh [] 69 iM (y (i + 1)) (y (i + 2)) M2 _ e2) (cl_L_242 (hts_of C) ⟨Nat.le_of_ble_eq_true rfl, Nat.le_of_ble_eq_true rfl⟩ rfl rfl) iM.1 rfl rfl rfl rfl rfl (Nat.le_of_ble_eq_true rfl) (dkAt dkL_law_12 66 (q := (1888, .invokevirtual 242, 3)) rfl) ⟨Nat.le_trans (Nat.le_add_right ck 37) hck, Nat.le_trans (Nat.le_add_right cn 902) hcn⟩ (pc2 := 1891) rfl ?_
  refine k_icmp_eq C (tgt := 2073) (pc2 := 1894) (A := some ()) (B := none) (r := ()) (dkAt dkL_law_12 67 (q := (1891, .if_icmp .eq 182, 3)) rfl) (by decide) rfl (if_pos rfl) (fun _ => ?_) (fun z => by cases z)
  exact hk sh _ _ _ _ I3 (Nat.le_add_right ck 37) (Nat.le_add_right cn 902)
set_option maxRecDepth 100000 in
set_option maxHeartbeats 4000000 in
/-- 55: dine -/
theorem lc_55 (D : LawC p s m c args meth G b L y i) (I : Inv sh a M) (hck : ck + 37 ≤ 600000) (hcn : cn + 902 ≤ 7302250) (hk : Cont p l e s m args below meth c G Q b i ck cn) : KW p l e room_1 s m args below meth c G 4 Q sh [] ck cn M 33 (lvL G b i) [.int (nI 55)] := by
  obtain ⟨C, hX, hbl, hbA, hL, hi⟩ := D
  obtain ⟨iX, iM, iC, iR, iW, iK⟩ := id I
  obtain ⟨M2, e1, r1, f1⟩ := X7_dine iC iW.1 (y (i + 1))
  obtain ⟨M3, e2, r2, f2, f3⟩ := X8_dine (iR.frC f1) iW.1 (y (i + 1))
  have I3 := I.step r1 f1 r2 f2 f3 (W_dine iW (y (i + 1)))
  refine k_swIn C (tgt := 1896) (off := 1863) (dkAt dkL_law_0 21 (q := (33, .tableswitch 2040 0 63 #[271, 314, 387, 450, 484, 507, 540, 573, 596, 639, 698, 731, 764, 787, 800, 813, 846, 879, 902, 925, 948, 961, 994, 1037, 1080, 1123, 1156, 1179, 1202, 1215, 1248, 1261, 1284, 1297, 1310, 1343, 1376, 1399, 1422, 1455, 1468, 1491, 1514, 1537, 1550, 1573, 1586, 1599, 1622, 1665, 1688, 1721, 1754, 1787, 1830, 1863, 1886, 1909, 1932, 1945, 1968, 1991, 2004, 2017], 271)) rfl) (by decide) (by decide) rfl (by decide) ?_
  refine k_aload_n C (pc2 := 1897) (dkAt dkL_law_12 70 (q := (1896, .aload_n 1, 1)) rfl) rfl rfl 2 rfl ?_
  refine k_arg C hX hbl hbA (j := 1) (w := y (i + 1)) rfl (by omega) hL rfl (dkAt dkL_law_12 71 (q := (1897, .aload_n 0, 1)) rfl) (dkAt dkL_law_12 72 (q := (1898, .iload_n 3, 1)) rfl) (dkAt dkL_law_12 73 (q := (1899, .iconst 1, 1)) rfl) (dkAt dkL_law_12 74 (q := (1900, .iadd, 1)) rfl) (dkAt dkL_law_12 75 (q := (1901, .iaload, 1)) rfl) (pc2 := 1902) rfl ?_
  refine k_callV C (As := [.int (y (i + 1))]) (rest := []) (o := 0) (mc := 0) (ms := 0) (ct_X7_dine l G sh [] iX (y (i + 1)) M _ e1) (cl_L_243 (hts_of C) ⟨Nat.le_of_ble_eq_true rfl, Nat.le_of_ble_eq_true rfl⟩ rfl rfl) iX.1 rfl rfl rfl rfl rfl (Nat.le_of_ble_eq_true rfl) (dkAt dkL_law_12 76 (q := (1902, .invokevirtual 243, 3)) rfl) ⟨Nat.le_trans (Nat.le_add_right ck 37) hck, Nat.le_trans (Nat.le_add_right cn 902) hcn⟩ (pc2 := 1905) rfl ?_
  refine k_aload_n C (pc2 := 1906) (dkAt dkL_law_12 77 (q := (1905, .aload_n 2, 1)) rfl) rfl rfl 1 rfl ?_
  refine k_arg C hX hbl hbA (j := 1) (w := y (i + 1)) rfl (by omega) hL rfl (dkAt dkL_law_12 78 (q := (1906, .aload_n 0, 1)) rfl) (dkAt dkL_law_12 79 (q := (1907, .iload_n 3, 1)) rfl) (dkAt dkL_law_12 80 (q := (1908, .iconst 1, 1)) rfl) (dkAt dkL_law_12 81 (q := (1909, .iadd, 1)) rfl) (dkAt dkL_law_12 82 (q := (1910, .iaload, 1)) rfl) (pc2 := 1911) rfl ?_
  refine k_callV C (As := [.int (y (i + 1))]) (rest := [.int _]) (o := 69) (mc := 0) (ms := 0) (ct_X8_dine l G sh [] 69 iM (y (i + 1)) M2 _ e2) (cl_L_246 (hts_of C) ⟨Nat.le_of_ble_eq_true rfl, Nat.le_of_ble_eq_true rfl⟩ rfl rfl) iM.1 rfl rfl rfl rfl rfl (Nat.le_of_ble_eq_true rfl) (dkAt dkL_law_12 83 (q := (1911, .invokevirtual 246, 3)) rfl) ⟨Nat.le_trans (Nat.le_add_right ck 37) hck, Nat.le_trans (Nat.le_add_right cn 902) hcn⟩ (pc2 := 1914) rfl ?_
  refine k_icmp_eq C (tgt := 2073) (pc2 := 1917) (A := some ()) (B := none) (r := ()) (dkAt dkL_law_12 84 (q := (1914, .if_icmp .eq 159, 3)) rfl) (by decide) rfl (if_pos rfl) (fun _ => ?_) (fun z => by cases z)
  exact hk sh _ _ _ _ I3 (Nat.le_add_right ck 37) (Nat.le_add_right cn 902)
set_option maxRecDepth 100000 in
set_option maxHeartbeats 4000000 in
/-- 56: clear -/
theorem lc_56 (D : LawC p s m c args meth G b L y i) (I : Inv sh a M) (hck : ck + 37 ≤ 600000) (hcn : cn + 902 ≤ 7302250) (hk : Cont p l e s m args below meth c G Q b i ck cn) : KW p l e room_1 s m args below meth c G 4 Q sh [] ck cn M 33 (lvL G b i) [.int (nI 56)] := by
  obtain ⟨C, hX, hbl, hbA, hL, hi⟩ := D
  obtain ⟨iX, iM, iC, iR, iW, iK⟩ := id I
  obtain ⟨M2, e1, r1, f1⟩ := X7_clear iC iW.1 (y (i + 1))
  obtain ⟨M3, e2, r2, f2, f3⟩ := X8_clear (iR.frC f1) iW.1 (y (i + 1))
  have I3 := I.step r1 f1 r2 f2 f3 (W_clear iW (y (i + 1)))
  refine k_swIn C (tgt := 1919) (off := 1886) (dkAt dkL_law_0 21 (q := (33, .tableswitch 2040 0 63 #[271, 314, 387, 450, 484, 507, 540, 573, 596, 639, 698, 731, 764, 787, 800, 813, 846, 879, 902, 925, 948, 961, 994, 1037, 1080, 1123, 1156, 1179, 1202, 1215, 1248, 1261, 1284, 1297, 1310, 1343, 1376, 1399, 1422, 1455, 1468, 1491, 1514, 1537, 1550, 1573, 1586, 1599, 1622, 1665, 1688, 1721, 1754, 1787, 1830, 1863, 1886, 1909, 1932, 1945, 1968, 1991, 2004, 2017], 271)) rfl) (by decide) (by decide) rfl (by decide) ?_
  refine k_aload_n C (pc2 := 1920) (dkAt dkL_law_12 87 (q := (1919, .aload_n 1, 1)) rfl) rfl rfl 2 rfl ?_
  refine k_arg C hX hbl hbA (j := 1) (w := y (i + 1)) rfl (by omega) hL rfl (dkAt dkL_law_12 88 (q := (1920, .aload_n 0, 1)) rfl) (dkAt dkL_law_12 89 (q := (1921, .iload_n 3, 1)) rfl) (dkAt dkL_law_12 90 (q := (1922, .iconst 1, 1)) rfl) (dkAt dkL_law_12 91 (q := (1923, .iadd, 1)) rfl) (dkAt dkL_law_12 92 (q := (1924, .iaload, 1)) rfl) (pc2 := 1925) rfl ?_
  refine k_callV C (As := [.int (y (i + 1))]) (rest := []) (o := 0) (mc := 0) (ms := 0) (ct_X7_clear l G sh [] iX (y (i + 1)) M _ e1) (cl_L_247 (hts_of C) ⟨Nat.le_of_ble_eq_true rfl, Nat.le_of_ble_eq_true rfl⟩ rfl rfl) iX.1 rfl rfl rfl rfl rfl (Nat.le_of_ble_eq_true rfl) (dkAt dkL_law_12 93 (q := (1925, .invokevirtual 247, 3)) rfl) ⟨Nat.le_trans (Nat.le_add_right ck 37) hck, Nat.le_trans (Nat.le_add_right cn 902) hcn⟩ (pc2 := 1928) rfl ?_
  refine k_aload_n C (pc2 := 1929) (dkAt dkL_law_12 94 (q := (1928, .aload_n 2, 1)) rfl) rfl rfl 1 rfl ?_
  refine k_arg C hX hbl hbA (j := 1) (w := y (i + 1)) rfl (by omega) hL rfl (dkAt dkL_law_12 95 (q := (1929, .aload_n 0, 1)) rfl) (dkAt dkL_law_12 96 (q := (1930, .iload_n 3, 1)) rfl) (dkAt dkL_law_12 97 (q := (1931, .iconst 1, 1)) rfl) (dkAt dkL_law_12 98 (q := (1932, .iadd, 1)) rfl) (dkAt dkL_law_12 99 (q := (1933, .iaload, 1)) rfl) (pc2 := 1934) rfl ?_
  refine k_callV C (As := [.int (y (i + 1))]) (rest := [.int _]) (o := 69) (mc := 0) (ms := 0) (ct_X8_clear l G sh [] 69 iM (y (i + 1)) M2 _ e2) (cl_L_250 (hts_of C) ⟨Nat.le_of_ble_eq_true rfl, Nat.le_of_ble_eq_true rfl⟩ rfl rfl) iM.1 rfl rfl rfl rfl rfl (Nat.le_of_ble_eq_true rfl) (dkAt dkL_law_13 0 (q := (1934, .invokevirtual 250, 3)) rfl) ⟨Nat.le_trans (Nat.le_add_right ck 37) hck, Nat.le_trans (Nat.le_add_right cn 902) hcn⟩ (pc2 := 1937) rfl ?_
  refine k_icmp_eq C (tgt := 2073) (pc2 := 1940) (A := some ()) (B := none) (r := ()) (dkAt dkL_law_13 1 (q := (1937, .if_icmp .eq 136, 3)) rfl) (by decide) rfl (if_pos rfl) (fun _ => ?_) (fun z => by cases z)
  exact hk sh _ _ _ _ I3 (Nat.le_add_right ck 37) (Nat.le_add_right cn 902)
set_option maxRecDepth 100000 in
set_option maxHeartbeats 4000000 in
/-- 57: pass -/
theorem lc_57 (D : LawC p s m c args meth G b L y i) (I : Inv sh a M) (hck : ck + 37 ≤ 600000) (hcn : cn + 902 ≤ 7302250) (hk : Cont p l e s m args below meth c G Q b i ck cn) : KW p l e room_1 s m args below meth c G 4 Q sh [] ck cn M 33 (lvL G b i) [.int (nI 57)] := by
  obtain ⟨C, hX, hbl, hbA, hL, hi⟩ := D
  obtain ⟨iX, iM, iC, iR, iW, iK⟩ := id I
  obtain ⟨M2, e1, r1, f1⟩ := X7_pass iC iW.1 (y (i + 1))
  obtain ⟨M3, e2, r2, f2, f3⟩ := X8_pass (iR.frC f1) iW.1 (y (i + 1))
  have I3 := I.step r1 f1 r2 f2 f3 (W_pass iW (y (i + 1)))
  refine k_swIn C (tgt := 1942) (off := 1909) (dkAt dkL_law_0 21 (q := (33, .tableswitch 2040 0 63 #[271, 314, 387, 450, 484, 507, 540, 573, 596, 639, 698, 731, 764, 787, 800, 813, 846, 879, 902, 925, 948, 961, 994, 1037, 1080, 1123, 1156, 1179, 1202, 1215, 1248, 1261, 1284, 1297, 1310, 1343, 1376, 1399, 1422, 1455, 1468, 1491, 1514, 1537, 1550, 1573, 1586, 1599, 1622, 1665, 1688, 1721, 1754, 1787, 1830, 1863, 1886, 1909, 1932, 1945, 1968, 1991, 2004, 2017], 271)) rfl) (by decide) (by decide) rfl (by decide) ?_
  refine k_aload_n C (pc2 := 1943) (dkAt dkL_law_13 4 (q := (1942, .aload_n 1, 1)) rfl) rfl rfl 2 rfl ?_
  refine k_arg C hX hbl hbA (j := 1) (w := y (i + 1)) rfl (by omega) hL rfl (dkAt dkL_law_13 5 (q := (1943, .aload_n 0, 1)) rfl) (dkAt dkL_law_13 6 (q := (1944, .iload_n 3, 1)) rfl) (dkAt dkL_law_13 7 (q := (1945, .iconst 1, 1)) rfl) (dkAt dkL_law_13 8 (q := (1946, .iadd, 1)) rfl) (dkAt dkL_law_13 9 (q := (1947, .iaload, 1)) rfl) (pc2 := 1948) rfl ?_
  refine k_callV C (As := [.int (y (i + 1))]) (rest := []) (o := 0) (mc := 0) (ms := 0) (ct_X7_pass l G sh [] iX (y (i + 1)) M _ e1) (cl_L_251 (hts_of C) ⟨Nat.le_of_ble_eq_true rfl, Nat.le_of_ble_eq_true rfl⟩ rfl rfl) iX.1 rfl rfl rfl rfl rfl (Nat.le_of_ble_eq_true rfl) (dkAt dkL_law_13 10 (q := (1948, .invokevirtual 251, 3)) rfl) ⟨Nat.le_trans (Nat.le_add_right ck 37) hck, Nat.le_trans (Nat.le_add_right cn 902) hcn⟩ (pc2 := 1951) rfl ?_
  refine k_aload_n C (pc2 := 1952) (dkAt dkL_law_13 11 (q := (1951, .aload_n 2, 1)) rfl) rfl rfl 1 rfl ?_
  refine k_arg C hX hbl hbA (j := 1) (w := y (i + 1)) rfl (by omega) hL rfl (dkAt dkL_law_13 12 (q := (1952, .aload_n 0, 1)) rfl) (dkAt dkL_law_13 13 (q := (1953, .iload_n 3, 1)) rfl) (dkAt dkL_law_13 14 (q := (1954, .iconst 1, 1)) rfl) (dkAt dkL_law_13 15 (q := (1955, .iadd, 1)) rfl) (dkAt dkL_law_13 16 (q := (1956, .iaload, 1)) rfl) (pc2 := 1957) rfl ?_
  refine k_callV C (As := [.int (y (i + 1))]) (rest := [.int _]) (o := 69) (mc := 0) (ms := 0) (ct_X8_pass l G sh [] 69 iM (y (i + 1)) M2 _ e2) (cl_L_254 (hts_of C) ⟨Nat.le_of_ble_eq_true rfl, Nat.le_of_ble_eq_true rfl⟩ rfl rfl) iM.1 rfl rfl rfl rfl rfl (Nat.le_of_ble_eq_true rfl) (dkAt dkL_law_13 17 (q := (1957, .invokevirtual 254, 3)) rfl) ⟨Nat.le_trans (Nat.le_add_right ck 37) hck, Nat.le_trans (Nat.le_add_right cn 902) hcn⟩ (pc2 := 1960) rfl ?_
  refine k_icmp_eq C (tgt := 2073) (pc2 := 1963) (A := some ()) (B := none) (r := ()) (dkAt dkL_law_13 18 (q := (1960, .if_icmp .eq 113, 3)) rfl) (by decide) rfl (if_pos rfl) (fun _ => ?_) (fun z => by cases z)
  exact hk sh _ _ _ _ I3 (Nat.le_add_right ck 37) (Nat.le_add_right cn 902)
set_option maxRecDepth 100000 in
set_option maxHeartbeats 4000000 in
/-- 58: fill -/
theorem lc_58 (D : LawC p s m c args meth G b L y i) (I : Inv sh a M) (hck : ck + 37 ≤ 600000) (hcn : cn + 902 ≤ 7302250) (hk : Cont p l e s m args below meth c G Q b i ck cn) : KW p l e room_1 s m args below meth c G 4 Q sh [] ck cn M 33 (lvL G b i) [.int (nI 58)] := by
  obtain ⟨C, hX, hbl, hbA, hL, hi⟩ := D
  obtain ⟨iX, iM, iC, iR, iW, iK⟩ := id I
  obtain ⟨M2, e1, r1, f1⟩ := X7_fill iC iW.1 
  obtain ⟨M3, e2, r2, f2, f3⟩ := X8_fill (iR.frC f1) iW.1 
  have I3 := I.step r1 f1 r2 f2 f3 (W_fill iW )
  refine k_swIn C (tgt := 1965) (off := 1932) (dkAt dkL_law_0 21 (q := (33, .tableswitch 2040 0 63 #[271, 314, 387, 450, 484, 507, 540, 573, 596, 639, 698, 731, 764, 787, 800, 813, 846, 879, 902, 925, 948, 961, 994, 1037, 1080, 1123, 1156, 1179, 1202, 1215, 1248, 1261, 1284, 1297, 1310, 1343, 1376, 1399, 1422, 1455, 1468, 1491, 1514, 1537, 1550, 1573, 1586, 1599, 1622, 1665, 1688, 1721, 1754, 1787, 1830, 1863, 1886, 1909, 1932, 1945, 1968, 1991, 2004, 2017], 271)) rfl) (by decide) (by decide) rfl (by decide) ?_
  refine k_aload_n C (pc2 := 1966) (dkAt dkL_law_13 21 (q := (1965, .aload_n 1, 1)) rfl) rfl rfl 2 rfl ?_
  refine k_callV C (As := []) (rest := []) (o := 0) (mc := 0) (ms := 0) (ct_X7_fill l G sh [] iX  M _ e1) (cl_L_255 (hts_of C) ⟨Nat.le_of_ble_eq_true rfl, Nat.le_of_ble_eq_true rfl⟩ rfl rfl) iX.1 rfl rfl rfl rfl rfl (Nat.le_of_ble_eq_true rfl) (dkAt dkL_law_13 22 (q := (1966, .invokevirtual 255, 3)) rfl) ⟨Nat.le_trans (Nat.le_add_right ck 37) hck, Nat.le_trans (Nat.le_add_right cn 902) hcn⟩ (pc2 := 1969) rfl ?_
  refine k_aload_n C (pc2 := 1970) (dkAt dkL_law_13 23 (q := (1969, .aload_n 2, 1)) rfl) rfl rfl 1 rfl ?_
  refine k_callV C (As := []) (rest := [.int _]) (o := 69) (mc := 0) (ms := 0) (ct_X8_fill l G sh [] 69 iM  M2 _ e2) (cl_L_258 (hts_of C) ⟨Nat.le_of_ble_eq_true rfl, Nat.le_of_ble_eq_true rfl⟩ rfl rfl) iM.1 rfl rfl rfl rfl rfl (Nat.le_of_ble_eq_true rfl) (dkAt dkL_law_13 24 (q := (1970, .invokevirtual 258, 3)) rfl) ⟨Nat.le_trans (Nat.le_add_right ck 37) hck, Nat.le_trans (Nat.le_add_right cn 902) hcn⟩ (pc2 := 1973) rfl ?_
  refine k_icmp_eq C (tgt := 2073) (pc2 := 1976) (A := some ()) (B := none) (r := ()) (dkAt dkL_law_13 25 (q := (1973, .if_icmp .eq 100, 3)) rfl) (by decide) rfl (if_pos rfl) (fun _ => ?_) (fun z => by cases z)
  exact hk sh _ _ _ _ I3 (Nat.le_add_right ck 37) (Nat.le_add_right cn 902)
set_option maxRecDepth 100000 in
set_option maxHeartbeats 4000000 in
/-- 59: years -/
theorem lc_59 (D : LawC p s m c args meth G b L y i) (I : Inv sh a M) (hck : ck + 37 ≤ 600000) (hcn : cn + 902 ≤ 7302250) (hk : Cont p l e s m args below meth c G Q b i ck cn) : KW p l e room_1 s m args below meth c G 4 Q sh [] ck cn M 33 (lvL G b i) [.int (nI 59)] := by
  obtain ⟨C, hX, hbl, hbA, hL, hi⟩ := D
  obtain ⟨iX, iM, iC, iR, iW, iK⟩ := id I
  obtain ⟨M2, e1, r1, f1⟩ := X7_years iC iW.1 (y (i + 1))
  obtain ⟨M3, e2, r2, f2, f3⟩ := X8_years (iR.frC f1) iW.1 (y (i + 1))
  have I3 := I.step r1 f1 r2 f2 f3 (W_years iW (y (i + 1)))
  refine k_swIn C (tgt := 1978) (off := 1945) (dkAt dkL_law_0 21 (q := (33, .tableswitch 2040 0 63 #[271, 314, 387, 450, 484, 507, 540, 573, 596, 639, 698, 731, 764, 787, 800, 813, 846, 879, 902, 925, 948, 961, 994, 1037, 1080, 1123, 1156, 1179, 1202, 1215, 1248, 1261, 1284, 1297, 1310, 1343, 1376, 1399, 1422, 1455, 1468, 1491, 1514, 1537, 1550, 1573, 1586, 1599, 1622, 1665, 1688, 1721, 1754, 1787, 1830, 1863, 1886, 1909, 1932, 1945, 1968, 1991, 2004, 2017], 271)) rfl) (by decide) (by decide) rfl (by decide) ?_
  refine k_aload_n C (pc2 := 1979) (dkAt dkL_law_13 28 (q := (1978, .aload_n 1, 1)) rfl) rfl rfl 2 rfl ?_
  refine k_arg C hX hbl hbA (j := 1) (w := y (i + 1)) rfl (by omega) hL rfl (dkAt dkL_law_13 29 (q := (1979, .aload_n 0, 1)) rfl) (dkAt dkL_law_13 30 (q := (1980, .iload_n 3, 1)) rfl) (dkAt dkL_law_13 31 (q := (1981, .iconst 1, 1)) rfl) (dkAt dkL_law_13 32 (q := (1982, .iadd, 1)) rfl) (dkAt dkL_law_13 33 (q := (1983, .iaload, 1)) rfl) (pc2 := 1984) rfl ?_
  refine k_callV C (As := [.int (y (i + 1))]) (rest := []) (o := 0) (mc := 0) (ms := 0) (ct_X7_years l G sh [] iX (y (i + 1)) M _ e1) (cl_L_259 (hts_of C) ⟨Nat.le_of_ble_eq_true rfl, Nat.le_of_ble_eq_true rfl⟩ rfl rfl) iX.1 rfl rfl rfl rfl rfl (Nat.le_of_ble_eq_true rfl) (dkAt dkL_law_13 34 (q := (1984, .invokevirtual 259, 3)) rfl) ⟨Nat.le_trans (Nat.le_add_right ck 37) hck, Nat.le_trans (Nat.le_add_right cn 902) hcn⟩ (pc2 := 1987) rfl ?_
  refine k_aload_n C (pc2 := 1988) (dkAt dkL_law_13 35 (q := (1987, .aload_n 2, 1)) rfl) rfl rfl 1 rfl ?_
  refine k_arg C hX hbl hbA (j := 1) (w := y (i + 1)) rfl (by omega) hL rfl (dkAt dkL_law_13 36 (q := (1988, .aload_n 0, 1)) rfl) (dkAt dkL_law_13 37 (q := (1989, .iload_n 3, 1)) rfl) (dkAt dkL_law_13 38 (q := (1990, .iconst 1, 1)) rfl) (dkAt dkL_law_13 39 (q := (1991, .iadd, 1)) rfl) (dkAt dkL_law_13 40 (q := (1992, .iaload, 1)) rfl) (pc2 := 1993) rfl ?_
  refine k_callV C (As := [.int (y (i + 1))]) (rest := [.int _]) (o := 69) (mc := 0) (ms := 0) (ct_X8_years l G sh [] 69 iM (y (i + 1)) M2 _ e2) (cl_L_262 (hts_of C) ⟨Nat.le_of_ble_eq_true rfl, Nat.le_of_ble_eq_true rfl⟩ rfl rfl) iM.1 rfl rfl rfl rfl rfl (Nat.le_of_ble_eq_true rfl) (dkAt dkL_law_13 41 (q := (1993, .invokevirtual 262, 3)) rfl) ⟨Nat.le_trans (Nat.le_add_right ck 37) hck, Nat.le_trans (Nat.le_add_right cn 902) hcn⟩ (pc2 := 1996) rfl ?_
  refine k_icmp_eq C (tgt := 2073) (pc2 := 1999) (A := some ()) (B := none) (r := ()) (dkAt dkL_law_13 42 (q := (1996, .if_icmp .eq 77, 3)) rfl) (by decide) rfl (if_pos rfl) (fun _ => ?_) (fun z => by cases z)
  exact hk sh _ _ _ _ I3 (Nat.le_add_right ck 37) (Nat.le_add_right cn 902)
set_option maxRecDepth 100000 in
set_option maxHeartbeats 4000000 in
/-- 60: seed -/
theorem lc_60 (D : LawC p s m c args meth G b L y i) (I : Inv sh a M) (hck : ck + 37 ≤ 600000) (hcn : cn + 902 ≤ 7302250) (hk : Cont p l e s m args below meth c G Q b i ck cn) : KW p l e room_1 s m args below meth c G 4 Q sh [] ck cn M 33 (lvL G b i) [.int (nI 60)] := by
  obtain ⟨C, hX, hbl, hbA, hL, hi⟩ := D
  obtain ⟨iX, iM, iC, iR, iW, iK⟩ := id I
  obtain ⟨M2, e1, r1, f1⟩ := X7_seed iC (y (i + 1))
  obtain ⟨M3, e2, r2, f2, f3⟩ := X8_seed (iR.frC f1) (y (i + 1))
  have I3 := I.step r1 f1 r2 f2 f3 (W_seed iW (y (i + 1)))
  refine k_swIn C (tgt := 2001) (off := 1968) (dkAt dkL_law_0 21 (q := (33, .tableswitch 2040 0 63 #[271, 314, 387, 450, 484, 507, 540, 573, 596, 639, 698, 731, 764, 787, 800, 813, 846, 879, 902, 925, 948, 961, 994, 1037, 1080, 1123, 1156, 1179, 1202, 1215, 1248, 1261, 1284, 1297, 1310, 1343, 1376, 1399, 1422, 1455, 1468, 1491, 1514, 1537, 1550, 1573, 1586, 1599, 1622, 1665, 1688, 1721, 1754, 1787, 1830, 1863, 1886, 1909, 1932, 1945, 1968, 1991, 2004, 2017], 271)) rfl) (by decide) (by decide) rfl (by decide) ?_
  refine k_aload_n C (pc2 := 2002) (dkAt dkL_law_13 45 (q := (2001, .aload_n 1, 1)) rfl) rfl rfl 2 rfl ?_
  refine k_arg C hX hbl hbA (j := 1) (w := y (i + 1)) rfl (by omega) hL rfl (dkAt dkL_law_13 46 (q := (2002, .aload_n 0, 1)) rfl) (dkAt dkL_law_13 47 (q := (2003, .iload_n 3, 1)) rfl) (dkAt dkL_law_13 48 (q := (2004, .iconst 1, 1)) rfl) (dkAt dkL_law_13 49 (q := (2005, .iadd, 1)) rfl) (dkAt dkL_law_13 50 (q := (2006, .iaload, 1)) rfl) (pc2 := 2007) rfl ?_
  refine k_callV C (As := [.int (y (i + 1))]) (rest := []) (o := 0) (mc := 0) (ms := 0) (ct_X7_seed l G sh [] iX (y (i + 1)) M _ e1) (cl_L_263 (hts_of C) ⟨Nat.le_of_ble_eq_true rfl, Nat.le_of_ble_eq_true rfl⟩ rfl rfl) iX.1 rfl rfl rfl rfl rfl (Nat.le_of_ble_eq_true rfl) (dkAt dkL_law_13 51 (q := (2007, .invokevirtual 263, 3)) rfl) ⟨Nat.le_trans (Nat.le_add_right ck 37) hck, Nat.le_trans (Nat.le_add_right cn 902) hcn⟩ (pc2 := 2010) rfl ?_
  refine k_aload_n C (pc2 := 2011) (dkAt dkL_law_13 52 (q := (2010, .aload_n 2, 1)) rfl) rfl rfl 1 rfl ?_
  refine k_arg C hX hbl hbA (j := 1) (w := y (i + 1)) rfl (by omega) hL rfl (dkAt dkL_law_13 53 (q := (2011, .aload_n 0, 1)) rfl) (dkAt dkL_law_13 54 (q := (2012, .iload_n 3, 1)) rfl) (dkAt dkL_law_13 55 (q := (2013, .iconst 1, 1)) rfl) (dkAt dkL_law_13 56 (q := (2014, .iadd, 1)) rfl) (dkAt dkL_law_13 57 (q := (2015, .iaload, 1)) rfl) (pc2 := 2016) rfl ?_
  refine k_callV C (As := [.int (y (i + 1))]) (rest := [.int _]) (o := 69) (mc := 0) (ms := 0) (ct_X8_seed l G sh [] 69 iM (y (i + 1)) M2 _ e2) (cl_L_266 (hts_of C) ⟨Nat.le_of_ble_eq_true rfl, Nat.le_of_ble_eq_true rfl⟩ rfl rfl) iM.1 rfl rfl rfl rfl rfl (Nat.le_of_ble_eq_true rfl) (dkAt dkL_law_13 58 (q := (2016, .invokevirtual 266, 3)) rfl) ⟨Nat.le_trans (Nat.le_add_right ck 37) hck, Nat.le_trans (Nat.le_add_right cn 902) hcn⟩ (pc2 := 2019) rfl ?_
  refine k_icmp_eq C (tgt := 2073) (pc2 := 2022) (A := some ()) (B := none) (r := ()) (dkAt dkL_law_13 59 (q := (2019, .if_icmp .eq 54, 3)) rfl) (by decide) rfl (if_pos rfl) (fun _ => ?_) (fun z => by cases z)
  exact hk sh _ _ _ _ I3 (Nat.le_add_right ck 37) (Nat.le_add_right cn 902)
set_option maxRecDepth 100000 in
set_option maxHeartbeats 4000000 in
/-- 63: status -/
theorem lc_63 (D : LawC p s m c args meth G b L y i) (I : Inv sh a M) (hck : ck + 37 ≤ 600000) (hcn : cn + 902 ≤ 7302250) (hk : Cont p l e s m args below meth c G Q b i ck cn) : KW p l e room_1 s m args below meth c G 4 Q sh [] ck cn M 33 (lvL G b i) [.int (nI 63)] := by
  obtain ⟨C, hX, hbl, hbA, hL, hi⟩ := D
  obtain ⟨iX, iM, iC, iR, iW, iK⟩ := id I
  have e1 := X7_status iC iW.1 (y (i + 1))
  have e2 := X8_status iR iW.1 (y (i + 1))
  refine k_swIn C (tgt := 2050) (off := 2017) (dkAt dkL_law_0 21 (q := (33, .tableswitch 2040 0 63 #[271, 314, 387, 450, 484, 507, 540, 573, 596, 639, 698, 731, 764, 787, 800, 813, 846, 879, 902, 925, 948, 961, 994, 1037, 1080, 1123, 1156, 1179, 1202, 1215, 1248, 1261, 1284, 1297, 1310, 1343, 1376, 1399, 1422, 1455, 1468, 1491, 1514, 1537, 1550, 1573, 1586, 1599, 1622, 1665, 1688, 1721, 1754, 1787, 1830, 1863, 1886, 1909, 1932, 1945, 1968, 1991, 2004, 2017], 271)) rfl) (by decide) (by decide) rfl (by decide) ?_
  refine k_aload_n C (pc2 := 2051) (dkAt dkL_law_13 76 (q := (2050, .aload_n 1, 1)) rfl) rfl rfl 2 rfl ?_
  refine k_arg C hX hbl hbA (j := 1) (w := y (i + 1)) rfl (by omega) hL rfl (dkAt dkL_law_13 77 (q := (2051, .aload_n 0, 1)) rfl) (dkAt dkL_law_13 78 (q := (2052, .iload_n 3, 1)) rfl) (dkAt dkL_law_13 79 (q := (2053, .iconst 1, 1)) rfl) (dkAt dkL_law_13 80 (q := (2054, .iadd, 1)) rfl) (dkAt dkL_law_13 81 (q := (2055, .iaload, 1)) rfl) (pc2 := 2056) rfl ?_
  refine k_callV C (As := [.int (y (i + 1))]) (rest := []) (o := 0) (mc := 0) (ms := 0) (ct_X7_status l G sh [] iX (y (i + 1)) M _ e1) (cl_L_275 (hts_of C) ⟨Nat.le_of_ble_eq_true rfl, Nat.le_of_ble_eq_true rfl⟩ rfl rfl) iX.1 rfl rfl rfl rfl rfl (Nat.le_of_ble_eq_true rfl) (dkAt dkL_law_13 82 (q := (2056, .invokevirtual 275, 3)) rfl) ⟨Nat.le_trans (Nat.le_add_right ck 37) hck, Nat.le_trans (Nat.le_add_right cn 902) hcn⟩ (pc2 := 2059) rfl ?_
  refine k_aload_n C (pc2 := 2060) (dkAt dkL_law_13 83 (q := (2059, .aload_n 2, 1)) rfl) rfl rfl 1 rfl ?_
  refine k_arg C hX hbl hbA (j := 1) (w := y (i + 1)) rfl (by omega) hL rfl (dkAt dkL_law_13 84 (q := (2060, .aload_n 0, 1)) rfl) (dkAt dkL_law_13 85 (q := (2061, .iload_n 3, 1)) rfl) (dkAt dkL_law_13 86 (q := (2062, .iconst 1, 1)) rfl) (dkAt dkL_law_13 87 (q := (2063, .iadd, 1)) rfl) (dkAt dkL_law_13 88 (q := (2064, .iaload, 1)) rfl) (pc2 := 2065) rfl ?_
  refine k_callV C (As := [.int (y (i + 1))]) (rest := [.int _]) (o := 69) (mc := 0) (ms := 0) (ct_X8_status l G sh [] 69 iM (y (i + 1)) M _ e2) (cl_L_278 (hts_of C) ⟨Nat.le_of_ble_eq_true rfl, Nat.le_of_ble_eq_true rfl⟩ rfl rfl) iM.1 rfl rfl rfl rfl rfl (Nat.le_of_ble_eq_true rfl) (dkAt dkL_law_13 89 (q := (2065, .invokevirtual 278, 3)) rfl) ⟨Nat.le_trans (Nat.le_add_right ck 37) hck, Nat.le_trans (Nat.le_add_right cn 902) hcn⟩ (pc2 := 2068) rfl ?_
  refine k_icmp_eq C (tgt := 2073) (pc2 := 2071) (A := some ()) (B := none) (r := ()) (dkAt dkL_law_13 90 (q := (2068, .if_icmp .eq 5, 3)) rfl) (by decide) rfl (if_pos rfl) (fun _ => ?_) (fun z => by cases z)
  exact hk sh _ _ _ _ I (Nat.le_add_right ck 37) (Nat.le_add_right cn 902)
end LAWS
