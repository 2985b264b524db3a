/-! the three cases in which another model may come to be -/
theorem isM.len {sh : Sh} {o : Nat} (h : isM sh o) : o + 37 ≤ sh.length := by
  have := (List.getElem?_eq_some_iff.mp (isM_bestRow h)).1
  omega
theorem RN.lo {a : AB} {M M2 : Mm} {n : Nat} (h : RN a M) (hn : 106 ≤ n) (hF : ∀ x, x < n → M2.1 x = M.1 x ∧ M2.2.1 x = M.2.1 x) : RN a M2 := by
  obtain ⟨hv, hs, ht, hr⟩ := h
  refine ⟨hv.eqs (fun y hy => by rw [(hF 69 (by omega)).1]) (fun x h1 h2 => (hF x (by omega)).1), fun s h8 => ?_, ⟨by rw [(hF 69 (by omega)).1]; exact ht.1, fun i hi => by rw [(hF 84 (by omega)).1]; exact ht.2 i hi⟩, fun i hi => by rw [(hF 85 (by omega)).1]; exact hr i hi⟩
  unfold SM
  rw [(hF 70 (by omega)).1, (hF 71 (by omega)).1, (hF 72 (by omega)).1, (hF 83 (by omega)).1, (hF (74 + s) (by omega)).2]
  exact hs s h8
theorem KM.lo {k : Option CV} {M M2 : Mm} {n : Nat} (h : KM k M) (hF : ∀ x, x < n → M2.1 x = M.1 x ∧ M2.2.1 x = M.2.1 x) (h9 : M2.2.2 69 19 = M.2.2 69 19) (hK : M.2.2 69 19 = 0 ∨ M.2.2 69 19 + 37 ≤ n) : KM k M2 := by
  refine ⟨fun q => by rw [h9]; exact h.1 q, fun w q => ?_⟩
  rw [h9]
  obtain ⟨k1, k2, k3⟩ := h.2 w q
  exact ⟨k1, k2, k3.eqs (fun y hy => by rw [(hF _ (by omega)).1]) (fun x h1 h2 => (hF x (by omega)).1)⟩
theorem wR_off {M : Mm} {a k v k2 : Nat} (h : k2 ≠ k) : (wR M a k v).2.2 a k2 = M.2.2 a k2 := by
  show (if a = a ∧ k2 = k then v else M.2.2 a k2) = _
  exact if_neg (fun z => h z.2)
section SPC
variable {sh : Sh} {a : AB} {M : Mm}
theorem st_cal (l : Launch) (G : GG) (iX : isX sh) (iM : isM sh 69) (iR : RM a M) (iW : WB a) (iK : RefOk sh M) : ∃ sh2 M3 cz sz, Ct l yX8_calendar cX8_calendar 3 (some .int) (rmCal cz sz) G [rA G 69] sh M [] (some (.int (oCal a).2)) sh2 M3 [] cz sz ∧ cz ≤ 37 ∧ sz ≤ 902 ∧ isX sh2 ∧ isM sh2 69 ∧ RM (oCal a).1 M3 ∧ FrM M M3 ∧ RefOk sh2 M3 := by
  have len := iM.len
  by_cases q : M.2.2 69 20 = 0
  · have hF : ∀ x, x < sh.length → (wR (addM M sh.length mIni) 69 20 sh.length).1 x = M.1 x ∧ (wR (addM M sh.length mIni) 69 20 sh.length).2.1 x = M.2.1 x := fun x hx => ⟨(addM_lo (f := mIni) hx).1, (addM_lo (f := mIni) hx).2.1⟩
    have h9 : (wR (addM M sh.length mIni) 69 20 sh.length).2.2 69 19 = M.2.2 69 19 := by
      rw [wR_off (by decide)]
      exact congrFun (addM_lo (f := mIni) (M := M) (b := sh.length) (x := 69) (by omega)).2.2 19
    have hK : M.2.2 69 19 = 0 ∨ M.2.2 69 19 + 37 ≤ sh.length := by
      rcases iK.1 with z | z
      · exact Or.inl z
      · exact Or.inr z.1.len
    have hR : RM a (wR (addM M sh.length mIni) 69 20 sh.length) := (iR.rn.lo (by omega) hF).rm (KM.lo iR.2.1 hF h9 hK)
    have hap : apart sh.length (M.2.2 69 19) := by unfold apart; omega
    obtain ⟨Mt, t1, t2, t3⟩ := M_takeFrom (b := sh.length) hR.1 (by omega)
    obtain ⟨M3, e1, e2, e3, e4⟩ := X8_calendar hR iW (by omega) (by rw [h9]; exact hap)
    rw [t1, Option.bind_some] at e1
    have w1 : Mt.2.2 69 20 = sh.length := by rw [t3.2]; exact wR_on
    refine ⟨sh ++ shM, M3, 37, 902, ct_cal l G sh (sh ++ shM) M Mt sh.length 37 902 iM iM.app (isM_new sh) (ct_fresh0 l G sh M Mt iM q w1 t1) e1, Nat.le_refl _, Nat.le_refl _, iX.app, iM.app, e2, ?_, ?_⟩
    · exact FrM.tr (fun x hx => hF x (by omega)) e3
    · unfold RefOk
      rw [e4, h9, wR_on]
      refine ⟨?_, Or.inr ⟨isM_new sh, by omega, hap⟩⟩
      rcases iK.1 with z | z
      · exact Or.inl z
      · exact Or.inr ⟨z.1.app, z.2⟩
  · obtain ⟨k1, k2, k3⟩ := iK.2.resolve_left q
    obtain ⟨Mt, t1, t2, t3⟩ := M_takeFrom (b := M.2.2 69 20) iR.1 (by omega)
    obtain ⟨M3, e1, e2, e3, e4⟩ := X8_calendar iR iW k2 k3
    rw [t1, Option.bind_some] at e1
    have w1 : Mt.2.2 69 20 = M.2.2 69 20 := by rw [t3.2]
    refine ⟨sh, M3, 0, 0, ct_cal l G sh sh M Mt _ 0 0 iM iM k1 (ct_fresh1 l G sh M Mt _ iM k1 q rfl w1 t1) e1, Nat.zero_le _, Nat.zero_le _, iX, iM, e2, e3, ?_⟩
    unfold RefOk
    rw [e4]
    exact iK
theorem st_image (l : Launch) (G : GG) (iX : isX sh) (iM : isM sh 69) (iR : RM a M) (iK : RefOk sh M) : ∃ sh2 M3 cz sz, Ct l yX8_image cX8_image 1 (some .int) (rmIm cz sz) G [rA G 69] sh M [] (some (.int (oImage a).2)) sh2 M3 [] cz sz ∧ cz ≤ 37 ∧ sz ≤ 902 ∧ isX sh2 ∧ isM sh2 69 ∧ RM (oImage a).1 M3 ∧ FrM M M3 ∧ RefOk sh2 M3 := by
  have len := iM.len
  by_cases q : M.2.2 69 19 = 0
  · have hF : ∀ x, x < sh.length → (wR (addM M sh.length mIni) 69 19 sh.length).1 x = M.1 x ∧ (wR (addM M sh.length mIni) 69 19 sh.length).2.1 x = M.2.1 x := fun x hx => ⟨(addM_lo (f := mIni) hx).1, (addM_lo (f := mIni) hx).2.1⟩
    have h9 : (wR (addM M sh.length mIni) 69 19 sh.length).2.2 69 20 = M.2.2 69 20 := by
      rw [wR_off (by decide)]
      exact congrFun (addM_lo (f := mIni) (M := M) (b := sh.length) (x := 69) (by omega)).2.2 20
    obtain ⟨M3, e1, e2, e3, e4⟩ := X8_image (iR.rn.lo (by omega) hF) wR_on (by omega)
    refine ⟨sh ++ shM, M3, 37, 902, ct_image0 l G sh M (M3, (oImage a).2) iM q e1, Nat.le_refl _, Nat.le_refl _, iX.app, iM.app, e2, ?_, ?_⟩
    · exact FrM.tr (fun x hx => hF x (by omega)) e3
    · unfold RefOk
      rw [e4, h9, wR_on]
      refine ⟨Or.inr ⟨isM_new sh, by omega⟩, ?_⟩
      rcases iK.2 with z | z
      · exact Or.inl z
      · have := z.1.len
        exact Or.inr ⟨z.1.app, z.2.1, by unfold apart; omega⟩
  · obtain ⟨k1, k2⟩ := iK.1.resolve_left q
    obtain ⟨M3, e1, e2, e3, e4⟩ := X8_image iR.rn rfl k2
    refine ⟨sh, M3, 0, 0, ct_image1 l G sh M (M3, (oImage a).2) _ iM k1 q rfl e1, Nat.zero_le _, Nat.zero_le _, iX, iM, e2, e3, ?_⟩
    unfold RefOk
    rw [e4]
    exact iK
theorem st_back (l : Launch) (G : GG) (iM : isM sh 69) (iR : RM a M) (iW : WA a) (iK : RefOk sh M) : ∃ M3, Ct l yX8_back cX8_back 2 (some .int) rm_X8_back G [rA G 69] sh M [] (some (.int (oBack a).2)) sh M3 [] 0 0 ∧ RM (oBack a).1 M3 ∧ FrM M M3 ∧ M3.2.2 = M.2.2 := by
  cases e : a.2.1 with
  | none =>
    obtain ⟨M3, e1, e2, e3, e4⟩ := X8_back0 iR e
    exact ⟨M3, ct_back0 l G sh M (M3, (oBack a).2) iM (iR.2.1.1 e) e1, e2, e3, e4⟩
  | some w =>
    obtain ⟨k1, k2, k3⟩ := iR.2.1.2 w e
    obtain ⟨j1, j2⟩ := iK.1.resolve_left k1
    obtain ⟨M3, e1, e2, e3, e4⟩ := X8_back iR iW e rfl
    exact ⟨M3, ct_back1 l G sh M (M3, (oBack a).2) _ iM j1 k1 rfl e1, e2, e3, e4⟩
end SPC
section LAWS
variable {p : Program} {l : Launch} {e : Env} {s : State} {m : MethodId} {args : Array Value} {below : List Frame} {meth : Method} {c : Code} {G : GG} {Q : State → Prop} {sh : List (Nat × Nat)} {ck cn : Nat} {M : Mm} {b L i : Nat} {y : Nat → Int32} {a : AB}
set_option maxRecDepth 100000 in
set_option maxHeartbeats 4000000 in
/-- 14: calendar -/
theorem lc_14 (D : LawC p s m c args meth G b L y i) (I : Inv sh a M) (hck : ck + 37 ≤ 600000) (hcn : cn + 902 ≤ 7302250) (hk : Cont p l e s m args below meth c G Q b i ck cn) : KW p l e room_1 s m args below meth c G 4 Q sh [] ck cn M 33 (lvL G b i) [.int (nI 14)] := by
  obtain ⟨C, hX, hbl, hbA, hL, hi⟩ := D
  obtain ⟨iX, iM, iC, iR, iW, iK⟩ := id I
  obtain ⟨M2, e1, r1, f1⟩ := X7_calendar iC iW
  have iK2 : RefOk sh M2 := by unfold RefOk; rw [f1.2]; exact iK
  obtain ⟨sh2, M3, cz, sz, hct, z1, z2, j1, j2, r2, f2, k2⟩ := st_cal l G iX iM (iR.frC f1) iW iK2
  refine k_swIn C (tgt := 833) (off := 800) (dkAt dkL_law_0 21 (q := (33, .tableswitch 2040 0 63 #[271, 314, 387, 450, 484, 507, 540, 573, 596, 639, 698, 731, 764, 787, 800, 813, 846, 879, 902, 925, 948, 961, 994, 1037, 1080, 1123, 1156, 1179, 1202, 1215, 1248, 1261, 1284, 1297, 1310, 1343, 1376, 1399, 1422, 1455, 1468, 1491, 1514, 1537, 1550, 1573, 1586, 1599, 1622, 1665, 1688, 1721, 1754, 1787, 1830, 1863, 1886, 1909, 1932, 1945, 1968, 1991, 2004, 2017], 271)) rfl) (by decide) (by decide) rfl (by decide) ?_
  refine k_aload_n C (pc2 := 834) (dkAt dkL_law_4 53 (q := (833, .aload_n 1, 1)) rfl) rfl rfl 2 rfl ?_
  refine k_callV C (As := []) (rest := []) (o := 0) (mc := 0) (ms := 0) (ct_X7_calendar l G sh [] iX M _ e1) (cl_L_79 (hts_of C) ⟨Nat.le_of_ble_eq_true rfl, Nat.le_of_ble_eq_true rfl⟩ rfl rfl) iX.1 rfl rfl rfl rfl rfl (Nat.le_of_ble_eq_true rfl) (dkAt dkL_law_4 54 (q := (834, .invokevirtual 79, 3)) rfl) ⟨Nat.le_trans (Nat.le_add_right ck 37) hck, Nat.le_trans (Nat.le_add_right cn 902) hcn⟩ (pc2 := 837) rfl ?_
  refine k_aload_n C (pc2 := 838) (dkAt dkL_law_4 55 (q := (837, .aload_n 2, 1)) rfl) rfl rfl 1 rfl ?_
  refine k_callV C (As := []) (rest := [.int _]) (o := 69) (mc := cz) (ms := sz) hct (cl_L_82 (hts_of C) ⟨Nat.le_of_ble_eq_true rfl, Nat.le_of_ble_eq_true rfl⟩ rfl rfl) iM.1 rfl rfl rfl rfl rfl (Nat.le_of_ble_eq_true rfl) (dkAt dkL_law_4 56 (q := (838, .invokevirtual 82, 3)) rfl) ⟨by show ck + 0 + cz ≤ 600000; omega, by show cn + 0 + sz ≤ 7302250; omega⟩ (pc2 := 841) rfl ?_
  refine k_icmp_eq C (tgt := 2073) (pc2 := 844) (A := some ()) (B := none) (r := ()) (dkAt dkL_law_4 57 (q := (841, .if_icmp .eq 1232, 3)) rfl) (by decide) rfl (if_pos rfl) (fun _ => ?_) (fun z => by cases z)
  exact hk sh2 _ _ _ _ ⟨j1, j2, r1.frM f2, r2, W_cal iW, k2⟩ (by omega) (by omega)
set_option maxRecDepth 100000 in
set_option maxHeartbeats 4000000 in
/-- 61: image -/
theorem lc_61 (D : LawC p s m c args meth G b L y i) (I : Inv sh a M) (hck : ck + 37 ≤ 600000) (hcn : cn + 902 ≤ 7302250) (hk : Cont p l e s m args below meth c G Q b i ck cn) : KW p l e room_1 s m args below meth c G 4 Q sh [] ck cn M 33 (lvL G b i) [.int (nI 61)] := by
  obtain ⟨C, hX, hbl, hbA, hL, hi⟩ := D
  obtain ⟨iX, iM, iC, iR, iW, iK⟩ := id I
  obtain ⟨M2, e1, r1, f1⟩ := X7_image iC
  have iK2 : RefOk sh M2 := by unfold RefOk; rw [f1.2]; exact iK
  obtain ⟨sh2, M3, cz, sz, hct, z1, z2, j1, j2, r2, f2, k2⟩ := st_image l G iX iM (iR.frC f1) iK2
  refine k_swIn C (tgt := 2024) (off := 1991) (dkAt dkL_law_0 21 (q := (33, .tableswitch 2040 0 63 #[271, 314, 387, 450, 484, 507, 540, 573, 596, 639, 698, 731, 764, 787, 800, 813, 846, 879, 902, 925, 948, 961, 994, 1037, 1080, 1123, 1156, 1179, 1202, 1215, 1248, 1261, 1284, 1297, 1310, 1343, 1376, 1399, 1422, 1455, 1468, 1491, 1514, 1537, 1550, 1573, 1586, 1599, 1622, 1665, 1688, 1721, 1754, 1787, 1830, 1863, 1886, 1909, 1932, 1945, 1968, 1991, 2004, 2017], 271)) rfl) (by decide) (by decide) rfl (by decide) ?_
  refine k_aload_n C (pc2 := 2025) (dkAt dkL_law_13 62 (q := (2024, .aload_n 1, 1)) rfl) rfl rfl 2 rfl ?_
  refine k_callV C (As := []) (rest := []) (o := 0) (mc := 0) (ms := 0) (ct_X7_image l G sh [] iX M _ e1) (cl_L_267 (hts_of C) ⟨Nat.le_of_ble_eq_true rfl, Nat.le_of_ble_eq_true rfl⟩ rfl rfl) iX.1 rfl rfl rfl rfl rfl (Nat.le_of_ble_eq_true rfl) (dkAt dkL_law_13 63 (q := (2025, .invokevirtual 267, 3)) rfl) ⟨Nat.le_trans (Nat.le_add_right ck 37) hck, Nat.le_trans (Nat.le_add_right cn 902) hcn⟩ (pc2 := 2028) rfl ?_
  refine k_aload_n C (pc2 := 2029) (dkAt dkL_law_13 64 (q := (2028, .aload_n 2, 1)) rfl) rfl rfl 1 rfl ?_
  refine k_callV C (As := []) (rest := [.int _]) (o := 69) (mc := cz) (ms := sz) hct (cl_L_270 (hts_of C) ⟨Nat.le_of_ble_eq_true rfl, Nat.le_of_ble_eq_true rfl⟩ rfl rfl) iM.1 rfl rfl rfl rfl rfl (Nat.le_of_ble_eq_true rfl) (dkAt dkL_law_13 65 (q := (2029, .invokevirtual 270, 3)) rfl) ⟨by show ck + 0 + cz ≤ 600000; omega, by show cn + 0 + sz ≤ 7302250; omega⟩ (pc2 := 2032) rfl ?_
  refine k_icmp_eq C (tgt := 2073) (pc2 := 2035) (A := some ()) (B := none) (r := ()) (dkAt dkL_law_13 66 (q := (2032, .if_icmp .eq 41, 3)) rfl) (by decide) rfl (if_pos rfl) (fun _ => ?_) (fun z => by cases z)
  exact hk sh2 _ _ _ _ ⟨j1, j2, r1.frM f2, r2, W_image iW, k2⟩ (by omega) (by omega)
set_option maxRecDepth 100000 in
set_option maxHeartbeats 4000000 in
/-- 62: back -/
theorem lc_62 (D : LawC p s m c args meth G b L y i) (I : Inv sh a M) (hck : ck + 37 ≤ 600000) (hcn : cn + 902 ≤ 7302250) (hk : Cont p l e s m args below meth c G Q b i ck cn) : KW p l e room_1 s m args below meth c G 4 Q sh [] ck cn M 33 (lvL G b i) [.int (nI 62)] := by
  obtain ⟨C, hX, hbl, hbA, hL, hi⟩ := D
  obtain ⟨iX, iM, iC, iR, iW, iK⟩ := id I
  obtain ⟨M2, e1, r1, f1⟩ := X7_back iC iW.1
  have iK2 : RefOk sh M2 := by unfold RefOk; rw [f1.2]; exact iK
  obtain ⟨M3, hct, r2, f2, f3⟩ := st_back l G iM (iR.frC f1) iW.1 iK2
  refine k_swIn C (tgt := 2037) (off := 2004) (dkAt dkL_law_0 21 (q := (33, .tableswitch 2040 0 63 #[271, 314, 387, 450, 484, 507, 540, 573, 596, 639, 698, 731, 764, 787, 800, 813, 846, 879, 902, 925, 948, 961, 994, 1037, 1080, 1123, 1156, 1179, 1202, 1215, 1248, 1261, 1284, 1297, 1310, 1343, 1376, 1399, 1422, 1455, 1468, 1491, 1514, 1537, 1550, 1573, 1586, 1599, 1622, 1665, 1688, 1721, 1754, 1787, 1830, 1863, 1886, 1909, 1932, 1945, 1968, 1991, 2004, 2017], 271)) rfl) (by decide) (by decide) rfl (by decide) ?_
  refine k_aload_n C (pc2 := 2038) (dkAt dkL_law_13 69 (q := (2037, .aload_n 1, 1)) rfl) rfl rfl 2 rfl ?_
  refine k_callV C (As := []) (rest := []) (o := 0) (mc := 0) (ms := 0) (ct_X7_back l G sh [] iX M _ e1) (cl_L_271 (hts_of C) ⟨Nat.le_of_ble_eq_true rfl, Nat.le_of_ble_eq_true rfl⟩ rfl rfl) iX.1 rfl rfl rfl rfl rfl (Nat.le_of_ble_eq_true rfl) (dkAt dkL_law_13 70 (q := (2038, .invokevirtual 271, 3)) rfl) ⟨Nat.le_trans (Nat.le_add_right ck 37) hck, Nat.le_trans (Nat.le_add_right cn 902) hcn⟩ (pc2 := 2041) rfl ?_
  refine k_aload_n C (pc2 := 2042) (dkAt dkL_law_13 71 (q := (2041, .aload_n 2, 1)) rfl) rfl rfl 1 rfl ?_
  refine k_callV C (As := []) (rest := [.int _]) (o := 69) (mc := 0) (ms := 0) hct (cl_L_274 (hts_of C) ⟨Nat.le_of_ble_eq_true rfl, Nat.le_of_ble_eq_true rfl⟩ rfl rfl) iM.1 rfl rfl rfl rfl rfl (Nat.le_of_ble_eq_true rfl) (dkAt dkL_law_13 72 (q := (2042, .invokevirtual 274, 3)) rfl) ⟨by show ck + 0 + 0 ≤ 600000; omega, by show cn + 0 + 0 ≤ 7302250; omega⟩ (pc2 := 2045) rfl ?_
  refine k_icmp_eq C (tgt := 2073) (pc2 := 2048) (A := some ()) (B := none) (r := ()) (dkAt dkL_law_13 73 (q := (2045, .if_icmp .eq 28, 3)) rfl) (by decide) rfl (if_pos rfl) (fun _ => ?_) (fun z => by cases z)
  exact hk sh _ _ _ _ (I.step r1 f1 r2 f2 f3 (W_back iW)) (Nat.le_add_right ck 37) (Nat.le_add_right cn 902)
end LAWS
