/-! image and back -/
def rmIm (c s : Nat) : Room := { frames := 2, cells := c, slots := s, locals := 43 }
set_option maxRecDepth 100000 in
set_option maxHeartbeats 4000000 in
theorem kl_image {p : Program} {l : Launch} {e : Env} {R : Room} {s : State} {m : MethodId} {args : Array Value} {below : List Frame} {meth : Method} {c : Code} {G : GG} {sh : Sh} {k n : Nat} (C : Cx p s m c args meth G RX8 cX8_image 1 (some .int)) {M : Mm} {r : Mm × Int32} {t : Nat} (h0 : isM sh 69) (ht : isM sh t) (e0 : t ≠ 0) (e1 : M.2.2 69 19 = t) (h : g_image t M = some r) (hR : k ≤ R.cells ∧ n ≤ R.slots) (hF : 2 ≤ R.frames ∧ 43 ≤ R.locals) : KW p l e R s m args below meth c G 1 (MQ below (QO G (some (.int r.2)) sh r.1 []) args s k n (gA G)) sh [] k n M 18 [(0, rA G 69)] [] := by
  unfold g_image at h
  refine k_aload_n C (pc2 := 19) (dkAt dkX8_image 8 (q := (18, .aload_n 0, 1)) rfl) rfl rfl 0 rfl ?_
  refine kf_X8_366 C (pc2 := 22) (o := 69) (o2 := 0) h0.1 (dkAt dkX8_image 9 (q := (19, .getfield 366, 3)) rfl) rfl ?_
  rw [e1, rN_ne e0]
  refine k_aload_n C (pc2 := 23) (dkAt dkX8_image 10 (q := (22, .aload_n 0, 1)) rfl) rfl rfl 0 rfl ?_
  obtain ⟨M2, e2, h⟩ := ob_inv h
  refine k_callV C (As := [rA G 69]) (rest := []) (o := t) (ct_X8_takeFrom l G sh [] t ht 69 h0 M M2 e2) (cl_X8_235 (hts_of C) ⟨hF.1, hF.2⟩ rfl rfl) ht.1 rfl rfl rfl rfl rfl (Nat.le_of_ble_eq_true rfl) (dkAt dkX8_image 11 (q := (23, .invokevirtual 235, 3)) rfl) hR (pc2 := 26) rfl ?_
  refine k_iconst C (pc2 := 27) (dkAt dkX8_image 12 (q := (26, .iconst 1, 1)) rfl) rfl (v := 1) rfl ?_
  cases h
  exact k_iret C (dkAt dkX8_image 13 (q := (27, .ireturn, 1)) rfl) rfl rfl rfl rfl
set_option maxRecDepth 100000 in
set_option maxHeartbeats 4000000 in
theorem ct_image1 (l : Launch) (G : GG) (sh : Sh) (M : Mm) (r : Mm × Int32) (t : Nat) (h0 : isM sh 69) (ht : isM sh t) (e0 : t ≠ 0) (e1 : M.2.2 69 19 = t) (h : g_image t M = some r) : Ct l yX8_image cX8_image 1 (some .int) (rmIm 0 0) G [rA G 69] sh M [] (some (.int r.2)) sh r.1 [] 0 0 := by
  refine ct_of (by decide) (Nat.le_of_ble_eq_true rfl) ?_
  intro p e s m args below meth c hnm C
  refine k_lv [0] (lv2 := [(0, rA G 69)]) rfl ?_
  refine k_aload_n C (pc2 := 1) (dkAt dkX8_image 0 (q := (0, .aload_n 0, 1)) rfl) rfl rfl 0 rfl ?_
  refine kf_X8_366 C (pc2 := 4) (o := 69) (o2 := 0) h0.1 (dkAt dkX8_image 1 (q := (1, .getfield 366, 3)) rfl) rfl ?_
  refine k_ifnn C (tgt := 18) (pc2 := 7) (A := some ()) (B := none) (r := ()) (dkAt dkX8_image 2 (q := (4, .ifnonnull 14, 3)) rfl) (by decide) rfl (if_pos (by rw [e1]; exact e0)) (fun _ _ => ?_) (fun z => by cases z)
  exact kl_image C h0 ht e0 e1 h ⟨Nat.le_refl _, Nat.le_refl _⟩ ⟨Nat.le_refl _, Nat.le_refl _⟩
set_option maxRecDepth 100000 in
set_option maxHeartbeats 4000000 in
theorem ct_image0 (l : Launch) (G : GG) (sh : Sh) (M : Mm) (r : Mm × Int32) (h0 : isM sh 69) (e1 : M.2.2 69 19 = 0) (h : g_image sh.length (wR (addM M sh.length mIni) 69 19 sh.length) = some r) : Ct l yX8_image cX8_image 1 (some .int) (rmIm 37 902) G [rA G 69] sh M [] (some (.int r.2)) (sh ++ shM) r.1 [] 37 902 := by
  have hl : 69 < sh.length := (List.getElem?_eq_some_iff.mp h0.1).1
  refine ct_of (by decide) (Nat.le_of_ble_eq_true rfl) ?_
  intro p e s m args below meth c hnm C
  refine k_lv [0] (lv2 := [(0, rA G 69)]) rfl ?_
  refine k_aload_n C (pc2 := 1) (dkAt dkX8_image 0 (q := (0, .aload_n 0, 1)) rfl) rfl rfl 0 rfl ?_
  refine kf_X8_366 C (pc2 := 4) (o := 69) (o2 := 0) h0.1 (dkAt dkX8_image 1 (q := (1, .getfield 366, 3)) rfl) rfl ?_
  refine k_ifnn C (tgt := 18) (pc2 := 7) (A := none) (B := some ()) (r := ()) (dkAt dkX8_image 2 (q := (4, .ifnonnull 14, 3)) rfl) (by decide) rfl (if_neg (by rw [e1]; decide)) (fun z => by cases z) (fun _ _ => ?_)
  refine k_aload_n C (pc2 := 8) (dkAt dkX8_image 3 (q := (7, .aload_n 0, 1)) rfl) rfl rfl 0 rfl ?_
  refine k_newM C (pc2 := 15) ?_ (q := 11) rfl (dkAt dkX8_image 4 (q := (8, .new 8, 3)) rfl) (dkAt dkX8_image 5 (q := (11, .dup, 1)) rfl) (q2 := 12) rfl (dkAt dkX8_image 6 (q := (12, .invokespecial 234, 3)) rfl) rfl (Nat.le_of_ble_eq_true rfl) ⟨Nat.le_of_ble_eq_true rfl, Nat.le_of_ble_eq_true rfl⟩ ⟨Nat.le_of_ble_eq_true rfl, Nat.le_of_ble_eq_true rfl⟩
  refine kp_X8_366 C (pc2 := 18) (o := 69) (x := sh.length) (F := fun z => some z) (r := wR (addM M sh.length mIni) 69 19 sh.length) h0.app.1 (by omega) (dkAt dkX8_image 7 (q := (15, .putfield 366, 3)) rfl) rfl (bm_eq _ _) (fun M9 h9 => ?_)
  have h9 : some M9 = some (wR (addM M sh.length mIni) 69 19 sh.length) := h9
  cases h9
  exact kl_image C h0.app (isM_new sh) (by omega) wR_on h ⟨Nat.le_refl _, Nat.le_refl _⟩ ⟨Nat.le_refl _, Nat.le_refl _⟩
def rm_X8_back : Room := { frames := 2, cells := 0, slots := 0, locals := 43 }
set_option maxRecDepth 100000 in
set_option maxHeartbeats 4000000 in
theorem ct_back0 (l : Launch) (G : GG) (sh : Sh) (M : Mm) (r : Mm × Int32) (h0 : isM sh 69) (e1 : M.2.2 69 19 = 0) (h : ((f_X8_refuse 69 (-5) M).bind fun q => some (q.1, q.2)) = some r) : Ct l yX8_back cX8_back 2 (some .int) rm_X8_back G [rA G 69] sh M [] (some (.int r.2)) sh r.1 [] 0 0 := by
  refine ct_of (by decide) (Nat.le_of_ble_eq_true rfl) ?_
  intro p e s m args below meth c hnm C
  refine k_lv [0] (lv2 := [(0, rA G 69)]) rfl ?_
  refine k_aload_n C (pc2 := 1) (dkAt dkX8_back 0 (q := (0, .aload_n 0, 1)) rfl) rfl rfl 0 rfl ?_
  refine kf_X8_366 C (pc2 := 4) (o := 69) (o2 := 0) h0.1 (dkAt dkX8_back 1 (q := (1, .getfield 366, 3)) rfl) rfl ?_
  refine k_ifnn C (tgt := 14) (pc2 := 7) (A := none) (B := some ()) (r := ()) (dkAt dkX8_back 2 (q := (4, .ifnonnull 10, 3)) rfl) (by decide) rfl (if_neg (by rw [e1]; decide)) (fun z => by cases z) (fun _ _ => ?_)
  refine k_aload_n C (pc2 := 8) (dkAt dkX8_back 3 (q := (7, .aload_n 0, 1)) rfl) rfl rfl 0 rfl ?_
  refine k_bipush C (pc2 := 10) (dkAt dkX8_back 4 (q := (8, .bipush (-5), 2)) rfl) rfl (v := (-5)) rfl ?_
  obtain ⟨q3, e4, h⟩ := ob_inv h
  refine kc_V C (As := [.int (-5)]) (st2 := [.int q3.2]) (ct_X8_refuse l G sh [] 69 h0 (-5) M q3 e4) (cl_X8_97 (hts_of C) ⟨Nat.le_of_ble_eq_true rfl, Nat.le_of_ble_eq_true rfl⟩ rfl rfl) h0.1 rfl rfl rfl rfl rfl (Nat.le_of_ble_eq_true rfl) (dkAt dkX8_back 5 (q := (10, .invokevirtual 97, 3)) rfl) ⟨Nat.zero_le _, Nat.zero_le _⟩ (pc2 := 13) rfl rfl ?_
  cases h
  exact k_iret C (dkAt dkX8_back 6 (q := (13, .ireturn, 1)) rfl) rfl rfl rfl rfl
set_option maxRecDepth 100000 in
set_option maxHeartbeats 4000000 in
theorem kl_back {p : Program} {l : Launch} {e : Env} {s : State} {m : MethodId} {args : Array Value} {below : List Frame} {meth : Method} {c : Code} {G : GG} {sh : Sh} {Q : State → Prop} (C : Cx p s m c args meth G RX8 cX8_back 2 (some .int)) (h0 : isM sh 69) (M2 : Mm) (hcont : KW p l e rm_X8_back s m args below meth c G 2 Q sh [] 0 0 M2 66 [] []) : ∀ (n : Nat) (x1 : Int32) (M : Mm), g_backL n x1 M = some M2 → KW p l e rm_X8_back s m args below meth c G 2 Q sh [] 0 0 M 24 [(1, .int x1), (0, rA G 69)] [] := by
  intro n
  induction n with
  | zero =>
    intro x1 M h
    cases h
  | succ n ih =>
    intro x1 M h
    have next : ∀ M9 : Mm, g_backL n (x1 + 1) M9 = some M2 → KW p l e rm_X8_back s m args below meth c G 2 Q sh [] 0 0 M9 60 [(1, .int x1), (0, rA G 69)] [] := fun M9 h9 => by
      refine k_iinc C (j := 0) (x := x1) (v := x1 + 1) (pc2 := 63) (dkAt dkX8_back 34 (q := (60, .iinc 1 1, 3)) rfl) rfl rfl rfl (by decide) (lv2 := [(1, .int (x1 + 1)), (0, rA G 69)]) rfl ?_
      refine k_goto C (tgt := 24) (dkAt dkX8_back 35 (q := (63, .goto (-39), 3)) rfl) (by decide) ?_
      exact ih (x1 + 1) M9 h9
    unfold g_backL at h
    refine k_iload_n C (pc2 := 25) (dkAt dkX8_back 13 (q := (24, .iload_n 1, 1)) rfl) rfl rfl 0 rfl ?_
    refine k_bipush C (pc2 := 27) (dkAt dkX8_back 14 (q := (25, .bipush 8, 2)) rfl) rfl (v := 8) rfl ?_
    refine k_icmp_ge C (tgt := 66) (pc2 := 30) (dkAt dkX8_back 15 (q := (27, .if_icmp .ge 39, 3)) rfl) (by decide) rfl h (fun h => ?_) (fun h => ?_)
    · refine k_lv [] (lv2 := []) rfl ?_
      cases h
      exact hcont
    · refine k_aload_n C (pc2 := 31) (dkAt dkX8_back 16 (q := (30, .aload_n 0, 1)) rfl) rfl rfl 1 rfl ?_
      refine kf_X8_7 C (pc2 := 34) (o := 69) (o2 := 69 + 1) h0.1 rfl (dkAt dkX8_back 17 (q := (31, .getfield 7, 3)) rfl) rfl ?_
      refine k_iload_n C (pc2 := 35) (dkAt dkX8_back 18 (q := (34, .iload_n 1, 1)) rfl) rfl rfl 0 rfl ?_
      refine k_iald C (pc2 := 36) (o := 69 + 1) (nA := 8) (isM_shelf h0) (dkAt dkX8_back 19 (q := (35, .iaload, 1)) rfl) rfl h (fun h => ?_)
      refine k_iconst C (pc2 := 37) (dkAt dkX8_back 20 (q := (36, .iconst 2, 1)) rfl) rfl (v := 2) rfl ?_
      refine k_icmp_ne C (tgt := 60) (pc2 := 40) (dkAt dkX8_back 21 (q := (37, .if_icmp .ne 23, 3)) rfl) (by decide) rfl h (fun h => ?_) (fun h => ?_)
      · exact next M h
      · refine k_aload_n C (pc2 := 41) (dkAt dkX8_back 22 (q := (40, .aload_n 0, 1)) rfl) rfl rfl 1 rfl ?_
        refine kf_X8_28 C (pc2 := 44) (o := 69) (o2 := 69 + 14) h0.1 rfl (dkAt dkX8_back 23 (q := (41, .getfield 28, 3)) rfl) rfl ?_
        refine k_iload_n C (pc2 := 45) (dkAt dkX8_back 24 (q := (44, .iload_n 1, 1)) rfl) rfl rfl 0 rfl ?_
        refine k_iald C (pc2 := 46) (o := 69 + 14) (nA := 8) (isM_shown h0) (dkAt dkX8_back 25 (q := (45, .iaload, 1)) rfl) rfl h (fun h => ?_)
        refine k_aload_n C (pc2 := 47) (dkAt dkX8_back 26 (q := (46, .aload_n 0, 1)) rfl) rfl rfl 1 rfl ?_
        refine kf_X8_82 C (pc2 := 50) (o := 69) (o2 := 0) h0.1 (dkAt dkX8_back 27 (q := (47, .getfield 82, 3)) rfl) rfl ?_
        refine k_icmp_lt C (tgt := 60) (pc2 := 53) (dkAt dkX8_back 28 (q := (50, .if_icmp .lt 10, 3)) rfl) (by decide) rfl h (fun h => ?_) (fun h => ?_)
        · exact next M h
        · refine k_aload_n C (pc2 := 54) (dkAt dkX8_back 29 (q := (53, .aload_n 0, 1)) rfl) rfl rfl 1 rfl ?_
          refine kf_X8_7 C (pc2 := 57) (o := 69) (o2 := 69 + 1) h0.1 rfl (dkAt dkX8_back 30 (q := (54, .getfield 7, 3)) rfl) rfl ?_
          refine k_iload_n C (pc2 := 58) (dkAt dkX8_back 31 (q := (57, .iload_n 1, 1)) rfl) rfl rfl 0 rfl ?_
          refine k_iconst C (pc2 := 59) (dkAt dkX8_back 32 (q := (58, .iconst 0, 1)) rfl) rfl (v := 0) rfl ?_
          refine k_iast C (pc2 := 60) (o := 69 + 1) (nA := 8) (F := fun z => g_backL n (x1 + 1) z) (isM_shelf h0) (dkAt dkX8_back 33 (q := (59, .iastore, 1)) rfl) rfl (by rw [bm_eq]; exact h) (fun M1 h => ?_)
          exact next M1 h
set_option maxRecDepth 100000 in
set_option maxHeartbeats 4000000 in
theorem ct_back1 (l : Launch) (G : GG) (sh : Sh) (M : Mm) (r : Mm × Int32) (t : Nat) (h0 : isM sh 69) (ht : isM sh t) (e0 : t ≠ 0) (e1 : M.2.2 69 19 = t) (h : g_back t M = some r) : Ct l yX8_back cX8_back 2 (some .int) rm_X8_back G [rA G 69] sh M [] (some (.int r.2)) sh r.1 [] 0 0 := by
  refine ct_of (by decide) (Nat.le_of_ble_eq_true rfl) ?_
  intro p e s m args below meth c hnm C
  refine k_lv [0] (lv2 := [(0, rA G 69)]) rfl ?_
  unfold g_back at h
  refine k_aload_n C (pc2 := 1) (dkAt dkX8_back 0 (q := (0, .aload_n 0, 1)) rfl) rfl rfl 0 rfl ?_
  refine kf_X8_366 C (pc2 := 4) (o := 69) (o2 := 0) h0.1 (dkAt dkX8_back 1 (q := (1, .getfield 366, 3)) rfl) rfl ?_
  refine k_ifnn C (tgt := 14) (pc2 := 7) (A := some ()) (B := none) (r := ()) (dkAt dkX8_back 2 (q := (4, .ifnonnull 10, 3)) rfl) (by decide) rfl (if_pos (by rw [e1]; exact e0)) (fun _ _ => ?_) (fun z => by cases z)
  refine k_aload_n C (pc2 := 15) (dkAt dkX8_back 7 (q := (14, .aload_n 0, 1)) rfl) rfl rfl 0 rfl ?_
  refine k_aload_n C (pc2 := 16) (dkAt dkX8_back 8 (q := (15, .aload_n 0, 1)) rfl) rfl rfl 0 rfl ?_
  refine kf_X8_366 C (pc2 := 19) (o := 69) (o2 := 0) h0.1 (dkAt dkX8_back 9 (q := (16, .getfield 366, 3)) rfl) rfl ?_
  rw [e1, rN_ne e0]
  obtain ⟨M2, e2, h⟩ := ob_inv h
  refine k_callV C (As := [rA G t]) (rest := []) (o := 69) (mc := 0) (ms := 0) (ct_X8_takeFrom l G sh [] 69 h0 t ht M M2 e2) (cl_X8_235 (hts_of C) ⟨Nat.le_of_ble_eq_true rfl, Nat.le_of_ble_eq_true rfl⟩ rfl rfl) h0.1 rfl rfl rfl rfl rfl (Nat.le_of_ble_eq_true rfl) (dkAt dkX8_back 10 (q := (19, .invokevirtual 235, 3)) rfl) ⟨Nat.le_refl _, Nat.le_refl _⟩ (pc2 := 22) rfl ?_
  refine k_iconst C (pc2 := 23) (dkAt dkX8_back 11 (q := (22, .iconst 0, 1)) rfl) rfl (v := 0) rfl ?_
  refine k_istore_n C (pc2 := 24) (dkAt dkX8_back 12 (q := (23, .istore_n 1, 1)) rfl) rfl rfl (by decide) (lv2 := [(1, .int 0), (0, rA G 69)]) rfl ?_
  obtain ⟨M5, e5, h⟩ := ob_inv h
  refine kl_back C h0 M5 ?_ 1000 0 M2 e5
  refine k_iconst C (pc2 := 67) (dkAt dkX8_back 36 (q := (66, .iconst 1, 1)) rfl) rfl (v := 1) rfl ?_
  cases h
  exact k_iret C (dkAt dkX8_back 37 (q := (67, .ireturn, 1)) rfl) rfl rfl rfl rfl
