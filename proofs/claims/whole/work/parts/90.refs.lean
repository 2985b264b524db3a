/-! the model's methods that make another model: fresh, image, calendar, back -/
theorem rN_ne {G : GG} {t : Nat} (h : t ≠ 0) : rN G t = rA G t := if_neg h
theorem wR_on {M : Mm} {a k v : Nat} : (wR M a k v).2.2 a k = v := by
  show (if a = a ∧ k = k then v else M.2.2 a k) = v
  exact if_pos ⟨rfl, rfl⟩
section KREF
variable {p : Program} {l : Launch} {e : Env} {R : Room} {s : State} {m : MethodId} {args : Array Value} {below : List Frame} {meth : Method} {c : Code} {G : GG} {own : String} {cc : ByteArray} {nL : Nat} {ret : Option FieldType} {Q : State → Prop} {sh : List (Nat × Nat)} {ck cn : Nat} {M : Mm} {pc pc2 : Nat} {lv : List (Nat × Value)} {st : List Value}
theorem k_foldM (k : KW p l e R s m args below meth c G nL Q (sh ++ shM) [] ck cn (addM M sh.length mIni) pc lv st) : KW p l e R s m args below meth c G nL Q sh (clM G sh.length) ck cn M pc lv st := fun H locs ls hP hS hl => k H locs ls (fold_M hP) hS hl
theorem k_foldX {G : GG} (k : KW p l e R s m args below meth c G nL Q (sh ++ shX) [] ck cn (addM M sh.length xIni) pc lv st) : KW p l e R s m args below meth c G nL Q sh (clX G sh.length) ck cn M pc lv st := fun H locs ls hP hS hl => k H locs ls (fold_X hP) hS hl
def fs8 : List Value := [.null, .null, .null, .null, .null, .null, .null, .int 0, .null, .int 0, .int 0, .null, .null, .null, .null, .null, .null, .int 0, .int 0, .null, .null, .int 0, .int 0, .int 0, .int 0, .int 0, .null, .int 0, .null, .null, .null, .int 0, .int 0, .null, .null, .int 0, .int 0]
/-- new model, and its constructor -/
theorem k_newM (C : Cx p s m c args meth G RX8 cc nL ret) (h : KW p l e R s m args below meth c G nL Q (sh ++ shM) [] (ck + 37) (cn + 902) (addM M sh.length mIni) pc2 lv (rA G sh.length :: st)) {q : Nat} (hq : pc + 3 = q) (hd1 : decode cc pc = .ok (.new 8, 3)) (hd2 : decode cc q = .ok (.dup, 1)) {q2 : Nat} (hq2 : q + 1 = q2) (hd3 : decode cc q2 = .ok (.invokespecial 234, 3)) (hp : q2 + 3 = pc2) (hW : ((rA G sh.length :: st).map fun v => v.category).sum ≤ 8) (hR : ck + 37 ≤ R.cells ∧ cn + 902 ≤ R.slots) (hF : 2 ≤ R.frames ∧ 32 ≤ R.locals) : KW p l e R s m args below meth c G nL Q sh [] ck cn M pc lv st := by
  have ho : sh.length = sh.length + ([] : List va_E).length := rfl
  refine k_xnew (x0 := []) (L := []) C (ci := 8) (C2 := RX8) (T := TX8) (N := 37) (n := 0) (fs := fs8) ho rfl tyX8 rfl tU_X8 tyX8_ok tCL_X8_8 tIN_X8 tN_X8 dfX8 hd1 ⟨by omega, by omega⟩ hq (L2 := [.inr (8, fs8)]) rfl ?_
  refine k_dup C hd2 hq2 rfl ?_
  refine k_callI C (As := []) (rt := none) (o := sh.length) (mc := 36) (ms := 865) (ct_X8_init l G sh M [] sh.length rfl) (cl_X8_234 (hts_of C) ⟨hF.1, hF.2⟩ rfl rfl) rfl rfl hW hd3 ⟨by omega, by omega⟩ hp ?_
  refine k_foldM ?_
  rw [show ck + 1 + 36 = ck + 37 by omega, show cn + 37 + 865 = cn + 902 by omega]
  exact h
end KREF
def rmFr (c s : Nat) : Room := { frames := 2, cells := c, slots := s, locals := 43 }
set_option maxRecDepth 100000 in
set_option maxHeartbeats 4000000 in
theorem kl_fresh {p : Program} {l : Launch} {e : Env} {R : Room} {s : State} {m : MethodId} {args : Array Value} {below : List Frame} {meth : Method} {c : Code} {G : GG} {sh : Sh} {k n : Nat} (C : Cx p s m c args meth G RX8 cX8_fresh 1 (some (.object "WhenCanAllSixModel"))) {M M2 : Mm} {t : Nat} (h0 : isM sh 69) (ht : isM sh t) (e0 : t ≠ 0) (e1 : M.2.2 69 20 = t) (e2 : M2.2.2 69 20 = t) (h : f_X8_takeFrom t 69 M = some M2) (hR : k ≤ R.cells ∧ n ≤ R.slots) (hF : 2 ≤ R.frames ∧ 43 ≤ R.locals) : KW p l e R s m args below meth c G 1 (MQ below (QO G (some (rA G t)) sh M2 []) args s k n (gA G)) sh [] k n M 18 [(0, rA G 69)] [] := by
  refine k_aload_n C (pc2 := 19) (dkAt dkX8_fresh 8 (q := (18, .aload_n 0, 1)) rfl) rfl rfl 0 rfl ?_
  refine kf_X8_230 C (pc2 := 22) (o := 69) (o2 := 0) h0.1 (dkAt dkX8_fresh 9 (q := (19, .getfield 230, 3)) rfl) rfl ?_
  rw [e1, rN_ne e0]
  refine k_aload_n C (pc2 := 23) (dkAt dkX8_fresh 10 (q := (22, .aload_n 0, 1)) rfl) rfl rfl 0 rfl ?_
  refine k_callV C (As := [rA G 69]) (rest := []) (o := t) (ct_X8_takeFrom l G sh [] t ht 69 h0 M M2 h) (cl_X8_235 (hts_of C) ⟨hF.1, hF.2⟩ rfl rfl) ht.1 rfl rfl rfl rfl rfl (Nat.le_of_ble_eq_true rfl) (dkAt dkX8_fresh 11 (q := (23, .invokevirtual 235, 3)) rfl) hR (pc2 := 26) rfl ?_
  refine k_aload_n C (pc2 := 27) (dkAt dkX8_fresh 12 (q := (26, .aload_n 0, 1)) rfl) rfl rfl 0 rfl ?_
  refine kf_X8_230 C (pc2 := 30) (o := 69) (o2 := 0) h0.1 (dkAt dkX8_fresh 13 (q := (27, .getfield 230, 3)) rfl) rfl ?_
  rw [e2, rN_ne e0]
  exact k_aret C (dkAt dkX8_fresh 14 (q := (30, .areturn, 1)) rfl) rfl rfl rfl rfl
set_option maxRecDepth 100000 in
set_option maxHeartbeats 4000000 in
theorem ct_fresh1 (l : Launch) (G : GG) (sh : Sh) (M M2 : Mm) (t : Nat) (h0 : isM sh 69) (ht : isM sh t) (e0 : t ≠ 0) (e1 : M.2.2 69 20 = t) (e2 : M2.2.2 69 20 = t) (h : f_X8_takeFrom t 69 M = some M2) : Ct l yX8_fresh cX8_fresh 1 (some (.object "WhenCanAllSixModel")) (rmFr 0 0) G [rA G 69] sh M [] (some (rA G t)) sh M2 [] 0 0 := by
  refine ct_of (by decide) (Nat.le_of_ble_eq_true rfl) ?_
  intro p e s m args below meth c hnm C
  refine k_lv [0] (lv2 := [(0, rA G 69)]) rfl ?_
  refine k_aload_n C (pc2 := 1) (dkAt dkX8_fresh 0 (q := (0, .aload_n 0, 1)) rfl) rfl rfl 0 rfl ?_
  refine kf_X8_230 C (pc2 := 4) (o := 69) (o2 := 0) h0.1 (dkAt dkX8_fresh 1 (q := (1, .getfield 230, 3)) rfl) rfl ?_
  refine k_ifnn C (tgt := 18) (pc2 := 7) (A := some ()) (B := none) (r := ()) (dkAt dkX8_fresh 2 (q := (4, .ifnonnull 14, 3)) rfl) (by decide) rfl (if_pos (by rw [e1]; exact e0)) (fun _ _ => ?_) (fun z => by cases z)
  exact kl_fresh C h0 ht e0 e1 e2 h ⟨Nat.le_refl _, Nat.le_refl _⟩ ⟨Nat.le_refl _, Nat.le_refl _⟩
set_option maxRecDepth 100000 in
set_option maxHeartbeats 4000000 in
theorem ct_fresh0 (l : Launch) (G : GG) (sh : Sh) (M M2 : Mm) (h0 : isM sh 69) (e1 : M.2.2 69 20 = 0) (e2 : M2.2.2 69 20 = sh.length) (h : f_X8_takeFrom sh.length 69 (wR (addM M sh.length mIni) 69 20 sh.length) = some M2) : Ct l yX8_fresh cX8_fresh 1 (some (.object "WhenCanAllSixModel")) (rmFr 37 902) G [rA G 69] sh M [] (some (rA G sh.length)) (sh ++ shM) M2 [] 37 902 := by
  have hl : 69 < sh.length := (List.getElem?_eq_some_iff.mp h0.1).1
  refine ct_of (by decide) (Nat.le_of_ble_eq_true rfl) ?_
  intro p e s m args below meth c hnm C
  refine k_lv [0] (lv2 := [(0, rA G 69)]) rfl ?_
  refine k_aload_n C (pc2 := 1) (dkAt dkX8_fresh 0 (q := (0, .aload_n 0, 1)) rfl) rfl rfl 0 rfl ?_
  refine kf_X8_230 C (pc2 := 4) (o := 69) (o2 := 0) h0.1 (dkAt dkX8_fresh 1 (q := (1, .getfield 230, 3)) rfl) rfl ?_
  refine k_ifnn C (tgt := 18) (pc2 := 7) (A := none) (B := some ()) (r := ()) (dkAt dkX8_fresh 2 (q := (4, .ifnonnull 14, 3)) rfl) (by decide) rfl (if_neg (by rw [e1]; decide)) (fun z => by cases z) (fun _ _ => ?_)
  refine k_aload_n C (pc2 := 8) (dkAt dkX8_fresh 3 (q := (7, .aload_n 0, 1)) rfl) rfl rfl 0 rfl ?_
  refine k_newM C (pc2 := 15) ?_ (q := 11) rfl (dkAt dkX8_fresh 4 (q := (8, .new 8, 3)) rfl) (dkAt dkX8_fresh 5 (q := (11, .dup, 1)) rfl) (q2 := 12) rfl (dkAt dkX8_fresh 6 (q := (12, .invokespecial 234, 3)) rfl) rfl (Nat.le_of_ble_eq_true rfl) ⟨Nat.le_of_ble_eq_true rfl, Nat.le_of_ble_eq_true rfl⟩ ⟨Nat.le_of_ble_eq_true rfl, Nat.le_of_ble_eq_true rfl⟩
  refine kp_X8_230 C (pc2 := 18) (o := 69) (x := sh.length) (F := fun z => some z) (r := wR (addM M sh.length mIni) 69 20 sh.length) h0.app.1 (by omega) (dkAt dkX8_fresh 7 (q := (15, .putfield 230, 3)) rfl) rfl (bm_eq _ _) (fun M9 h9 => ?_)
  have h9 : some M9 = some (wR (addM M sh.length mIni) 69 20 sh.length) := h9
  cases h9
  exact kl_fresh C h0.app (isM_new sh) (by omega) wR_on e2 h ⟨Nat.le_refl _, Nat.le_refl _⟩ ⟨Nat.le_refl _, Nat.le_refl _⟩
/-! calendar: whatever fresh comes to -/
def rmCal (c s : Nat) : Room := { frames := 8, cells := c, slots := s, locals := 186 }
set_option maxRecDepth 100000 in
set_option maxHeartbeats 4000000 in
theorem ct_cal (l : Launch) (G : GG) (sh sh2 : Sh) (M M2 : Mm) (t cz sz : Nat) (h9 : isM sh 69) (h0 : isM sh2 69) (ht : isM sh2 t) (hF : Ct l yX8_fresh cX8_fresh 1 (some (.object "WhenCanAllSixModel")) (rmFr cz sz) G [rA G 69] sh M [] (some (rA G t)) sh2 M2 [] cz sz) {r : Mm × Int32} (h : g_cal t M2 = some r) : Ct l yX8_calendar cX8_calendar 3 (some .int) (rmCal cz sz) G [rA G 69] sh M [] (some (.int r.2)) sh2 r.1 [] cz sz := by
  refine ct_of (by decide) (Nat.le_of_ble_eq_true rfl) ?_
  intro p e s m args below meth c hnm C
  refine k_lv [0] (lv2 := [(0, rA G 69)]) rfl ?_
  unfold g_cal at h
  refine k_aload_n C (pc2 := 1) (dkAt dkX8_calendar 0 (q := (0, .aload_n 0, 1)) rfl) rfl rfl 0 rfl ?_
  refine k_callV C (As := []) (rest := []) (o := 69) hF (cl_X8_239 (hts_of C) ⟨Nat.le_of_ble_eq_true rfl, Nat.le_of_ble_eq_true rfl⟩ rfl rfl) h9.1 rfl rfl rfl rfl rfl (Nat.le_of_ble_eq_true rfl) (dkAt dkX8_calendar 1 (q := (1, .invokevirtual 239, 3)) rfl) ⟨by rw [Nat.zero_add]; exact Nat.le_refl _, by rw [Nat.zero_add]; exact Nat.le_refl _⟩ (pc2 := 4) rfl ?_
  rw [Nat.zero_add, Nat.zero_add]
  refine k_astore_n C (pc2 := 5) (dkAt dkX8_calendar 2 (q := (4, .astore_n 1, 1)) rfl) rfl rfl (by decide) (lv2 := [(1, rA G t), (0, rA G 69)]) rfl ?_
  refine k_aload_n C (pc2 := 6) (dkAt dkX8_calendar 3 (q := (5, .aload_n 0, 1)) rfl) rfl rfl 1 rfl ?_
  obtain ⟨q2, e2, h⟩ := ob_inv h
  refine k_callV C (As := []) (rest := []) (o := 69) (mc := 0) (ms := 0) (ct_X8_readAll l G sh2 [] 69 h0 M2 q2 e2) (cl_X8_243 (hts_of C) ⟨Nat.le_of_ble_eq_true rfl, Nat.le_of_ble_eq_true rfl⟩ rfl rfl) h0.1 rfl rfl rfl rfl rfl (Nat.le_of_ble_eq_true rfl) (dkAt dkX8_calendar 4 (q := (6, .invokevirtual 243, 3)) rfl) ⟨Nat.le_refl _, Nat.le_refl _⟩ (pc2 := 9) rfl ?_
  refine k_istore_n C (pc2 := 10) (dkAt dkX8_calendar 5 (q := (9, .istore_n 2, 1)) rfl) rfl rfl (by decide) (lv2 := [(2, .int q2.2), (1, rA G t), (0, rA G 69)]) rfl ?_
  refine k_aload_n C (pc2 := 11) (dkAt dkX8_calendar 6 (q := (10, .aload_n 0, 1)) rfl) rfl rfl 2 rfl ?_
  refine k_iconst C (pc2 := 12) (dkAt dkX8_calendar 7 (q := (11, .iconst 0, 1)) rfl) rfl (v := 0) rfl ?_
  refine kp_X8_150 C (pc2 := 15) (o := 69) h0.1 (dkAt dkX8_calendar 8 (q := (12, .putfield 150, 3)) rfl) rfl h (fun M3 h => ?_)
  refine k_iload_n C (pc2 := 16) (dkAt dkX8_calendar 9 (q := (15, .iload_n 2, 1)) rfl) rfl rfl 0 rfl ?_
  refine k_if_ne C (tgt := 39) (pc2 := 19) (dkAt dkX8_calendar 10 (q := (16, .ifCond .ne 23, 3)) rfl) (by decide) rfl h (fun h => ?_) (fun h => ?_)
  · refine k_aload_n C (pc2 := 40) (dkAt dkX8_calendar 23 (q := (39, .aload_n 0, 1)) rfl) rfl rfl 2 rfl ?_
    refine kf_X8_224 C (pc2 := 43) (o := 69) (o2 := 0) h0.1 (dkAt dkX8_calendar 24 (q := (40, .getfield 224, 3)) rfl) rfl ?_
    cases h
    exact k_iret C (dkAt dkX8_calendar 25 (q := (43, .ireturn, 1)) rfl) rfl rfl rfl rfl
  · refine k_aload_n C (pc2 := 20) (dkAt dkX8_calendar 11 (q := (19, .aload_n 0, 1)) rfl) rfl rfl 2 rfl ?_
    refine k_aload_n C (pc2 := 21) (dkAt dkX8_calendar 12 (q := (20, .aload_n 1, 1)) rfl) rfl rfl 1 rfl ?_
    obtain ⟨M4, e4, h⟩ := ob_inv h
    refine k_callV C (As := [rA G t]) (rest := []) (o := 69) (mc := 0) (ms := 0) (ct_X8_takeFrom l G sh2 [] 69 h0 t ht M3 M4 e4) (cl_X8_235 (hts_of C) ⟨Nat.le_of_ble_eq_true rfl, Nat.le_of_ble_eq_true rfl⟩ rfl rfl) h0.1 rfl rfl rfl rfl rfl (Nat.le_of_ble_eq_true rfl) (dkAt dkX8_calendar 13 (q := (21, .invokevirtual 235, 3)) rfl) ⟨Nat.le_refl _, Nat.le_refl _⟩ (pc2 := 24) rfl ?_
    refine k_aload_n C (pc2 := 25) (dkAt dkX8_calendar 14 (q := (24, .aload_n 0, 1)) rfl) rfl rfl 2 rfl ?_
    refine k_bipush C (pc2 := 27) (dkAt dkX8_calendar 15 (q := (25, .bipush (-2), 2)) rfl) rfl (v := (-2)) rfl ?_
    obtain ⟨q5, e5, h⟩ := ob_inv h
    refine k_callV C (As := [.int (-2)]) (rest := []) (o := 69) (mc := 0) (ms := 0) (ct_X8_refuse l G sh2 [] 69 h0 (-2) M4 q5 e5) (cl_X8_97 (hts_of C) ⟨Nat.le_of_ble_eq_true rfl, Nat.le_of_ble_eq_true rfl⟩ rfl rfl) h0.1 rfl rfl rfl rfl rfl (Nat.le_of_ble_eq_true rfl) (dkAt dkX8_calendar 16 (q := (27, .invokevirtual 97, 3)) rfl) ⟨Nat.le_refl _, Nat.le_refl _⟩ (pc2 := 30) rfl ?_
    refine k_pop C (pc2 := 31) (dkAt dkX8_calendar 17 (q := (30, .pop, 1)) rfl) rfl rfl ?_
    refine k_bipush C (pc2 := 33) (dkAt dkX8_calendar 18 (q := (31, .bipush (-20), 2)) rfl) rfl (v := (-20)) rfl ?_
    refine k_aload_n C (pc2 := 34) (dkAt dkX8_calendar 19 (q := (33, .aload_n 0, 1)) rfl) rfl rfl 2 rfl ?_
    refine kf_X8_171 C (pc2 := 37) (o := 69) (o2 := 0) h0.1 (dkAt dkX8_calendar 20 (q := (34, .getfield 171, 3)) rfl) rfl ?_
    refine k_isub C (pc2 := 38) (dkAt dkX8_calendar 21 (q := (37, .isub, 1)) rfl) rfl ?_
    cases h
    exact k_iret C (dkAt dkX8_calendar 22 (q := (38, .ireturn, 1)) rfl) rfl rfl rfl rfl
