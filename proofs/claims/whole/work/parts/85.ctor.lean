/-! the constructors -/
abbrev eI (G : GG) (n : Nat) : va_E := .inl (gC G 0, n, .inl fun _ => 0)
abbrev eJ (G : GG) (n : Nat) : va_E := .inl (gC G 1, n, .inr (.inl fun _ => 0))
theorem ho_app {sh : List (Nat × Nat)} {x0 L : List va_E} {o n : Nat} (ho : o = sh.length + x0.length) (hn : L.length = n) : o + n = sh.length + (x0 ++ L).length := by
  subst ho; subst hn
  rw [List.length_append, Nat.add_assoc]
theorem x_arr {G : GG} {t n o j d st : Nat} {f : Nat → Option Nat} {H : Heap} (h : va_at (gD G) vwCl (gB G + (o + j), eRef G t n f) H) (hf : ∀ i, i < n → f i = some (gB G + (o + j + d + st * i))) : va_at (gD G) vwCl (gB G + (o + j), rArr G t n (o + j) d st) H := by
  have h : H[gB G + (o + j)]? = some (vp_cell (gC G t) (n, .inr (.inr (.inr (.inr f))))) := h
  show H[gB G + (o + j)]? = some (vp_cell (gC G t) (n, .inr (.inr (.inr (.inr _)))))
  rw [h, vp_cell_q, vp_cell_q]
  congr 1
  unfold arrV
  congr 1
  apply Array.ext
  · simp
  · intro i h1 h2
    have hi : i < n := by simpa using h1
    simp only [Array.getElem_ofFn]
    exact congrArg va_rf (hf i hi)
section XCT
variable {p : Program} {l : Launch} {e : Env} {R : Room} {s : State} {m : MethodId} {args : Array Value} {below : List Frame} {meth : Method} {c : Code} {G : GG} {own : String} {cc : ByteArray} {nL : Nat} {ret : Option FieldType} {Q : State → Prop} {sh : List (Nat × Nat)} {x0 L L2 L9 cs : List va_E} {r : va_E} {ck cn : Nat} {M : Mm} {pc pc2 : Nat} {lv : List (Nat × Value)} {rest : List Value} {o n : Nat}
theorem k_xctor (C : Cx p s m c args meth G own cc nL ret) {y : MethodName} {cc2 : ByteArray} {nL2 index mc ms : Nat} {rm : Room} (hM : Ct l y cc2 nL2 none rm G [rA G (o + n)] sh M ((x0 ++ L) ++ [r]) none sh M ((x0 ++ L) ++ cs) mc ms) (cw : CallB R s args own index y cc2 nL2 none (.code y cc2 nL2 none :: TW) rm mc ms 0 ∧ y.name = "<init>" ∧ (Cond.instanceMethod y).before args s = true) (h9 : L ++ [r] = L9) (hW : (rest.map fun v => v.category).sum ≤ 8) (hd : decode cc pc = .ok (.invokespecial index, 3)) (hf : ck + mc ≤ R.cells ∧ cn + ms ≤ R.slots) (hp : pc + 3 = pc2) (hn : L.length = n) (h2 : L ++ cs = L2) (kk : KW p l e R s m args below meth c G nL Q sh (x0 ++ L2) (ck + mc) (cn + ms) M pc2 lv rest) : KW p l e R s m args below meth c G nL Q sh (x0 ++ L9) ck cn M pc lv (rA G (o + n) :: rest) := by
  subst h9; subst h2
  rw [← List.append_assoc] at kk ⊢
  exact k_callI C (As := []) (rt := none) hM cw rfl rfl hW hd hf hp kk
theorem k_xctorN (C : Cx p s m c args meth G own cc nL ret) {y : MethodName} {cc2 : ByteArray} {nL2 index mc ms : Nat} {rm : Room} {host : String} (hM : Ct l y cc2 nL2 none rm G [rA G (o + n)] sh M ((x0 ++ L) ++ [r]) none sh M ((x0 ++ L) ++ cs) mc ms) (cw : va_CN R s args own index y host cc2 nL2 none (.code y cc2 nL2 none :: TW) rm mc ms 0 ∧ y.name = "<init>" ∧ (Cond.instanceMethod y).before args s = true) (h9 : L ++ [r] = L9) (hW : (rest.map fun v => v.category).sum ≤ 8) (hd : decode cc pc = .ok (.invokespecial index, 3)) (hf : ck + mc ≤ R.cells ∧ cn + ms ≤ R.slots) (hp : pc + 3 = pc2) (hn : L.length = n) (h2 : L ++ cs = L2) (kk : KW p l e R s m args below meth c G nL Q sh (x0 ++ L2) (ck + mc) (cn + ms) M pc2 lv rest) : KW p l e R s m args below meth c G nL Q sh (x0 ++ L9) ck cn M pc lv (rA G (o + n) :: rest) := by
  subst h9; subst h2
  rw [← List.append_assoc] at kk ⊢
  exact k_callIN C (As := []) (rt := none) hM cw rfl rfl hW hd hf hp kk
end XCT
theorem dfX0 : ∀ j, j < 4 → defaultValue (tyX0 j) = vp_V [.null, .null, .null, .int 0] j := fun j hj => match j, hj with
  | 0, _ => rfl
  | 1, _ => rfl
  | 2, _ => rfl
  | 3, _ => rfl
  | n + 4, h => absurd h (by omega)
theorem dfX1 : ∀ j, j < 8 → defaultValue (tyX1 j) = vp_V [.int 0, .int 0, .int 0, .int 0, .int 0, .int 0, .int 0, .null] j := fun j hj => match j, hj with
  | 0, _ => rfl
  | 1, _ => rfl
  | 2, _ => rfl
  | 3, _ => rfl
  | 4, _ => rfl
  | 5, _ => rfl
  | 6, _ => rfl
  | 7, _ => rfl
  | n + 8, h => absurd h (by omega)
theorem dfX2 : ∀ j, j < 5 → defaultValue (tyX2 j) = vp_V [.int 0, .int 0, .int 0, .int 0, .int 0] j := fun j hj => match j, hj with
  | 0, _ => rfl
  | 1, _ => rfl
  | 2, _ => rfl
  | 3, _ => rfl
  | 4, _ => rfl
  | n + 5, h => absurd h (by omega)
theorem dfX3 : ∀ j, j < 3 → defaultValue (tyX3 j) = vp_V [.null, .null, .int 0] j := fun j hj => match j, hj with
  | 0, _ => rfl
  | 1, _ => rfl
  | 2, _ => rfl
  | n + 3, h => absurd h (by omega)
theorem dfX4 : ∀ j, j < 3 → defaultValue (tyX4 j) = vp_V [.int 0, .int 0, .null] j := fun j hj => match j, hj with
  | 0, _ => rfl
  | 1, _ => rfl
  | 2, _ => rfl
  | n + 3, h => absurd h (by omega)
theorem dfX5 : ∀ j, j < 5 → defaultValue (tyX5 j) = vp_V [.null, .int 0, .int 0, .int 0, .int 0] j := fun j hj => match j, hj with
  | 0, _ => rfl
  | 1, _ => rfl
  | 2, _ => rfl
  | 3, _ => rfl
  | 4, _ => rfl
  | n + 5, h => absurd h (by omega)
theorem dfX6 : ∀ j, j < 4 → defaultValue (tyX6 j) = vp_V [.null, .null, .null, .int 0] j := fun j hj => match j, hj with
  | 0, _ => rfl
  | 1, _ => rfl
  | 2, _ => rfl
  | 3, _ => rfl
  | n + 4, h => absurd h (by omega)
theorem dfX7 : ∀ j, j < 9 → defaultValue (tyX7 j) = vp_V [.null, .null, .int 0, .null, .null, .null, .null, .null, .null] j := fun j hj => match j, hj with
  | 0, _ => rfl
  | 1, _ => rfl
  | 2, _ => rfl
  | 3, _ => rfl
  | 4, _ => rfl
  | 5, _ => rfl
  | 6, _ => rfl
  | 7, _ => rfl
  | 8, _ => rfl
  | n + 9, h => absurd h (by omega)
theorem dfX8 : ∀ j, j < 37 → defaultValue (tyX8 j) = vp_V [.null, .null, .null, .null, .null, .null, .null, .int 0, .null, .int 0, .int 0, .null, .null, .null, .null, .null, .null, .int 0, .int 0, .null, .null, .int 0, .int 0, .int 0, .int 0, .int 0, .null, .int 0, .null, .null, .null, .int 0, .int 0, .null, .null, .int 0, .int 0] j := fun j hj => match j, hj with
  | 0, _ => rfl
  | 1, _ => rfl
  | 2, _ => rfl
  | 3, _ => rfl
  | 4, _ => rfl
  | 5, _ => rfl
  | 6, _ => rfl
  | 7, _ => rfl
  | 8, _ => rfl
  | 9, _ => rfl
  | 10, _ => rfl
  | 11, _ => rfl
  | 12, _ => rfl
  | 13, _ => rfl
  | 14, _ => rfl
  | 15, _ => rfl
  | 16, _ => rfl
  | 17, _ => rfl
  | 18, _ => rfl
  | 19, _ => rfl
  | 20, _ => rfl
  | 21, _ => rfl
  | 22, _ => rfl
  | 23, _ => rfl
  | 24, _ => rfl
  | 25, _ => rfl
  | 26, _ => rfl
  | 27, _ => rfl
  | 28, _ => rfl
  | 29, _ => rfl
  | 30, _ => rfl
  | 31, _ => rfl
  | 32, _ => rfl
  | 33, _ => rfl
  | 34, _ => rfl
  | 35, _ => rfl
  | 36, _ => rfl
  | n + 37, h => absurd h (by omega)
def rm_X2_init : Room := { frames := 1, cells := 0, slots := 0, locals := 12 }
set_option maxRecDepth 100000 in
set_option maxHeartbeats 4000000 in
theorem ct_X2_init (l : Launch) (G : GG) (sh : Sh) (M : Mm) (x0 : List va_E) (o : Nat) (ho : o = sh.length + x0.length) : Ct l yX2_init cX2_init 1 none rm_X2_init G [rA G o] sh M (x0 ++ [.inr (2, [.int 0, .int 0, .int 0, .int 0, .int 0])]) none sh M (x0 ++ [.inr (2, [.int 0, .int 0, .int 0, .int 0, .int 0])]) 0 0 := by
  refine ct_of (by decide) (Nat.le_of_ble_eq_true rfl) ?_
  intro p e s m args below meth c hnm C
  have hnm : meth.name = "<init>" := hnm
  refine k_lv [0] (lv2 := [(0, rA G o)]) rfl ?_
  refine k_aload_n C (pc2 := 1) (dkAt dkX2_init 0 (q := (0, .aload_n 0, 1)) rfl) rfl rfl 0 rfl ?_
  refine k_obj C tM_X2_3 tI_objectInit tC_objectInit (dkAt dkX2_init 1 (q := (1, .invokespecial 3, 3)) rfl) ⟨Nat.le_of_ble_eq_true rfl, Nat.le_of_ble_eq_true rfl⟩ (pc2 := 4) rfl ?_
  exact k_vret C (dkAt dkX2_init 2 (q := (4, .return_, 1)) rfl) rfl rfl rfl
def rm_X5_init : Room := { frames := 1, cells := 1, slots := 250, locals := 12 }
set_option maxRecDepth 100000 in
set_option maxHeartbeats 4000000 in
theorem ct_X5_init (l : Launch) (G : GG) (sh : Sh) (M : Mm) (x0 : List va_E) (o : Nat) (ho : o = sh.length + x0.length) : Ct l yX5_init cX5_init 1 none rm_X5_init G [rA G o] sh M (x0 ++ [.inr (5, [.null, .int 0, .int 0, .int 0, .int 0])]) none sh M (x0 ++ [.inr (5, [rA G (o + 1), .int 0, .int 0, .int 0, .int 0]), eI G 250]) 1 250 := by
  refine ct_of (by decide) (Nat.le_of_ble_eq_true rfl) ?_
  intro p e s m args below meth c hnm C
  have hnm : meth.name = "<init>" := hnm
  refine k_lv [0] (lv2 := [(0, rA G o)]) rfl ?_
  refine k_aload_n C (pc2 := 1) (dkAt dkX5_init 0 (q := (0, .aload_n 0, 1)) rfl) rfl rfl 0 rfl ?_
  refine k_obj C tM_X5_3 tI_objectInit tC_objectInit (dkAt dkX5_init 1 (q := (1, .invokespecial 3, 3)) rfl) ⟨Nat.le_of_ble_eq_true rfl, Nat.le_of_ble_eq_true rfl⟩ (pc2 := 4) rfl ?_
  refine k_aload_n C (pc2 := 5) (dkAt dkX5_init 2 (q := (4, .aload_n 0, 1)) rfl) rfl rfl 0 rfl ?_
  refine k_sipush C (pc2 := 8) (dkAt dkX5_init 3 (q := (5, .sipush 250, 3)) rfl) rfl (v := 250) rfl ?_
  refine k_xnewI C (N := 250) (n := 1) ho rfl (dkAt dkX5_init 4 (q := (8, .newarray .int, 2)) rfl) (by decide) rfl (Nat.le_of_ble_eq_true rfl) ⟨Nat.le_of_ble_eq_true rfl, Nat.le_of_ble_eq_true rfl⟩ (pc2 := 10) rfl (L2 := [.inr (5, [.null, .int 0, .int 0, .int 0, .int 0]), eI G 250]) rfl ?_
  refine k_xputF C (ci := 5) (N := 5) (T := TX5) (fi := 0) (fs2 := [rA G (o + 1), .int 0, .int 0, .int 0, .int 0]) ho tyX5 rfl tU_X5 tyX5_ok nmX5 (Nat.le_of_ble_eq_true rfl) tF_X5_9 rfl rfl hnm rfl rfl rfl rfl (Nat.le_of_ble_eq_true rfl) (dkAt dkX5_init 5 (q := (10, .putfield 9, 3)) rfl) (pc2 := 13) rfl rfl ?_
  exact k_vret C (dkAt dkX5_init 6 (q := (13, .return_, 1)) rfl) rfl rfl rfl
def rm_X4_init : Room := { frames := 1, cells := 1, slots := 40, locals := 12 }
set_option maxRecDepth 100000 in
set_option maxHeartbeats 4000000 in
theorem ct_X4_init (l : Launch) (G : GG) (sh : Sh) (M : Mm) (x0 : List va_E) (o : Nat) (ho : o = sh.length + x0.length) : Ct l yX4_init cX4_init 1 none rm_X4_init G [rA G o] sh M (x0 ++ [.inr (4, [.int 0, .int 0, .null])]) none sh M (x0 ++ [.inr (4, [.int (-1), .int 0, rA G (o + 1)]), eJ G 40]) 1 40 := by
  refine ct_of (by decide) (Nat.le_of_ble_eq_true rfl) ?_
  intro p e s m args below meth c hnm C
  have hnm : meth.name = "<init>" := hnm
  refine k_lv [0] (lv2 := [(0, rA G o)]) rfl ?_
  refine k_aload_n C (pc2 := 1) (dkAt dkX4_init 0 (q := (0, .aload_n 0, 1)) rfl) rfl rfl 0 rfl ?_
  refine k_obj C tM_X4_3 tI_objectInit tC_objectInit (dkAt dkX4_init 1 (q := (1, .invokespecial 3, 3)) rfl) ⟨Nat.le_of_ble_eq_true rfl, Nat.le_of_ble_eq_true rfl⟩ (pc2 := 4) rfl ?_
  refine k_aload_n C (pc2 := 5) (dkAt dkX4_init 2 (q := (4, .aload_n 0, 1)) rfl) rfl rfl 0 rfl ?_
  refine k_iconst C (pc2 := 6) (dkAt dkX4_init 3 (q := (5, .iconst (-1), 1)) rfl) rfl (v := (-1)) rfl ?_
  refine k_xput C (ci := 4) (N := 3) (T := TX4) (fi := 0) (fs2 := [.int (-1), .int 0, .null]) ho tyX4 rfl tU_X4 tyX4_ok nmX4 (Nat.le_of_ble_eq_true rfl) tF_X4_9 rfl rfl rfl rfl rfl (Nat.le_of_ble_eq_true rfl) (dkAt dkX4_init 4 (q := (6, .putfield 9, 3)) rfl) (pc2 := 9) rfl rfl ?_
  refine k_aload_n C (pc2 := 10) (dkAt dkX4_init 5 (q := (9, .aload_n 0, 1)) rfl) rfl rfl 0 rfl ?_
  refine k_bipush C (pc2 := 12) (dkAt dkX4_init 6 (q := (10, .bipush 40, 2)) rfl) rfl (v := 40) rfl ?_
  refine k_xnewJ C (N := 40) (n := 1) ho rfl (dkAt dkX4_init 7 (q := (12, .newarray .long, 2)) rfl) (by decide) rfl (Nat.le_of_ble_eq_true rfl) ⟨Nat.le_of_ble_eq_true rfl, Nat.le_of_ble_eq_true rfl⟩ (pc2 := 14) rfl (L2 := [.inr (4, [.int (-1), .int 0, .null]), eJ G 40]) rfl ?_
  refine k_xputF C (ci := 4) (N := 3) (T := TX4) (fi := 2) (fs2 := [.int (-1), .int 0, rA G (o + 1)]) ho tyX4 rfl tU_X4 tyX4_ok nmX4 (Nat.le_of_ble_eq_true rfl) tF_X4_15 rfl rfl hnm rfl rfl rfl rfl (Nat.le_of_ble_eq_true rfl) (dkAt dkX4_init 8 (q := (14, .putfield 15, 3)) rfl) (pc2 := 17) rfl rfl ?_
  exact k_vret C (dkAt dkX4_init 9 (q := (17, .return_, 1)) rfl) rfl rfl rfl
def rm_X1_init : Room := { frames := 2, cells := 9, slots := 48, locals := 32 }
set_option maxRecDepth 100000 in
set_option maxHeartbeats 4000000 in
theorem ct_X1_init (l : Launch) (G : GG) (sh : Sh) (M : Mm) (x0 : List va_E) (o : Nat) (ho : o = sh.length + x0.length) : Ct l yX1_init cX1_init 2 none rm_X1_init G [rA G o] sh M (x0 ++ [.inr (1, [.int 0, .int 0, .int 0, .int 0, .int 0, .int 0, .int 0, .null])]) none sh M (x0 ++ [.inr (1, [.int 11, .int 0, .int 0, .int 2, .int 1, .int 0, .int 1, rA G (o + 1)]), rArr G 2 8 (o + 1) 1 1, .inr (2, [.int 0, .int 0, .int 0, .int 0, .int 0]), .inr (2, [.int 0, .int 0, .int 0, .int 0, .int 0]), .inr (2, [.int 0, .int 0, .int 0, .int 0, .int 0]), .inr (2, [.int 0, .int 0, .int 0, .int 0, .int 0]), .inr (2, [.int 0, .int 0, .int 0, .int 0, .int 0]), .inr (2, [.int 0, .int 0, .int 0, .int 0, .int 0]), .inr (2, [.int 0, .int 0, .int 0, .int 0, .int 0]), .inr (2, [.int 0, .int 0, .int 0, .int 0, .int 0])]) 9 48 := by
  refine ct_of (by decide) (Nat.le_of_ble_eq_true rfl) ?_
  intro p e s m args below meth c hnm C
  have hnm : meth.name = "<init>" := hnm
  refine k_lv [0] (lv2 := [(0, rA G o)]) rfl ?_
  refine k_aload_n C (pc2 := 1) (dkAt dkX1_init 0 (q := (0, .aload_n 0, 1)) rfl) rfl rfl 0 rfl ?_
  refine k_obj C tM_X1_3 tI_objectInit tC_objectInit (dkAt dkX1_init 1 (q := (1, .invokespecial 3, 3)) rfl) ⟨Nat.le_of_ble_eq_true rfl, Nat.le_of_ble_eq_true rfl⟩ (pc2 := 4) rfl ?_
  refine k_aload_n C (pc2 := 5) (dkAt dkX1_init 2 (q := (4, .aload_n 0, 1)) rfl) rfl rfl 0 rfl ?_
  refine k_bipush C (pc2 := 7) (dkAt dkX1_init 3 (q := (5, .bipush 11, 2)) rfl) rfl (v := 11) rfl ?_
  refine k_xput C (ci := 1) (N := 8) (T := TX1) (fi := 0) (fs2 := [.int 11, .int 0, .int 0, .int 0, .int 0, .int 0, .int 0, .null]) ho tyX1 rfl tU_X1 tyX1_ok nmX1 (Nat.le_of_ble_eq_true rfl) tF_X1_9 rfl rfl rfl rfl rfl (Nat.le_of_ble_eq_true rfl) (dkAt dkX1_init 4 (q := (7, .putfield 9, 3)) rfl) (pc2 := 10) rfl rfl ?_
  refine k_aload_n C (pc2 := 11) (dkAt dkX1_init 5 (q := (10, .aload_n 0, 1)) rfl) rfl rfl 0 rfl ?_
  refine k_iconst C (pc2 := 12) (dkAt dkX1_init 6 (q := (11, .iconst 2, 1)) rfl) rfl (v := 2) rfl ?_
  refine k_xput C (ci := 1) (N := 8) (T := TX1) (fi := 3) (fs2 := [.int 11, .int 0, .int 0, .int 2, .int 0, .int 0, .int 0, .null]) ho tyX1 rfl tU_X1 tyX1_ok nmX1 (Nat.le_of_ble_eq_true rfl) tF_X1_15 rfl rfl rfl rfl rfl (Nat.le_of_ble_eq_true rfl) (dkAt dkX1_init 7 (q := (12, .putfield 15, 3)) rfl) (pc2 := 15) rfl rfl ?_
  refine k_aload_n C (pc2 := 16) (dkAt dkX1_init 8 (q := (15, .aload_n 0, 1)) rfl) rfl rfl 0 rfl ?_
  refine k_iconst C (pc2 := 17) (dkAt dkX1_init 9 (q := (16, .iconst 1, 1)) rfl) rfl (v := 1) rfl ?_
  refine k_xput C (ci := 1) (N := 8) (T := TX1) (fi := 4) (fs2 := [.int 11, .int 0, .int 0, .int 2, .int 1, .int 0, .int 0, .null]) ho tyX1 rfl tU_X1 tyX1_ok nmX1 (Nat.le_of_ble_eq_true rfl) tF_X1_18 rfl rfl rfl rfl rfl (Nat.le_of_ble_eq_true rfl) (dkAt dkX1_init 10 (q := (17, .putfield 18, 3)) rfl) (pc2 := 20) rfl rfl ?_
  refine k_aload_n C (pc2 := 21) (dkAt dkX1_init 11 (q := (20, .aload_n 0, 1)) rfl) rfl rfl 0 rfl ?_
  refine k_iconst C (pc2 := 22) (dkAt dkX1_init 12 (q := (21, .iconst 1, 1)) rfl) rfl (v := 1) rfl ?_
  refine k_xput C (ci := 1) (N := 8) (T := TX1) (fi := 6) (fs2 := [.int 11, .int 0, .int 0, .int 2, .int 1, .int 0, .int 1, .null]) ho tyX1 rfl tU_X1 tyX1_ok nmX1 (Nat.le_of_ble_eq_true rfl) tF_X1_21 rfl rfl rfl rfl rfl (Nat.le_of_ble_eq_true rfl) (dkAt dkX1_init 13 (q := (22, .putfield 21, 3)) rfl) (pc2 := 25) rfl rfl ?_
  refine k_aload_n C (pc2 := 26) (dkAt dkX1_init 14 (q := (25, .aload_n 0, 1)) rfl) rfl rfl 0 rfl ?_
  refine k_bipush C (pc2 := 28) (dkAt dkX1_init 15 (q := (26, .bipush 8, 2)) rfl) rfl (v := 8) rfl ?_
  refine k_xnewR C (t := 2) (C2 := RX2) (N := 8) (n := 1) ho rfl rfl tCL_X1_24 C.2.2.2.2.2.1.2.2.2.2.1 (dkAt dkX1_init 16 (q := (28, .anewarray 24, 3)) rfl) (by decide) rfl (Nat.le_of_ble_eq_true rfl) ⟨Nat.le_of_ble_eq_true rfl, Nat.le_of_ble_eq_true rfl⟩ (pc2 := 31) rfl (L2 := [.inr (1, [.int 11, .int 0, .int 0, .int 2, .int 1, .int 0, .int 1, .null]), eRef G 2 8 (fun _ => none)]) rfl ?_
  refine k_xputF C (ci := 1) (N := 8) (T := TX1) (fi := 7) (fs2 := [.int 11, .int 0, .int 0, .int 2, .int 1, .int 0, .int 1, rA G (o + 1)]) ho tyX1 rfl tU_X1 tyX1_ok nmX1 (Nat.le_of_ble_eq_true rfl) tF_X1_26 rfl rfl hnm rfl rfl rfl rfl (Nat.le_of_ble_eq_true rfl) (dkAt dkX1_init 17 (q := (31, .putfield 26, 3)) rfl) (pc2 := 34) rfl rfl ?_
  refine k_iconst C (pc2 := 35) (dkAt dkX1_init 18 (q := (34, .iconst 0, 1)) rfl) rfl (v := 0) rfl ?_
  refine k_istore_n C (pc2 := 36) (dkAt dkX1_init 19 (q := (35, .istore_n 1, 1)) rfl) rfl rfl (by decide) (lv2 := [(1, .int 0), (0, rA G o)]) rfl ?_
  refine k_iload_n C (pc2 := 37) (dkAt dkX1_init 20 (q := (36, .iload_n 1, 1)) rfl) rfl rfl 0 rfl ?_
  refine k_bipush C (pc2 := 39) (dkAt dkX1_init 21 (q := (37, .bipush 8, 2)) rfl) rfl (v := 8) rfl ?_
  refine k_icmp_ge C (tgt := 61) (pc2 := 42) (A := none) (B := some ()) (r := ()) (dkAt dkX1_init 22 (q := (39, .if_icmp .ge 22, 3)) rfl) (by decide) rfl (if_neg (by decide)) (fun z => by cases z) (fun _ => ?_)
  refine k_aload_n C (pc2 := 43) (dkAt dkX1_init 23 (q := (42, .aload_n 0, 1)) rfl) rfl rfl 1 rfl ?_
  refine k_xget C (ci := 1) (N := 8) (T := TX1) (fi := 7) (v := rA G (o + 1)) ho rfl tU_X1 (Nat.le_of_ble_eq_true rfl) tF_X1_26 rfl rfl (dkAt dkX1_init 24 (q := (43, .getfield 26, 3)) rfl) (pc2 := 46) rfl ?_
  refine k_iload_n C (pc2 := 47) (dkAt dkX1_init 25 (q := (46, .iload_n 1, 1)) rfl) rfl rfl 0 rfl ?_
  refine k_xnew C (ci := 2) (C2 := RX2) (T := TX2) (N := 5) (n := 2) (fs := [.int 0, .int 0, .int 0, .int 0, .int 0]) ho rfl tyX2 rfl tU_X2 tyX2_ok tCL_X1_24 tIN_X2 tN_X2 dfX2 (dkAt dkX1_init 26 (q := (47, .new 24, 3)) rfl) ⟨Nat.le_of_ble_eq_true rfl, Nat.le_of_ble_eq_true rfl⟩ (pc2 := 50) rfl (L2 := [.inr (1, [.int 11, .int 0, .int 0, .int 2, .int 1, .int 0, .int 1, rA G (o + 1)]), eRef G 2 8 (fun _ => none), .inr (2, [.int 0, .int 0, .int 0, .int 0, .int 0])]) rfl ?_
  refine k_dup C (pc2 := 51) (dkAt dkX1_init 27 (q := (50, .dup, 1)) rfl) rfl rfl ?_
  refine k_xctorN C (o := o) (n := 2) (L := [.inr (1, [.int 11, .int 0, .int 0, .int 2, .int 1, .int 0, .int 1, rA G (o + 1)]), eRef G 2 8 (fun _ => none)]) (r := .inr (2, [.int 0, .int 0, .int 0, .int 0, .int 0])) (cs := [.inr (2, [.int 0, .int 0, .int 0, .int 0, .int 0])]) (ct_X2_init l G sh M (x0 ++ [.inr (1, [.int 11, .int 0, .int 0, .int 2, .int 1, .int 0, .int 1, rA G (o + 1)]), eRef G 2 8 (fun _ => none)]) (o + 2) (ho_app ho rfl)) (cl_X1_30 (hts_of C) C.2.2.2.2.1 ⟨Nat.le_of_ble_eq_true rfl, Nat.le_of_ble_eq_true rfl⟩ rfl rfl) rfl (Nat.le_of_ble_eq_true rfl) (dkAt dkX1_init 28 (q := (51, .invokespecial 30, 3)) rfl) ⟨Nat.le_of_ble_eq_true rfl, Nat.le_of_ble_eq_true rfl⟩ (pc2 := 54) rfl rfl (L2 := [.inr (1, [.int 11, .int 0, .int 0, .int 2, .int 1, .int 0, .int 1, rA G (o + 1)]), eRef G 2 8 (fun _ => none), .inr (2, [.int 0, .int 0, .int 0, .int 0, .int 0])]) rfl ?_
  refine k_xaast C (j := 1) (j2 := 2) (N := 8) (t := 2) (ci := 2) (r := (RX2, TX2, 5)) (vs := [.int 0, .int 0, .int 0, .int 0, .int 0]) ho rfl rfl rfl rfl (dkAt dkX1_init 29 (q := (54, .aastore, 1)) rfl) (by unfold vp_in; decide) (pc2 := 55) rfl (L2 := [.inr (1, [.int 11, .int 0, .int 0, .int 2, .int 1, .int 0, .int 1, rA G (o + 1)]), eRef G 2 8 (va_up (fun _ => none) 0 (some (gB G + (o + 2)))), .inr (2, [.int 0, .int 0, .int 0, .int 0, .int 0])]) rfl ?_
  refine k_iinc C (j := 0) (x := 0) (v := 1) (pc2 := 58) (dkAt dkX1_init 30 (q := (55, .iinc 1 1, 3)) rfl) rfl rfl (by decide) (by decide) (lv2 := [(1, .int 1), (0, rA G o)]) rfl ?_
  refine k_goto C (tgt := 36) (dkAt dkX1_init 31 (q := (58, .goto (-22), 3)) rfl) (by decide) ?_
  refine k_iload_n C (pc2 := 37) (dkAt dkX1_init 20 (q := (36, .iload_n 1, 1)) rfl) rfl rfl 0 rfl ?_
  refine k_bipush C (pc2 := 39) (dkAt dkX1_init 21 (q := (37, .bipush 8, 2)) rfl) rfl (v := 8) rfl ?_
  refine k_icmp_ge C (tgt := 61) (pc2 := 42) (A := none) (B := some ()) (r := ()) (dkAt dkX1_init 22 (q := (39, .if_icmp .ge 22, 3)) rfl) (by decide) rfl (if_neg (by decide)) (fun z => by cases z) (fun _ => ?_)
  refine k_aload_n C (pc2 := 43) (dkAt dkX1_init 23 (q := (42, .aload_n 0, 1)) rfl) rfl rfl 1 rfl ?_
  refine k_xget C (ci := 1) (N := 8) (T := TX1) (fi := 7) (v := rA G (o + 1)) ho rfl tU_X1 (Nat.le_of_ble_eq_true rfl) tF_X1_26 rfl rfl (dkAt dkX1_init 24 (q := (43, .getfield 26, 3)) rfl) (pc2 := 46) rfl ?_
  refine k_iload_n C (pc2 := 47) (dkAt dkX1_init 25 (q := (46, .iload_n 1, 1)) rfl) rfl rfl 0 rfl ?_
  refine k_xnew C (ci := 2) (C2 := RX2) (T := TX2) (N := 5) (n := 3) (fs := [.int 0, .int 0, .int 0, .int 0, .int 0]) ho rfl tyX2 rfl tU_X2 tyX2_ok tCL_X1_24 tIN_X2 tN_X2 dfX2 (dkAt dkX1_init 26 (q := (47, .new 24, 3)) rfl) ⟨Nat.le_of_ble_eq_true rfl, Nat.le_of_ble_eq_true rfl⟩ (pc2 := 50) rfl (L2 := [.inr (1, [.int 11, .int 0, .int 0, .int 2, .int 1, .int 0, .int 1, rA G (o + 1)]), eRef G 2 8 (va_up (fun _ => none) 0 (some (gB G + (o + 2)))), .inr (2, [.int 0, .int 0, .int 0, .int 0, .int 0]), .inr (2, [.int 0, .int 0, .int 0, .int 0, .int 0])]) rfl ?_
  refine k_dup C (pc2 := 51) (dkAt dkX1_init 27 (q := (50, .dup, 1)) rfl) rfl rfl ?_
  refine k_xctorN C (o := o) (n := 3) (L := [.inr (1, [.int 11, .int 0, .int 0, .int 2, .int 1, .int 0, .int 1, rA G (o + 1)]), eRef G 2 8 (va_up (fun _ => none) 0 (some (gB G + (o + 2)))), .inr (2, [.int 0, .int 0, .int 0, .int 0, .int 0])]) (r := .inr (2, [.int 0, .int 0, .int 0, .int 0, .int 0])) (cs := [.inr (2, [.int 0, .int 0, .int 0, .int 0, .int 0])]) (ct_X2_init l G sh M (x0 ++ [.inr (1, [.int 11, .int 0, .int 0, .int 2, .int 1, .int 0, .int 1, rA G (o + 1)]), eRef G 2 8 (va_up (fun _ => none) 0 (some (gB G + (o + 2)))), .inr (2, [.int 0, .int 0, .int 0, .int 0, .int 0])]) (o + 3) (ho_app ho rfl)) (cl_X1_30 (hts_of C) C.2.2.2.2.1 ⟨Nat.le_of_ble_eq_true rfl, Nat.le_of_ble_eq_true rfl⟩ rfl rfl) rfl (Nat.le_of_ble_eq_true rfl) (dkAt dkX1_init 28 (q := (51, .invokespecial 30, 3)) rfl) ⟨Nat.le_of_ble_eq_true rfl, Nat.le_of_ble_eq_true rfl⟩ (pc2 := 54) rfl rfl (L2 := [.inr (1, [.int 11, .int 0, .int 0, .int 2, .int 1, .int 0, .int 1, rA G (o + 1)]), eRef G 2 8 (va_up (fun _ => none) 0 (some (gB G + (o + 2)))), .inr (2, [.int 0, .int 0, .int 0, .int 0, .int 0]), .inr (2, [.int 0, .int 0, .int 0, .int 0, .int 0])]) rfl ?_
  refine k_xaast C (j := 1) (j2 := 3) (N := 8) (t := 2) (ci := 2) (r := (RX2, TX2, 5)) (vs := [.int 0, .int 0, .int 0, .int 0, .int 0]) ho rfl rfl rfl rfl (dkAt dkX1_init 29 (q := (54, .aastore, 1)) rfl) (by unfold vp_in; decide) (pc2 := 55) rfl (L2 := [.inr (1, [.int 11, .int 0, .int 0, .int 2, .int 1, .int 0, .int 1, rA G (o + 1)]), eRef G 2 8 (va_up (va_up (fun _ => none) 0 (some (gB G + (o + 2)))) 1 (some (gB G + (o + 3)))), .inr (2, [.int 0, .int 0, .int 0, .int 0, .int 0]), .inr (2, [.int 0, .int 0, .int 0, .int 0, .int 0])]) rfl ?_
  refine k_iinc C (j := 0) (x := 1) (v := 2) (pc2 := 58) (dkAt dkX1_init 30 (q := (55, .iinc 1 1, 3)) rfl) rfl rfl (by decide) (by decide) (lv2 := [(1, .int 2), (0, rA G o)]) rfl ?_
  refine k_goto C (tgt := 36) (dkAt dkX1_init 31 (q := (58, .goto (-22), 3)) rfl) (by decide) ?_
  refine k_iload_n C (pc2 := 37) (dkAt dkX1_init 20 (q := (36, .iload_n 1, 1)) rfl) rfl rfl 0 rfl ?_
  refine k_bipush C (pc2 := 39) (dkAt dkX1_init 21 (q := (37, .bipush 8, 2)) rfl) rfl (v := 8) rfl ?_
  refine k_icmp_ge C (tgt := 61) (pc2 := 42) (A := none) (B := some ()) (r := ()) (dkAt dkX1_init 22 (q := (39, .if_icmp .ge 22, 3)) rfl) (by decide) rfl (if_neg (by decide)) (fun z => by cases z) (fun _ => ?_)
  refine k_aload_n C (pc2 := 43) (dkAt dkX1_init 23 (q := (42, .aload_n 0, 1)) rfl) rfl rfl 1 rfl ?_
  refine k_xget C (ci := 1) (N := 8) (T := TX1) (fi := 7) (v := rA G (o + 1)) ho rfl tU_X1 (Nat.le_of_ble_eq_true rfl) tF_X1_26 rfl rfl (dkAt dkX1_init 24 (q := (43, .getfield 26, 3)) rfl) (pc2 := 46) rfl ?_
  refine k_iload_n C (pc2 := 47) (dkAt dkX1_init 25 (q := (46, .iload_n 1, 1)) rfl) rfl rfl 0 rfl ?_
  refine k_xnew C (ci := 2) (C2 := RX2) (T := TX2) (N := 5) (n := 4) (fs := [.int 0, .int 0, .int 0, .int 0, .int 0]) ho rfl tyX2 rfl tU_X2 tyX2_ok tCL_X1_24 tIN_X2 tN_X2 dfX2 (dkAt dkX1_init 26 (q := (47, .new 24, 3)) rfl) ⟨Nat.le_of_ble_eq_true rfl, Nat.le_of_ble_eq_true rfl⟩ (pc2 := 50) rfl (L2 := [.inr (1, [.int 11, .int 0, .int 0, .int 2, .int 1, .int 0, .int 1, rA G (o + 1)]), eRef G 2 8 (va_up (va_up (fun _ => none) 0 (some (gB G + (o + 2)))) 1 (some (gB G + (o + 3)))), .inr (2, [.int 0, .int 0, .int 0, .int 0, .int 0]), .inr (2, [.int 0, .int 0, .int 0, .int 0, .int 0]), .inr (2, [.int 0, .int 0, .int 0, .int 0, .int 0])]) rfl ?_
  refine k_dup C (pc2 := 51) (dkAt dkX1_init 27 (q := (50, .dup, 1)) rfl) rfl rfl ?_
  refine k_xctorN C (o := o) (n := 4) (L := [.inr (1, [.int 11, .int 0, .int 0, .int 2, .int 1, .int 0, .int 1, rA G (o + 1)]), eRef G 2 8 (va_up (va_up (fun _ => none) 0 (some (gB G + (o + 2)))) 1 (some (gB G + (o + 3)))), .inr (2, [.int 0, .int 0, .int 0, .int 0, .int 0]), .inr (2, [.int 0, .int 0, .int 0, .int 0, .int 0])]) (r := .inr (2, [.int 0, .int 0, .int 0, .int 0, .int 0])) (cs := [.inr (2, [.int 0, .int 0, .int 0, .int 0, .int 0])]) (ct_X2_init l G sh M (x0 ++ [.inr (1, [.int 11, .int 0, .int 0, .int 2, .int 1, .int 0, .int 1, rA G (o + 1)]), eRef G 2 8 (va_up (va_up (fun _ => none) 0 (some (gB G + (o + 2)))) 1 (some (gB G + (o + 3)))), .inr (2, [.int 0, .int 0, .int 0, .int 0, .int 0]), .inr (2, [.int 0, .int 0, .int 0, .int 0, .int 0])]) (o + 4) (ho_app ho rfl)) (cl_X1_30 (hts_of C) C.2.2.2.2.1 ⟨Nat.le_of_ble_eq_true rfl, Nat.le_of_ble_eq_true rfl⟩ rfl rfl) rfl (Nat.le_of_ble_eq_true rfl) (dkAt dkX1_init 28 (q := (51, .invokespecial 30, 3)) rfl) ⟨Nat.le_of_ble_eq_true rfl, Nat.le_of_ble_eq_true rfl⟩ (pc2 := 54) rfl rfl (L2 := [.inr (1, [.int 11, .int 0, .int 0, .int 2, .int 1, .int 0, .int 1, rA G (o + 1)]), eRef G 2 8 (va_up (va_up (fun _ => none) 0 (some (gB G + (o + 2)))) 1 (some (gB G + (o + 3)))), .inr (2, [.int 0, .int 0, .int 0, .int 0, .int 0]), .inr (2, [.int 0, .int 0, .int 0, .int 0, .int 0]), .inr (2, [.int 0, .int 0, .int 0, .int 0, .int 0])]) rfl ?_
  refine k_xaast C (j := 1) (j2 := 4) (N := 8) (t := 2) (ci := 2) (r := (RX2, TX2, 5)) (vs := [.int 0, .int 0, .int 0, .int 0, .int 0]) ho rfl rfl rfl rfl (dkAt dkX1_init 29 (q := (54, .aastore, 1)) rfl) (by unfold vp_in; decide) (pc2 := 55) rfl (L2 := [.inr (1, [.int 11, .int 0, .int 0, .int 2, .int 1, .int 0, .int 1, rA G (o + 1)]), eRef G 2 8 (va_up (va_up (va_up (fun _ => none) 0 (some (gB G + (o + 2)))) 1 (some (gB G + (o + 3)))) 2 (some (gB G + (o + 4)))), .inr (2, [.int 0, .int 0, .int 0, .int 0, .int 0]), .inr (2, [.int 0, .int 0, .int 0, .int 0, .int 0]), .inr (2, [.int 0, .int 0, .int 0, .int 0, .int 0])]) rfl ?_
  refine k_iinc C (j := 0) (x := 2) (v := 3) (pc2 := 58) (dkAt dkX1_init 30 (q := (55, .iinc 1 1, 3)) rfl) rfl rfl (by decide) (by decide) (lv2 := [(1, .int 3), (0, rA G o)]) rfl ?_
  refine k_goto C (tgt := 36) (dkAt dkX1_init 31 (q := (58, .goto (-22), 3)) rfl) (by decide) ?_
  refine k_iload_n C (pc2 := 37) (dkAt dkX1_init 20 (q := (36, .iload_n 1, 1)) rfl) rfl rfl 0 rfl ?_
  refine k_bipush C (pc2 := 39) (dkAt dkX1_init 21 (q := (37, .bipush 8, 2)) rfl) rfl (v := 8) rfl ?_
  refine k_icmp_ge C (tgt := 61) (pc2 := 42) (A := none) (B := some ()) (r := ()) (dkAt dkX1_init 22 (q := (39, .if_icmp .ge 22, 3)) rfl) (by decide) rfl (if_neg (by decide)) (fun z => by cases z) (fun _ => ?_)
  refine k_aload_n C (pc2 := 43) (dkAt dkX1_init 23 (q := (42, .aload_n 0, 1)) rfl) rfl rfl 1 rfl ?_
  refine k_xget C (ci := 1) (N := 8) (T := TX1) (fi := 7) (v := rA G (o + 1)) ho rfl tU_X1 (Nat.le_of_ble_eq_true rfl) tF_X1_26 rfl rfl (dkAt dkX1_init 24 (q := (43, .getfield 26, 3)) rfl) (pc2 := 46) rfl ?_
  refine k_iload_n C (pc2 := 47) (dkAt dkX1_init 25 (q := (46, .iload_n 1, 1)) rfl) rfl rfl 0 rfl ?_
  refine k_xnew C (ci := 2) (C2 := RX2) (T := TX2) (N := 5) (n := 5) (fs := [.int 0, .int 0, .int 0, .int 0, .int 0]) ho rfl tyX2 rfl tU_X2 tyX2_ok tCL_X1_24 tIN_X2 tN_X2 dfX2 (dkAt dkX1_init 26 (q := (47, .new 24, 3)) rfl) ⟨Nat.le_of_ble_eq_true rfl, Nat.le_of_ble_eq_true rfl⟩ (pc2 := 50) rfl (L2 := [.inr (1, [.int 11, .int 0, .int 0, .int 2, .int 1, .int 0, .int 1, rA G (o + 1)]), eRef G 2 8 (va_up (va_up (va_up (fun _ => none) 0 (some (gB G + (o + 2)))) 1 (some (gB G + (o + 3)))) 2 (some (gB G + (o + 4)))), .inr (2, [.int 0, .int 0, .int 0, .int 0, .int 0]), .inr (2, [.int 0, .int 0, .int 0, .int 0, .int 0]), .inr (2, [.int 0, .int 0, .int 0, .int 0, .int 0]), .inr (2, [.int 0, .int 0, .int 0, .int 0, .int 0])]) rfl ?_
  refine k_dup C (pc2 := 51) (dkAt dkX1_init 27 (q := (50, .dup, 1)) rfl) rfl rfl ?_
  refine k_xctorN C (o := o) (n := 5) (L := [.inr (1, [.int 11, .int 0, .int 0, .int 2, .int 1, .int 0, .int 1, rA G (o + 1)]), eRef G 2 8 (va_up (va_up (va_up (fun _ => none) 0 (some (gB G + (o + 2)))) 1 (some (gB G + (o + 3)))) 2 (some (gB G + (o + 4)))), .inr (2, [.int 0, .int 0, .int 0, .int 0, .int 0]), .inr (2, [.int 0, .int 0, .int 0, .int 0, .int 0]), .inr (2, [.int 0, .int 0, .int 0, .int 0, .int 0])]) (r := .inr (2, [.int 0, .int 0, .int 0, .int 0, .int 0])) (cs := [.inr (2, [.int 0, .int 0, .int 0, .int 0, .int 0])]) (ct_X2_init l G sh M (x0 ++ [.inr (1, [.int 11, .int 0, .int 0, .int 2, .int 1, .int 0, .int 1, rA G (o + 1)]), eRef G 2 8 (va_up (va_up (va_up (fun _ => none) 0 (some (gB G + (o + 2)))) 1 (some (gB G + (o + 3)))) 2 (some (gB G + (o + 4)))), .inr (2, [.int 0, .int 0, .int 0, .int 0, .int 0]), .inr (2, [.int 0, .int 0, .int 0, .int 0, .int 0]), .inr (2, [.int 0, .int 0, .int 0, .int 0, .int 0])]) (o + 5) (ho_app ho rfl)) (cl_X1_30 (hts_of C) C.2.2.2.2.1 ⟨Nat.le_of_ble_eq_true rfl, Nat.le_of_ble_eq_true rfl⟩ rfl rfl) rfl (Nat.le_of_ble_eq_true rfl) (dkAt dkX1_init 28 (q := (51, .invokespecial 30, 3)) rfl) ⟨Nat.le_of_ble_eq_true rfl, Nat.le_of_ble_eq_true rfl⟩ (pc2 := 54) rfl rfl (L2 := [.inr (1, [.int 11, .int 0, .int 0, .int 2, .int 1, .int 0, .int 1, rA G (o + 1)]), eRef G 2 8 (va_up (va_up (va_up (fun _ => none) 0 (some (gB G + (o + 2)))) 1 (some (gB G + (o + 3)))) 2 (some (gB G + (o + 4)))), .inr (2, [.int 0, .int 0, .int 0, .int 0, .int 0]), .inr (2, [.int 0, .int 0, .int 0, .int 0, .int 0]), .inr (2, [.int 0, .int 0, .int 0, .int 0, .int 0]), .inr (2, [.int 0, .int 0, .int 0, .int 0, .int 0])]) rfl ?_
  refine k_xaast C (j := 1) (j2 := 5) (N := 8) (t := 2) (ci := 2) (r := (RX2, TX2, 5)) (vs := [.int 0, .int 0, .int 0, .int 0, .int 0]) ho rfl rfl rfl rfl (dkAt dkX1_init 29 (q := (54, .aastore, 1)) rfl) (by unfold vp_in; decide) (pc2 := 55) rfl (L2 := [.inr (1, [.int 11, .int 0, .int 0, .int 2, .int 1, .int 0, .int 1, rA G (o + 1)]), eRef G 2 8 (va_up (va_up (va_up (va_up (fun _ => none) 0 (some (gB G + (o + 2)))) 1 (some (gB G + (o + 3)))) 2 (some (gB G + (o + 4)))) 3 (some (gB G + (o + 5)))), .inr (2, [.int 0, .int 0, .int 0, .int 0, .int 0]), .inr (2, [.int 0, .int 0, .int 0, .int 0, .int 0]), .inr (2, [.int 0, .int 0, .int 0, .int 0, .int 0]), .inr (2, [.int 0, .int 0, .int 0, .int 0, .int 0])]) rfl ?_
  refine k_iinc C (j := 0) (x := 3) (v := 4) (pc2 := 58) (dkAt dkX1_init 30 (q := (55, .iinc 1 1, 3)) rfl) rfl rfl (by decide) (by decide) (lv2 := [(1, .int 4), (0, rA G o)]) rfl ?_
  refine k_goto C (tgt := 36) (dkAt dkX1_init 31 (q := (58, .goto (-22), 3)) rfl) (by decide) ?_
  refine k_iload_n C (pc2 := 37) (dkAt dkX1_init 20 (q := (36, .iload_n 1, 1)) rfl) rfl rfl 0 rfl ?_
  refine k_bipush C (pc2 := 39) (dkAt dkX1_init 21 (q := (37, .bipush 8, 2)) rfl) rfl (v := 8) rfl ?_
  refine k_icmp_ge C (tgt := 61) (pc2 := 42) (A := none) (B := some ()) (r := ()) (dkAt dkX1_init 22 (q := (39, .if_icmp .ge 22, 3)) rfl) (by decide) rfl (if_neg (by decide)) (fun z => by cases z) (fun _ => ?_)
  refine k_aload_n C (pc2 := 43) (dkAt dkX1_init 23 (q := (42, .aload_n 0, 1)) rfl) rfl rfl 1 rfl ?_
  refine k_xget C (ci := 1) (N := 8) (T := TX1) (fi := 7) (v := rA G (o + 1)) ho rfl tU_X1 (Nat.le_of_ble_eq_true rfl) tF_X1_26 rfl rfl (dkAt dkX1_init 24 (q := (43, .getfield 26, 3)) rfl) (pc2 := 46) rfl ?_
  refine k_iload_n C (pc2 := 47) (dkAt dkX1_init 25 (q := (46, .iload_n 1, 1)) rfl) rfl rfl 0 rfl ?_
  refine k_xnew C (ci := 2) (C2 := RX2) (T := TX2) (N := 5) (n := 6) (fs := [.int 0, .int 0, .int 0, .int 0, .int 0]) ho rfl tyX2 rfl tU_X2 tyX2_ok tCL_X1_24 tIN_X2 tN_X2 dfX2 (dkAt dkX1_init 26 (q := (47, .new 24, 3)) rfl) ⟨Nat.le_of_ble_eq_true rfl, Nat.le_of_ble_eq_true rfl⟩ (pc2 := 50) rfl (L2 := [.inr (1, [.int 11, .int 0, .int 0, .int 2, .int 1, .int 0, .int 1, rA G (o + 1)]), eRef G 2 8 (va_up (va_up (va_up (va_up (fun _ => none) 0 (some (gB G + (o + 2)))) 1 (some (gB G + (o + 3)))) 2 (some (gB G + (o + 4)))) 3 (some (gB G + (o + 5)))), .inr (2, [.int 0, .int 0, .int 0, .int 0, .int 0]), .inr (2, [.int 0, .int 0, .int 0, .int 0, .int 0]), .inr (2, [.int 0, .int 0, .int 0, .int 0, .int 0]), .inr (2, [.int 0, .int 0, .int 0, .int 0, .int 0]), .inr (2, [.int 0, .int 0, .int 0, .int 0, .int 0])]) rfl ?_
  refine k_dup C (pc2 := 51) (dkAt dkX1_init 27 (q := (50, .dup, 1)) rfl) rfl rfl ?_
  refine k_xctorN C (o := o) (n := 6) (L := [.inr (1, [.int 11, .int 0, .int 0, .int 2, .int 1, .int 0, .int 1, rA G (o + 1)]), eRef G 2 8 (va_up (va_up (va_up (va_up (fun _ => none) 0 (some (gB G + (o + 2)))) 1 (some (gB G + (o + 3)))) 2 (some (gB G + (o + 4)))) 3 (some (gB G + (o + 5)))), .inr (2, [.int 0, .int 0, .int 0, .int 0, .int 0]), .inr (2, [.int 0, .int 0, .int 0, .int 0, .int 0]), .inr (2, [.int 0, .int 0, .int 0, .int 0, .int 0]), .inr (2, [.int 0, .int 0, .int 0, .int 0, .int 0])]) (r := .inr (2, [.int 0, .int 0, .int 0, .int 0, .int 0])) (cs := [.inr (2, [.int 0, .int 0, .int 0, .int 0, .int 0])]) (ct_X2_init l G sh M (x0 ++ [.inr (1, [.int 11, .int 0, .int 0, .int 2, .int 1, .int 0, .int 1, rA G (o + 1)]), eRef G 2 8 (va_up (va_up (va_up (va_up (fun _ => none) 0 (some (gB G + (o + 2)))) 1 (some (gB G + (o + 3)))) 2 (some (gB G + (o + 4)))) 3 (some (gB G + (o + 5)))), .inr (2, [.int 0, .int 0, .int 0, .int 0, .int 0]), .inr (2, [.int 0, .int 0, .int 0, .int 0, .int 0]), .inr (2, [.int 0, .int 0, .int 0, .int 0, .int 0]), .inr (2, [.int 0, .int 0, .int 0, .int 0, .int 0])]) (o + 6) (ho_app ho rfl)) (cl_X1_30 (hts_of C) C.2.2.2.2.1 ⟨Nat.le_of_ble_eq_true rfl, Nat.le_of_ble_eq_true rfl⟩ rfl rfl) rfl (Nat.le_of_ble_eq_true rfl) (dkAt dkX1_init 28 (q := (51, .invokespecial 30, 3)) rfl) ⟨Nat.le_of_ble_eq_true rfl, Nat.le_of_ble_eq_true rfl⟩ (pc2 := 54) rfl rfl (L2 := [.inr (1, [.int 11, .int 0, .int 0, .int 2, .int 1, .int 0, .int 1, rA G (o + 1)]), eRef G 2 8 (va_up (va_up (va_up (va_up (fun _ => none) 0 (some (gB G + (o + 2)))) 1 (some (gB G + (o + 3)))) 2 (some (gB G + (o + 4)))) 3 (some (gB G + (o + 5)))), .inr (2, [.int 0, .int 0, .int 0, .int 0, .int 0]), .inr (2, [.int 0, .int 0, .int 0, .int 0, .int 0]), .inr (2, [.int 0, .int 0, .int 0, .int 0, .int 0]), .inr (2, [.int 0, .int 0, .int 0, .int 0, .int 0]), .inr (2, [.int 0, .int 0, .int 0, .int 0, .int 0])]) rfl ?_
  refine k_xaast C (j := 1) (j2 := 6) (N := 8) (t := 2) (ci := 2) (r := (RX2, TX2, 5)) (vs := [.int 0, .int 0, .int 0, .int 0, .int 0]) ho rfl rfl rfl rfl (dkAt dkX1_init 29 (q := (54, .aastore, 1)) rfl) (by unfold vp_in; decide) (pc2 := 55) rfl (L2 := [.inr (1, [.int 11, .int 0, .int 0, .int 2, .int 1, .int 0, .int 1, rA G (o + 1)]), eRef G 2 8 (va_up (va_up (va_up (va_up (va_up (fun _ => none) 0 (some (gB G + (o + 2)))) 1 (some (gB G + (o + 3)))) 2 (some (gB G + (o + 4)))) 3 (some (gB G + (o + 5)))) 4 (some (gB G + (o + 6)))), .inr (2, [.int 0, .int 0, .int 0, .int 0, .int 0]), .inr (2, [.int 0, .int 0, .int 0, .int 0, .int 0]), .inr (2, [.int 0, .int 0, .int 0, .int 0, .int 0]), .inr (2, [.int 0, .int 0, .int 0, .int 0, .int 0]), .inr (2, [.int 0, .int 0, .int 0, .int 0, .int 0])]) rfl ?_
  refine k_iinc C (j := 0) (x := 4) (v := 5) (pc2 := 58) (dkAt dkX1_init 30 (q := (55, .iinc 1 1, 3)) rfl) rfl rfl (by decide) (by decide) (lv2 := [(1, .int 5), (0, rA G o)]) rfl ?_
  refine k_goto C (tgt := 36) (dkAt dkX1_init 31 (q := (58, .goto (-22), 3)) rfl) (by decide) ?_
  refine k_iload_n C (pc2 := 37) (dkAt dkX1_init 20 (q := (36, .iload_n 1, 1)) rfl) rfl rfl 0 rfl ?_
  refine k_bipush C (pc2 := 39) (dkAt dkX1_init 21 (q := (37, .bipush 8, 2)) rfl) rfl (v := 8) rfl ?_
  refine k_icmp_ge C (tgt := 61) (pc2 := 42) (A := none) (B := some ()) (r := ()) (dkAt dkX1_init 22 (q := (39, .if_icmp .ge 22, 3)) rfl) (by decide) rfl (if_neg (by decide)) (fun z => by cases z) (fun _ => ?_)
  refine k_aload_n C (pc2 := 43) (dkAt dkX1_init 23 (q := (42, .aload_n 0, 1)) rfl) rfl rfl 1 rfl ?_
  refine k_xget C (ci := 1) (N := 8) (T := TX1) (fi := 7) (v := rA G (o + 1)) ho rfl tU_X1 (Nat.le_of_ble_eq_true rfl) tF_X1_26 rfl rfl (dkAt dkX1_init 24 (q := (43, .getfield 26, 3)) rfl) (pc2 := 46) rfl ?_
  refine k_iload_n C (pc2 := 47) (dkAt dkX1_init 25 (q := (46, .iload_n 1, 1)) rfl) rfl rfl 0 rfl ?_
  refine k_xnew C (ci := 2) (C2 := RX2) (T := TX2) (N := 5) (n := 7) (fs := [.int 0, .int 0, .int 0, .int 0, .int 0]) ho rfl tyX2 rfl tU_X2 tyX2_ok tCL_X1_24 tIN_X2 tN_X2 dfX2 (dkAt dkX1_init 26 (q := (47, .new 24, 3)) rfl) ⟨Nat.le_of_ble_eq_true rfl, Nat.le_of_ble_eq_true rfl⟩ (pc2 := 50) rfl (L2 := [.inr (1, [.int 11, .int 0, .int 0, .int 2, .int 1, .int 0, .int 1, rA G (o + 1)]), eRef G 2 8 (va_up (va_up (va_up (va_up (va_up (fun _ => none) 0 (some (gB G + (o + 2)))) 1 (some (gB G + (o + 3)))) 2 (some (gB G + (o + 4)))) 3 (some (gB G + (o + 5)))) 4 (some (gB G + (o + 6)))), .inr (2, [.int 0, .int 0, .int 0, .int 0, .int 0]), .inr (2, [.int 0, .int 0, .int 0, .int 0, .int 0]), .inr (2, [.int 0, .int 0, .int 0, .int 0, .int 0]), .inr (2, [.int 0, .int 0, .int 0, .int 0, .int 0]), .inr (2, [.int 0, .int 0, .int 0, .int 0, .int 0]), .inr (2, [.int 0, .int 0, .int 0, .int 0, .int 0])]) rfl ?_
  refine k_dup C (pc2 := 51) (dkAt dkX1_init 27 (q := (50, .dup, 1)) rfl) rfl rfl ?_
  refine k_xctorN C (o := o) (n := 7) (L := [.inr (1, [.int 11, .int 0, .int 0, .int 2, .int 1, .int 0, .int 1, rA G (o + 1)]), eRef G 2 8 (va_up (va_up (va_up (va_up (va_up (fun _ => none) 0 (some (gB G + (o + 2)))) 1 (some (gB G + (o + 3)))) 2 (some (gB G + (o + 4)))) 3 (some (gB G + (o + 5)))) 4 (some (gB G + (o + 6)))), .inr (2, [.int 0, .int 0, .int 0, .int 0, .int 0]), .inr (2, [.int 0, .int 0, .int 0, .int 0, .int 0]), .inr (2, [.int 0, .int 0, .int 0, .int 0, .int 0]), .inr (2, [.int 0, .int 0, .int 0, .int 0, .int 0]), .inr (2, [.int 0, .int 0, .int 0, .int 0, .int 0])]) (r := .inr (2, [.int 0, .int 0, .int 0, .int 0, .int 0])) (cs := [.inr (2, [.int 0, .int 0, .int 0, .int 0, .int 0])]) (ct_X2_init l G sh M (x0 ++ [.inr (1, [.int 11, .int 0, .int 0, .int 2, .int 1, .int 0, .int 1, rA G (o + 1)]), eRef G 2 8 (va_up (va_up (va_up (va_up (va_up (fun _ => none) 0 (some (gB G + (o + 2)))) 1 (some (gB G + (o + 3)))) 2 (some (gB G + (o + 4)))) 3 (some (gB G + (o + 5)))) 4 (some (gB G + (o + 6)))), .inr (2, [.int 0, .int 0, .int 0, .int 0, .int 0]), .inr (2, [.int 0, .int 0, .int 0, .int 0, .int 0]), .inr (2, [.int 0, .int 0, .int 0, .int 0, .int 0]), .inr (2, [.int 0, .int 0, .int 0, .int 0, .int 0]), .inr (2, [.int 0, .int 0, .int 0, .int 0, .int 0])]) (o + 7) (ho_app ho rfl)) (cl_X1_30 (hts_of C) C.2.2.2.2.1 ⟨Nat.le_of_ble_eq_true rfl, Nat.le_of_ble_eq_true rfl⟩ rfl rfl) rfl (Nat.le_of_ble_eq_true rfl) (dkAt dkX1_init 28 (q := (51, .invokespecial 30, 3)) rfl) ⟨Nat.le_of_ble_eq_true rfl, Nat.le_of_ble_eq_true rfl⟩ (pc2 := 54) rfl rfl (L2 := [.inr (1, [.int 11, .int 0, .int 0, .int 2, .int 1, .int 0, .int 1, rA G (o + 1)]), eRef G 2 8 (va_up (va_up (va_up (va_up (va_up (fun _ => none) 0 (some (gB G + (o + 2)))) 1 (some (gB G + (o + 3)))) 2 (some (gB G + (o + 4)))) 3 (some (gB G + (o + 5)))) 4 (some (gB G + (o + 6)))), .inr (2, [.int 0, .int 0, .int 0, .int 0, .int 0]), .inr (2, [.int 0, .int 0, .int 0, .int 0, .int 0]), .inr (2, [.int 0, .int 0, .int 0, .int 0, .int 0]), .inr (2, [.int 0, .int 0, .int 0, .int 0, .int 0]), .inr (2, [.int 0, .int 0, .int 0, .int 0, .int 0]), .inr (2, [.int 0, .int 0, .int 0, .int 0, .int 0])]) rfl ?_
  refine k_xaast C (j := 1) (j2 := 7) (N := 8) (t := 2) (ci := 2) (r := (RX2, TX2, 5)) (vs := [.int 0, .int 0, .int 0, .int 0, .int 0]) ho rfl rfl rfl rfl (dkAt dkX1_init 29 (q := (54, .aastore, 1)) rfl) (by unfold vp_in; decide) (pc2 := 55) rfl (L2 := [.inr (1, [.int 11, .int 0, .int 0, .int 2, .int 1, .int 0, .int 1, rA G (o + 1)]), eRef G 2 8 (va_up (va_up (va_up (va_up (va_up (va_up (fun _ => none) 0 (some (gB G + (o + 2)))) 1 (some (gB G + (o + 3)))) 2 (some (gB G + (o + 4)))) 3 (some (gB G + (o + 5)))) 4 (some (gB G + (o + 6)))) 5 (some (gB G + (o + 7)))), .inr (2, [.int 0, .int 0, .int 0, .int 0, .int 0]), .inr (2, [.int 0, .int 0, .int 0, .int 0, .int 0]), .inr (2, [.int 0, .int 0, .int 0, .int 0, .int 0]), .inr (2, [.int 0, .int 0, .int 0, .int 0, .int 0]), .inr (2, [.int 0, .int 0, .int 0, .int 0, .int 0]), .inr (2, [.int 0, .int 0, .int 0, .int 0, .int 0])]) rfl ?_
  refine k_iinc C (j := 0) (x := 5) (v := 6) (pc2 := 58) (dkAt dkX1_init 30 (q := (55, .iinc 1 1, 3)) rfl) rfl rfl (by decide) (by decide) (lv2 := [(1, .int 6), (0, rA G o)]) rfl ?_
  refine k_goto C (tgt := 36) (dkAt dkX1_init 31 (q := (58, .goto (-22), 3)) rfl) (by decide) ?_
  refine k_iload_n C (pc2 := 37) (dkAt dkX1_init 20 (q := (36, .iload_n 1, 1)) rfl) rfl rfl 0 rfl ?_
  refine k_bipush C (pc2 := 39) (dkAt dkX1_init 21 (q := (37, .bipush 8, 2)) rfl) rfl (v := 8) rfl ?_
  refine k_icmp_ge C (tgt := 61) (pc2 := 42) (A := none) (B := some ()) (r := ()) (dkAt dkX1_init 22 (q := (39, .if_icmp .ge 22, 3)) rfl) (by decide) rfl (if_neg (by decide)) (fun z => by cases z) (fun _ => ?_)
  refine k_aload_n C (pc2 := 43) (dkAt dkX1_init 23 (q := (42, .aload_n 0, 1)) rfl) rfl rfl 1 rfl ?_
  refine k_xget C (ci := 1) (N := 8) (T := TX1) (fi := 7) (v := rA G (o + 1)) ho rfl tU_X1 (Nat.le_of_ble_eq_true rfl) tF_X1_26 rfl rfl (dkAt dkX1_init 24 (q := (43, .getfield 26, 3)) rfl) (pc2 := 46) rfl ?_
  refine k_iload_n C (pc2 := 47) (dkAt dkX1_init 25 (q := (46, .iload_n 1, 1)) rfl) rfl rfl 0 rfl ?_
  refine k_xnew C (ci := 2) (C2 := RX2) (T := TX2) (N := 5) (n := 8) (fs := [.int 0, .int 0, .int 0, .int 0, .int 0]) ho rfl tyX2 rfl tU_X2 tyX2_ok tCL_X1_24 tIN_X2 tN_X2 dfX2 (dkAt dkX1_init 26 (q := (47, .new 24, 3)) rfl) ⟨Nat.le_of_ble_eq_true rfl, Nat.le_of_ble_eq_true rfl⟩ (pc2 := 50) rfl (L2 := [.inr (1, [.int 11, .int 0, .int 0, .int 2, .int 1, .int 0, .int 1, rA G (o + 1)]), eRef G 2 8 (va_up (va_up (va_up (va_up (va_up (va_up (fun _ => none) 0 (some (gB G + (o + 2)))) 1 (some (gB G + (o + 3)))) 2 (some (gB G + (o + 4)))) 3 (some (gB G + (o + 5)))) 4 (some (gB G + (o + 6)))) 5 (some (gB G + (o + 7)))), .inr (2, [.int 0, .int 0, .int 0, .int 0, .int 0]), .inr (2, [.int 0, .int 0, .int 0, .int 0, .int 0]), .inr (2, [.int 0, .int 0, .int 0, .int 0, .int 0]), .inr (2, [.int 0, .int 0, .int 0, .int 0, .int 0]), .inr (2, [.int 0, .int 0, .int 0, .int 0, .int 0]), .inr (2, [.int 0, .int 0, .int 0, .int 0, .int 0]), .inr (2, [.int 0, .int 0, .int 0, .int 0, .int 0])]) rfl ?_
  refine k_dup C (pc2 := 51) (dkAt dkX1_init 27 (q := (50, .dup, 1)) rfl) rfl rfl ?_
  refine k_xctorN C (o := o) (n := 8) (L := [.inr (1, [.int 11, .int 0, .int 0, .int 2, .int 1, .int 0, .int 1, rA G (o + 1)]), eRef G 2 8 (va_up (va_up (va_up (va_up (va_up (va_up (fun _ => none) 0 (some (gB G + (o + 2)))) 1 (some (gB G + (o + 3)))) 2 (some (gB G + (o + 4)))) 3 (some (gB G + (o + 5)))) 4 (some (gB G + (o + 6)))) 5 (some (gB G + (o + 7)))), .inr (2, [.int 0, .int 0, .int 0, .int 0, .int 0]), .inr (2, [.int 0, .int 0, .int 0, .int 0, .int 0]), .inr (2, [.int 0, .int 0, .int 0, .int 0, .int 0]), .inr (2, [.int 0, .int 0, .int 0, .int 0, .int 0]), .inr (2, [.int 0, .int 0, .int 0, .int 0, .int 0]), .inr (2, [.int 0, .int 0, .int 0, .int 0, .int 0])]) (r := .inr (2, [.int 0, .int 0, .int 0, .int 0, .int 0])) (cs := [.inr (2, [.int 0, .int 0, .int 0, .int 0, .int 0])]) (ct_X2_init l G sh M (x0 ++ [.inr (1, [.int 11, .int 0, .int 0, .int 2, .int 1, .int 0, .int 1, rA G (o + 1)]), eRef G 2 8 (va_up (va_up (va_up (va_up (va_up (va_up (fun _ => none) 0 (some (gB G + (o + 2)))) 1 (some (gB G + (o + 3)))) 2 (some (gB G + (o + 4)))) 3 (some (gB G + (o + 5)))) 4 (some (gB G + (o + 6)))) 5 (some (gB G + (o + 7)))), .inr (2, [.int 0, .int 0, .int 0, .int 0, .int 0]), .inr (2, [.int 0, .int 0, .int 0, .int 0, .int 0]), .inr (2, [.int 0, .int 0, .int 0, .int 0, .int 0]), .inr (2, [.int 0, .int 0, .int 0, .int 0, .int 0]), .inr (2, [.int 0, .int 0, .int 0, .int 0, .int 0]), .inr (2, [.int 0, .int 0, .int 0, .int 0, .int 0])]) (o + 8) (ho_app ho rfl)) (cl_X1_30 (hts_of C) C.2.2.2.2.1 ⟨Nat.le_of_ble_eq_true rfl, Nat.le_of_ble_eq_true rfl⟩ rfl rfl) rfl (Nat.le_of_ble_eq_true rfl) (dkAt dkX1_init 28 (q := (51, .invokespecial 30, 3)) rfl) ⟨Nat.le_of_ble_eq_true rfl, Nat.le_of_ble_eq_true rfl⟩ (pc2 := 54) rfl rfl (L2 := [.inr (1, [.int 11, .int 0, .int 0, .int 2, .int 1, .int 0, .int 1, rA G (o + 1)]), eRef G 2 8 (va_up (va_up (va_up (va_up (va_up (va_up (fun _ => none) 0 (some (gB G + (o + 2)))) 1 (some (gB G + (o + 3)))) 2 (some (gB G + (o + 4)))) 3 (some (gB G + (o + 5)))) 4 (some (gB G + (o + 6)))) 5 (some (gB G + (o + 7)))), .inr (2, [.int 0, .int 0, .int 0, .int 0, .int 0]), .inr (2, [.int 0, .int 0, .int 0, .int 0, .int 0]), .inr (2, [.int 0, .int 0, .int 0, .int 0, .int 0]), .inr (2, [.int 0, .int 0, .int 0, .int 0, .int 0]), .inr (2, [.int 0, .int 0, .int 0, .int 0, .int 0]), .inr (2, [.int 0, .int 0, .int 0, .int 0, .int 0]), .inr (2, [.int 0, .int 0, .int 0, .int 0, .int 0])]) rfl ?_
  refine k_xaast C (j := 1) (j2 := 8) (N := 8) (t := 2) (ci := 2) (r := (RX2, TX2, 5)) (vs := [.int 0, .int 0, .int 0, .int 0, .int 0]) ho rfl rfl rfl rfl (dkAt dkX1_init 29 (q := (54, .aastore, 1)) rfl) (by unfold vp_in; decide) (pc2 := 55) rfl (L2 := [.inr (1, [.int 11, .int 0, .int 0, .int 2, .int 1, .int 0, .int 1, rA G (o + 1)]), eRef G 2 8 (va_up (va_up (va_up (va_up (va_up (va_up (va_up (fun _ => none) 0 (some (gB G + (o + 2)))) 1 (some (gB G + (o + 3)))) 2 (some (gB G + (o + 4)))) 3 (some (gB G + (o + 5)))) 4 (some (gB G + (o + 6)))) 5 (some (gB G + (o + 7)))) 6 (some (gB G + (o + 8)))), .inr (2, [.int 0, .int 0, .int 0, .int 0, .int 0]), .inr (2, [.int 0, .int 0, .int 0, .int 0, .int 0]), .inr (2, [.int 0, .int 0, .int 0, .int 0, .int 0]), .inr (2, [.int 0, .int 0, .int 0, .int 0, .int 0]), .inr (2, [.int 0, .int 0, .int 0, .int 0, .int 0]), .inr (2, [.int 0, .int 0, .int 0, .int 0, .int 0]), .inr (2, [.int 0, .int 0, .int 0, .int 0, .int 0])]) rfl ?_
  refine k_iinc C (j := 0) (x := 6) (v := 7) (pc2 := 58) (dkAt dkX1_init 30 (q := (55, .iinc 1 1, 3)) rfl) rfl rfl (by decide) (by decide) (lv2 := [(1, .int 7), (0, rA G o)]) rfl ?_
  refine k_goto C (tgt := 36) (dkAt dkX1_init 31 (q := (58, .goto (-22), 3)) rfl) (by decide) ?_
  refine k_iload_n C (pc2 := 37) (dkAt dkX1_init 20 (q := (36, .iload_n 1, 1)) rfl) rfl rfl 0 rfl ?_
  refine k_bipush C (pc2 := 39) (dkAt dkX1_init 21 (q := (37, .bipush 8, 2)) rfl) rfl (v := 8) rfl ?_
  refine k_icmp_ge C (tgt := 61) (pc2 := 42) (A := none) (B := some ()) (r := ()) (dkAt dkX1_init 22 (q := (39, .if_icmp .ge 22, 3)) rfl) (by decide) rfl (if_neg (by decide)) (fun z => by cases z) (fun _ => ?_)
  refine k_aload_n C (pc2 := 43) (dkAt dkX1_init 23 (q := (42, .aload_n 0, 1)) rfl) rfl rfl 1 rfl ?_
  refine k_xget C (ci := 1) (N := 8) (T := TX1) (fi := 7) (v := rA G (o + 1)) ho rfl tU_X1 (Nat.le_of_ble_eq_true rfl) tF_X1_26 rfl rfl (dkAt dkX1_init 24 (q := (43, .getfield 26, 3)) rfl) (pc2 := 46) rfl ?_
  refine k_iload_n C (pc2 := 47) (dkAt dkX1_init 25 (q := (46, .iload_n 1, 1)) rfl) rfl rfl 0 rfl ?_
  refine k_xnew C (ci := 2) (C2 := RX2) (T := TX2) (N := 5) (n := 9) (fs := [.int 0, .int 0, .int 0, .int 0, .int 0]) ho rfl tyX2 rfl tU_X2 tyX2_ok tCL_X1_24 tIN_X2 tN_X2 dfX2 (dkAt dkX1_init 26 (q := (47, .new 24, 3)) rfl) ⟨Nat.le_of_ble_eq_true rfl, Nat.le_of_ble_eq_true rfl⟩ (pc2 := 50) rfl (L2 := [.inr (1, [.int 11, .int 0, .int 0, .int 2, .int 1, .int 0, .int 1, rA G (o + 1)]), eRef G 2 8 (va_up (va_up (va_up (va_up (va_up (va_up (va_up (fun _ => none) 0 (some (gB G + (o + 2)))) 1 (some (gB G + (o + 3)))) 2 (some (gB G + (o + 4)))) 3 (some (gB G + (o + 5)))) 4 (some (gB G + (o + 6)))) 5 (some (gB G + (o + 7)))) 6 (some (gB G + (o + 8)))), .inr (2, [.int 0, .int 0, .int 0, .int 0, .int 0]), .inr (2, [.int 0, .int 0, .int 0, .int 0, .int 0]), .inr (2, [.int 0, .int 0, .int 0, .int 0, .int 0]), .inr (2, [.int 0, .int 0, .int 0, .int 0, .int 0]), .inr (2, [.int 0, .int 0, .int 0, .int 0, .int 0]), .inr (2, [.int 0, .int 0, .int 0, .int 0, .int 0]), .inr (2, [.int 0, .int 0, .int 0, .int 0, .int 0]), .inr (2, [.int 0, .int 0, .int 0, .int 0, .int 0])]) rfl ?_
  refine k_dup C (pc2 := 51) (dkAt dkX1_init 27 (q := (50, .dup, 1)) rfl) rfl rfl ?_
  refine k_xctorN C (o := o) (n := 9) (L := [.inr (1, [.int 11, .int 0, .int 0, .int 2, .int 1, .int 0, .int 1, rA G (o + 1)]), eRef G 2 8 (va_up (va_up (va_up (va_up (va_up (va_up (va_up (fun _ => none) 0 (some (gB G + (o + 2)))) 1 (some (gB G + (o + 3)))) 2 (some (gB G + (o + 4)))) 3 (some (gB G + (o + 5)))) 4 (some (gB G + (o + 6)))) 5 (some (gB G + (o + 7)))) 6 (some (gB G + (o + 8)))), .inr (2, [.int 0, .int 0, .int 0, .int 0, .int 0]), .inr (2, [.int 0, .int 0, .int 0, .int 0, .int 0]), .inr (2, [.int 0, .int 0, .int 0, .int 0, .int 0]), .inr (2, [.int 0, .int 0, .int 0, .int 0, .int 0]), .inr (2, [.int 0, .int 0, .int 0, .int 0, .int 0]), .inr (2, [.int 0, .int 0, .int 0, .int 0, .int 0]), .inr (2, [.int 0, .int 0, .int 0, .int 0, .int 0])]) (r := .inr (2, [.int 0, .int 0, .int 0, .int 0, .int 0])) (cs := [.inr (2, [.int 0, .int 0, .int 0, .int 0, .int 0])]) (ct_X2_init l G sh M (x0 ++ [.inr (1, [.int 11, .int 0, .int 0, .int 2, .int 1, .int 0, .int 1, rA G (o + 1)]), eRef G 2 8 (va_up (va_up (va_up (va_up (va_up (va_up (va_up (fun _ => none) 0 (some (gB G + (o + 2)))) 1 (some (gB G + (o + 3)))) 2 (some (gB G + (o + 4)))) 3 (some (gB G + (o + 5)))) 4 (some (gB G + (o + 6)))) 5 (some (gB G + (o + 7)))) 6 (some (gB G + (o + 8)))), .inr (2, [.int 0, .int 0, .int 0, .int 0, .int 0]), .inr (2, [.int 0, .int 0, .int 0, .int 0, .int 0]), .inr (2, [.int 0, .int 0, .int 0, .int 0, .int 0]), .inr (2, [.int 0, .int 0, .int 0, .int 0, .int 0]), .inr (2, [.int 0, .int 0, .int 0, .int 0, .int 0]), .inr (2, [.int 0, .int 0, .int 0, .int 0, .int 0]), .inr (2, [.int 0, .int 0, .int 0, .int 0, .int 0])]) (o + 9) (ho_app ho rfl)) (cl_X1_30 (hts_of C) C.2.2.2.2.1 ⟨Nat.le_of_ble_eq_true rfl, Nat.le_of_ble_eq_true rfl⟩ rfl rfl) rfl (Nat.le_of_ble_eq_true rfl) (dkAt dkX1_init 28 (q := (51, .invokespecial 30, 3)) rfl) ⟨Nat.le_of_ble_eq_true rfl, Nat.le_of_ble_eq_true rfl⟩ (pc2 := 54) rfl rfl (L2 := [.inr (1, [.int 11, .int 0, .int 0, .int 2, .int 1, .int 0, .int 1, rA G (o + 1)]), eRef G 2 8 (va_up (va_up (va_up (va_up (va_up (va_up (va_up (fun _ => none) 0 (some (gB G + (o + 2)))) 1 (some (gB G + (o + 3)))) 2 (some (gB G + (o + 4)))) 3 (some (gB G + (o + 5)))) 4 (some (gB G + (o + 6)))) 5 (some (gB G + (o + 7)))) 6 (some (gB G + (o + 8)))), .inr (2, [.int 0, .int 0, .int 0, .int 0, .int 0]), .inr (2, [.int 0, .int 0, .int 0, .int 0, .int 0]), .inr (2, [.int 0, .int 0, .int 0, .int 0, .int 0]), .inr (2, [.int 0, .int 0, .int 0, .int 0, .int 0]), .inr (2, [.int 0, .int 0, .int 0, .int 0, .int 0]), .inr (2, [.int 0, .int 0, .int 0, .int 0, .int 0]), .inr (2, [.int 0, .int 0, .int 0, .int 0, .int 0]), .inr (2, [.int 0, .int 0, .int 0, .int 0, .int 0])]) rfl ?_
  refine k_xaast C (j := 1) (j2 := 9) (N := 8) (t := 2) (ci := 2) (r := (RX2, TX2, 5)) (vs := [.int 0, .int 0, .int 0, .int 0, .int 0]) ho rfl rfl rfl rfl (dkAt dkX1_init 29 (q := (54, .aastore, 1)) rfl) (by unfold vp_in; decide) (pc2 := 55) rfl (L2 := [.inr (1, [.int 11, .int 0, .int 0, .int 2, .int 1, .int 0, .int 1, rA G (o + 1)]), eRef G 2 8 (va_up (va_up (va_up (va_up (va_up (va_up (va_up (va_up (fun _ => none) 0 (some (gB G + (o + 2)))) 1 (some (gB G + (o + 3)))) 2 (some (gB G + (o + 4)))) 3 (some (gB G + (o + 5)))) 4 (some (gB G + (o + 6)))) 5 (some (gB G + (o + 7)))) 6 (some (gB G + (o + 8)))) 7 (some (gB G + (o + 9)))), .inr (2, [.int 0, .int 0, .int 0, .int 0, .int 0]), .inr (2, [.int 0, .int 0, .int 0, .int 0, .int 0]), .inr (2, [.int 0, .int 0, .int 0, .int 0, .int 0]), .inr (2, [.int 0, .int 0, .int 0, .int 0, .int 0]), .inr (2, [.int 0, .int 0, .int 0, .int 0, .int 0]), .inr (2, [.int 0, .int 0, .int 0, .int 0, .int 0]), .inr (2, [.int 0, .int 0, .int 0, .int 0, .int 0]), .inr (2, [.int 0, .int 0, .int 0, .int 0, .int 0])]) rfl ?_
  refine k_iinc C (j := 0) (x := 7) (v := 8) (pc2 := 58) (dkAt dkX1_init 30 (q := (55, .iinc 1 1, 3)) rfl) rfl rfl (by decide) (by decide) (lv2 := [(1, .int 8), (0, rA G o)]) rfl ?_
  refine k_goto C (tgt := 36) (dkAt dkX1_init 31 (q := (58, .goto (-22), 3)) rfl) (by decide) ?_
  refine k_iload_n C (pc2 := 37) (dkAt dkX1_init 20 (q := (36, .iload_n 1, 1)) rfl) rfl rfl 0 rfl ?_
  refine k_bipush C (pc2 := 39) (dkAt dkX1_init 21 (q := (37, .bipush 8, 2)) rfl) rfl (v := 8) rfl ?_
  refine k_icmp_ge C (tgt := 61) (pc2 := 42) (A := some ()) (B := none) (r := ()) (dkAt dkX1_init 22 (q := (39, .if_icmp .ge 22, 3)) rfl) (by decide) rfl (if_pos (by decide)) (fun _ => ?_) (fun z => by cases z)
  refine k_same (L2 := [.inr (1, [.int 11, .int 0, .int 0, .int 2, .int 1, .int 0, .int 1, rA G (o + 1)]), rArr G 2 8 (o + 1) 1 1, .inr (2, [.int 0, .int 0, .int 0, .int 0, .int 0]), .inr (2, [.int 0, .int 0, .int 0, .int 0, .int 0]), .inr (2, [.int 0, .int 0, .int 0, .int 0, .int 0]), .inr (2, [.int 0, .int 0, .int 0, .int 0, .int 0]), .inr (2, [.int 0, .int 0, .int 0, .int 0, .int 0]), .inr (2, [.int 0, .int 0, .int 0, .int 0, .int 0]), .inr (2, [.int 0, .int 0, .int 0, .int 0, .int 0]), .inr (2, [.int 0, .int 0, .int 0, .int 0, .int 0])]) (fun H hP => x_set (j := 1) hP ho rfl (fun _ _ => rfl) (x_arr (t := 2) (f := va_up (va_up (va_up (va_up (va_up (va_up (va_up (va_up (fun _ => none) 0 (some (gB G + (o + 2)))) 1 (some (gB G + (o + 3)))) 2 (some (gB G + (o + 4)))) 3 (some (gB G + (o + 5)))) 4 (some (gB G + (o + 6)))) 5 (some (gB G + (o + 7)))) 6 (some (gB G + (o + 8)))) 7 (some (gB G + (o + 9)))) (d := 1) (st := 1) (x_at hP ho rfl) (fun i hi => ?_)) rfl) ?_
  · exact match i, hi with
    | 0, _ => rfl
    | 1, _ => rfl
    | 2, _ => rfl
    | 3, _ => rfl
    | 4, _ => rfl
    | 5, _ => rfl
    | 6, _ => rfl
    | 7, _ => rfl
    | n + 8, h => absurd h (by omega)
  exact k_vret C (dkAt dkX1_init 32 (q := (61, .return_, 1)) rfl) rfl rfl rfl
