/-! the law's loop -/
section LLP
variable {p : Program} {l : Launch} {e : Env} {s : State} {m : MethodId} {args : Array Value} {below : List Frame} {meth : Method} {c : Code} {G : GG} {Q : State → Prop} {b L : Nat} {y : Nat → Int32}
theorem lc_all {sh : Sh} {ck cn i : Nat} {M : Mm} {a : AB} (D : LawC p s m c args meth G b L y i) (I : Inv sh a M) (hck : ck + 37 ≤ 600000) (hcn : cn + 902 ≤ 7302250) (hk : Cont p l e s m args below meth c G Q b i ck cn) : ∀ k, k < 64 → KW p l e room_1 s m args below meth c G 4 Q sh [] ck cn M 33 (lvL G b i) [.int (nI k)] := fun k h => match k, h with
  | 0, _ => lc_0 D I hck hcn hk
  | 1, _ => lc_1 D I hck hcn hk
  | 2, _ => lc_2 D I hck hcn hk
  | 3, _ => lc_3 D I hck hcn hk
  | 4, _ => lc_4 D I hck hcn hk
  | 5, _ => lc_5 D I hck hcn hk
  | 6, _ => lc_6 D I hck hcn hk
  | 7, _ => lc_7 D I hck hcn hk
  | 8, _ => lc_8 D I hck hcn hk
  | 9, _ => lc_9 D I hck hcn hk
  | 10, _ => lc_10 D I hck hcn hk
  | 11, _ => lc_11 D I hck hcn hk
  | 12, _ => lc_12 D I hck hcn hk
  | 13, _ => lc_13 D I hck hcn hk
  | 14, _ => lc_14 D I hck hcn hk
  | 15, _ => lc_15 D I hck hcn hk
  | 16, _ => lc_16 D I hck hcn hk
  | 17, _ => lc_17 D I hck hcn hk
  | 18, _ => lc_18 D I hck hcn hk
  | 19, _ => lc_19 D I hck hcn hk
  | 20, _ => lc_20 D I hck hcn hk
  | 21, _ => lc_21 D I hck hcn hk
  | 22, _ => lc_22 D I hck hcn hk
  | 23, _ => lc_23 D I hck hcn hk
  | 24, _ => lc_24 D I hck hcn hk
  | 25, _ => lc_25 D I hck hcn hk
  | 26, _ => lc_26 D I hck hcn hk
  | 27, _ => lc_27 D I hck hcn hk
  | 28, _ => lc_28 D I hck hcn hk
  | 29, _ => lc_29 D I hck hcn hk
  | 30, _ => lc_30 D I hck hcn hk
  | 31, _ => lc_31 D I hck hcn hk
  | 32, _ => lc_32 D I hck hcn hk
  | 33, _ => lc_33 D I hck hcn hk
  | 34, _ => lc_34 D I hck hcn hk
  | 35, _ => lc_35 D I hck hcn hk
  | 36, _ => lc_36 D I hck hcn hk
  | 37, _ => lc_37 D I hck hcn hk
  | 38, _ => lc_38 D I hck hcn hk
  | 39, _ => lc_39 D I hck hcn hk
  | 40, _ => lc_40 D I hck hcn hk
  | 41, _ => lc_41 D I hck hcn hk
  | 42, _ => lc_42 D I hck hcn hk
  | 43, _ => lc_43 D I hck hcn hk
  | 44, _ => lc_44 D I hck hcn hk
  | 45, _ => lc_45 D I hck hcn hk
  | 46, _ => lc_46 D I hck hcn hk
  | 47, _ => lc_47 D I hck hcn hk
  | 48, _ => lc_48 D I hck hcn hk
  | 49, _ => lc_49 D I hck hcn hk
  | 50, _ => lc_50 D I hck hcn hk
  | 51, _ => lc_51 D I hck hcn hk
  | 52, _ => lc_52 D I hck hcn hk
  | 53, _ => lc_53 D I hck hcn hk
  | 54, _ => lc_54 D I hck hcn hk
  | 55, _ => lc_55 D I hck hcn hk
  | 56, _ => lc_56 D I hck hcn hk
  | 57, _ => lc_57 D I hck hcn hk
  | 58, _ => lc_58 D I hck hcn hk
  | 59, _ => lc_59 D I hck hcn hk
  | 60, _ => lc_60 D I hck hcn hk
  | 61, _ => lc_61 D I hck hcn hk
  | 62, _ => lc_62 D I hck hcn hk
  | 63, _ => lc_63 D I hck hcn hk
  | n + 64, h => absurd h (by omega)
set_option maxRecDepth 100000 in
set_option maxHeartbeats 4000000 in
theorem law_loop (C : Cx p s m c args meth G RL cL_law 4 (some .boolean)) (hX : va_X b L y s s.heap) (hbl : b < s.heap.size) (hbA : ¬ gA G b) (hL : L ≤ 3072) (hend : ∀ (sh2 : Sh) (M2 : Mm) (ck2 cn2 i2 : Nat), ck2 ≤ 600000 → cn2 ≤ 7302250 → KW p l e room_1 s m args below meth c G 4 Q sh2 [] ck2 cn2 M2 2079 (lvL G b i2) []) : ∀ (n j : Nat) (sh : Sh) (a : AB) (M : Mm) (ck cn : Nat), 6 * j ≤ L → L < 6 * j + n → Inv sh a M → ck ≤ 200 + 37 * j → cn ≤ 2000 + 902 * j → KW p l e room_1 s m args below meth c G 4 Q sh [] ck cn M 18 (lvL G b (6 * j)) [] := by
  intro n
  induction n with
  | zero =>
    intro j sh a M ck cn h1 h2
    omega
  | succ n ih =>
    intro j sh a M ck cn h1 h2 I hck hcn
    refine k_iload_n C (pc2 := 19) (dkAt dkL_law_0 10 (q := (18, .iload_n 3, 1)) rfl) rfl rfl 0 rfl ?_
    refine k_aload_n C (pc2 := 20) (dkAt dkL_law_0 11 (q := (19, .aload_n 0, 1)) rfl) rfl rfl 3 rfl ?_
    refine k_scrlen C hX hbl hbA (dkAt dkL_law_0 12 (q := (20, .arraylength, 1)) rfl) (pc2 := 21) rfl ?_
    refine k_bipush C (pc2 := 23) (dkAt dkL_law_0 13 (q := (21, .bipush 6, 2)) rfl) rfl (v := nI 6) (by decide) ?_
    refine k_isub C (pc2 := 24) (dkAt dkL_law_0 14 (q := (23, .isub, 1)) rfl) rfl ?_
    have lt : (nI L - nI 6 < nI (6 * j)) = (L < 6 * j + 6) := nI_subltE (by omega) (by omega) (by decide)
    by_cases q : L < 6 * j + 6
    · refine k_icmp_gt C (tgt := 2079) (pc2 := 27) (A := some ()) (B := none) (r := ()) (dkAt dkL_law_0 15 (q := (24, .if_icmp .gt 2055, 3)) rfl) (by decide) rfl (if_pos (by rw [lt]; exact q)) (fun _ => ?_) (fun z => by cases z)
      exact hend sh M ck cn _ (by omega) (by omega)
    · refine k_icmp_gt C (tgt := 2079) (pc2 := 27) (A := none) (B := some ()) (r := ()) (dkAt dkL_law_0 15 (q := (24, .if_icmp .gt 2055, 3)) rfl) (by decide) rfl (if_neg (by rw [lt]; exact q)) (fun z => by cases z) (fun _ => ?_)
      refine k_aload_n C (pc2 := 28) (dkAt dkL_law_0 16 (q := (27, .aload_n 0, 1)) rfl) rfl rfl 3 rfl ?_
      refine k_iload_n C (pc2 := 29) (dkAt dkL_law_0 17 (q := (28, .iload_n 3, 1)) rfl) rfl rfl 0 rfl ?_
      refine k_sld C hX hbl hbA (vp_in_nI (by omega) (by omega)) (dkAt dkL_law_0 18 (q := (29, .iaload, 1)) rfl) (pc2 := 30) rfl ?_
      refine k_bipush C (pc2 := 32) (dkAt dkL_law_0 19 (q := (30, .bipush 63, 2)) rfl) rfl (v := 63) rfl ?_
      refine k_iand C (pc2 := 33) (dkAt dkL_law_0 20 (q := (32, .iand, 1)) rfl) rfl ?_
      obtain ⟨k, k1, k2⟩ := and63 (y (nI (6 * j)).toNatClampNeg)
      rw [k2]
      refine lc_all (i := 6 * j) ⟨C, hX, hbl, hbA, hL, by omega⟩ I (by omega) (by omega) (fun sh2 a2 M2 ck2 cn2 I2 g1 g2 => ?_) k k1
      refine k_iinc C (j := 0) (x := nI (6 * j)) (v := nI (6 * (j + 1))) (pc2 := 2076) (dkAt dkL_law_13 93 (q := (2073, .iinc 3 6, 3)) rfl) rfl rfl ?_ (by decide) (lv2 := lvL G b (6 * (j + 1))) rfl ?_
      · rw [show Int32.ofInt 6 = nI 6 by decide, nI_add, Nat.mul_succ]
      · refine k_goto C (tgt := 18) (dkAt dkL_law_13 94 (q := (2076, .goto (-2058), 3)) rfl) (by decide) ?_
        exact ih (j + 1) sh2 a2 M2 ck2 cn2 (by omega) (by omega) I2 (by omega) (by omega)
end LLP
