section KROW
variable {p : Program} {l : Launch} {e : Env} {R : Room} {s : State} {m : MethodId} {args : Array Value} {below : List Frame} {meth : Method} {c : Code} {G : GG} {own : String} {cc : ByteArray} {nL : Nat} {ret : Option FieldType} {Q : State → Prop} {sh : List (Nat × Nat)} {xs : List va_E} {ck cn : Nat} {M : Mm} {pc pc2 : Nat} {lv : List (Nat × Value)} {st : List Value}
theorem k_iconst (C : Cx p s m c args meth G own cc nL ret) {z : Int} {v : Int32} (hd : decode cc pc = .ok (.iconst z, 1)) (hn : pc + 1 = pc2) (hv : Int32.ofInt z = v) (k : KW p l e R s m args below meth c G nL Q sh xs ck cn M pc2 lv (.int v :: st)) : KW p l e R s m args below meth c G nL Q sh xs ck cn M pc lv (st) := by
  subst hn
  exact kw1 (fun H locs ls hl w => lv_iconst C.1.1 C.1.2.1 hd hv w) k
theorem k_bipush (C : Cx p s m c args meth G own cc nL ret) {z : Int} {v : Int32} (hd : decode cc pc = .ok (.bipush z, 2)) (hn : pc + 2 = pc2) (hv : (Int8.ofInt z).toInt32 = v) (k : KW p l e R s m args below meth c G nL Q sh xs ck cn M pc2 lv (.int v :: st)) : KW p l e R s m args below meth c G nL Q sh xs ck cn M pc lv (st) := by
  subst hn
  exact kw1 (fun H locs ls hl w => lv_bipush C.1.1 C.1.2.1 hd hv w) k
theorem k_sipush (C : Cx p s m c args meth G own cc nL ret) {z : Int} {v : Int32} (hd : decode cc pc = .ok (.sipush z, 3)) (hn : pc + 3 = pc2) (hv : (Int16.ofInt z).toInt32 = v) (k : KW p l e R s m args below meth c G nL Q sh xs ck cn M pc2 lv (.int v :: st)) : KW p l e R s m args below meth c G nL Q sh xs ck cn M pc lv (st) := by
  subst hn
  exact kw1 (fun H locs ls hl w => lv_sipush C.1.1 C.1.2.1 hd hv w) k
theorem k_lconst (C : Cx p s m c args meth G own cc nL ret) {z : Fin 2} {v : Int64} (hd : decode cc pc = .ok (.lconst z, 1)) (hn : pc + 1 = pc2) (hv : Int64.ofNat (z : Nat) = v) (k : KW p l e R s m args below meth c G nL Q sh xs ck cn M pc2 lv (.long v :: st)) : KW p l e R s m args below meth c G nL Q sh xs ck cn M pc lv (st) := by
  subst hn
  exact kw1 (fun H locs ls hl w => lv_lconst C.1.1 C.1.2.1 hd hv w) k
theorem k_ldc (C : Cx p s m c args meth G own cc nL ret) {z : Nat} {v : Int32} (hd : decode cc pc = .ok (.ldc z, 2)) (hn : pc + 2 = pc2) (hv : Cond.constant own z v ∈ TW) (k : KW p l e R s m args below meth c G nL Q sh xs ck cn M pc2 lv (.int v :: st)) : KW p l e R s m args below meth c G nL Q sh xs ck cn M pc lv (st) := by
  subst hn
  exact kw1 (fun H locs ls hl w => lv_ldc C.1.1 C.1.2.1 C.1.2.2.2.1 (hts_of C _ hv) hd w) k
theorem k_ldcw (C : Cx p s m c args meth G own cc nL ret) {z : Nat} {v : Int32} (hd : decode cc pc = .ok (.ldc_w z, 3)) (hn : pc + 3 = pc2) (hv : Cond.constant own z v ∈ TW) (k : KW p l e R s m args below meth c G nL Q sh xs ck cn M pc2 lv (.int v :: st)) : KW p l e R s m args below meth c G nL Q sh xs ck cn M pc lv (st) := by
  subst hn
  exact kw1 (fun H locs ls hl w => lv_ldcw C.1.1 C.1.2.1 C.1.2.2.2.1 (hts_of C _ hv) hd w) k
theorem k_ldc2 (C : Cx p s m c args meth G own cc nL ret) {z : Nat} {v : Int64} (hd : decode cc pc = .ok (.ldc2_w z, 3)) (hn : pc + 3 = pc2) (hv : Cond.constantLong own z v ∈ TW) (k : KW p l e R s m args below meth c G nL Q sh xs ck cn M pc2 lv (.long v :: st)) : KW p l e R s m args below meth c G nL Q sh xs ck cn M pc lv (st) := by
  subst hn
  exact kw1 (fun H locs ls hl w => lv_ldc2 C.1.1 C.1.2.1 C.1.2.2.2.1 (hts_of C _ hv) hd w) k
theorem k_ldcs (C : Cx p s m c args meth G own cc nL ret) {z i : Nat} (hd : decode cc pc = .ok (.ldc z, 2)) (hn : pc + 2 = pc2) (hv : (own, z, i) ∈ SR) (k : KW p l e R s m args below meth c G nL Q sh xs ck cn M pc2 lv (.ref (gK G i) :: st)) : KW p l e R s m args below meth c G nL Q sh xs ck cn M pc lv (st) := by
  subst hn
  exact kw1 (fun H locs ls hl w => va_ldcS C.1.1 C.1.2.1 C.1.2.2.2.1 (C.2.2.2.2.2.1.2.1 _ hv) hd w) k
theorem k_iload_n (C : Cx p s m c args meth G own cc nL ret) {z : Fin 4} {i : Nat} {x : Int32} (hd : decode cc pc = .ok (.iload_n z, 1)) (hn : pc + 1 = pc2) (hi : (z : Nat) = i) (j : Nat) (hj : lv[j]? = some (i, .int x)) (k : KW p l e R s m args below meth c G nL Q sh xs ck cn M pc2 lv (.int x :: st)) : KW p l e R s m args below meth c G nL Q sh xs ck cn M pc lv (st) := by
  subst hn
  exact kw1 (fun H locs ls hl w => lv_iload_n C.1.1 C.1.2.1 hd hi (lv_at hl j hj) w) k
theorem k_iload (C : Cx p s m c args meth G own cc nL ret) {i : Nat} {x : Int32} (hd : decode cc pc = .ok (.iload i, 2)) (hn : pc + 2 = pc2) (j : Nat) (hj : lv[j]? = some (i, .int x)) (k : KW p l e R s m args below meth c G nL Q sh xs ck cn M pc2 lv (.int x :: st)) : KW p l e R s m args below meth c G nL Q sh xs ck cn M pc lv (st) := by
  subst hn
  exact kw1 (fun H locs ls hl w => lv_iload C.1.1 C.1.2.1 hd (lv_at hl j hj) w) k
theorem k_istore_n (C : Cx p s m c args meth G own cc nL ret) {z : Fin 4} {i : Nat} {x : Int32} {lv2 : List (Nat × Value)} (hd : decode cc pc = .ok (.istore_n z, 1)) (hn : pc + 1 = pc2) (hi : (z : Nat) = i) (hL : i < nL) (hv : (i, Value.int x) :: lv.filter (fun q => !(q.1 == i) && !(q.1 + 1 == i && q.2.category == 2)) = lv2) (k : KW p l e R s m args below meth c G nL Q sh xs ck cn M pc2 lv2 st) : KW p l e R s m args below meth c G nL Q sh xs ck cn M pc lv (.int x :: st) := by
  subst hn
  exact fun H locs ls hP hS hl => lv_istore_n C.1.1 C.1.2.1 hd hi hl hL hv (fun ls2 hl2 => k H locs ls2 hP hS hl2)
theorem k_istore (C : Cx p s m c args meth G own cc nL ret) {i : Nat} {x : Int32} {lv2 : List (Nat × Value)} (hd : decode cc pc = .ok (.istore i, 2)) (hn : pc + 2 = pc2) (hL : i < nL) (hv : (i, Value.int x) :: lv.filter (fun q => !(q.1 == i) && !(q.1 + 1 == i && q.2.category == 2)) = lv2) (k : KW p l e R s m args below meth c G nL Q sh xs ck cn M pc2 lv2 st) : KW p l e R s m args below meth c G nL Q sh xs ck cn M pc lv (.int x :: st) := by
  subst hn
  exact fun H locs ls hP hS hl => lv_istore C.1.1 C.1.2.1 hd hl hL hv (fun ls2 hl2 => k H locs ls2 hP hS hl2)
theorem k_lload_n (C : Cx p s m c args meth G own cc nL ret) {z : Fin 4} {i : Nat} {x : Int64} (hd : decode cc pc = .ok (.lload_n z, 1)) (hn : pc + 1 = pc2) (hi : (z : Nat) = i) (j : Nat) (hj : lv[j]? = some (i, .long x)) (k : KW p l e R s m args below meth c G nL Q sh xs ck cn M pc2 lv (.long x :: st)) : KW p l e R s m args below meth c G nL Q sh xs ck cn M pc lv (st) := by
  subst hn
  exact kw1 (fun H locs ls hl w => lv_lload_n C.1.1 C.1.2.1 hd hi (lv_at hl j hj) w) k
theorem k_lload (C : Cx p s m c args meth G own cc nL ret) {i : Nat} {x : Int64} (hd : decode cc pc = .ok (.lload i, 2)) (hn : pc + 2 = pc2) (j : Nat) (hj : lv[j]? = some (i, .long x)) (k : KW p l e R s m args below meth c G nL Q sh xs ck cn M pc2 lv (.long x :: st)) : KW p l e R s m args below meth c G nL Q sh xs ck cn M pc lv (st) := by
  subst hn
  exact kw1 (fun H locs ls hl w => lv_lload C.1.1 C.1.2.1 hd (lv_at hl j hj) w) k
theorem k_lstore_n (C : Cx p s m c args meth G own cc nL ret) {z : Fin 4} {i : Nat} {x : Int64} {lv2 : List (Nat × Value)} (hd : decode cc pc = .ok (.lstore_n z, 1)) (hn : pc + 1 = pc2) (hi : (z : Nat) = i) (hL : i + 1 < nL) (hv : (i, Value.long x) :: lv.filter (fun q => !(q.1 == i) && (!(q.1 == i + 1) && !(q.1 + 1 == i && q.2.category == 2))) = lv2) (k : KW p l e R s m args below meth c G nL Q sh xs ck cn M pc2 lv2 st) : KW p l e R s m args below meth c G nL Q sh xs ck cn M pc lv (.long x :: st) := by
  subst hn
  exact fun H locs ls hP hS hl => lv_lstore_n C.1.1 C.1.2.1 hd hi hl hL hv (fun ls2 hl2 => k H locs ls2 hP hS hl2)
theorem k_lstore (C : Cx p s m c args meth G own cc nL ret) {i : Nat} {x : Int64} {lv2 : List (Nat × Value)} (hd : decode cc pc = .ok (.lstore i, 2)) (hn : pc + 2 = pc2) (hL : i + 1 < nL) (hv : (i, Value.long x) :: lv.filter (fun q => !(q.1 == i) && (!(q.1 == i + 1) && !(q.1 + 1 == i && q.2.category == 2))) = lv2) (k : KW p l e R s m args below meth c G nL Q sh xs ck cn M pc2 lv2 st) : KW p l e R s m args below meth c G nL Q sh xs ck cn M pc lv (.long x :: st) := by
  subst hn
  exact fun H locs ls hP hS hl => lv_lstore C.1.1 C.1.2.1 hd hl hL hv (fun ls2 hl2 => k H locs ls2 hP hS hl2)
theorem k_aload_n (C : Cx p s m c args meth G own cc nL ret) {z : Fin 4} {i : Nat} {x : Nat} (hd : decode cc pc = .ok (.aload_n z, 1)) (hn : pc + 1 = pc2) (hi : (z : Nat) = i) (j : Nat) (hj : lv[j]? = some (i, .ref x)) (k : KW p l e R s m args below meth c G nL Q sh xs ck cn M pc2 lv (.ref x :: st)) : KW p l e R s m args below meth c G nL Q sh xs ck cn M pc lv (st) := by
  subst hn
  exact kw1 (fun H locs ls hl w => lv_aload_n C.1.1 C.1.2.1 hd hi (lv_at hl j hj) w) k
theorem k_aload (C : Cx p s m c args meth G own cc nL ret) {i : Nat} {x : Nat} (hd : decode cc pc = .ok (.aload i, 2)) (hn : pc + 2 = pc2) (j : Nat) (hj : lv[j]? = some (i, .ref x)) (k : KW p l e R s m args below meth c G nL Q sh xs ck cn M pc2 lv (.ref x :: st)) : KW p l e R s m args below meth c G nL Q sh xs ck cn M pc lv (st) := by
  subst hn
  exact kw1 (fun H locs ls hl w => lv_aload C.1.1 C.1.2.1 hd (lv_at hl j hj) w) k
theorem k_astore_n (C : Cx p s m c args meth G own cc nL ret) {z : Fin 4} {i : Nat} {x : Nat} {lv2 : List (Nat × Value)} (hd : decode cc pc = .ok (.astore_n z, 1)) (hn : pc + 1 = pc2) (hi : (z : Nat) = i) (hL : i < nL) (hv : (i, Value.ref x) :: lv.filter (fun q => !(q.1 == i) && !(q.1 + 1 == i && q.2.category == 2)) = lv2) (k : KW p l e R s m args below meth c G nL Q sh xs ck cn M pc2 lv2 st) : KW p l e R s m args below meth c G nL Q sh xs ck cn M pc lv (.ref x :: st) := by
  subst hn
  exact fun H locs ls hP hS hl => lv_astore_n C.1.1 C.1.2.1 hd hi hl hL hv (fun ls2 hl2 => k H locs ls2 hP hS hl2)
theorem k_astore (C : Cx p s m c args meth G own cc nL ret) {i : Nat} {x : Nat} {lv2 : List (Nat × Value)} (hd : decode cc pc = .ok (.astore i, 2)) (hn : pc + 2 = pc2) (hL : i < nL) (hv : (i, Value.ref x) :: lv.filter (fun q => !(q.1 == i) && !(q.1 + 1 == i && q.2.category == 2)) = lv2) (k : KW p l e R s m args below meth c G nL Q sh xs ck cn M pc2 lv2 st) : KW p l e R s m args below meth c G nL Q sh xs ck cn M pc lv (.ref x :: st) := by
  subst hn
  exact fun H locs ls hP hS hl => lv_astore C.1.1 C.1.2.1 hd hl hL hv (fun ls2 hl2 => k H locs ls2 hP hS hl2)
theorem k_iinc (C : Cx p s m c args meth G own cc nL ret) {i j : Nat} {z : Int} {x v : Int32} {lv2 : List (Nat × Value)} (hd : decode cc pc = .ok (.iinc i z, 3)) (hn : pc + 3 = pc2) (hj : lv[j]? = some (i, .int x)) (hv : x + Int32.ofInt z = v) (hL : i < nL) (hw : (i, Value.int v) :: lv.filter (fun q => !(q.1 == i) && !(q.1 + 1 == i && q.2.category == 2)) = lv2) (k : KW p l e R s m args below meth c G nL Q sh xs ck cn M pc2 lv2 st) : KW p l e R s m args below meth c G nL Q sh xs ck cn M pc lv st := by
  subst hn
  exact fun H locs ls hP hS hl => lv_iinc C.1.1 C.1.2.1 hd hl hj hv hL hw (fun ls2 hl2 => k H locs ls2 hP hS hl2)
theorem k_iadd (C : Cx p s m c args meth G own cc nL ret) {x y : Int32} (hd : decode cc pc = .ok (.iadd, 1)) (hn : pc + 1 = pc2)  (k : KW p l e R s m args below meth c G nL Q sh xs ck cn M pc2 lv (.int (x + y) :: st)) : KW p l e R s m args below meth c G nL Q sh xs ck cn M pc lv (.int y :: .int x :: st) := by
  subst hn
  exact kw1 (fun H locs ls hl w => lv_iadd C.1.1 C.1.2.1 hd w) k
theorem k_isub (C : Cx p s m c args meth G own cc nL ret) {x y : Int32} (hd : decode cc pc = .ok (.isub, 1)) (hn : pc + 1 = pc2)  (k : KW p l e R s m args below meth c G nL Q sh xs ck cn M pc2 lv (.int (x - y) :: st)) : KW p l e R s m args below meth c G nL Q sh xs ck cn M pc lv (.int y :: .int x :: st) := by
  subst hn
  exact kw1 (fun H locs ls hl w => lv_isub C.1.1 C.1.2.1 hd w) k
theorem k_imul (C : Cx p s m c args meth G own cc nL ret) {x y : Int32} (hd : decode cc pc = .ok (.imul, 1)) (hn : pc + 1 = pc2)  (k : KW p l e R s m args below meth c G nL Q sh xs ck cn M pc2 lv (.int (x * y) :: st)) : KW p l e R s m args below meth c G nL Q sh xs ck cn M pc lv (.int y :: .int x :: st) := by
  subst hn
  exact kw1 (fun H locs ls hl w => lv_imul C.1.1 C.1.2.1 hd w) k
theorem k_iand (C : Cx p s m c args meth G own cc nL ret) {x y : Int32} (hd : decode cc pc = .ok (.iand, 1)) (hn : pc + 1 = pc2)  (k : KW p l e R s m args below meth c G nL Q sh xs ck cn M pc2 lv (.int (x &&& y) :: st)) : KW p l e R s m args below meth c G nL Q sh xs ck cn M pc lv (.int y :: .int x :: st) := by
  subst hn
  exact kw1 (fun H locs ls hl w => lv_iand C.1.1 C.1.2.1 hd w) k
theorem k_ior (C : Cx p s m c args meth G own cc nL ret) {x y : Int32} (hd : decode cc pc = .ok (.ior, 1)) (hn : pc + 1 = pc2)  (k : KW p l e R s m args below meth c G nL Q sh xs ck cn M pc2 lv (.int (x ||| y) :: st)) : KW p l e R s m args below meth c G nL Q sh xs ck cn M pc lv (.int y :: .int x :: st) := by
  subst hn
  exact kw1 (fun H locs ls hl w => lv_ior C.1.1 C.1.2.1 hd w) k
theorem k_ixor (C : Cx p s m c args meth G own cc nL ret) {x y : Int32} (hd : decode cc pc = .ok (.ixor, 1)) (hn : pc + 1 = pc2)  (k : KW p l e R s m args below meth c G nL Q sh xs ck cn M pc2 lv (.int (x ^^^ y) :: st)) : KW p l e R s m args below meth c G nL Q sh xs ck cn M pc lv (.int y :: .int x :: st) := by
  subst hn
  exact kw1 (fun H locs ls hl w => lv_ixor C.1.1 C.1.2.1 hd w) k
theorem k_ishl (C : Cx p s m c args meth G own cc nL ret) {x y : Int32} (hd : decode cc pc = .ok (.ishl, 1)) (hn : pc + 1 = pc2)  (k : KW p l e R s m args below meth c G nL Q sh xs ck cn M pc2 lv (.int (x <<< (y &&& 31)) :: st)) : KW p l e R s m args below meth c G nL Q sh xs ck cn M pc lv (.int y :: .int x :: st) := by
  subst hn
  exact kw1 (fun H locs ls hl w => lv_ishl C.1.1 C.1.2.1 hd w) k
theorem k_ishr (C : Cx p s m c args meth G own cc nL ret) {x y : Int32} (hd : decode cc pc = .ok (.ishr, 1)) (hn : pc + 1 = pc2)  (k : KW p l e R s m args below meth c G nL Q sh xs ck cn M pc2 lv (.int (x >>> (y &&& 31)) :: st)) : KW p l e R s m args below meth c G nL Q sh xs ck cn M pc lv (.int y :: .int x :: st) := by
  subst hn
  exact kw1 (fun H locs ls hl w => lv_ishr C.1.1 C.1.2.1 hd w) k
theorem k_iushr (C : Cx p s m c args meth G own cc nL ret) {x y : Int32} (hd : decode cc pc = .ok (.iushr, 1)) (hn : pc + 1 = pc2)  (k : KW p l e R s m args below meth c G nL Q sh xs ck cn M pc2 lv (.int ((x.toUInt32 >>> (y.toUInt32 &&& Int32.toUInt32 31)).toInt32) :: st)) : KW p l e R s m args below meth c G nL Q sh xs ck cn M pc lv (.int y :: .int x :: st) := by
  subst hn
  exact kw1 (fun H locs ls hl w => lv_iushr C.1.1 C.1.2.1 hd rfl w) k
theorem k_ladd (C : Cx p s m c args meth G own cc nL ret) {x y : Int64} (hd : decode cc pc = .ok (.ladd, 1)) (hn : pc + 1 = pc2)  (k : KW p l e R s m args below meth c G nL Q sh xs ck cn M pc2 lv (.long (x + y) :: st)) : KW p l e R s m args below meth c G nL Q sh xs ck cn M pc lv (.long y :: .long x :: st) := by
  subst hn
  exact kw1 (fun H locs ls hl w => lv_ladd C.1.1 C.1.2.1 hd w) k
theorem k_lsub (C : Cx p s m c args meth G own cc nL ret) {x y : Int64} (hd : decode cc pc = .ok (.lsub, 1)) (hn : pc + 1 = pc2)  (k : KW p l e R s m args below meth c G nL Q sh xs ck cn M pc2 lv (.long (x - y) :: st)) : KW p l e R s m args below meth c G nL Q sh xs ck cn M pc lv (.long y :: .long x :: st) := by
  subst hn
  exact kw1 (fun H locs ls hl w => lv_lsub C.1.1 C.1.2.1 hd w) k
theorem k_lmul (C : Cx p s m c args meth G own cc nL ret) {x y : Int64} (hd : decode cc pc = .ok (.lmul, 1)) (hn : pc + 1 = pc2)  (k : KW p l e R s m args below meth c G nL Q sh xs ck cn M pc2 lv (.long (x * y) :: st)) : KW p l e R s m args below meth c G nL Q sh xs ck cn M pc lv (.long y :: .long x :: st) := by
  subst hn
  exact kw1 (fun H locs ls hl w => lv_lmul C.1.1 C.1.2.1 hd w) k
theorem k_land (C : Cx p s m c args meth G own cc nL ret) {x y : Int64} (hd : decode cc pc = .ok (.land, 1)) (hn : pc + 1 = pc2)  (k : KW p l e R s m args below meth c G nL Q sh xs ck cn M pc2 lv (.long (x &&& y) :: st)) : KW p l e R s m args below meth c G nL Q sh xs ck cn M pc lv (.long y :: .long x :: st) := by
  subst hn
  exact kw1 (fun H locs ls hl w => lv_land C.1.1 C.1.2.1 hd w) k
theorem k_lor (C : Cx p s m c args meth G own cc nL ret) {x y : Int64} (hd : decode cc pc = .ok (.lor, 1)) (hn : pc + 1 = pc2)  (k : KW p l e R s m args below meth c G nL Q sh xs ck cn M pc2 lv (.long (x ||| y) :: st)) : KW p l e R s m args below meth c G nL Q sh xs ck cn M pc lv (.long y :: .long x :: st) := by
  subst hn
  exact kw1 (fun H locs ls hl w => lv_lor C.1.1 C.1.2.1 hd w) k
theorem k_lshl (C : Cx p s m c args meth G own cc nL ret) {x : Int64} {y : Int32} (hd : decode cc pc = .ok (.lshl, 1)) (hn : pc + 1 = pc2)  (k : KW p l e R s m args below meth c G nL Q sh xs ck cn M pc2 lv (.long (x <<< (y.toInt64 &&& 63)) :: st)) : KW p l e R s m args below meth c G nL Q sh xs ck cn M pc lv (.int y :: .long x :: st) := by
  subst hn
  exact kw1 (fun H locs ls hl w => lv_lshl C.1.1 C.1.2.1 hd rfl w) k
theorem k_ineg (C : Cx p s m c args meth G own cc nL ret) {x : Int32} (hd : decode cc pc = .ok (.ineg, 1)) (hn : pc + 1 = pc2)  (k : KW p l e R s m args below meth c G nL Q sh xs ck cn M pc2 lv (.int (-x) :: st)) : KW p l e R s m args below meth c G nL Q sh xs ck cn M pc lv (.int x :: st) := by
  subst hn
  exact kw1 (fun H locs ls hl w => lv_ineg C.1.1 C.1.2.1 hd w) k
theorem k_lcmp (C : Cx p s m c args meth G own cc nL ret) {x y : Int64} (hd : decode cc pc = .ok (.lcmp, 1)) (hn : pc + 1 = pc2)  (k : KW p l e R s m args below meth c G nL Q sh xs ck cn M pc2 lv (.int (lg_cmp x y) :: st)) : KW p l e R s m args below meth c G nL Q sh xs ck cn M pc lv (.long y :: .long x :: st) := by
  subst hn
  exact kw1 (fun H locs ls hl w => W.lcmp C.1.1 C.1.2.1 hd w) k
theorem k_i2l (C : Cx p s m c args meth G own cc nL ret) {x : Int32} (hd : decode cc pc = .ok (.i2l, 1)) (hn : pc + 1 = pc2)  (k : KW p l e R s m args below meth c G nL Q sh xs ck cn M pc2 lv (.long x.toInt64 :: st)) : KW p l e R s m args below meth c G nL Q sh xs ck cn M pc lv (.int x :: st) := by
  subst hn
  exact kw1 (fun H locs ls hl w => lv_i2l C.1.1 C.1.2.1 hd rfl w) k
theorem k_l2i (C : Cx p s m c args meth G own cc nL ret) {x : Int64} (hd : decode cc pc = .ok (.l2i, 1)) (hn : pc + 1 = pc2)  (k : KW p l e R s m args below meth c G nL Q sh xs ck cn M pc2 lv (.int x.toInt32 :: st)) : KW p l e R s m args below meth c G nL Q sh xs ck cn M pc lv (.long x :: st) := by
  subst hn
  exact kw1 (fun H locs ls hl w => lv_l2i C.1.1 C.1.2.1 hd rfl w) k
theorem k_i2b (C : Cx p s m c args meth G own cc nL ret) {x : Int32} (hd : decode cc pc = .ok (.i2b, 1)) (hn : pc + 1 = pc2)  (k : KW p l e R s m args below meth c G nL Q sh xs ck cn M pc2 lv (.int x.toInt8.toInt32 :: st)) : KW p l e R s m args below meth c G nL Q sh xs ck cn M pc lv (.int x :: st) := by
  subst hn
  exact kw1 (fun H locs ls hl w => lv_i2b C.1.1 C.1.2.1 hd rfl w) k
theorem k_i2s (C : Cx p s m c args meth G own cc nL ret) {x : Int32} (hd : decode cc pc = .ok (.i2s, 1)) (hn : pc + 1 = pc2)  (k : KW p l e R s m args below meth c G nL Q sh xs ck cn M pc2 lv (.int x.toInt16.toInt32 :: st)) : KW p l e R s m args below meth c G nL Q sh xs ck cn M pc lv (.int x :: st) := by
  subst hn
  exact kw1 (fun H locs ls hl w => lv_i2s C.1.1 C.1.2.1 hd rfl w) k
theorem k_i2c (C : Cx p s m c args meth G own cc nL ret) {x : Int32} (hd : decode cc pc = .ok (.i2c, 1)) (hn : pc + 1 = pc2)  (k : KW p l e R s m args below meth c G nL Q sh xs ck cn M pc2 lv (.int (x.toUInt32 % 65536).toInt32 :: st)) : KW p l e R s m args below meth c G nL Q sh xs ck cn M pc lv (.int x :: st) := by
  subst hn
  exact kw1 (fun H locs ls hl w => lv_i2c C.1.1 C.1.2.1 hd rfl w) k
theorem k_idivc (C : Cx p s m c args meth G own cc nL ret) {x y : Int32} (hd : decode cc pc = .ok (.idiv, 1)) (hn : pc + 1 = pc2) (hz : ¬ y = 0) (k : KW p l e R s m args below meth c G nL Q sh xs ck cn M pc2 lv (.int (x / y) :: st)) : KW p l e R s m args below meth c G nL Q sh xs ck cn M pc lv (.int y :: .int x :: st) := by
  subst hn
  exact kw1 (fun H locs ls hl w => lv_idiv C.1.1 C.1.2.1 hd hz w) k
theorem k_iremc (C : Cx p s m c args meth G own cc nL ret) {x y : Int32} (hd : decode cc pc = .ok (.irem, 1)) (hn : pc + 1 = pc2) (hz : ¬ y = 0) (k : KW p l e R s m args below meth c G nL Q sh xs ck cn M pc2 lv (.int (x - x / y * y) :: st)) : KW p l e R s m args below meth c G nL Q sh xs ck cn M pc lv (.int y :: .int x :: st) := by
  subst hn
  exact kw1 (fun H locs ls hl w => lv_irem C.1.1 C.1.2.1 hd hz w) k
theorem k_ldivc (C : Cx p s m c args meth G own cc nL ret) {x y : Int64} (hd : decode cc pc = .ok (.ldiv, 1)) (hn : pc + 1 = pc2) (hz : ¬ y = 0) (k : KW p l e R s m args below meth c G nL Q sh xs ck cn M pc2 lv (.long (x / y) :: st)) : KW p l e R s m args below meth c G nL Q sh xs ck cn M pc lv (.long y :: .long x :: st) := by
  subst hn
  exact kw1 (fun H locs ls hl w => lv_ldiv C.1.1 C.1.2.1 hd hz w) k
theorem k_dup (C : Cx p s m c args meth G own cc nL ret) {v : Value} (hd : decode cc pc = .ok (.dup, 1)) (hn : pc + 1 = pc2) (h1 : v.category = 1) (k : KW p l e R s m args below meth c G nL Q sh xs ck cn M pc2 lv (v :: v :: st)) : KW p l e R s m args below meth c G nL Q sh xs ck cn M pc lv (v :: st) := by
  subst hn
  exact kw1 (fun H locs ls hl w => lv_dup C.1.1 C.1.2.1 hd h1 w) k
theorem k_dup2 (C : Cx p s m c args meth G own cc nL ret) {v w2 : Value} (hd : decode cc pc = .ok (.dup2, 1)) (hn : pc + 1 = pc2) (h1 : v.category = 1) (h2 : w2.category = 1) (k : KW p l e R s m args below meth c G nL Q sh xs ck cn M pc2 lv (v :: w2 :: v :: w2 :: st)) : KW p l e R s m args below meth c G nL Q sh xs ck cn M pc lv (v :: w2 :: st) := by
  subst hn
  exact kw1 (fun H locs ls hl w => lv_dup2_11 C.1.1 C.1.2.1 hd h1 h2 w) k
theorem k_dup_x1 (C : Cx p s m c args meth G own cc nL ret) {v w2 : Value} (hd : decode cc pc = .ok (.dup_x1, 1)) (hn : pc + 1 = pc2) (h1 : v.category = 1) (h2 : w2.category = 1) (k : KW p l e R s m args below meth c G nL Q sh xs ck cn M pc2 lv (v :: w2 :: v :: st)) : KW p l e R s m args below meth c G nL Q sh xs ck cn M pc lv (v :: w2 :: st) := by
  subst hn
  exact kw1 (fun H locs ls hl w => lv_dup_x1 C.1.1 C.1.2.1 hd h1 h2 w) k
theorem k_pop (C : Cx p s m c args meth G own cc nL ret) {v : Value} (hd : decode cc pc = .ok (.pop, 1)) (hn : pc + 1 = pc2) (h1 : v.category = 1) (k : KW p l e R s m args below meth c G nL Q sh xs ck cn M pc2 lv (st)) : KW p l e R s m args below meth c G nL Q sh xs ck cn M pc lv (v :: st) := by
  subst hn
  exact kw1 (fun H locs ls hl w => lv_pop C.1.1 C.1.2.1 hd h1 w) k
/-- the shallow text's words: an index looked at, a divisor looked at, a bound value, a bound world -/
def chk {α : Type} (i : Int32) (n : Nat) (X : Option α) : Option α := if i < 0 ∨ n ≤ i.toNatClampNeg then none else X
def chz {α : Type} (y : Int32) (X : Option α) : Option α := if y = 0 then none else X
def chZ {α : Type} (y : Int64) (X : Option α) : Option α := if y = 0 then none else X
def chb {α : Type} (v : Int32) (X : Option α) : Option α := if v &&& 1 = v then X else none
def bi {α : Type} (v : Int32) (F : Int32 → Option α) : Option α := F v
def bl {α : Type} (v : Int64) (F : Int64 → Option α) : Option α := F v
def bm {α : Type} (v : Mm) (F : Mm → Option α) : Option α := F v
theorem chk_inv {α : Type} {i : Int32} {n : Nat} {X : Option α} {r : α} (h : chk i n X = some r) : vp_in i n ∧ X = some r := by
  unfold chk at h
  by_cases q : i < 0 ∨ n ≤ i.toNatClampNeg
  · rw [if_pos q] at h; cases h
  · rw [if_neg q] at h; exact ⟨q, h⟩
theorem chz_inv {α : Type} {y : Int32} {X : Option α} {r : α} (h : chz y X = some r) : ¬ y = 0 ∧ X = some r := by
  unfold chz at h
  by_cases q : y = 0
  · rw [if_pos q] at h; cases h
  · rw [if_neg q] at h; exact ⟨q, h⟩
theorem chZ_inv {α : Type} {y : Int64} {X : Option α} {r : α} (h : chZ y X = some r) : ¬ y = 0 ∧ X = some r := by
  unfold chZ at h
  by_cases q : y = 0
  · rw [if_pos q] at h; cases h
  · rw [if_neg q] at h; exact ⟨q, h⟩
theorem chb_inv {α : Type} {v : Int32} {X : Option α} {r : α} (h : chb v X = some r) : v &&& 1 = v ∧ X = some r := by
  unfold chb at h
  by_cases q : v &&& 1 = v
  · rw [if_pos q] at h; exact ⟨q, h⟩
  · rw [if_neg q] at h; cases h
theorem ob_inv {α β : Type} {x : Option β} {F : β → Option α} {r : α} (h : x.bind F = some r) : ∃ y, x = some y ∧ F y = some r := by
  cases x with
  | none => cases h
  | some y => exact ⟨y, rfl, h⟩
theorem k_icmp_eq (C : Cx p s m c args meth G own cc nL ret) {x y : Int32} {off : Int} {tgt : Nat} {α : Type} {A B : Option α} {r : α} (hd : decode cc pc = .ok (.if_icmp .eq off, 3)) (ht : (pc : Int) + off = (tgt : Int)) (hn : pc + 3 = pc2) (h : (if x = y then A else B) = some r) (kt : A = some r → KW p l e R s m args below meth c G nL Q sh xs ck cn M tgt lv st) (kf : B = some r → KW p l e R s m args below meth c G nL Q sh xs ck cn M pc2 lv st) : KW p l e R s m args below meth c G nL Q sh xs ck cn M pc lv (.int y :: .int x :: st) := by
  subst hn
  exact fun H locs ls hP hS hl => lv_icmp_eq C.1.1 C.1.2.1 hd ht (fun q => kt (by rw [if_pos q] at h; exact h) H locs ls hP hS hl) (fun q => kf (by rw [if_neg q] at h; exact h) H locs ls hP hS hl)
theorem k_if_eq (C : Cx p s m c args meth G own cc nL ret) {x : Int32} {off : Int} {tgt : Nat} {α : Type} {A B : Option α} {r : α} (hd : decode cc pc = .ok (.ifCond .eq off, 3)) (ht : (pc : Int) + off = (tgt : Int)) (hn : pc + 3 = pc2) (h : (if x = 0 then A else B) = some r) (kt : A = some r → KW p l e R s m args below meth c G nL Q sh xs ck cn M tgt lv st) (kf : B = some r → KW p l e R s m args below meth c G nL Q sh xs ck cn M pc2 lv st) : KW p l e R s m args below meth c G nL Q sh xs ck cn M pc lv (.int x :: st) := by
  subst hn
  exact fun H locs ls hP hS hl => lv_if_eq C.1.1 C.1.2.1 hd ht (fun q => kt (by rw [if_pos q] at h; exact h) H locs ls hP hS hl) (fun q => kf (by rw [if_neg q] at h; exact h) H locs ls hP hS hl)
theorem k_icmp_ne (C : Cx p s m c args meth G own cc nL ret) {x y : Int32} {off : Int} {tgt : Nat} {α : Type} {A B : Option α} {r : α} (hd : decode cc pc = .ok (.if_icmp .ne off, 3)) (ht : (pc : Int) + off = (tgt : Int)) (hn : pc + 3 = pc2) (h : (if x = y then B else A) = some r) (kt : A = some r → KW p l e R s m args below meth c G nL Q sh xs ck cn M tgt lv st) (kf : B = some r → KW p l e R s m args below meth c G nL Q sh xs ck cn M pc2 lv st) : KW p l e R s m args below meth c G nL Q sh xs ck cn M pc lv (.int y :: .int x :: st) := by
  subst hn
  exact fun H locs ls hP hS hl => lv_icmp_ne C.1.1 C.1.2.1 hd ht (fun q => kt (by rw [if_neg q] at h; exact h) H locs ls hP hS hl) (fun q => kf (by rw [if_pos q] at h; exact h) H locs ls hP hS hl)
theorem k_if_ne (C : Cx p s m c args meth G own cc nL ret) {x : Int32} {off : Int} {tgt : Nat} {α : Type} {A B : Option α} {r : α} (hd : decode cc pc = .ok (.ifCond .ne off, 3)) (ht : (pc : Int) + off = (tgt : Int)) (hn : pc + 3 = pc2) (h : (if x = 0 then B else A) = some r) (kt : A = some r → KW p l e R s m args below meth c G nL Q sh xs ck cn M tgt lv st) (kf : B = some r → KW p l e R s m args below meth c G nL Q sh xs ck cn M pc2 lv st) : KW p l e R s m args below meth c G nL Q sh xs ck cn M pc lv (.int x :: st) := by
  subst hn
  exact fun H locs ls hP hS hl => lv_if_ne C.1.1 C.1.2.1 hd ht (fun q => kt (by rw [if_neg q] at h; exact h) H locs ls hP hS hl) (fun q => kf (by rw [if_pos q] at h; exact h) H locs ls hP hS hl)
theorem k_icmp_lt (C : Cx p s m c args meth G own cc nL ret) {x y : Int32} {off : Int} {tgt : Nat} {α : Type} {A B : Option α} {r : α} (hd : decode cc pc = .ok (.if_icmp .lt off, 3)) (ht : (pc : Int) + off = (tgt : Int)) (hn : pc + 3 = pc2) (h : (if x < y then A else B) = some r) (kt : A = some r → KW p l e R s m args below meth c G nL Q sh xs ck cn M tgt lv st) (kf : B = some r → KW p l e R s m args below meth c G nL Q sh xs ck cn M pc2 lv st) : KW p l e R s m args below meth c G nL Q sh xs ck cn M pc lv (.int y :: .int x :: st) := by
  subst hn
  exact fun H locs ls hP hS hl => lv_icmp_lt C.1.1 C.1.2.1 hd ht (fun q => kt (by rw [if_pos q] at h; exact h) H locs ls hP hS hl) (fun q => kf (by rw [if_neg q] at h; exact h) H locs ls hP hS hl)
theorem k_if_lt (C : Cx p s m c args meth G own cc nL ret) {x : Int32} {off : Int} {tgt : Nat} {α : Type} {A B : Option α} {r : α} (hd : decode cc pc = .ok (.ifCond .lt off, 3)) (ht : (pc : Int) + off = (tgt : Int)) (hn : pc + 3 = pc2) (h : (if x < 0 then A else B) = some r) (kt : A = some r → KW p l e R s m args below meth c G nL Q sh xs ck cn M tgt lv st) (kf : B = some r → KW p l e R s m args below meth c G nL Q sh xs ck cn M pc2 lv st) : KW p l e R s m args below meth c G nL Q sh xs ck cn M pc lv (.int x :: st) := by
  subst hn
  exact fun H locs ls hP hS hl => lv_if_lt C.1.1 C.1.2.1 hd ht (fun q => kt (by rw [if_pos q] at h; exact h) H locs ls hP hS hl) (fun q => kf (by rw [if_neg q] at h; exact h) H locs ls hP hS hl)
theorem k_icmp_ge (C : Cx p s m c args meth G own cc nL ret) {x y : Int32} {off : Int} {tgt : Nat} {α : Type} {A B : Option α} {r : α} (hd : decode cc pc = .ok (.if_icmp .ge off, 3)) (ht : (pc : Int) + off = (tgt : Int)) (hn : pc + 3 = pc2) (h : (if y ≤ x then A else B) = some r) (kt : A = some r → KW p l e R s m args below meth c G nL Q sh xs ck cn M tgt lv st) (kf : B = some r → KW p l e R s m args below meth c G nL Q sh xs ck cn M pc2 lv st) : KW p l e R s m args below meth c G nL Q sh xs ck cn M pc lv (.int y :: .int x :: st) := by
  subst hn
  exact fun H locs ls hP hS hl => lv_icmp_ge C.1.1 C.1.2.1 hd ht (fun q => kt (by rw [if_pos q] at h; exact h) H locs ls hP hS hl) (fun q => kf (by rw [if_neg q] at h; exact h) H locs ls hP hS hl)
theorem k_if_ge (C : Cx p s m c args meth G own cc nL ret) {x : Int32} {off : Int} {tgt : Nat} {α : Type} {A B : Option α} {r : α} (hd : decode cc pc = .ok (.ifCond .ge off, 3)) (ht : (pc : Int) + off = (tgt : Int)) (hn : pc + 3 = pc2) (h : (if 0 ≤ x then A else B) = some r) (kt : A = some r → KW p l e R s m args below meth c G nL Q sh xs ck cn M tgt lv st) (kf : B = some r → KW p l e R s m args below meth c G nL Q sh xs ck cn M pc2 lv st) : KW p l e R s m args below meth c G nL Q sh xs ck cn M pc lv (.int x :: st) := by
  subst hn
  exact fun H locs ls hP hS hl => lv_if_ge C.1.1 C.1.2.1 hd ht (fun q => kt (by rw [if_pos q] at h; exact h) H locs ls hP hS hl) (fun q => kf (by rw [if_neg q] at h; exact h) H locs ls hP hS hl)
theorem k_icmp_gt (C : Cx p s m c args meth G own cc nL ret) {x y : Int32} {off : Int} {tgt : Nat} {α : Type} {A B : Option α} {r : α} (hd : decode cc pc = .ok (.if_icmp .gt off, 3)) (ht : (pc : Int) + off = (tgt : Int)) (hn : pc + 3 = pc2) (h : (if y < x then A else B) = some r) (kt : A = some r → KW p l e R s m args below meth c G nL Q sh xs ck cn M tgt lv st) (kf : B = some r → KW p l e R s m args below meth c G nL Q sh xs ck cn M pc2 lv st) : KW p l e R s m args below meth c G nL Q sh xs ck cn M pc lv (.int y :: .int x :: st) := by
  subst hn
  exact fun H locs ls hP hS hl => lv_icmp_gt C.1.1 C.1.2.1 hd ht (fun q => kt (by rw [if_pos q] at h; exact h) H locs ls hP hS hl) (fun q => kf (by rw [if_neg q] at h; exact h) H locs ls hP hS hl)
theorem k_if_gt (C : Cx p s m c args meth G own cc nL ret) {x : Int32} {off : Int} {tgt : Nat} {α : Type} {A B : Option α} {r : α} (hd : decode cc pc = .ok (.ifCond .gt off, 3)) (ht : (pc : Int) + off = (tgt : Int)) (hn : pc + 3 = pc2) (h : (if 0 < x then A else B) = some r) (kt : A = some r → KW p l e R s m args below meth c G nL Q sh xs ck cn M tgt lv st) (kf : B = some r → KW p l e R s m args below meth c G nL Q sh xs ck cn M pc2 lv st) : KW p l e R s m args below meth c G nL Q sh xs ck cn M pc lv (.int x :: st) := by
  subst hn
  exact fun H locs ls hP hS hl => lv_if_gt C.1.1 C.1.2.1 hd ht (fun q => kt (by rw [if_pos q] at h; exact h) H locs ls hP hS hl) (fun q => kf (by rw [if_neg q] at h; exact h) H locs ls hP hS hl)
theorem k_icmp_le (C : Cx p s m c args meth G own cc nL ret) {x y : Int32} {off : Int} {tgt : Nat} {α : Type} {A B : Option α} {r : α} (hd : decode cc pc = .ok (.if_icmp .le off, 3)) (ht : (pc : Int) + off = (tgt : Int)) (hn : pc + 3 = pc2) (h : (if x ≤ y then A else B) = some r) (kt : A = some r → KW p l e R s m args below meth c G nL Q sh xs ck cn M tgt lv st) (kf : B = some r → KW p l e R s m args below meth c G nL Q sh xs ck cn M pc2 lv st) : KW p l e R s m args below meth c G nL Q sh xs ck cn M pc lv (.int y :: .int x :: st) := by
  subst hn
  exact fun H locs ls hP hS hl => lv_icmp_le C.1.1 C.1.2.1 hd ht (fun q => kt (by rw [if_pos q] at h; exact h) H locs ls hP hS hl) (fun q => kf (by rw [if_neg q] at h; exact h) H locs ls hP hS hl)
theorem k_if_le (C : Cx p s m c args meth G own cc nL ret) {x : Int32} {off : Int} {tgt : Nat} {α : Type} {A B : Option α} {r : α} (hd : decode cc pc = .ok (.ifCond .le off, 3)) (ht : (pc : Int) + off = (tgt : Int)) (hn : pc + 3 = pc2) (h : (if x ≤ 0 then A else B) = some r) (kt : A = some r → KW p l e R s m args below meth c G nL Q sh xs ck cn M tgt lv st) (kf : B = some r → KW p l e R s m args below meth c G nL Q sh xs ck cn M pc2 lv st) : KW p l e R s m args below meth c G nL Q sh xs ck cn M pc lv (.int x :: st) := by
  subst hn
  exact fun H locs ls hP hS hl => lv_if_le C.1.1 C.1.2.1 hd ht (fun q => kt (by rw [if_pos q] at h; exact h) H locs ls hP hS hl) (fun q => kf (by rw [if_neg q] at h; exact h) H locs ls hP hS hl)
theorem k_goto (C : Cx p s m c args meth G own cc nL ret) {off : Int} {tgt : Nat} (hd : decode cc pc = .ok (.goto off, 3)) (ht : (pc : Int) + off = (tgt : Int)) (k : KW p l e R s m args below meth c G nL Q sh xs ck cn M tgt lv st) : KW p l e R s m args below meth c G nL Q sh xs ck cn M pc lv st := kw1 (fun H locs ls hl w => lv_goto C.1.1 C.1.2.1 hd ht w) k
theorem k_ifnn (C : Cx p s m c args meth G own cc nL ret) {o : Nat} {off : Int} {tgt : Nat} {α : Type} {A B : Option α} {r : α} (hd : decode cc pc = .ok (.ifnonnull off, 3)) (ht : (pc : Int) + off = (tgt : Int)) (hn : pc + 3 = pc2) (h : (if o ≠ 0 then A else B) = some r) (kt : A = some r → o ≠ 0 → KW p l e R s m args below meth c G nL Q sh xs ck cn M tgt lv st) (kf : B = some r → o = 0 → KW p l e R s m args below meth c G nL Q sh xs ck cn M pc2 lv st) : KW p l e R s m args below meth c G nL Q sh xs ck cn M pc lv (rN G o :: st) := by
  subst hn
  intro H locs ls hP hS hl
  by_cases q : o = 0
  · subst q
    exact lv_ifnonnullN C.1.1 C.1.2.1 hd (kf (by rw [if_neg (fun z => z rfl)] at h; exact h) rfl H locs ls hP hS hl)
  · rw [show rN G o = .ref (gB G + o) from if_neg q]
    exact lv_ifnonnull C.1.1 C.1.2.1 hd ht (kt (by rw [if_pos q] at h; exact h) q H locs ls hP hS hl)
theorem k_swOut (C : Cx p s m c args meth G own cc nL ret) {dflt lo hi : Int} {offs : Array Int} {len : Nat} {x : Int32} {tgt : Nat} (hd : decode cc pc = .ok (.tableswitch dflt lo hi offs, len)) (h : x.toInt < lo ∨ hi < x.toInt) (ht : (pc : Int) + dflt = (tgt : Int)) (k : KW p l e R s m args below meth c G nL Q sh xs ck cn M tgt lv st) : KW p l e R s m args below meth c G nL Q sh xs ck cn M pc lv (.int x :: st) := kw1 (fun H locs ls hl w => lv_tableOut C.1.1 C.1.2.1 hd h ht w) k
theorem k_swIn (C : Cx p s m c args meth G own cc nL ret) {dflt lo hi off : Int} {offs : Array Int} {len : Nat} {x : Int32} {tgt : Nat} (hd : decode cc pc = .ok (.tableswitch dflt lo hi offs, len)) (h1 : ¬ x.toInt < lo) (h2 : ¬ hi < x.toInt) (ho : offs[(x.toInt - lo).toNat]? = some off) (ht : (pc : Int) + off = (tgt : Int)) (k : KW p l e R s m args below meth c G nL Q sh xs ck cn M tgt lv st) : KW p l e R s m args below meth c G nL Q sh xs ck cn M pc lv (.int x :: st) := kw1 (fun H locs ls hl w => lv_tableIn C.1.1 C.1.2.1 hd h1 h2 ho ht w) k
theorem wP_1 {H : Heap} (hP : wP G sh M xs H) {o : Nat} {q : Nat × Nat} (hs : sh[o]? = some q) : va_P (gD G) vwCl [(gB G + o, mkE G q o M)] H := fun k x hx => by
  cases k with
  | zero => cases hx; exact hP.2.1 o q hs
  | succ k => cases hx
theorem wP_x {H : Heap} (hP : wP G sh M xs H) {j : Nat} {e : va_E} (hs : xs[j]? = some e) : va_P (gD G) vwCl [(gB G + (sh.length + j), e)] H := fun k x hx => by
  cases k with
  | zero => cases hx; exact hP.2.2 j e hs
  | succ k => cases hx
theorem wP_set {H H1 : Heap} (hP : wP G sh M xs H) {o : Nat} {M2 : Mm} (hz : H1.size = H.size) (ho : ∀ q : Nat, q ≠ gB G + o → H1[q]? = H[q]?) (hlt : o < sh.length) (hm : ∀ (o2 : Nat) (q : Nat × Nat), o2 ≠ o → mkE G q o2 M2 = mkE G q o2 M)
    (he : ∀ q : Nat × Nat, sh[o]? = some q → va_at (gD G) vwCl (gB G + o, mkE G q o M2) H1) : wP G sh M2 xs H1 := by
  refine ⟨by rw [hz]; exact hP.1, fun o2 q h2 => ?_, fun j e h2 => ?_⟩
  · by_cases h : o2 = o
    · subst h; exact he q h2
    · rw [hm o2 q h]
      exact (hP.2.1 o2 q h2).kept (ho _ (by show gB G + o2 ≠ gB G + o; omega))
  · exact (hP.2.2 j e h2).kept (ho _ (by show gB G + (sh.length + j) ≠ gB G + o; omega))
theorem wI_ne {a k : Nat} {v : Int32} {o : Nat} (h : o ≠ a) : (wI M a k v).1 o = M.1 o := by
  funext y
  show (if o = a ∧ y = k then v else M.1 o y) = _
  rw [if_neg (fun q => h q.1)]
theorem wI_eq {a k : Nat} {v : Int32} : (wI M a k v).1 a = upd (M.1 a) k v := by
  funext y
  show (if a = a ∧ y = k then v else M.1 a y) = if y = k then v else M.1 a y
  by_cases h : y = k
  · rw [if_pos ⟨rfl, h⟩, if_pos h]
  · rw [if_neg (fun q => h q.2), if_neg h]
theorem wJ_ne {a k : Nat} {v : Int64} {o : Nat} (h : o ≠ a) : (wJ M a k v).2.1 o = M.2.1 o := by
  funext y
  show (if o = a ∧ y = k then v else M.2.1 o y) = _
  rw [if_neg (fun q => h q.1)]
theorem wJ_eq {a k : Nat} {v : Int64} : (wJ M a k v).2.1 a = vp_updL (M.2.1 a) k v := by
  funext y
  show (if a = a ∧ y = k then v else M.2.1 a y) = if y = k then v else M.2.1 a y
  by_cases h : y = k
  · rw [if_pos ⟨rfl, h⟩, if_pos h]
  · rw [if_neg (fun q => h q.2), if_neg h]
theorem mkE_wI {a k : Nat} {v : Int32} {o : Nat} {q : Nat × Nat} (h : o ≠ a) : mkE G q o (wI M a k v) = mkE G q o M := by
  obtain ⟨q1, q2⟩ := q
  have e1 := wI_ne (M := M) (k := k) (v := v) h
  have e2 : (wI M a k v).2 = M.2 := rfl
  unfold mkE
  simp only [e1, e2]
theorem mkE_wJ {a k : Nat} {v : Int64} {o : Nat} {q : Nat × Nat} (h : o ≠ a) : mkE G q o (wJ M a k v) = mkE G q o M := by
  obtain ⟨q1, q2⟩ := q
  have e1 := wJ_ne (M := M) (k := k) (v := v) h
  have e2 : (wJ M a k v).2.2 = M.2.2 := rfl
  have e3 : (wJ M a k v).1 = M.1 := rfl
  unfold mkE
  simp only [e1, e2, e3]
theorem mkE_wR {a k : Nat} {v : Nat} {o : Nat} {q : Nat × Nat} (h : o ≠ a) : mkE G q o (wR M a k v) = mkE G q o M := by
  obtain ⟨q1, q2⟩ := q
  have e1 : ∀ y : Nat, (wR M a k v).2.2 o y = M.2.2 o y := fun y => if_neg (fun z => h z.1)
  have e2 : (wR M a k v).2.1 = M.2.1 := rfl
  have e3 : (wR M a k v).1 = M.1 := rfl
  unfold mkE
  simp only [e1, e2, e3]
theorem k_iald (C : Cx p s m c args meth G own cc nL ret) {o : Nat} {nA : Nat} {i : Int32} {α : Type} {A : Option α} {r : α} (hs : sh[o]? = some (9, nA)) (hd : decode cc pc = .ok (.iaload, 1)) (hn : pc + 1 = pc2) (h : chk i nA A = some r) (k : A = some r → KW p l e R s m args below meth c G nL Q sh xs ck cn M pc2 lv (.int (M.1 o i.toNatClampNeg) :: st)) : KW p l e R s m args below meth c G nL Q sh xs ck cn M pc lv (.int i :: rA G o :: st) := by
  subst hn
  obtain ⟨hi, h⟩ := chk_inv h
  exact fun H locs ls hP hS hl => va_iald C.1.1 C.1.2.1 C.2.2.2.1 (wP_1 hP hs) 0 0 (cA := gC G 0) (n := nA) (f := M.1 o) rfl rfl hi hd (k h H locs ls hP hS hl)
theorem k_ialdc (C : Cx p s m c args meth G own cc nL ret) {o : Nat} {nA j : Nat} {i : Int32} (hs : sh[o]? = some (9, nA)) (hd : decode cc pc = .ok (.iaload, 1)) (hn : pc + 1 = pc2) (hi : vp_in i nA) (hj : i.toNatClampNeg = j) (k : KW p l e R s m args below meth c G nL Q sh xs ck cn M pc2 lv (.int (M.1 o j) :: st)) : KW p l e R s m args below meth c G nL Q sh xs ck cn M pc lv (.int i :: rA G o :: st) := by
  subst hn; subst hj
  exact fun H locs ls hP hS hl => va_iald C.1.1 C.1.2.1 C.2.2.2.1 (wP_1 hP hs) 0 0 (cA := gC G 0) (n := nA) (f := M.1 o) rfl rfl hi hd (k H locs ls hP hS hl)
theorem k_lald (C : Cx p s m c args meth G own cc nL ret) {o : Nat} {nA : Nat} {i : Int32} {α : Type} {A : Option α} {r : α} (hs : sh[o]? = some (10, nA)) (hd : decode cc pc = .ok (.laload, 1)) (hn : pc + 1 = pc2) (h : chk i nA A = some r) (k : A = some r → KW p l e R s m args below meth c G nL Q sh xs ck cn M pc2 lv (.long (M.2.1 o i.toNatClampNeg) :: st)) : KW p l e R s m args below meth c G nL Q sh xs ck cn M pc lv (.int i :: rA G o :: st) := by
  subst hn
  obtain ⟨hi, h⟩ := chk_inv h
  exact fun H locs ls hP hS hl => va_lald C.1.1 C.1.2.1 C.2.2.2.1 (wP_1 hP hs) 0 1 (cA := gC G 1) (n := nA) (f := M.2.1 o) rfl rfl hi hd (k h H locs ls hP hS hl)
theorem k_laldc (C : Cx p s m c args meth G own cc nL ret) {o : Nat} {nA j : Nat} {i : Int32} (hs : sh[o]? = some (10, nA)) (hd : decode cc pc = .ok (.laload, 1)) (hn : pc + 1 = pc2) (hi : vp_in i nA) (hj : i.toNatClampNeg = j) (k : KW p l e R s m args below meth c G nL Q sh xs ck cn M pc2 lv (.long (M.2.1 o j) :: st)) : KW p l e R s m args below meth c G nL Q sh xs ck cn M pc lv (.int i :: rA G o :: st) := by
  subst hn; subst hj
  exact fun H locs ls hP hS hl => va_lald C.1.1 C.1.2.1 C.2.2.2.1 (wP_1 hP hs) 0 1 (cA := gC G 1) (n := nA) (f := M.2.1 o) rfl rfl hi hd (k H locs ls hP hS hl)
theorem k_iast_ (C : Cx p s m c args meth G own cc nL ret) {o : Nat} {nA : Nat} {i x : Int32} (hs : sh[o]? = some (9, nA)) (hd : decode cc pc = .ok (.iastore, 1)) (hi : vp_in i nA) (k : KW p l e R s m args below meth c G nL Q sh xs ck cn (wI M o i.toNatClampNeg x) (pc + 1) lv st) : KW p l e R s m args below meth c G nL Q sh xs ck cn M pc lv (.int x :: .int i :: rA G o :: st) := by
  intro H locs ls hP hS hl
  have hlt : o < sh.length := (List.getElem?_eq_some_iff.mp hs).1
  have h0 : va_P (gD G) vwCl [(gB G + o, .inl (gC G 0, nA, .inl (M.1 o)))] H := wP_1 hP hs
  refine W.iast C.1.1 C.1.2.1 (h0 0 _ rfl) ((C.2.2.2.1.2 0 _ rfl).1 nA (fun j => .int (M.1 o j))) (fun q => by cases q) (by show ¬ (i < 0 ∨ (arrV _ _ _).slots.size ≤ _); rw [arrV_size]; exact hi) rfl rfl hd fun H1 e1 z oq => ?_
  refine k H1 _ ls (wP_set hP z oq hlt (fun o2 q h => mkE_wI h) (fun q hq => ?_)) (hS.put z oq (by show gB G ≤ gB G + o; omega)) hl
  cases hs.symm.trans hq
  show H1[gB G + o]? = some (vp_cell _ _)
  rw [e1]
  show some ((vp_cell _ _).setSlot _ _) = some (vp_cell (gC G 0) (nA, .inl ((wI M o i.toNatClampNeg x).1 o)))
  rw [wI_eq, vp_cell_i, vp_cell_i, arrV_store]
  congr 2
  funext q
  by_cases hq : q = i.toNatClampNeg
  · subst hq
    simp [updV, upd]
  · simp [updV, upd, hq]
theorem k_last_ (C : Cx p s m c args meth G own cc nL ret) {o : Nat} {nA : Nat} {i : Int32} {x : Int64} (hs : sh[o]? = some (10, nA)) (hd : decode cc pc = .ok (.lastore, 1)) (hi : vp_in i nA) (k : KW p l e R s m args below meth c G nL Q sh xs ck cn (wJ M o i.toNatClampNeg x) (pc + 1) lv st) : KW p l e R s m args below meth c G nL Q sh xs ck cn M pc lv (.long x :: .int i :: rA G o :: st) := by
  intro H locs ls hP hS hl
  have hlt : o < sh.length := (List.getElem?_eq_some_iff.mp hs).1
  have h0 : va_P (gD G) vwCl [(gB G + o, .inl (gC G 1, nA, .inr (.inl (M.2.1 o))))] H := wP_1 hP hs
  refine W.last C.1.1 C.1.2.1 (h0 0 _ rfl) ((C.2.2.2.1.2 1 _ rfl).1 nA (fun j => .long (M.2.1 o j))) (fun q => by cases q) (by show ¬ (i < 0 ∨ (arrV _ _ _).slots.size ≤ _); rw [arrV_size]; exact hi) rfl rfl hd fun H1 e1 z oq => ?_
  refine k H1 _ ls (wP_set hP z oq hlt (fun o2 q h => mkE_wJ h) (fun q hq => ?_)) (hS.put z oq (by show gB G ≤ gB G + o; omega)) hl
  cases hs.symm.trans hq
  show H1[gB G + o]? = some (vp_cell _ _)
  rw [e1]
  show some ((vp_cell _ _).setSlot _ _) = some (vp_cell (gC G 1) (nA, .inr (.inl ((wJ M o i.toNatClampNeg x).2.1 o))))
  rw [wJ_eq, vp_cell_l, vp_cell_l, arrV_store]
  congr 2
  funext q
  by_cases hq : q = i.toNatClampNeg
  · subst hq
    simp [updV, vp_updL]
  · simp [updV, vp_updL, hq]
theorem k_iast (C : Cx p s m c args meth G own cc nL ret) {o : Nat} {nA : Nat} {i : Int32} {x : Int32} {α : Type} {F : Mm → Option α} {r : α} (hs : sh[o]? = some (9, nA)) (hd : decode cc pc = .ok (.iastore, 1)) (hn : pc + 1 = pc2) (h : chk i nA (bm (wI M o i.toNatClampNeg x) F) = some r) (k : ∀ M, F M = some r → KW p l e R s m args below meth c G nL Q sh xs ck cn M pc2 lv st) : KW p l e R s m args below meth c G nL Q sh xs ck cn M pc lv (.int x :: .int i :: rA G o :: st) := by
  subst hn
  obtain ⟨hi, h⟩ := chk_inv h
  exact k_iast_ C hs hd hi (k _ h)
theorem k_iastc (C : Cx p s m c args meth G own cc nL ret) {o : Nat} {nA j : Nat} {i : Int32} {x : Int32} {α : Type} {F : Mm → Option α} {r : α} (hs : sh[o]? = some (9, nA)) (hd : decode cc pc = .ok (.iastore, 1)) (hn : pc + 1 = pc2) (hi : vp_in i nA) (hj : i.toNatClampNeg = j) (h : bm (wI M o j x) F = some r) (k : ∀ M, F M = some r → KW p l e R s m args below meth c G nL Q sh xs ck cn M pc2 lv st) : KW p l e R s m args below meth c G nL Q sh xs ck cn M pc lv (.int x :: .int i :: rA G o :: st) := by
  subst hn; subst hj
  exact k_iast_ C hs hd hi (k _ h)
theorem k_last (C : Cx p s m c args meth G own cc nL ret) {o : Nat} {nA : Nat} {i : Int32} {x : Int64} {α : Type} {F : Mm → Option α} {r : α} (hs : sh[o]? = some (10, nA)) (hd : decode cc pc = .ok (.lastore, 1)) (hn : pc + 1 = pc2) (h : chk i nA (bm (wJ M o i.toNatClampNeg x) F) = some r) (k : ∀ M, F M = some r → KW p l e R s m args below meth c G nL Q sh xs ck cn M pc2 lv st) : KW p l e R s m args below meth c G nL Q sh xs ck cn M pc lv (.long x :: .int i :: rA G o :: st) := by
  subst hn
  obtain ⟨hi, h⟩ := chk_inv h
  exact k_last_ C hs hd hi (k _ h)
theorem k_lastc (C : Cx p s m c args meth G own cc nL ret) {o : Nat} {nA j : Nat} {i : Int32} {x : Int64} {α : Type} {F : Mm → Option α} {r : α} (hs : sh[o]? = some (10, nA)) (hd : decode cc pc = .ok (.lastore, 1)) (hn : pc + 1 = pc2) (hi : vp_in i nA) (hj : i.toNatClampNeg = j) (h : bm (wJ M o j x) F = some r) (k : ∀ M, F M = some r → KW p l e R s m args below meth c G nL Q sh xs ck cn M pc2 lv st) : KW p l e R s m args below meth c G nL Q sh xs ck cn M pc lv (.long x :: .int i :: rA G o :: st) := by
  subst hn; subst hj
  exact k_last_ C hs hd hi (k _ h)
theorem k_aald11 (C : Cx p s m c args meth G own cc nL ret) {o : Nat} {nA : Nat} {i : Int32} {α : Type} {A : Option α} {r : α} (hs : sh[o]? = some (11, nA)) (hd : decode cc pc = .ok (.aaload, 1)) (hn : pc + 1 = pc2) (h : chk i nA A = some r) (k : A = some r → i.toNatClampNeg < nA → KW p l e R s m args below meth c G nL Q sh xs ck cn M pc2 lv (rA G (o + 1 + i.toNatClampNeg) :: st)) : KW p l e R s m args below meth c G nL Q sh xs ck cn M pc lv (.int i :: rA G o :: st) := by
  subst hn
  obtain ⟨hi, h⟩ := chk_inv h
  intro H locs ls hP hS hl
  have hlt : i.toNatClampNeg < nA := Nat.not_le.mp fun q => hi (Or.inr q)
  have h0 : va_P (gD G) vwCl [(gB G + o, rArr G 2 nA o 1 1)] H := wP_1 hP hs
  have w := k h hlt H locs ls hP hS hl
  rw [show o + 1 + i.toNatClampNeg = o + 1 + 1 * i.toNatClampNeg by omega] at w
  exact W.aald (v := rA G (o + 1 + 1 * i.toNatClampNeg)) (ty := .object RX2) C.1.1 C.1.2.1 (h0 0 _ rfl) ((C.2.2.2.1.2 2 _ rfl).1 nA (fun j => va_rf (some (gB G + (o + 1 + 1 * j))))) rfl (fun q => by cases q) (by show ¬ (i < 0 ∨ (arrV _ _ _).slots.size ≤ _); rw [arrV_size]; exact hi) (by show (arrV _ _ _).slots[_]? = _; rw [arrV_read _ _ hlt]; rfl) rfl rfl hd w
theorem k_aald12 (C : Cx p s m c args meth G own cc nL ret) {o : Nat} {nA : Nat} {i : Int32} {α : Type} {A : Option α} {r : α} (hs : sh[o]? = some (12, nA)) (hd : decode cc pc = .ok (.aaload, 1)) (hn : pc + 1 = pc2) (h : chk i nA A = some r) (k : A = some r → i.toNatClampNeg < nA → KW p l e R s m args below meth c G nL Q sh xs ck cn M pc2 lv (rA G (o + 3 + 2 * i.toNatClampNeg) :: st)) : KW p l e R s m args below meth c G nL Q sh xs ck cn M pc lv (.int i :: rA G o :: st) := by
  subst hn
  obtain ⟨hi, h⟩ := chk_inv h
  intro H locs ls hP hS hl
  have hlt : i.toNatClampNeg < nA := Nat.not_le.mp fun q => hi (Or.inr q)
  have h0 : va_P (gD G) vwCl [(gB G + o, rArr G 3 nA o 3 2)] H := wP_1 hP hs
  have w := k h hlt H locs ls hP hS hl
  rw [show o + 3 + 2 * i.toNatClampNeg = o + 3 + 2 * i.toNatClampNeg by omega] at w
  exact W.aald (v := rA G (o + 3 + 2 * i.toNatClampNeg)) (ty := .object RX4) C.1.1 C.1.2.1 (h0 0 _ rfl) ((C.2.2.2.1.2 3 _ rfl).1 nA (fun j => va_rf (some (gB G + (o + 3 + 2 * j))))) rfl (fun q => by cases q) (by show ¬ (i < 0 ∨ (arrV _ _ _).slots.size ≤ _); rw [arrV_size]; exact hi) (by show (arrV _ _ _).slots[_]? = _; rw [arrV_read _ _ hlt]; rfl) rfl rfl hd w
theorem k_aald13 (C : Cx p s m c args meth G own cc nL ret) {o : Nat} {nA : Nat} {i : Int32} {α : Type} {A : Option α} {r : α} (hs : sh[o]? = some (13, nA)) (hd : decode cc pc = .ok (.aaload, 1)) (hn : pc + 1 = pc2) (h : chk i nA A = some r) (k : A = some r → i.toNatClampNeg < nA → KW p l e R s m args below meth c G nL Q sh xs ck cn M pc2 lv (rA G (o + 1 + i.toNatClampNeg) :: st)) : KW p l e R s m args below meth c G nL Q sh xs ck cn M pc lv (.int i :: rA G o :: st) := by
  subst hn
  obtain ⟨hi, h⟩ := chk_inv h
  intro H locs ls hP hS hl
  have hlt : i.toNatClampNeg < nA := Nat.not_le.mp fun q => hi (Or.inr q)
  have h0 : va_P (gD G) vwCl [(gB G + o, rArr G 4 nA o 1 1)] H := wP_1 hP hs
  have w := k h hlt H locs ls hP hS hl
  rw [show o + 1 + i.toNatClampNeg = o + 1 + 1 * i.toNatClampNeg by omega] at w
  exact W.aald (v := rA G (o + 1 + 1 * i.toNatClampNeg)) (ty := .array .int) C.1.1 C.1.2.1 (h0 0 _ rfl) ((C.2.2.2.1.2 4 _ rfl).1 nA (fun j => va_rf (some (gB G + (o + 1 + 1 * j))))) rfl (fun q => by cases q) (by show ¬ (i < 0 ∨ (arrV _ _ _).slots.size ≤ _); rw [arrV_size]; exact hi) (by show (arrV _ _ _).slots[_]? = _; rw [arrV_read _ _ hlt]; rfl) rfl rfl hd w
theorem k_aald14 (C : Cx p s m c args meth G own cc nL ret) {o : Nat} {nA : Nat} {i : Int32} {α : Type} {A : Option α} {r : α} (hs : sh[o]? = some (14, nA)) (hd : decode cc pc = .ok (.aaload, 1)) (hn : pc + 1 = pc2) (h : chk i nA A = some r) (k : A = some r → i.toNatClampNeg < nA → KW p l e R s m args below meth c G nL Q sh xs ck cn M pc2 lv (rA G (o + 1 + i.toNatClampNeg) :: st)) : KW p l e R s m args below meth c G nL Q sh xs ck cn M pc lv (.int i :: rA G o :: st) := by
  subst hn
  obtain ⟨hi, h⟩ := chk_inv h
  intro H locs ls hP hS hl
  have hlt : i.toNatClampNeg < nA := Nat.not_le.mp fun q => hi (Or.inr q)
  have h0 : va_P (gD G) vwCl [(gB G + o, rArr G 5 nA o 1 1)] H := wP_1 hP hs
  have w := k h hlt H locs ls hP hS hl
  rw [show o + 1 + i.toNatClampNeg = o + 1 + 1 * i.toNatClampNeg by omega] at w
  exact W.aald (v := rA G (o + 1 + 1 * i.toNatClampNeg)) (ty := .array .long) C.1.1 C.1.2.1 (h0 0 _ rfl) ((C.2.2.2.1.2 5 _ rfl).1 nA (fun j => va_rf (some (gB G + (o + 1 + 1 * j))))) rfl (fun q => by cases q) (by show ¬ (i < 0 ∨ (arrV _ _ _).slots.size ≤ _); rw [arrV_size]; exact hi) (by show (arrV _ _ _).slots[_]? = _; rw [arrV_read _ _ hlt]; rfl) rfl rfl hd w
theorem k_alen_i (C : Cx p s m c args meth G own cc nL ret) {o nA : Nat} {v : Int32} (hs : sh[o]? = some (9, nA)) (hv : Int32.ofNat nA = v) (hd : decode cc pc = .ok (.arraylength, 1)) (hn : pc + 1 = pc2) (k : KW p l e R s m args below meth c G nL Q sh xs ck cn M pc2 lv (.int v :: st)) : KW p l e R s m args below meth c G nL Q sh xs ck cn M pc lv (rA G o :: st) := by
  subst hn
  exact fun H locs ls hP hS hl => va_alen C.1.1 C.1.2.1 C.2.2.2.1 (wP_1 hP hs) 0 0 (cA := gC G 0) (x := (nA, .inl (M.1 o))) rfl rfl hv hd (k H locs ls hP hS hl)
theorem k_alen_l (C : Cx p s m c args meth G own cc nL ret) {o nA : Nat} {v : Int32} (hs : sh[o]? = some (10, nA)) (hv : Int32.ofNat nA = v) (hd : decode cc pc = .ok (.arraylength, 1)) (hn : pc + 1 = pc2) (k : KW p l e R s m args below meth c G nL Q sh xs ck cn M pc2 lv (.int v :: st)) : KW p l e R s m args below meth c G nL Q sh xs ck cn M pc lv (rA G o :: st) := by
  subst hn
  exact fun H locs ls hP hS hl => va_alen C.1.1 C.1.2.1 C.2.2.2.1 (wP_1 hP hs) 0 1 (cA := gC G 1) (x := (nA, .inr (.inl (M.2.1 o)))) rfl rfl hv hd (k H locs ls hP hS hl)
/-- getfield, by the class' tables -/
theorem k_get (C : Cx p s m c args meth G own cc nL ret) {o ci kf fi : Nat} {ref C2 : String} {T : u_T} {N index : Nat} {q : Nat × Nat} {fs : List Value} {v : Value} (hs : sh[o]? = some q) (he : mkE G q o M = .inr (ci, fs)) (hc : vwCl[ci]? = some (C2, T, N)) (hin : ∀ w ∈ u_ws C2 T N, w ∈ TW) (hk : fi < N) (hlink : Cond.fieldLink own index ref (T fi).2.1 (T fi).2.2.1 ∈ TW) (hsame : (T fi).1 = ref) (hv : fs[fi]? = some v) (hd : decode cc pc = .ok (.getfield index, 3)) (k : KW p l e R s m args below meth c G nL Q sh xs ck cn M (pc + 3) lv (v :: st)) : KW p l e R s m args below meth c G nL Q sh xs ck cn M pc lv (rA G o :: st) := by
  subst hsame
  exact fun H locs ls hP hS hl => va_get C.1.1 C.1.2.1 (hts_of C) hin C.1.2.2.2.1 C.2.2.2.1 (wP_1 hP hs) 0 (by rw [he]; rfl) hc fi hk (hts_of C _ hlink) (fun _ h9 => h9) hv hd (k H locs ls hP hS hl)
theorem k_getN (C : Cx p s m c args meth G own cc nL ret) {o ci kf fi : Nat} {ref C2 host : String} {T : u_T} {N index : Nat} {q : Nat × Nat} {fs : List Value} {v : Value} (hs : sh[o]? = some q) (he : mkE G q o M = .inr (ci, fs)) (hc : vwCl[ci]? = some (C2, T, N)) (hin : ∀ w ∈ u_ws C2 T N, w ∈ TW) (hk : fi < N) (hlink : Cond.fieldLinkNest own index ref (T fi).2.1 (T fi).2.2.1 host ∈ NW) (hsame : (T fi).1 = ref) (hv : fs[fi]? = some v) (hd : decode cc pc = .ok (.getfield index, 3)) (k : KW p l e R s m args below meth c G nL Q sh xs ck cn M (pc + 3) lv (v :: st)) : KW p l e R s m args below meth c G nL Q sh xs ck cn M pc lv (rA G o :: st) := by
  subst hsame
  exact fun H locs ls hP hS hl => va_getN C.1.1 C.1.2.1 (hts_of C) hin C.1.2.2.2.1 C.2.2.2.1 (wP_1 hP hs) 0 (by rw [he]; rfl) hc fi hk (va_Nw.use rfl (C.2.2.2.2.1 _ hlink)) (fun _ h9 => h9) hv hd (k H locs ls hP hS hl)
end KROW
