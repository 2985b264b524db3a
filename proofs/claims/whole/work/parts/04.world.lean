/-! THE WORLD: objects and arrays lie one behind another from an address on (gB); what they hold is a value (Mm): ints, longs, changing references, by place and slot -/
abbrev Mm : Type := (Nat → Nat → Int32) × (Nat → Nat → Int64) × (Nat → Nat → Nat)
abbrev GG : Type := va_G × Nat × (Nat → ClassId) × (Nat → Nat) × (Nat → Nat)
abbrev gD (G : GG) : va_G := G.1
abbrev gB (G : GG) : Nat := G.2.1
abbrev gC (G : GG) : Nat → ClassId := G.2.2.1
abbrev gK (G : GG) : Nat → Nat := G.2.2.2.1
abbrev gV (G : GG) : Nat → Nat := G.2.2.2.2
abbrev rA (G : GG) (o : Nat) : Value := .ref (gB G + o)
/-- a reference that may be null: 0 is null -/
def rN (G : GG) (r : Nat) : Value := if r = 0 then .null else .ref (gB G + r)
def gA (G : GG) : Nat → Prop := fun q => gB G ≤ q
def wI (M : Mm) (a k : Nat) (v : Int32) : Mm := (fun x y => if x = a ∧ y = k then v else M.1 x y, M.2)
def wJ (M : Mm) (a k : Nat) (v : Int64) : Mm := (M.1, fun x y => if x = a ∧ y = k then v else M.2.1 x y, M.2.2)
def wR (M : Mm) (a k : Nat) (v : Nat) : Mm := (M.1, M.2.1, fun x y => if x = a ∧ y = k then v else M.2.2 x y)
def rArr (G : GG) (k n o d : Nat) (st : Nat) : va_E := .inl (gC G k, n, .inr (.inr (.inr (.inr (fun j => some (gB G + (o + d + st * j)))))))
/-- what lies at place o, by its kind c.1 (of an array: c.2 its length) -/
def mkE (G : GG) (c : Nat × Nat) (o : Nat) (M : Mm) : va_E := match c.1 with
  | 0 => .inr (0, [rA G (o + 1), rA G (o + 2), rA G (o + 3), .int (M.1 o 3)])
  | 1 => .inr (1, [.int (M.1 o 0), .int (M.1 o 1), .int (M.1 o 2), .int (M.1 o 3), .int (M.1 o 4), .int (M.1 o 5), .int (M.1 o 6), rA G (o + 1)])
  | 2 => .inr (2, [.int (M.1 o 0), .int (M.1 o 1), .int (M.1 o 2), .int (M.1 o 3), .int (M.1 o 4)])
  | 3 => .inr (3, [rA G (o + 1), rA G (o + 3), .int (M.1 o 2)])
  | 4 => .inr (4, [.int (M.1 o 0), .int (M.1 o 1), rA G (o + 1)])
  | 5 => .inr (5, [rA G (o + 1), .int (M.1 o 1), .int (M.1 o 2), .int (M.1 o 3), .int (M.1 o 4)])
  | 6 => .inr (6, [rA G (o + 1), rA G (o + 10), rA G (o + 11), .int (M.1 o 3)])
  | 7 => .inr (7, [rA G (o + 1), rA G (o + 11), .int (M.1 o 2), rA G (o + 21), rA G (o + 33), rA G (o + 37), rA G (o + 50), rA G (o + 51), rA G (o + 52)])
  | 8 => .inr (8, [rA G (o + 1), rA G (o + 2), rA G (o + 3), rA G (o + 4), rA G (o + 13), rA G (o + 14), rA G (o + 15), .int (M.1 o 7), rA G (o + 16), .int (M.1 o 9), .int (M.1 o 10), rA G (o + 17), rA G (o + 18), rA G (o + 19), rA G (o + 20), rA G (o + 21), rA G (o + 22), .int (M.1 o 17), .int (M.1 o 18), rN G (M.2.2 o 19), rN G (M.2.2 o 20), .int (M.1 o 21), .int (M.1 o 22), .int (M.1 o 23), .int (M.1 o 24), .int (M.1 o 25), rA G (o + 23), .int (M.1 o 27), rA G (o + 24), rA G (o + 33), rA G (o + 34), .int (M.1 o 31), .int (M.1 o 32), rA G (o + 35), rA G (o + 36), .int (M.1 o 35), .int (M.1 o 36)])
  | 9 => .inl (gC G 0, c.2, .inl (M.1 o))
  | 10 => .inl (gC G 1, c.2, .inr (.inl (M.2.1 o)))
  | 11 => rArr G 2 c.2 o 1 1
  | 12 => rArr G 3 c.2 o 3 2
  | 13 => rArr G 4 c.2 o 1 1
  | _ => rArr G 5 c.2 o 1 1
def TYS (G : GG) : List (ClassId × FieldType) := [(gC G 0, .int), (gC G 1, .long), (gC G 2, .object RX2), (gC G 3, .object RX4), (gC G 4, .array .int), (gC G 5, .array .long)]
/-- the heap holds the places of sh with the values M, and behind them the cells xs -/
def wP (G : GG) (sh : List (Nat × Nat)) (M : Mm) (xs : List va_E) (H : Heap) : Prop :=
  H.size = gB G + (sh.length + xs.length) ∧ (∀ (o : Nat) (c : Nat × Nat), sh[o]? = some c → va_at (gD G) vwCl (gB G + o, mkE G c o M) H) ∧ ∀ (j : Nat) (e : va_E), xs[j]? = some e → va_at (gD G) vwCl (gB G + (sh.length + j), e) H
def NN (U : State) : Prop := ∀ w ∈ NW, va_Nw w U
theorem NN.warm {s U : State} (hW : s.WarmedH U.vm) (h : NN s) : NN U := fun w hw => by
  have h1 := h w hw
  have h2 := (List.mem_filter.mp hw).2
  cases w <;> first | (cases h2; done) | exact va_Nw.warmF hW h1 | exact va_Nw.warmM hW h1
theorem NN.same {u U : State} (hv : u.vm = U.vm) (h : NN u) : NN U := fun w hw => by
  have h1 := h w hw
  have h2 := (List.mem_filter.mp hw).2
  cases w <;> first | (cases h2; done) | exact va_Nw.same rfl hv h1
/-! the words that the two read: their texts, and where the classes name them -/
def txS : List String := ["days", "person", "free", "busy", "host", "least", "lose", "out"]
def lenS : List Nat := [4, 6, 4, 4, 4, 5, 4, 3]
def bytS : List (List Int32) := [[100, 97, 121, 115], [112, 101, 114, 115, 111, 110], [102, 114, 101, 101], [98, 117, 115, 121], [104, 111, 115, 116], [108, 101, 97, 115, 116], [108, 111, 115, 101], [111, 117, 116]]
def SR : List (String × Nat × Nat) := [(RX3, 44, 0), (RX3, 53, 1), (RX3, 62, 2), (RX3, 68, 3), (RX3, 70, 4), (RX3, 75, 5), (RX3, 80, 6), (RX3, 85, 7), (RX8, 198, 0), (RX8, 203, 1), (RX8, 205, 2), (RX8, 211, 3), (RX8, 215, 4), (RX8, 220, 5), (RX8, 222, 6), (RX8, 213, 7)]
/-- the arrays of references whose classes are there -/
def AO (U : State) : Prop := va_AO RX2 U ∧ va_AO RX4 U ∧ (Cond.arrayOver (.array .int)).before #[] U = true ∧ (Cond.arrayOver (.array .long)).before #[] U = true
theorem AO.moved {u U : State} (h : u.vm.Alike U.vm) (q : AO u) : AO U := ⟨va_AO.moved h q.1, va_AO.moved h q.2.1, over_moved h q.2.2.1, over_moved h q.2.2.2⟩
def EX (G : GG) (U : State) (H : Heap) : Prop := vk_S 8 lenS bytS (gK G) (gV G) (gA G) U H ∧ (∀ q ∈ SR, vk_R q.1 q.2.1 (txS.getD q.2.2 "") (gK G q.2.2) U) ∧ va_Z "java/lang/String" "COMPACT_STRINGS" "Z" (.int 1) (gA G) U H ∧ va_Zq "jdk/internal/util/Preconditions" "SIOOBE_FORMATTER" "Ljava/util/function/BiFunction;" (gA G) U H ∧ AO U
theorem EX.kept {G : GG} {U : State} {H H1 : Heap} (h : EX G U H) (hq : ∀ a : Nat, a < H.size → ¬ gA G a → H1[a]? = H[a]?) : EX G U H1 := ⟨h.1.kept hq, h.2.1, h.2.2.1.kept hq, h.2.2.2.1.kept hq, h.2.2.2.2⟩
theorem EX.warm {G : GG} {s U : State} {H : Heap} (hW : s.WarmedH U.vm) (h : EX G s H) : EX G U H := ⟨vk_S.moved hW.alike h.1, fun q hq => vk_R.warm hW (h.2.1 q hq), va_Z.moved hW.alike h.2.2.1, va_Zq.moved hW.alike h.2.2.2.1, AO.moved hW.alike h.2.2.2.2⟩
theorem EX.same {G : GG} {u U : State} {H : Heap} (hv : U.vm = u.vm) (h : EX G u H) : EX G U H := by
  have ha : u.vm.Alike U.vm := by rw [hv]; exact Vm.Alike.refl u.vm
  exact ⟨vk_S.moved ha h.1, fun q hq => vk_R.same hv (h.2.1 q hq), va_Z.moved ha h.2.2.1, va_Zq.moved ha h.2.2.2.1, AO.moved ha h.2.2.2.2⟩
/-- a state with the world, and what the tables say -/
def WS (G : GG) (sh : List (Nat × Nat)) (M : Mm) (xs : List va_E) (U : State) : Prop := wP G sh M xs U.heap ∧ va_K (gD G) vwCl (TYS G) U ∧ NN U ∧ EX G U U.heap
def QO (G : GG) (ov : Option Value) (sh : List (Nat × Nat)) (M : Mm) (xs : List va_E) : Array Value → State → Outcome → State → Prop := fun _ st oc t => oc = .returned ov ∧ wP G sh M xs t.heap ∧ va_F (gA G) st t
/-- A CONTRACT: from the world (sh, M, xs) and the arguments avs, the answer is ov and the world (sh2, M2, xs2) -/
abbrev Ct (l : Launch) (y : MethodName) (cc : ByteArray) (nL : Nat) (ret : Option FieldType) (rm : Room) (G : GG) (avs : List Value) (sh : List (Nat × Nat)) (M : Mm) (xs : List va_E) (ov : Option Value) (sh2 : List (Nat × Nat)) (M2 : Mm) (xs2 : List va_E) (mc ms : Nat) : Prop :=
  Met l y (.code y cc nL ret :: TW) rm (va_Pc avs (WS G sh M xs)) (QO G ov sh2 M2 xs2) mc ms (gA G)
/-- what stands fixed while a method is walked -/
def Cx (p : Program) (s : State) (m : MethodId) (c : Code) (args : Array Value) (meth : Method) (G : GG) (own : String) (cc : ByteArray) (nL : Nat) (ret : Option FieldType) : Prop :=
  CallFix p m c cc nL s args TW own ∧ meth.sig.returnType = ret ∧ meth.locks = false ∧ va_K (gD G) vwCl (TYS G) s ∧ NN s ∧ EX G s s.heap ∧ gB G ≤ s.heap.size
def KW (p : Program) (l : Launch) (e : Env) (R : Room) (s : State) (m : MethodId) (args : Array Value) (below : List Frame) (meth : Method) (c : Code) (G : GG) (nL : Nat) (Q : State → Prop) (sh : List (Nat × Nat)) (xs : List va_E) (k n : Nat) (M : Mm) (pc : Nat) (lv : List (Nat × Value)) (st : List Value) : Prop :=
  ∀ (H : Heap) (locs : List Loc) (ls : Array Slot), wP G sh M xs H → va_S (gA G) s.heap H locs → lv_has ls nL lv → W p l e R s m args below meth c H locs k n Q (F0 m pc ls st)
section KWR
variable {p : Program} {l : Launch} {e : Env} {R : Room} {s : State} {m : MethodId} {args : Array Value} {below : List Frame} {meth : Method} {c : Code} {G : GG} {own : String} {cc : ByteArray} {nL : Nat} {ret : Option FieldType} {Q : State → Prop} {sh : List (Nat × Nat)} {xs : List va_E} {ck cn : Nat} {M : Mm} {pc : Nat} {lv : List (Nat × Value)} {st : List Value}
theorem kw1 {pc2 : Nat} {st2 : List Value} (h : ∀ (H : Heap) (locs : List Loc) (ls : Array Slot), lv_has ls nL lv → W p l e R s m args below meth c H locs ck cn Q (F0 m pc2 ls st2) → W p l e R s m args below meth c H locs ck cn Q (F0 m pc ls st)) (k : KW p l e R s m args below meth c G nL Q sh xs ck cn M pc2 lv st2) : KW p l e R s m args below meth c G nL Q sh xs ck cn M pc lv st :=
  fun H locs ls hP hS hl => h H locs ls hl (k H locs ls hP hS hl)
theorem k_lv {lv2 : List (Nat × Value)} (ks : List Nat) (h : lv_pick lv ks = lv2) (k : KW p l e R s m args below meth c G nL Q sh xs ck cn M pc lv2 st) : KW p l e R s m args below meth c G nL Q sh xs ck cn M pc lv st :=
  fun H locs ls hP hS hl => k H locs ls hP hS (lv_sub hl ks h)
theorem ws_blind {avs : List Value} : FrameBlind (va_Pc avs (WS G sh M xs)) := fun a U g mk q => ⟨q.1, q.2.1, va_K.moved (u := U) (U := U.calling g mk a) (Vm.Alike.refl U.vm) q.2.2.1, NN.same (u := U) (U := U.calling g mk a) rfl q.2.2.2.1, EX.same (u := U) (U := U.calling g mk a) rfl q.2.2.2.2⟩
/-- a contract out of the walk of the method's body -/
theorem ct_of {y : MethodName} {rm : Room} {avs : List Value} {ov : Option Value} {sh2 : List (Nat × Nat)} {M2 : Mm} {xs2 : List va_E} {mc ms : Nat} (hy : plainName y.cls = true) (hn : (lg_sl avs).length ≤ nL)
    (body : ∀ (p : Program) (e : Env) (s : State) (m : MethodId) (args : Array Value) (below : List Frame) (meth : Method) (c : Code), meth.name = y.name → Cx p s m c args meth G y.cls cc nL ret →
      KW p l e rm s m args below meth c G nL (MQ below (QO G ov sh2 M2 xs2) args s mc ms (gA G)) sh xs 0 0 M 0 (lv_args 0 avs) []) : Ct l y cc nL ret rm G avs sh M xs ov sh2 M2 xs2 mc ms := by
  refine Met.ofW (cc := cc) (maxL := nL) (ret := ret) hy rfl ?_
  intro p e s m args below meth c s₁ B hml hv
  obtain ⟨rfl, hP, hK, hN, hE⟩ := hv
  have hts := atoms_spec (ws := .code y cc nL ret :: TW) B.pre
  have hl := lv_entry avs hn
  rw [lg_entry_eq]
  exact body p e s m avs.toArray below meth c (name_of_methodNamed B.named B.method).1 ⟨⟨B.exec, B.bytes, hml, findClass_of_methodNamed B.named, fun w hw => hts w (List.mem_cons_of_mem _ hw)⟩, B.returns, B.notSynchronized, hK, hN, hE, by have := hP.1; show gB G ≤ s.heap.size; omega⟩ s.heap [] _ hP va_S.rf hl
theorem hts_of (C : Cx p s m c args meth G own cc nL ret) : ∀ w ∈ TW, w.before args s = true := C.1.2.2.2.2
/-- returns -/
theorem k_iret {v r : Int32} {sh2 : List (Nat × Nat)} {M2 : Mm} {xs2 : List va_E} (C : Cx p s m c args meth G own cc nL (some .int)) (hd : decode cc pc = .ok (.ireturn, 1)) (hv : v = r) (h1 : sh = sh2) (h2 : M = M2) (h3 : xs = xs2) : KW p l e R s m args below meth c G nL (MQ below (QO G (some (.int r)) sh2 M2 xs2) args s ck cn (gA G)) sh xs ck cn M pc lv [.int v] := by
  subst hv; subst h1; subst h2; subst h3
  exact fun H locs ls hP hS hl => W.iret C.1.1 C.1.2.1 C.2.1 (fun t ht hW => ⟨rfl, by rw [ht]; exact hP, hS.F ht⟩) hS.2.2 hd C.2.2.1
theorem k_zret {v r : Int32} {sh2 : List (Nat × Nat)} {M2 : Mm} {xs2 : List va_E} (C : Cx p s m c args meth G own cc nL (some .boolean)) (hd : decode cc pc = .ok (.ireturn, 1)) (hn : v &&& 1 = v) (hv : v = r) (h1 : sh = sh2) (h2 : M = M2) (h3 : xs = xs2) : KW p l e R s m args below meth c G nL (MQ below (QO G (some (.int r)) sh2 M2 xs2) args s ck cn (gA G)) sh xs ck cn M pc lv [.int v] := by
  subst hv; subst h1; subst h2; subst h3
  exact fun H locs ls hP hS hl => W.zret (ty := .boolean) C.1.1 C.1.2.1 C.2.1 (by show Value.int (v &&& 1) = _; rw [hn]) (fun t ht hW => ⟨rfl, by rw [ht]; exact hP, hS.F ht⟩) hS.2.2 hd C.2.2.1
theorem k_lret {v r : Int64} {sh2 : List (Nat × Nat)} {M2 : Mm} {xs2 : List va_E} (C : Cx p s m c args meth G own cc nL (some .long)) (hd : decode cc pc = .ok (.lreturn, 1)) (hv : v = r) (h1 : sh = sh2) (h2 : M = M2) (h3 : xs = xs2) : KW p l e R s m args below meth c G nL (MQ below (QO G (some (.long r)) sh2 M2 xs2) args s ck cn (gA G)) sh xs ck cn M pc lv [.long v] := by
  subst hv; subst h1; subst h2; subst h3
  exact fun H locs ls hP hS hl => W.lret C.1.1 C.1.2.1 C.2.1 (fun t ht hW => ⟨rfl, by rw [ht]; exact hP, hS.F ht⟩) hS.2.2 hd C.2.2.1
theorem k_vret {sh2 : List (Nat × Nat)} {M2 : Mm} {xs2 : List va_E} (C : Cx p s m c args meth G own cc nL none) (hd : decode cc pc = .ok (.return_, 1)) (h1 : sh = sh2) (h2 : M = M2) (h3 : xs = xs2) : KW p l e R s m args below meth c G nL (MQ below (QO G none sh2 M2 xs2) args s ck cn (gA G)) sh xs ck cn M pc lv [] := by
  subst h1; subst h2; subst h3
  exact fun H locs ls hP hS hl => W.vret C.1.1 C.1.2.1 C.2.1 (fun t ht hW => ⟨rfl, by rw [ht]; exact hP, hS.F ht⟩) hS.2.2 hd (hlocks := C.2.2.1)
theorem k_aret {o r : Nat} {sh2 : List (Nat × Nat)} {M2 : Mm} {xs2 : List va_E} {nm : String} (C : Cx p s m c args meth G own cc nL (some (.object nm))) (hd : decode cc pc = .ok (.areturn, 1)) (hv : o = r) (h1 : sh = sh2) (h2 : M = M2) (h3 : xs = xs2) : KW p l e R s m args below meth c G nL (MQ below (QO G (some (rA G r)) sh2 M2 xs2) args s ck cn (gA G)) sh xs ck cn M pc lv [rA G o] := by
  subst hv; subst h1; subst h2; subst h3
  exact fun H locs ls hP hS hl => W.aret C.1.1 C.1.2.1 C.2.1 (Or.inl ⟨_, rfl⟩) (Or.inr ⟨_, rfl⟩) (fun t ht hW => ⟨rfl, by rw [ht]; exact hP, hS.F ht⟩) hS.2.2 hd C.2.2.1
end KWR
