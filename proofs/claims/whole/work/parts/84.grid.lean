/-! multianewarray of two dimensions: the outer array, and behind it the inner ones -/
def tdO (cA : ClassId) (N h i : Nat) : Cell := arrV cA N (fun j => if j < i then .ref (h + 1 + j) else .null)
def tdI (cI : ClassId) (K : Nat) (dv : Value) : Cell := arrV cI K (fun _ => dv)
def tdS (T : State) (cA cI : ClassId) (N K : Nat) (dv : Value) : Nat → State
  | 0 => T.pushCell (tdO cA N T.heap.size 0)
  | i + 1 => ((tdS T cA cI N K dv i).pushCell (tdI cI K dv)).setCell T.heap.size ((tdO cA N T.heap.size i).setSlot i (.ref (T.heap.size + 1 + i)))
section TDS
variable {T : State} {cA cI : ClassId} {N K h : Nat} {dv : Value}
theorem tdO_put {i : Nat} : (tdO cA N h i).setSlot i (.ref (h + 1 + i)) = tdO cA N h (i + 1) := by
  unfold tdO
  rw [arrV_store]
  congr 1
  funext j
  unfold updV
  by_cases q : j = i
  · subst q; rw [if_pos rfl, if_pos (Nat.lt_succ_self j)]
  · rw [if_neg q]
    show (if j < i then (.ref (h + 1 + j) : Value) else .null) = _
    by_cases q2 : j < i
    · rw [if_pos q2, if_pos (by omega)]
    · rw [if_neg q2, if_neg (by omega)]
theorem tdO_0 : tdO cA N h 0 = arrV cA N (fun _ => .null) := by
  unfold tdO
  congr 1
theorem tdS_top (f : JFrame) : ∀ i, tdS (T.setTop f) cA cI N K dv i = (tdS T cA cI N K dv i).setTop f
  | 0 => rfl
  | i + 1 => by simp only [tdS, tdS_top f i, State.heap_setTop, State.pushCell_setTop, State.setCell_setTop]
def TdOk (T : State) (cA cI : ClassId) (N K : Nat) (dv : Value) (i : Nat) (U : State) : Prop := U.heap.size = T.heap.size + 1 + i ∧ U.heap[T.heap.size]? = some (tdO cA N T.heap.size i) ∧ (∀ a : Nat, a < T.heap.size → U.heap[a]? = T.heap[a]?) ∧ (∀ j : Nat, j < i → U.heap[T.heap.size + 1 + j]? = some (tdI cI K dv)) ∧ U.vm = T.vm ∧ U.slotsUsed = T.slotsUsed + N + i * K
theorem tdS_ok : ∀ i, TdOk T cA cI N K dv i (tdS T cA cI N K dv i)
  | 0 => ⟨by simp [tdS], by simp [tdS], fun a ha => State.heap_pushCell_of_lt _ _ ha, fun j hj => absurd hj (Nat.not_lt_zero j), rfl, by simp [tdS, tdO, arrV_size]⟩
  | i + 1 => by
    obtain ⟨a1, a2, a3, a4, a5, a6⟩ := tdS_ok i
    have up : ∀ a : Nat, a < T.heap.size + 1 + i → ((tdS T cA cI N K dv i).pushCell (tdI cI K dv)).heap[a]? = (tdS T cA cI N K dv i).heap[a]? := fun a ha => State.heap_pushCell_of_lt _ _ (by rw [a1]; exact ha)
    have at0 : ((tdS T cA cI N K dv i).pushCell (tdI cI K dv)).heap[T.heap.size]? = some (tdO cA N T.heap.size i) := by rw [up _ (by omega)]; exact a2
    refine ⟨?_, ?_, fun a ha => ?_, fun j hj => ?_, ?_, ?_⟩
    · simp [tdS, State.setCell, a1]; omega
    · rw [← tdO_put]; exact State.heap_setCell_self at0
    · show (((tdS T cA cI N K dv i).pushCell (tdI cI K dv)).setCell T.heap.size _).heap[a]? = _
      rw [State.heap_setCell_other (Nat.ne_of_gt ha), up a (by omega)]
      exact a3 a ha
    · show (((tdS T cA cI N K dv i).pushCell (tdI cI K dv)).setCell T.heap.size _).heap[T.heap.size + 1 + j]? = _
      rw [State.heap_setCell_other (show T.heap.size ≠ T.heap.size + 1 + j by omega)]
      by_cases q : j = i
      · subst q
        rw [← a1]
        exact State.heap_pushCell_size _ _
      · rw [up _ (by omega)]
        exact a4 j (by omega)
    · simp [tdS, a5]
    · simp [tdS, a6, tdI, arrV_size, Nat.succ_mul]; omega
end TDS
section TDW
variable {p : Program} {l : Launch} {e : Env} {R : Room} {s : State} {m : MethodId} {args : Array Value} {below : List Frame} {meth : Method} {c : Code} {T : State} {locs : List Loc} {cells slots : Nat}
theorem tdS_stand (X : Stand p l e R s m args below meth c T locs cells slots) (cA cI : ClassId) (N K : Nat) (dv : Value) : ∀ i, ∃ J : List Loc, (∀ q ∈ J, q.base = T.heap.size) ∧ Stand p l e R s m args below meth c (tdS T cA cI N K dv i) (locs ++ J) (cells + 1 + i) (slots + N + i * K)
  | 0 => by
    refine ⟨[], fun _ h => (by cases h), ?_⟩
    have h := X.pushed (tdO cA N T.heap.size 0)
    rw [show (tdO cA N T.heap.size 0).slots.size = N from arrV_size _ _ _] at h
    simpa [tdS] using h
  | i + 1 => by
    obtain ⟨J, j1, j2⟩ := tdS_stand X cA cI N K dv i
    obtain ⟨a1, a2, a3, a4, a5, a6⟩ := tdS_ok (T := T) (cA := cA) (cI := cI) (N := N) (K := K) (dv := dv) i
    have at0 : ((tdS T cA cI N K dv i).pushCell (tdI cI K dv)).heap[T.heap.size]? = some (tdO cA N T.heap.size i) := (State.heap_pushCell_of_lt _ _ (show T.heap.size < _ by rw [a1]; omega)).trans a2
    have h := (j2.pushed (tdI cI K dv)).stored at0 i (.ref (T.heap.size + 1 + i))
    rw [show (tdI cI K dv).slots.size = K from arrV_size _ _ _, List.append_assoc] at h
    refine ⟨J ++ [⟨T.heap.size, i⟩], fun q hq => ?_, ?_⟩
    · rcases List.mem_append.mp hq with z | z
      · exact j1 q z
      · rw [List.mem_singleton.mp z]
    · rw [show slots + N + (i + 1) * K = slots + N + i * K + K by rw [Nat.succ_mul]; omega]
      exact h
end TDW
section TDP
variable {E : CtlPost} {e : Env} {d : Bool} {acts : List Action} {s : State}
theorem td_alloc {k9 comp : ClassId} {k : Class} {ty : FieldType} {len : Nat} {v : Value} {Q : Addr → Pre} (hk : s.vm.classes[k9]? = some k) (hkind : k.kind = .array comp ty) (h1 : ¬ len > e.platform.arrayLengthLimit) (h2 : ¬ len * componentBytes ty > e.platform.maxHeapBytes) (hf : fits ty v = true) (hz : v.isDefault = true) (h3 : s.heap.size < e.platform.maxCells) (h4 : s.slotsUsed + len ≤ e.platform.maxSlots) (hq : Q s.heap.size d acts (s.pushCell (arrV k9 len fun _ => v))) : wp (Jvm.newArray k9 len v) Q E e d acts s := by
  rw [← arrV_new] at hq
  have f1 : ∀ i w, (Array.replicate len v)[i]? = some w → s.fitsSlot k9 .none i w = true := by
    intro i w hw
    rw [Array.getElem?_replicate] at hw
    by_cases q : i < len
    · rw [if_pos q] at hw; cases hw; simp [State.fitsSlot, State.slotType?, hk, hkind, hf]
    · rw [if_neg q] at hw; cases hw
  have f2 : allocActs (Array.replicate len v) s.heap.size acts = acts := by
    unfold allocActs
    refine if_pos ?_
    rw [Array.all_replicate]
    by_cases q : len = 0
    · rw [if_pos q]
    · rw [if_neg q]; exact hz
  simp only [Jvm.newArray, Jvm.arrayFits, wp_bind', W.ask, W.ite, h1, if_false, wp_pure', W.theClass, hk, hkind, h2, W.alloc, W.stop, Option.some.injEq, exists_eq_left', Array.size_replicate, f2]
  rw [if_neg (by omega)]
  exact ⟨h3, h4, f1, hq⟩
end TDP
section TDM
variable {E : CtlPost} {e : Env} {d : Bool} {acts : List Action} {s : State}
theorem td_fits {ty : FieldType} {v : Value} (h : v = .null ∨ ∃ a, v = .ref a) : fits (.array ty) v = true := by
  rcases h with rfl | ⟨a, rfl⟩ <;> rfl
theorem td_make {cA cI cc : ClassId} {kA kI : Class} {ty : FieldType} {n k : Int32} {N K : Nat} (hkA : s.vm.classes[cA]? = some kA) (hA : kA.kind = .array cI (.array ty)) (hkI : s.vm.classes[cI]? = some kI) (hI : kI.kind = .array cc ty) (hn : ¬ n < 0) (hk : ¬ k < 0) (eN : n.toNatClampNeg = N) (eK : k.toNatClampNeg = K) (hN : N ≤ 1000) (hK : K ≤ 1000) (hl : e.platform.arrayLengthLimit ≥ 1000) (hm : e.platform.maxHeapBytes ≥ 8000) (hf : fits ty (defaultValue ty) = true) (hz : (defaultValue ty).isDefault = true) (hc : s.heap.size + 1 + N ≤ e.platform.maxCells) (hs : s.slotsUsed + N + N * K ≤ e.platform.maxSlots) {Q : Addr → Pre} (hq : ∀ d2 acts2, Q s.heap.size d2 acts2 (tdS s cA cI N K (defaultValue ty) N)) : wp (multianewarray.make cA [n, k]) Q E e d acts s := by
  have cb : componentBytes ty ≤ 8 := by cases ty <;> simp [componentBytes]
  have noneg : ([k].find? (· < 0)) = none := by simp [hk]
  rw [multianewarray.make]
  simp only [wp_bind', W.ite, hn, if_false, wp_pure', W.theClass, hkA, hA, Option.some.injEq, exists_eq_left', eN]
  refine td_alloc hkA hA (by omega) (by show ¬ N * 4 > _; omega) (td_fits (Or.inl rfl)) rfl (by omega) (by have := Nat.zero_le (N * K); omega) ?_
  simp only [noneg]
  rw [ite_self, wp_bind', Std.Legacy.Range.forIn_eq_forIn_range', show ([:N] : Std.Legacy.Range).size = N by simp [Std.Legacy.Range.size]]
  show wp (forIn (List.range' 0 N 1) PUnit.unit _) _ E e d acts _
  refine wp_forIn_inv (fun rest U => ∃ i, i ≤ N ∧ rest = List.range' i (N - i) ∧ U = tdS s cA cI N K (defaultValue ty) i) _ _ ⟨0, Nat.zero_le _, rfl, by rw [tdS, tdO_0]⟩ ?_ ?_
  · rintro x rest U d2 acts2 Q2 ⟨i, hi, hr, rfl⟩ next
    have lt : i < N := by
      by_cases q : i < N
      · exact q
      · rw [show N - i = 0 by omega] at hr; cases hr
    rw [show N - i = (N - (i + 1)) + 1 by omega, List.range'_succ] at hr
    injection hr with hx hr
    subst hx
    obtain ⟨a1, a2, a3, a4, a5, a6⟩ := tdS_ok (T := s) (cA := cA) (cI := cI) (N := N) (K := K) (dv := defaultValue ty) x
    have mul : x * K + K ≤ N * K := by have := Nat.mul_le_mul_right K (show x + 1 ≤ N from lt); rwa [Nat.succ_mul] at this
    have kb : K * componentBytes ty ≤ 8000 := Nat.le_trans (Nat.mul_le_mul hK cb) (by decide)
    simp only [wp_bind']
    rw [multianewarray.make]
    simp only [wp_bind', W.ite, hk, if_false, wp_pure', W.theClass, a5, hkI, hI, Option.some.injEq, exists_eq_left', eK]
    refine td_alloc (by rw [a5]; exact hkI) hI (by omega) (by omega) hf hz (by rw [a1]; omega) (by rw [a6]; omega) ?_
    simp only [wp_bind', W.writeLoc, wp_pure']
    refine ⟨tdO cA N s.heap.size x, (State.heap_pushCell_of_lt _ _ (show s.heap.size < _ by rw [a1]; omega)).trans a2, (by intro z; cases z), by rw [show (tdO cA N s.heap.size x).slots.size = N from arrV_size _ _ _]; exact lt, ?_, next _ _ _ ⟨x + 1, lt, hr, ?_⟩⟩
    · show State.fitsSlot _ cA .none x _ = true
      simp [State.fitsSlot, State.slotType?, a5, hkA, hA, td_fits (Or.inr ⟨_, rfl⟩)]
    · rw [a1]; rfl
  · rintro U d2 acts2 ⟨i, hi, hr, rfl⟩
    have e9 : i = N := by
      by_cases q : i < N
      · rw [show N - i = (N - (i + 1)) + 1 by omega, List.range'_succ] at hr; cases hr
      · omega
    subst e9
    simp only [wp_pure']
    exact hq _ _
end TDM
section TDK
variable {p : Program} {l : Launch} {e : Env} {R : Room} {s : State} {m : MethodId} {args : Array Value} {below : List Frame} {meth : Method} {c : Code} {T : State} {locs : List Loc} {cells slots : Nat} {Q : State → Prop} {H : Heap}
theorem W.grid {cc : ByteArray} (hexec : p.tables.exec = Jvm.exec) (hb : c.code = cc) {own : String} {index : Nat} {ty : FieldType} (hown : s.vm.findClass own = some m.cls) (hlink : (Cond.classLink own index ("[" ++ (FieldType.array ty).toString)).before args s = true) (hover : (Cond.arrayOver (.array ty)).before args s = true) (harr : (Cond.arrayClass ty).before args s = true) {pc : Nat} {ls : Array Slot} {rest : List Value} {n k : Int32} {N K : Nat} (hd : decode cc pc = .ok (.multianewarray index 2, 4)) (hn : ¬ n < 0) (hk : ¬ k < 0) (eN : n.toNatClampNeg = N) (eK : k.toNatClampNeg = K) (hN : N ≤ 1000) (hK : K ≤ 1000) (hf : fits ty (defaultValue ty) = true) (hz : (defaultValue ty).isDefault = true) (hc : cells + (1 + N) ≤ R.cells) (hs : slots + (N + N * K) ≤ R.slots)
    (kk : ∀ (cA cI : ClassId) (H1 : Heap) (J : List Loc), s.vm.findClass ("[" ++ (FieldType.array ty).toString) = some cA → s.vm.findClass (FieldType.array ty).toString = some cI → (∀ q ∈ J, q.base = H.size) → H1.size = H.size + (1 + N) → H1[H.size]? = some (arrV cA N fun j => if j < N then .ref (H.size + 1 + j) else .null) → (∀ a : Nat, a < H.size → H1[a]? = H[a]?) → (∀ j : Nat, j < N → H1[H.size + 1 + j]? = some (arrV cI K fun _ => defaultValue ty)) →
      W p l e R s m args below meth c H1 (locs ++ J) (cells + (1 + N)) (slots + (N + N * K)) Q (F0 m (pc + 4) ls (.ref H.size :: rest))) : W p l e R s m args below meth c H locs cells slots Q (F0 m pc ls (.int k :: .int n :: rest)) := by
  intro T hT X
  subst hT; subst hb
  have hpl : e.platform.magicAccessors = ({} : Platform).magicAccessors := by rw [X.admits.platform]
  obtain ⟨cI, cA, kA, h1, -, h3, h4, h5⟩ := arrayOverA_spec hover
  obtain ⟨cI2, kI, cc, g1, g2, g3⟩ := Cond.arrayClass_spec harr
  cases Option.some.inj (g1.symm.trans h1)
  obtain ⟨c0, f0, f1⟩ := Cond.classLink_spec hown hlink e.platform hpl
  cases h5.symm.trans f0
  obtain ⟨r1, r2, r3⟩ := State.classEntry (e := e) X.warmed f1
  generalize T.vm.noted m.cls index (.cls cA) = vm9 at r1 r2 r3
  obtain ⟨kA9, a1, a2⟩ := r2.alike.2.2 _ _ h3
  obtain ⟨kI9, b1, b2⟩ := r2.alike.2.2 _ _ g2
  have X9 := X.noted r2
  obtain ⟨w1, w2⟩ := X.roomAbove hc hs
  obtain ⟨J, j1, j2⟩ := tdS_stand X9 cA cI N K (defaultValue ty) N
  obtain ⟨o1, o2, o3, o4, o5, o6⟩ := tdS_ok (T := T.setVm vm9) (cA := cA) (cI := cI) (N := N) (K := K) (dv := defaultValue ty) N
  obtain ⟨t, t1, t2⟩ := kk cA cI (tdS (T.setVm vm9) cA cI N K (defaultValue ty) N).heap J h5 h1 j1 (by rw [o1]; show T.heap.size + 1 + N = _; omega) o2 o3 o4 _ rfl (by rw [show cells + (1 + N) = cells + 1 + N by omega, show slots + (N + N * K) = slots + N + N * K by omega]; exact j2)
  refine ⟨t, ?_, t2⟩
  jvm_step X.here [hexec, hd]
  simp only [multianewarray.sem, wp_bind', W.resolveClassAt_links (State.method?_setTop (F0 m pc ls (.int k :: .int n :: rest)) X.here.top) r1]
  rw [W.popN, if_neg (by decide)]
  refine ⟨F0 m pc ls (.int k :: .int n :: rest), State.topJava?_setTop' (s := T.setVm vm9) (F0 m pc ls (.int k :: .int n :: rest)) X.here.top, [.int n, .int k], rest, rfl, rfl, ?_⟩
  simp only [List.mapM_cons, List.mapM_nil, wp_bind', wp_pure']
  refine td_make (kA := kA9) (kI := kI9) (cc := cc) (ty := ty) (N := N) (K := K) a1 (by rw [a2]; exact h4) b1 (by rw [b2]; exact g3) hn hk eN eK hN hK (by rw [Launch.admits_arrayLengthLimit X.admits]; omega) (by rw [Launch.admits_maxHeapBytes X.admits]; omega) hf hz (by show T.heap.size + 1 + _ ≤ _; omega) (by show T.slotsUsed + _ + _ ≤ _; omega) (fun d2 acts2 => ?_)
  rw [show ((T.setTop (F0 m pc ls (.int k :: .int n :: rest))).setVm vm9).setTop (F0 m pc ls rest) = (T.setVm vm9).setTop (F0 m pc ls rest) from by show ((T.setVm vm9).setTop _).setTop _ = _; rw [State.setTop_setTop]]
  rw [tdS_top]
  simp only [wp_bind', W.mark, W.pushRef, State.topJava?_setTop' _ j2.here.top, Option.some.injEq, exists_eq_left', State.setTop_setTop, State.heap_setTop]
  intro acts3
  simp [jvm, j2.here.top]
  exact t1
end TDK
/-! two dimensions: N arrays of K numbers behind an array of them -/
section KGRID
variable {p : Program} {l : Launch} {e : Env} {R : Room} {s : State} {m : MethodId} {args : Array Value} {below : List Frame} {meth : Method} {c : Code} {G : GG} {own : String} {cc : ByteArray} {nL : Nat} {ret : Option FieldType} {Q : State → Prop} {sh : List (Nat × Nat)} {x0 L L2 : List va_E} {ck cn : Nat} {M : Mm} {pc pc2 : Nat} {lv : List (Nat × Value)} {st : List Value} {o n : Nat}
theorem x_apps {H H1 : Heap} {es : List va_E} (hP : wP G sh M (x0 ++ L) H) (ho : o = sh.length + x0.length) (hn : L.length = n) (hz : H1.size = H.size + es.length) (hq : ∀ q : Nat, q < H.size → H1[q]? = H[q]?) (he : ∀ (j : Nat) (e : va_E), es[j]? = some e → va_at (gD G) vwCl (gB G + (o + n + j), e) H1) (h2 : L ++ es = L2) : wP G sh M (x0 ++ L2) H1 := by
  subst h2
  have hs := hP.1
  rw [List.length_append] at hs
  refine ⟨by rw [hz, hs, List.length_append, List.length_append]; omega, fun o2 q h2 => ?_, fun i z h2 => ?_⟩
  · exact (hP.2.1 o2 q h2).kept (hq _ (hP.2.1 o2 q h2).lt)
  · rw [← List.append_assoc] at h2
    by_cases hi : i < (x0 ++ L).length
    · rw [List.getElem?_append_left hi] at h2
      exact (hP.2.2 i z h2).kept (hq _ (hP.2.2 i z h2).lt)
    · rw [List.getElem?_append_right (by omega)] at h2
      have h3 := he _ _ h2
      rw [List.length_append] at h3 hi
      rw [show gB G + (sh.length + i) = gB G + (o + n + (i - (x0.length + L.length))) by omega]
      exact h3
theorem k_xgrid (C : Cx p s m c args meth G own cc nL ret) {ty : FieldType} {index t ti N K : Nat} {x y : Int32} {row : vp_A} (ho : o = sh.length + x0.length) (hn : L.length = n) (hl : Cond.classLink own index ("[" ++ (FieldType.array ty).toString) ∈ TW) (hov : (Cond.arrayOver (.array ty)).before #[] s = true) (hac : Cond.arrayClass ty ∈ TW) (ht : (TYS G)[t]? = some (gC G t, .array ty)) (hti : (TYS G)[ti]? = some (gC G ti, ty)) (hty : va_RA s (gC G ti) ty → s.vm.findClass (FieldType.array ty).toString = some (gC G ti)) (hta : va_RA s (gC G t) (.array ty) → s.vm.findClass ("[" ++ (FieldType.array ty).toString) = some (gC G t)) (hd : decode cc pc = .ok (.multianewarray index 2, 4)) (hx : ¬ x < 0) (hy : ¬ y < 0) (eN : x.toNatClampNeg = N) (eK : y.toNatClampNeg = K) (hN : N ≤ 1000) (hK : K ≤ 1000) (hf : fits ty (defaultValue ty) = true) (hz : (defaultValue ty).isDefault = true) (hrow : vp_cell (gC G ti) row = arrV (gC G ti) K fun _ => defaultValue ty) (hR : ck + (1 + N) ≤ R.cells ∧ cn + (N + N * K) ≤ R.slots) (hp : pc + 4 = pc2) (h2 : L ++ (rArr G t N (o + n) 1 1 :: List.replicate N (.inl (gC G ti, row))) = L2) (k : KW p l e R s m args below meth c G nL Q sh (x0 ++ L2) (ck + (1 + N)) (cn + (N + N * K)) M pc2 lv (rA G (o + n) :: st)) : KW p l e R s m args below meth c G nL Q sh (x0 ++ L) ck cn M pc lv (.int y :: .int x :: st) := by
  subst hp
  intro H locs ls hP hS hl9
  have hts := hts_of C
  have hsz := x_siz hP ho hn
  refine W.grid (N := N) (K := K) C.1.1 C.1.2.1 C.1.2.2.2.1 (hts _ hl) (over_moved (Vm.Alike.refl s.vm) hov) (hts _ hac) hd hx hy eN eK hN hK hf hz hR.1 hR.2 fun cA cI H1 J f1 f2 f3 f4 f5 f6 f7 => ?_
  cases f1.symm.trans (hta (C.2.2.2.1.2 t _ ht).2)
  cases f2.symm.trans (hty (C.2.2.2.1.2 ti _ hti).2)
  have hge : gB G ≤ H.size := by omega
  have k9 := k H1 (locs ++ J) ls (x_apps hP ho hn (by rw [f4, List.length_cons, List.length_replicate]; omega) f6 (fun j e hj => ?_) h2) ⟨Nat.le_trans hS.1 (by omega), fun x h1 h3 => (f6 x (Nat.lt_of_lt_of_le h1 hS.1)).trans (hS.2.1 x h1 h3), fun q hq => ?_⟩ hl9
  · rw [show rA G (o + n) = .ref H.size by rw [hsz]] at k9
    exact k9
  · cases j with
    | zero =>
      cases hj
      show H1[_]? = some (vp_cell _ _)
      rw [show gB G + (o + n + 0) = H.size by omega, f5, vp_cell_q]
      congr 1
      unfold arrV
      congr 1
      apply Array.ext
      · simp
      · intro i h1 h2
        have hi : i < N := by simpa using h1
        simp only [Array.getElem_ofFn, hi, if_true]
        show Value.ref _ = va_rf (some _)
        show Value.ref _ = Value.ref _
        congr 1
        show H.size + 1 + i = gB G + (o + n + 1 + 1 * i)
        omega
    | succ j =>
      have hj : (List.replicate N (.inl (gC G ti, row) : va_E))[j]? = some e := hj
      obtain ⟨q1, q2⟩ := List.getElem?_eq_some_iff.mp hj
      rw [List.getElem_replicate] at q2
      rw [List.length_replicate] at q1
      subst q2
      show H1[_]? = some (vp_cell _ _)
      rw [show gB G + (o + n + (j + 1)) = H.size + 1 + j by omega, f7 j q1, hrow]
  · rcases List.mem_append.mp hq with z | z
    · exact hS.2.2 q z
    · show gB G ≤ q.base
      rw [f3 q z]; exact hge
end KGRID
