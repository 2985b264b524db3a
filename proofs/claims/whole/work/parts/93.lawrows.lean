/-! the law: its rows, and what stands at its loop's head -/
section LAWR
variable {p : Program} {l : Launch} {e : Env} {R : Room} {s : State} {m : MethodId} {args : Array Value} {below : List Frame} {meth : Method} {c : Code} {G : GG} {own : String} {cc : ByteArray} {nL : Nat} {ret : Option FieldType} {Q : State → Prop} {sh : List (Nat × Nat)} {xs : List va_E} {ck cn : Nat} {M : Mm} {pc pc2 : Nat} {lv : List (Nat × Value)} {st : List Value} {b L : Nat} {y : Nat → Int32}
theorem k_sld (C : Cx p s m c args meth G own cc nL ret) (hX : va_X b L y s s.heap) (hbl : b < s.heap.size) (hbA : ¬ gA G b) {x : Int32} (hin : vp_in x L) (hd : decode cc pc = .ok (.iaload, 1)) (hp : pc + 1 = pc2) (k : KW p l e R s m args below meth c G nL Q sh xs ck cn M pc2 lv (.int (y x.toNatClampNeg) :: st)) : KW p l e R s m args below meth c G nL Q sh xs ck cn M pc lv (.int x :: .ref b :: st) := by
  subst hp
  exact fun H locs ls hP hS hl => va_sld C.1.1 C.1.2.1 hX hbl hbA hS hin hd (k H locs ls hP hS hl)
theorem k_scrlen (C : Cx p s m c args meth G own cc nL ret) (hX : va_X b L y s s.heap) (hbl : b < s.heap.size) (hbA : ¬ gA G b) (hd : decode cc pc = .ok (.arraylength, 1)) (hp : pc + 1 = pc2) (k : KW p l e R s m args below meth c G nL Q sh xs ck cn M pc2 lv (.int (nI L) :: st)) : KW p l e R s m args below meth c G nL Q sh xs ck cn M pc lv (.ref b :: st) := by
  subst hp
  exact fun H locs ls hP hS hl => va_slen C.1.1 C.1.2.1 hX hbl hbA hS hd (k H locs ls hP hS hl)
def lvL (G : GG) (b i : Nat) : List (Nat × Value) := [(3, .int (nI i)), (2, rA G 69), (1, rA G 0), (0, .ref b)]
/-- element i + j of the script -/
theorem k_arg (C : Cx p s m c args meth G own cc nL ret) (hX : va_X b L y s s.heap) (hbl : b < s.heap.size) (hbA : ¬ gA G b) {i j : Nat} {z : Int} {w : Int32} (hz : Int32.ofInt z = nI j) (hi : i + j < L) (hL : L ≤ 3072) (hw : y (i + j) = w) (d1 : decode cc pc = .ok (.aload_n 0, 1)) (d2 : decode cc (pc + 1) = .ok (.iload_n 3, 1)) (d3 : decode cc (pc + 2) = .ok (.iconst z, 1)) (d4 : decode cc (pc + 3) = .ok (.iadd, 1)) (d5 : decode cc (pc + 4) = .ok (.iaload, 1)) (hp : pc + 5 = pc2) (k : KW p l e R s m args below meth c G nL Q sh xs ck cn M pc2 (lvL G b i) (.int w :: st)) : KW p l e R s m args below meth c G nL Q sh xs ck cn M pc (lvL G b i) st := by
  subst hp; subst hw
  refine k_aload_n C (pc2 := pc + 1) d1 rfl rfl 3 rfl ?_
  refine k_iload_n C (pc2 := pc + 2) d2 rfl rfl 0 rfl ?_
  refine k_iconst C (pc2 := pc + 3) d3 rfl hz ?_
  refine k_iadd C (pc2 := pc + 4) d4 rfl ?_
  rw [nI_add]
  refine k_sld C hX hbl hbA (vp_in_nI hi (by omega)) d5 rfl ?_
  rw [tn_nI (by omega)]
  exact k
/-- an int as a boolean -/
theorem k_zarg (C : Cx p s m c args meth G own cc nL ret) {v : Int32} (d1 : decode cc pc = .ok (.ifCond .eq 7, 3)) (d2 : decode cc (pc + 3) = .ok (.iconst 1, 1)) (d3 : decode cc (pc + 4) = .ok (.goto 4, 3)) (d4 : decode cc (pc + 7) = .ok (.iconst 0, 1)) (hp : pc + 8 = pc2) (k : KW p l e R s m args below meth c G nL Q sh xs ck cn M pc2 lv (.int (if v = 0 then 0 else 1) :: st)) : KW p l e R s m args below meth c G nL Q sh xs ck cn M pc lv (.int v :: st) := by
  subst hp
  by_cases q : v = 0
  · rw [if_pos q] at k
    refine k_if_eq C (tgt := pc + 7) (pc2 := pc + 3) (A := some ()) (B := none) (r := ()) d1 (by omega) rfl (if_pos q) (fun _ => ?_) (fun z => by cases z)
    exact k_iconst C (pc2 := pc + 8) d4 rfl (v := 0) rfl k
  · rw [if_neg q] at k
    refine k_if_eq C (tgt := pc + 7) (pc2 := pc + 3) (A := none) (B := some ()) (r := ()) d1 (by omega) rfl (if_neg q) (fun z => by cases z) (fun _ => ?_)
    refine k_iconst C (pc2 := pc + 4) d2 rfl (v := 1) rfl ?_
    exact k_goto C (tgt := pc + 8) d3 (by omega) k
end LAWR
theorem and63 (x : Int32) : ∃ k, k < 64 ∧ x &&& 63 = nI k := by
  refine ⟨(x &&& 63).toBitVec.toNat, ?_, ?_⟩
  · rw [Int32.toBitVec_and, BitVec.toNat_and]
    exact Nat.lt_of_le_of_lt Nat.and_le_right (by decide)
  · apply Int32.toBitVec_inj.mp
    show _ = BitVec.ofNat 32 _
    simp
theorem lg_same (x : Int64) : lg_cmp x x = 0 := by
  unfold lg_cmp
  simp
/-- what the one changes is nothing to the other -/
theorem RM.frC {a : AB} {M M2 : Mm} (h : RM a M) (hF : FrC M M2) : RM a M2 := by
  obtain ⟨hv, hk, hs, ht, hr⟩ := h
  have e1 : ∀ x, 69 ≤ x → M2.1 x = M.1 x := fun x hx => (hF.1 x (Or.inr hx)).1
  have e2 : ∀ x, 69 ≤ x → M2.2.1 x = M.2.1 x := fun x hx => (hF.1 x (Or.inr hx)).2
  refine ⟨hv.eqs (fun y hy => by rw [e1 69 (Nat.le_refl _)]) (fun x h1 h2 => e1 x (by omega)), ⟨fun q => by rw [hF.2]; exact hk.1 q, fun w q => ?_⟩, fun s h8 => ?_, ⟨by rw [e1 69 (Nat.le_refl _)]; exact ht.1, fun i hi => by rw [e1 84 (by decide)]; exact ht.2 i hi⟩, fun i hi => by rw [e1 85 (by decide)]; exact hr i hi⟩
  · rw [hF.2]
    obtain ⟨k1, k2, k3⟩ := hk.2 w q
    exact ⟨k1, k2, k3.eqs (fun y hy => by rw [e1 _ (by omega)]) (fun x h1 h2 => e1 x (by omega))⟩
  · unfold SM
    rw [e1 70 (by decide), e1 71 (by decide), e1 72 (by decide), e1 83 (by decide), e2 (74 + s) (by omega)]
    exact hs s h8
theorem RC.frM {a : AB} {M M2 : Mm} (h : RC a M) (hF : FrM M M2) : RC a M2 := h.eqs (fun x hx => hF x (by omega)) (by rw [(hF 38 (by decide)).1])
/-- the models that the model keeps -/
def RefOk (sh : Sh) (M : Mm) : Prop := (M.2.2 69 19 = 0 ∨ (isM sh (M.2.2 69 19) ∧ 106 ≤ M.2.2 69 19)) ∧ (M.2.2 69 20 = 0 ∨ (isM sh (M.2.2 69 20) ∧ 106 ≤ M.2.2 69 20 ∧ apart (M.2.2 69 20) (M.2.2 69 19)))
def Inv (sh : Sh) (a : AB) (M : Mm) : Prop := isX sh ∧ isM sh 69 ∧ RC a M ∧ RM a M ∧ WB a ∧ RefOk sh M
theorem Inv.step {sh : Sh} {a a2 : AB} {M M2 M3 : Mm} (I : Inv sh a M) (c1 : RC a2 M2) (f1 : FrC M M2) (m1 : RM a2 M3) (f2 : FrM M2 M3) (f3 : M3.2.2 = M2.2.2) (w : WB a2) : Inv sh a2 M3 := ⟨I.1, I.2.1, c1.frM f2, m1, w, by unfold RefOk; rw [f3, f1.2]; exact I.2.2.2.2.2⟩
def LawC (p : Program) (s : State) (m : MethodId) (c : Code) (args : Array Value) (meth : Method) (G : GG) (b L : Nat) (y : Nat → Int32) (i : Nat) : Prop := Cx p s m c args meth G RL cL_law 4 (some .boolean) ∧ va_X b L y s s.heap ∧ b < s.heap.size ∧ ¬ gA G b ∧ L ≤ 3072 ∧ i + 6 ≤ L
def Cont (p : Program) (l : Launch) (e : Env) (s : State) (m : MethodId) (args : Array Value) (below : List Frame) (meth : Method) (c : Code) (G : GG) (Q : State → Prop) (b i ck cn : Nat) : Prop := ∀ (sh2 : Sh) (a2 : AB) (M2 : Mm) (ck2 cn2 : Nat), Inv sh2 a2 M2 → ck2 ≤ ck + 37 → cn2 ≤ cn + 902 → KW p l e room_1 s m args below meth c G 4 Q sh2 [] ck2 cn2 M2 2073 (lvL G b i) []
