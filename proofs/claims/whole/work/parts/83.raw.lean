/-! rows on cells that are being built: they lie behind the places, first x0, then L; o is the place of L's first -/
section RAWH
variable {G : GG} {sh : List (Nat × Nat)} {M : Mm} {x0 L L2 : List va_E} {H H1 : Heap} {o n j : Nat} {e : va_E}
theorem ap_get (h : L[j]? = some e) : (x0 ++ L)[x0.length + j]? = some e := by
  rw [List.getElem?_append_right (by omega), Nat.add_sub_cancel_left]; exact h
theorem x_at (hP : wP G sh M (x0 ++ L) H) (ho : o = sh.length + x0.length) (hj : L[j]? = some e) : va_at (gD G) vwCl (gB G + (o + j), e) H := by
  have h := hP.2.2 (x0.length + j) e (ap_get hj)
  rw [show gB G + (o + j) = gB G + (sh.length + (x0.length + j)) by omega]; exact h
theorem x_one (hP : wP G sh M (x0 ++ L) H) (ho : o = sh.length + x0.length) (hj : L[j]? = some e) : va_P (gD G) vwCl [(gB G + (o + j), e)] H := fun k x hx => by
  cases k with
  | zero => cases hx; exact x_at hP ho hj
  | succ k => cases hx
theorem x_set (hP : wP G sh M (x0 ++ L) H) (ho : o = sh.length + x0.length) (hz : H1.size = H.size) (hne : ∀ q : Nat, q ≠ gB G + (o + j) → H1[q]? = H[q]?) (he : va_at (gD G) vwCl (gB G + (o + j), e) H1) (h2 : L.set j e = L2) : wP G sh M (x0 ++ L2) H1 := by
  subst h2
  refine ⟨by rw [hz, hP.1, List.length_append, List.length_append, List.length_set], fun o2 q h2 => ?_, fun i z h2 => ?_⟩
  · have hlt := (List.getElem?_eq_some_iff.mp h2).1
    exact (hP.2.1 o2 q h2).kept (hne _ (by show gB G + o2 ≠ _; omega))
  · by_cases hi : i < x0.length
    · have h3 : (x0 ++ L)[i]? = some z := by rw [List.getElem?_append_left hi] at h2 ⊢; exact h2
      exact (hP.2.2 i z h3).kept (hne _ (by show gB G + (sh.length + i) ≠ _; omega))
    · rw [List.getElem?_append_right (by omega)] at h2
      by_cases hj : i - x0.length = j
      · rw [hj] at h2
        have hl : j < L.length := by have := (List.getElem?_eq_some_iff.mp h2).1; rwa [List.length_set] at this
        rw [List.getElem?_set_self hl] at h2
        cases h2
        rw [show gB G + (sh.length + i) = gB G + (o + j) by omega]
        exact he
      · rw [List.getElem?_set_ne (fun z => hj z.symm)] at h2
        have h3 : (x0 ++ L)[i]? = some z := by rw [List.getElem?_append_right (by omega)]; exact h2
        exact (hP.2.2 i z h3).kept (hne _ (by show gB G + (sh.length + i) ≠ _; omega))
theorem x_app (hP : wP G sh M (x0 ++ L) H) (ho : o = sh.length + x0.length) (hn : L.length = n) (hz : H1.size = H.size + 1) (hq : ∀ q : Nat, q < H.size → H1[q]? = H[q]?) (he : va_at (gD G) vwCl (gB G + (o + n), e) H1) (h2 : L ++ [e] = L2) : wP G sh M (x0 ++ L2) H1 := by
  subst h2
  have hs := hP.1
  rw [List.length_append] at hs
  refine ⟨by rw [hz, hs, List.length_append, List.length_append]; simp only [List.length_cons, List.length_nil]; omega, fun o2 q h2 => ?_, fun i z h2 => ?_⟩
  · exact (hP.2.1 o2 q h2).kept (hq _ (hP.2.1 o2 q h2).lt)
  · rw [← List.append_assoc] at h2
    by_cases hi : i < (x0 ++ L).length
    · rw [List.getElem?_append_left hi] at h2
      exact (hP.2.2 i z h2).kept (hq _ (hP.2.2 i z h2).lt)
    · rw [List.getElem?_append_right (by omega)] at h2
      have h3 := (List.getElem?_eq_some_iff.mp h2).1
      have h4 : i = (x0 ++ L).length := by simp only [List.length_cons, List.length_nil] at h3; omega
      rw [h4, Nat.sub_self] at h2
      cases h2
      rw [h4, List.length_append, show gB G + (sh.length + (x0.length + L.length)) = gB G + (o + n) by omega]
      exact he
theorem x_siz (hP : wP G sh M (x0 ++ L) H) (ho : o = sh.length + x0.length) (hn : L.length = n) : H.size = gB G + (o + n) := by
  rw [hP.1, List.length_append]; omega
end RAWH
section RAWK
variable {p : Program} {l : Launch} {e : Env} {R : Room} {s : State} {m : MethodId} {args : Array Value} {below : List Frame} {meth : Method} {c : Code} {G : GG} {own : String} {cc : ByteArray} {nL : Nat} {ret : Option FieldType} {Q : State → Prop} {sh : List (Nat × Nat)} {x0 L L2 : List va_E} {ck cn : Nat} {M : Mm} {pc pc2 : Nat} {lv : List (Nat × Value)} {st : List Value} {o n : Nat}
theorem k_xnew (C : Cx p s m c args meth G own cc nL ret) {ci N index : Nat} {C2 : String} {T : u_T} {fs : List Value} (ho : o = sh.length + x0.length) (hn : L.length = n) (ty : Nat → FieldType) (hc : vwCl[ci]? = some (C2, T, N)) (hin : ∀ w ∈ u_ws C2 T N, w ∈ TW) (hty : ∀ k, k < N → parseFieldDescriptor (T k).2.2.1 = some (ty k)) (hcl : Cond.classLink own index C2 ∈ TW) (hinst : Cond.instantiable C2 N ∈ TW) (hini : Cond.initialized C2 ∈ TW) (hfs : ∀ j, j < N → defaultValue (ty j) = vp_V fs j) (hd : decode cc pc = .ok (.new index, 3)) (hR : ck + 1 ≤ R.cells ∧ cn + N ≤ R.slots) (hp : pc + 3 = pc2) (h2 : L ++ [.inr (ci, fs)] = L2) (k : KW p l e R s m args below meth c G nL Q sh (x0 ++ L2) (ck + 1) (cn + N) M pc2 lv (rA G (o + n) :: st)) : KW p l e R s m args below meth c G nL Q sh (x0 ++ L) ck cn M pc lv st := by
  subst hp
  intro H locs ls hP hS hl
  have hts := hts_of C
  have hKn := C.2.2.2.1.1 ci _ hc
  have hz := x_siz hP ho hn
  refine W.newcK C.1.1 C.1.2.1 C.1.2.2.2.1 (hts _ hcl) (hts _ hinst) (hts _ hini) rfl hd hR.1 hR.2 hKn.2.1 hz fun H1 kC hkC e1 z1 o1 => ?_
  exact k H1 locs ls (x_app (e := .inr (ci, fs)) hP ho hn (by rw [z1, hz]) (fun q hq => o1 q (by rw [← hz]; exact hq)) ⟨_, hc, (u_born ty hts hin hKn hkC e1 hty).to hfs⟩ h2) ⟨Nat.le_trans hS.1 (by rw [z1, hz]; omega), fun x h1 h3 => (o1 x (by have := hS.1; rw [hz] at this; exact Nat.lt_of_lt_of_le h1 this)).trans (hS.2.1 x h1 h3), hS.2.2⟩ hl
/-- a new array, of the k9-th kind of class -/
theorem k_xnewI (C : Cx p s m c args meth G own cc nL ret) {N : Nat} {x : Int32} (ho : o = sh.length + x0.length) (hn : L.length = n) (hd : decode cc pc = .ok (.newarray .int, 2)) (hx : ¬ x < 0) (hN : x.toNatClampNeg = N) (hb : N ≤ 1000) (hR : ck + 1 ≤ R.cells ∧ cn + N ≤ R.slots) (hp : pc + 2 = pc2) (h2 : L ++ [.inl (gC G 0, N, .inl fun _ => 0)] = L2) (k : KW p l e R s m args below meth c G nL Q sh (x0 ++ L2) (ck + 1) (cn + N) M pc2 lv (rA G (o + n) :: st)) : KW p l e R s m args below meth c G nL Q sh (x0 ++ L) ck cn M pc lv (.int x :: st) := by
  subst hp
  intro H locs ls hP hS hl
  have hz := x_siz hP ho hn
  refine va_newaK C.1.1 C.1.2.1 (atype := .int) (hts_of C _ tAC_int) rfl hd rfl hx hN (by show N * 4 ≤ _; omega) hR.1 hR.2 hz fun H1 cA e1 z1 o1 _ hNm => ?_
  have hA : s.vm.findClass ("[" ++ (FieldType.int).toString) = some (gC G 0) := (C.2.2.2.1.2 0 _ rfl).2
  cases hA.symm.trans hNm
  exact k H1 locs ls (x_app (e := .inl (gC G 0, N, .inl fun _ => 0)) hP ho hn (by rw [z1, hz]) (fun q hq => o1 q (by rw [← hz]; exact hq)) e1 h2) ⟨Nat.le_trans hS.1 (by rw [z1, hz]; omega), fun x h1 h3 => (o1 x (by have := hS.1; rw [hz] at this; exact Nat.lt_of_lt_of_le h1 this)).trans (hS.2.1 x h1 h3), hS.2.2⟩ hl
theorem k_xnewJ (C : Cx p s m c args meth G own cc nL ret) {N : Nat} {x : Int32} (ho : o = sh.length + x0.length) (hn : L.length = n) (hd : decode cc pc = .ok (.newarray .long, 2)) (hx : ¬ x < 0) (hN : x.toNatClampNeg = N) (hb : N ≤ 1000) (hR : ck + 1 ≤ R.cells ∧ cn + N ≤ R.slots) (hp : pc + 2 = pc2) (h2 : L ++ [.inl (gC G 1, N, .inr (.inl fun _ => 0))] = L2) (k : KW p l e R s m args below meth c G nL Q sh (x0 ++ L2) (ck + 1) (cn + N) M pc2 lv (rA G (o + n) :: st)) : KW p l e R s m args below meth c G nL Q sh (x0 ++ L) ck cn M pc lv (.int x :: st) := by
  subst hp
  intro H locs ls hP hS hl
  have hz := x_siz hP ho hn
  refine va_newaK C.1.1 C.1.2.1 (atype := .long) (hts_of C _ tAC_long) rfl hd rfl hx hN (by show N * 8 ≤ _; omega) hR.1 hR.2 hz fun H1 cA e1 z1 o1 _ hNm => ?_
  have hA : s.vm.findClass ("[" ++ (FieldType.long).toString) = some (gC G 1) := (C.2.2.2.1.2 1 _ rfl).2
  cases hA.symm.trans hNm
  exact k H1 locs ls (x_app (e := .inl (gC G 1, N, .inr (.inl fun _ => 0))) hP ho hn (by rw [z1, hz]) (fun q hq => o1 q (by rw [← hz]; exact hq)) e1 h2) ⟨Nat.le_trans hS.1 (by rw [z1, hz]; omega), fun x h1 h3 => (o1 x (by have := hS.1; rw [hz] at this; exact Nat.lt_of_lt_of_le h1 this)).trans (hS.2.1 x h1 h3), hS.2.2⟩ hl
def eRef (G : GG) (t n : Nat) (f : Nat → Option Nat) : va_E := .inl (gC G t, n, .inr (.inr (.inr (.inr f))))
theorem k_xnewR (C : Cx p s m c args meth G own cc nL ret) {N index t : Nat} {C2 : String} {x : Int32} (ho : o = sh.length + x0.length) (hn : L.length = n) (ht : (TYS G)[t]? = some (gC G t, .object C2)) (hcl : Cond.classLink own index C2 ∈ TW) (hov : va_AO C2 s) (hd : decode cc pc = .ok (.anewarray index, 3)) (hx : ¬ x < 0) (hN : x.toNatClampNeg = N) (hb : N ≤ 1000) (hR : ck + 1 ≤ R.cells ∧ cn + N ≤ R.slots) (hp : pc + 3 = pc2) (h2 : L ++ [eRef G t N fun _ => none] = L2) (k : KW p l e R s m args below meth c G nL Q sh (x0 ++ L2) (ck + 1) (cn + N) M pc2 lv (rA G (o + n) :: st)) : KW p l e R s m args below meth c G nL Q sh (x0 ++ L) ck cn M pc lv (.int x :: st) := by
  subst hp; subst hN
  intro H locs ls hP hS hl
  have hz := x_siz hP ho hn
  refine W.anew C.1.1 C.1.2.1 C.1.2.2.2.1 (hts_of C _ hcl) (va_AO.use hov) rfl hd rfl hx (by omega) hR.1 hR.2 fun cA kA comp f1 f2 f3 f4 => ?_
  obtain ⟨kA2, comp2, g1, g2, g3, g4⟩ := (C.2.2.2.1.2 t _ ht).2
  cases f1.symm.trans g4
  generalize hH1 : H.push ({ cls := gC G t, slots := Array.replicate x.toNatClampNeg .null, vm := .none } : Cell) = H1
  have z1 : H1.size = H.size + 1 := by rw [← hH1, Array.size_push]
  have e1 : H1[H.size]? = some (arrV (gC G t) x.toNatClampNeg (fun _ => .null)) := by rw [← hH1, Array.getElem?_push_size, ← arrV_new]
  have o1 : ∀ q : Nat, q < H.size → H1[q]? = H[q]? := fun q hq => by rw [← hH1, Array.getElem?_push, if_neg (Nat.ne_of_lt hq)]
  have k9 := k H1 locs ls (x_app hP ho hn z1 o1 (by rw [hz] at e1; exact e1) h2) ⟨Nat.le_trans hS.1 (by omega), fun x h1 h3 => (o1 x (Nat.lt_of_lt_of_le h1 hS.1)).trans (hS.2.1 x h1 h3), hS.2.2⟩ hl
  rw [show rA G (o + n) = .ref H.size by rw [hz]] at k9
  exact k9
/-- a field of the object that is being built -/
theorem k_xget (C : Cx p s m c args meth G own cc nL ret) {ci fi : Nat} {ref C2 : String} {T : u_T} {N index : Nat} {fs : List Value} {v : Value} (ho : o = sh.length + x0.length) (hc : vwCl[ci]? = some (C2, T, N)) (hin : ∀ w ∈ u_ws C2 T N, w ∈ TW) (hk : fi < N) (hlink : Cond.fieldLink own index ref (T fi).2.1 (T fi).2.2.1 ∈ TW) (hsame : (T fi).1 = ref) (hv : fs[fi]? = some v) (hd : decode cc pc = .ok (.getfield index, 3)) (hp : pc + 3 = pc2) (k : KW p l e R s m args below meth c G nL Q sh (x0 ++ (.inr (ci, fs) :: L)) ck cn M pc2 lv (v :: st)) : KW p l e R s m args below meth c G nL Q sh (x0 ++ (.inr (ci, fs) :: L)) ck cn M pc lv (rA G o :: st) := by
  subst hsame; subst hp
  exact fun H locs ls hP hS hl => va_get C.1.1 C.1.2.1 (hts_of C) hin C.1.2.2.2.1 C.2.2.2.1 (x_one (j := 0) hP ho rfl) 0 rfl hc fi hk (hts_of C _ hlink) (fun _ h9 => h9) hv hd (k H locs ls hP hS hl)
theorem k_xput (C : Cx p s m c args meth G own cc nL ret) {ci fi : Nat} {ref C2 : String} {T : u_T} {N index : Nat} {fs fs2 : List Value} {v : Value} {ty : FieldType} (ho : o = sh.length + x0.length) (ty0 : Nat → FieldType) (hc : vwCl[ci]? = some (C2, T, N)) (hin : ∀ w ∈ u_ws C2 T N, w ∈ TW) (hty : ∀ k, k < N → parseFieldDescriptor (T k).2.2.1 = some (ty0 k)) (hnm : ∀ a, a < N → ∀ b, b < N → a ≠ b → (T a).2.1 ≠ (T b).2.1) (hk : fi < N) (hlink : Cond.fieldLink own index ref (T fi).2.1 (T fi).2.2.1 ∈ TW) (hsame : (T fi).1 = ref) (hfin : (T fi).2.2.2 = false) (hpd : ty0 fi = ty) (hna : narrow ty v = v) (hfit : fits ty v = true) (hlen : fi < fs.length) (hd : decode cc pc = .ok (.putfield index, 3)) (hp : pc + 3 = pc2) (h2 : fs.set fi v = fs2) (k : KW p l e R s m args below meth c G nL Q sh (x0 ++ (.inr (ci, fs2) :: L)) ck cn M pc2 lv st) : KW p l e R s m args below meth c G nL Q sh (x0 ++ (.inr (ci, fs) :: L)) ck cn M pc lv (v :: rA G o :: st) := by
  subst hsame; subst hp; subst h2; subst hpd
  intro H locs ls hP hS hl
  have hts := hts_of C
  have hap := va_apart (own := own) hts hin ty0 hty hnm C.2.2.2.1 hc
  obtain ⟨r, h1, cell, q1, q2, q3, q4⟩ := x_at (j := 0) (e := .inr (ci, fs)) hP ho rfl
  have hr : r = (C2, T, N) := Option.some.inj (h1.symm.trans hc)
  subst hr
  obtain ⟨hS9, hfc, kC, hkC, hkind⟩ := C.2.2.2.1.1 ci _ hc
  obtain ⟨cf, kf, fj, f, hi, hsl⟩ := hS9 fi hk
  have hlay := hts _ (hin _ (u_in_lay hk))
  unfold u_lay at hlay
  rw [if_neg (by rw [hfin]; decide)] at hlay
  have hst := (u_facts hfc hkC (u_lays hts hin hk) hi).1
  have h6 := u_store hfc hkC hkind hlay hi (hty fi hk) hna hfit
  refine W.putK C.1.1 C.1.2.1 (f := f) ⟨C.1.2.2.2.1, hts _ hlink, ⟨_, _, _, hi⟩, hst⟩ (by rw [q2]; exact h6) q1 q3 (by rw [hsl]; exact k2_hasslot (q4 fi hk)) rfl rfl hd fun H' e1 e2 e3 => ?_
  rw [hsl] at e1 ⊢
  refine k H' _ ls (x_set (j := 0) (e := .inr (ci, fs.set fi v)) hP ho e2 e3 ⟨_, hc, t_OB.to (V := updV (vp_V fs) fi v) ⟨_, e1, q2, q3, t_set q4 hap hk v⟩ (fun j _ => vp_updV_set hlen v j)⟩ rfl) (hS.put e2 e3 (by show gB G ≤ gB G + (o + 0); omega)) hl
theorem k_xputF (C : Cx p s m c args meth G own cc nL ret) {ci fi : Nat} {ref C2 : String} {T : u_T} {N index : Nat} {fs fs2 : List Value} {v : Value} {ty : FieldType} (ho : o = sh.length + x0.length) (ty0 : Nat → FieldType) (hc : vwCl[ci]? = some (C2, T, N)) (hin : ∀ w ∈ u_ws C2 T N, w ∈ TW) (hty : ∀ k, k < N → parseFieldDescriptor (T k).2.2.1 = some (ty0 k)) (hnm : ∀ a, a < N → ∀ b, b < N → a ≠ b → (T a).2.1 ≠ (T b).2.1) (hk : fi < N) (hlink : Cond.fieldLink own index ref (T fi).2.1 (T fi).2.2.1 ∈ TW) (hsame : (T fi).1 = ref) (hfin : (T fi).2.2.2 = true) (hini : meth.name = "<init>") (hdecl : (T fi).1 = own) (hpd : ty0 fi = ty) (hna : narrow ty v = v) (hfit : fits ty v = true) (hlen : fi < fs.length) (hd : decode cc pc = .ok (.putfield index, 3)) (hp : pc + 3 = pc2) (h2 : fs.set fi v = fs2) (k : KW p l e R s m args below meth c G nL Q sh (x0 ++ (.inr (ci, fs2) :: L)) ck cn M pc2 lv st) : KW p l e R s m args below meth c G nL Q sh (x0 ++ (.inr (ci, fs) :: L)) ck cn M pc lv (v :: rA G o :: st) := by
  subst hsame; subst hp; subst h2; subst hpd
  intro H locs ls hP hS hl
  have hts := hts_of C
  have hap := va_apart (own := own) hts hin ty0 hty hnm C.2.2.2.1 hc
  obtain ⟨r, h1, cell, q1, q2, q3, q4⟩ := x_at (j := 0) (e := .inr (ci, fs)) hP ho rfl
  have hr : r = (C2, T, N) := Option.some.inj (h1.symm.trans hc)
  subst hr
  obtain ⟨hS9, hfc, kC, hkC, hkind⟩ := C.2.2.2.1.1 ci _ hc
  obtain ⟨cf, kf, fj, f, hi, hsl⟩ := hS9 fi hk
  have hlay := hts _ (hin _ (u_in_lay hk))
  unfold u_lay at hlay
  rw [if_pos hfin] at hlay
  have hst := (u_facts hfc hkC (u_lays hts hin hk) hi).1
  have hcf : m.cls = cf := by
    obtain ⟨_, _, c', _, _, _, -, -, hf', -, -, -, hown2, -⟩ := Cond.laysFinal_spec hlay
    have e1 : c' = cf := by have := hi.symm.trans hf'; simp at this; exact this.1.symm
    rw [hdecl] at hown2
    rw [← e1]; exact Option.some.inj (C.1.2.2.2.1.symm.trans hown2)
  have h6 := u_fits hfc hkC hkind (Or.inr hlay) hi (hty fi hk) hna hfit
  refine W.putFinK C.1.1 C.1.2.1 C.1.2.2.2.1 (hts _ hlink) hi hst hcf hini (by rw [q2]; exact h6) q1 q3 (by rw [hsl]; exact k2_hasslot (q4 fi hk)) rfl rfl hd fun H' e1 e2 e3 => ?_
  rw [hsl] at e1 ⊢
  refine k H' _ ls (x_set (j := 0) (e := .inr (ci, fs.set fi v)) hP ho e2 e3 ⟨_, hc, t_OB.to (V := updV (vp_V fs) fi v) ⟨_, e1, q2, q3, t_set q4 hap hk v⟩ (fun j _ => vp_updV_set hlen v j)⟩ rfl) (hS.put e2 e3 (by show gB G ≤ gB G + (o + 0); omega)) hl
/-- an element of an array that is being built -/
theorem k_xiast (C : Cx p s m c args meth G own cc nL ret) {j N : Nat} {f : Nat → Int32} {i x : Int32} (ho : o = sh.length + x0.length) (hj : L[j]? = some (.inl (gC G 0, N, .inl f))) (hd : decode cc pc = .ok (.iastore, 1)) (hi : vp_in i N) (hp : pc + 1 = pc2) (h2 : L.set j (.inl (gC G 0, N, .inl (upd f i.toNatClampNeg x))) = L2) (k : KW p l e R s m args below meth c G nL Q sh (x0 ++ L2) ck cn M pc2 lv st) : KW p l e R s m args below meth c G nL Q sh (x0 ++ L) ck cn M pc lv (.int x :: .int i :: rA G (o + j) :: st) := by
  subst hp
  intro H locs ls hP hS hl
  refine W.iast C.1.1 C.1.2.1 (x_at hP ho hj) ((C.2.2.2.1.2 0 _ rfl).1 N (fun j => .int (f j))) (fun q => by cases q) (by show ¬ (i < 0 ∨ (arrV _ _ _).slots.size ≤ _); rw [arrV_size]; exact hi) rfl rfl hd fun H1 e1 z oq => ?_
  refine k H1 _ ls (x_set hP ho z oq ?_ h2) (hS.put z oq (by show gB G ≤ gB G + (o + j); omega)) hl
  show H1[_]? = some (vp_cell _ _)
  rw [e1]
  show some ((vp_cell _ _).setSlot _ _) = some (vp_cell _ _)
  rw [vp_cell_i, vp_cell_i, arrV_store]
  congr 2
  funext q
  by_cases hq : q = i.toNatClampNeg
  · subst hq
    simp [updV, upd]
  · simp [updV, upd, hq]
theorem k_xaast (C : Cx p s m c args meth G own cc nL ret) {j j2 N t ci : Nat} {f : Nat → Option Nat} {i : Int32} {r : vw_C} {vs : List Value} (ho : o = sh.length + x0.length) (hj : L[j]? = some (eRef G t N f)) (ht : (TYS G)[t]? = some (gC G t, .object r.1)) (hv : L[j2]? = some (.inr (ci, vs))) (hc : vwCl[ci]? = some r) (hd : decode cc pc = .ok (.aastore, 1)) (hi : vp_in i N) (hp : pc + 1 = pc2) (h2 : L.set j (eRef G t N (va_up f i.toNatClampNeg (some (gB G + (o + j2))))) = L2) (k : KW p l e R s m args below meth c G nL Q sh (x0 ++ L2) ck cn M pc2 lv st) : KW p l e R s m args below meth c G nL Q sh (x0 ++ L) ck cn M pc lv (rA G (o + j2) :: .int i :: rA G (o + j) :: st) := by
  subst hp
  intro H locs ls hP hS hl
  have hlt : i.toNatClampNeg < N := Nat.not_le.mp fun q => hi (Or.inr q)
  have h0 : ¬ i < 0 := fun q => hi (Or.inl q)
  obtain ⟨r', hr', cellV, g1, g2, g3, -⟩ := x_at hP ho hv
  have hcls := (C.2.2.2.1.1 ci r hc).2
  obtain ⟨kA, comp, k1, k2, k3, -⟩ := (C.2.2.2.1.2 t _ ht).2
  have hcomp : comp = (gD G).1 ci := Option.some.inj (k3.symm.trans hcls.1)
  subst hcomp
  obtain ⟨kC, hkC, -⟩ := hcls.2
  refine W.aast C.1.1 C.1.2.1 (x_at hP ho hj) (fun q h => by cases h) (fun h => by cases h) k1 k2 rfl hkC ⟨h0, by show _ < (arrV _ _ _).slots.size; rw [arrV_size]; exact hlt⟩ g1 (fun q h => by rw [g3] at h; cases h) (by rw [g2]; exact hkC) (by rw [g2]; exact va_assign hcls) rfl rfl hd fun H1 e z oq => ?_
  refine k H1 _ ls (x_set hP ho z oq ?_ h2) (hS.put z oq (by show gB G ≤ gB G + (o + j); omega)) hl
  show H1[_]? = some (vp_cell _ _)
  rw [e]
  show some ((vp_cell _ _).setSlot _ _) = some (vp_cell _ _)
  rw [vp_cell_q, vp_cell_q, arrV_store]
  congr 2
  funext q
  by_cases hq : q = i.toNatClampNeg
  · subst hq
    simp [updV, va_up, va_rf]
  · simp [updV, va_up, hq]
/-- cells that say the same -/
theorem k_same (h : ∀ H, wP G sh M (x0 ++ L) H → wP G sh M (x0 ++ L2) H) (k : KW p l e R s m args below meth c G nL Q sh (x0 ++ L2) ck cn M pc lv st) : KW p l e R s m args below meth c G nL Q sh (x0 ++ L) ck cn M pc lv st := fun H locs ls hP hS hl => k H locs ls (h H hP) hS hl
theorem k_obj (C : Cx p s m c args meth G own cc nL ret) {a idx : Nat} (h1 : Cond.methodLink own idx objectInit ∈ TW) (h2 : Cond.instanceMethod objectInit ∈ TW) (h3 : Cond.code objectInit ⟨#[0xb1]⟩ 1 none ∈ TW) (hd : decode cc pc = .ok (.invokespecial idx, 3)) (hf : 1 ≤ R.frames ∧ 12 ≤ R.locals) (hp : pc + 3 = pc2) {xs : List va_E} (k : KW p l e R s m args below meth c G nL Q sh xs ck cn M pc2 lv []) : KW p l e R s m args below meth c G nL Q sh xs ck cn M pc lv [rA G a] := by
  subst hp
  intro H locs ls hP hS hl
  exact W.objInit C.1.1 C.1.2.1 C.1.2.2.2.1 (hts_of C _ h1) (hts_of C _ h2) (hts_of C _ h3) rfl (by rw [C.1.2.2.1]; exact hl.1) rfl hd hf.1 (by show 0 + 0 + 12 ≤ _; exact hf.2) (k H locs ls hP hS hl)
end RAWK
