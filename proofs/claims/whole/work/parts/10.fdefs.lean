theorem pe1 {α β : Type} {a : α} {b : β} {r : α × β} (h : (a, b) = r) : a = r.1 := by subst h; rfl
theorem pe2 {α β : Type} {a : α} {b : β} {r : α × β} (h : (a, b) = r) : b = r.2 := by subst h; rfl
/-- a bound pair, triple ..; a loop that may return -/
def un2 {α β γ : Type} (F : α → β → γ) : α × β → γ := fun t => F t.1 t.2
def un3 {α β δ γ : Type} (F : α → β → δ → γ) : α × β × δ → γ := fun t => F t.1 t.2.1 t.2.2
def ob2 {α β γ : Type} (x : Option (α × β)) (F : α → β → Option γ) : Option γ := x.bind fun t => F t.1 t.2
def ob3 {α β δ γ : Type} (x : Option (α × β × δ)) (F : α → β → δ → Option γ) : Option γ := x.bind fun t => F t.1 t.2.1 t.2.2
def ob4 {α β δ ε γ : Type} (x : Option (α × β × δ × ε)) (F : α → β → δ → ε → Option γ) : Option γ := x.bind fun t => F t.1 t.2.1 t.2.2.1 t.2.2.2
def ob5 {α β δ ε ζ γ : Type} (x : Option (α × β × δ × ε × ζ)) (F : α → β → δ → ε → ζ → Option γ) : Option γ := x.bind fun t => F t.1 t.2.1 t.2.2.1 t.2.2.2.1 t.2.2.2.2
def obS {α ρ γ : Type} (x : Option (α ⊕ ρ)) (Gr : ρ → Option γ) (F : α → Option γ) : Option γ := x.bind fun t => Sum.elim F Gr t
theorem ob2_inv {α β γ : Type} {x : Option (α × β)} {F : α → β → Option γ} {r : γ} (h : ob2 x F = some r) : ∃ a b, x = some (a, b) ∧ F a b = some r := by
  obtain ⟨t, e, h⟩ := ob_inv h
  exact ⟨t.1, t.2, e, h⟩
theorem ob3_inv {α β δ γ : Type} {x : Option (α × β × δ)} {F : α → β → δ → Option γ} {r : γ} (h : ob3 x F = some r) : ∃ a b d, x = some (a, b, d) ∧ F a b d = some r := by
  obtain ⟨t, e, h⟩ := ob_inv h
  exact ⟨t.1, t.2.1, t.2.2, e, h⟩
theorem ob4_inv {α β δ ε γ : Type} {x : Option (α × β × δ × ε)} {F : α → β → δ → ε → Option γ} {r : γ} (h : ob4 x F = some r) : ∃ a b d e, x = some (a, b, d, e) ∧ F a b d e = some r := by
  obtain ⟨t, e, h⟩ := ob_inv h
  exact ⟨t.1, t.2.1, t.2.2.1, t.2.2.2, e, h⟩
theorem ob5_inv {α β δ ε ζ γ : Type} {x : Option (α × β × δ × ε × ζ)} {F : α → β → δ → ε → ζ → Option γ} {r : γ} (h : ob5 x F = some r) : ∃ a b d e f, x = some (a, b, d, e, f) ∧ F a b d e f = some r := by
  obtain ⟨t, e, h⟩ := ob_inv h
  exact ⟨t.1, t.2.1, t.2.2.1, t.2.2.2.1, t.2.2.2.2, e, h⟩
theorem obS_inv {α ρ γ : Type} {x : Option (α ⊕ ρ)} {Gr : ρ → Option γ} {F : α → Option γ} {r : γ} (h : obS x Gr F = some r) : ∃ t, x = some t ∧ (∀ a, t = Sum.inl a → F a = some r) ∧ (∀ z, t = Sum.inr z → Gr z = some r) := by
  obtain ⟨t, e, h⟩ := ob_inv h
  exact ⟨t, e, fun a q => by subst q; exact h, fun z q => by subst q; exact h⟩
/-- the words' lengths and signs -/
def f_strLen (w : Nat) : Option Int32 := some (Int32.ofNat (lenS.getD w 0))
def f_strAt (w : Nat) (i : Int32) : Option Int32 := chk i (lenS.getD w 0) (some ((bytS.getD w []).getD i.toNatClampNeg 0))
def rm_X7_hasBit : Room := { frames := 0, cells := 0, slots := 0, locals := 0 }
def f_X7_hasBit (x0 : Int32) (x1 : Int32) : Option (Int32) :=
  if ((x0 >>> (x1 &&& 31)) &&& 1) = 1 then (some 1)
  else (some 0)
def rm_X2_isFree : Room := { frames := 1, cells := 0, slots := 0, locals := 21 }
def f_X2_isFree (o0 : Nat) (x1 : Int32) (M : Mm) : Option (Int32) :=
  (f_X7_hasBit (M.1 o0 3) x1).bind fun q1 =>
  chb q1 <| some q1
def rm_X1_thereOn : Room := { frames := 2, cells := 0, slots := 0, locals := 42 }
def f_X1_thereOn_L4 (o0 : Nat) (x1 : Int32) (M : Mm) : Nat → Int32 → Int32 → Option (Int32)
  | 0, _, _ => none
  | n + 1, x2, x3 =>
    if (M.1 o0 1) ≤ x3 then (some x2)
  else (chk x3 8 <|
  (f_X2_isFree (o0 + 2 + x3.toNatClampNeg) x1 M).bind fun q2 =>
  if q2 = 0 then (bi (x3 + 1) fun v4 =>
  f_X1_thereOn_L4 o0 x1 M n x2 v4)
  else (bi (x2 ||| (1 <<< (x3 &&& 31))) fun v5 =>
  bi (x3 + 1) fun v6 =>
  f_X1_thereOn_L4 o0 x1 M n v5 v6))
def f_X1_thereOn (o0 : Nat) (x1 : Int32) (M : Mm) : Option (Int32) :=
  (f_X1_thereOn_L4 o0 x1 M 1000 0 0).bind fun v9 =>
  some v9
def rm_X0_begin : Room := { frames := 3, cells := 0, slots := 0, locals := 65 }
def f_X0_begin_L2 (o0 : Nat) (o1 : Nat) (x2 : Int32) : Nat → Int32 → Mm → Option (Mm)
  | 0, _, _ => none
  | n + 1, x3, M =>
    if (M.1 o1 0) ≤ x3 then (some M)
  else ((f_X1_thereOn o1 x3 M).bind fun q1 =>
  chk x3 14 <| bm (wI M (o0 + 1) x3.toNatClampNeg q1) fun M3 =>
  bi (x3 + 1) fun v4 =>
  f_X0_begin_L2 o0 o1 x2 n v4 M3)
def f_X0_begin_L29 (o0 : Nat) (x2 : Int32) : Nat → Int32 → Mm → Option (Mm)
  | 0, _, _ => none
  | n + 1, x3, M =>
    if x2 ≤ x3 then (some M)
  else (chk x3 3 <| bm (wI M (o0 + 2) x3.toNatClampNeg x3) fun M8 =>
  bi (x3 + 1) fun v9 =>
  f_X0_begin_L29 o0 x2 n v9 M8)
def f_X0_begin (o0 : Nat) (o1 : Nat) (x2 : Int32) (M : Mm) : Option (Mm) :=
  (f_X0_begin_L2 o0 o1 x2 1000 0 M).bind fun M7 =>
  (f_X0_begin_L29 o0 x2 1000 0 M7).bind fun M12 =>
  bm (wI M12 o0 3 (-1000000)) fun M13 =>
  some M13
def rm_J6_bitCount_0f7a4 : Room := { frames := 0, cells := 0, slots := 0, locals := 0 }
def f_J6_bitCount_0f7a4 (x0 : Int32) : Option (Int32) :=
  bi (x0 - (((x0.toUInt32 >>> ((1 : Int32).toUInt32 &&& Int32.toUInt32 31)).toInt32) &&& 1431655765)) fun v1 =>
  bi ((v1 &&& 858993459) + (((v1.toUInt32 >>> ((2 : Int32).toUInt32 &&& Int32.toUInt32 31)).toInt32) &&& 858993459)) fun v2 =>
  bi ((v2 + ((v2.toUInt32 >>> ((4 : Int32).toUInt32 &&& Int32.toUInt32 31)).toInt32)) &&& 252645135) fun v3 =>
  bi (v3 + ((v3.toUInt32 >>> ((8 : Int32).toUInt32 &&& Int32.toUInt32 31)).toInt32)) fun v4 =>
  bi (v4 + ((v4.toUInt32 >>> ((16 : Int32).toUInt32 &&& Int32.toUInt32 31)).toInt32)) fun v5 =>
  some (v5 &&& 63)
def rm_X0_howManyMeet : Room := { frames := 1, cells := 0, slots := 0, locals := 20 }
def f_X0_howManyMeet_L4 (o0 : Nat) (x1 : Int32) (M : Mm) : Nat → Int32 → Int32 → Option (Int32)
  | 0, _, _ => none
  | n + 1, x2, x3 =>
    if x1 ≤ x3 then (some x2)
  else (chk x3 3 <|
  chk (M.1 (o0 + 2) x3.toNatClampNeg) 14 <|
  bi (x2 ||| (M.1 (o0 + 1) (M.1 (o0 + 2) x3.toNatClampNeg).toNatClampNeg)) fun v1 =>
  bi (x3 + 1) fun v2 =>
  f_X0_howManyMeet_L4 o0 x1 M n v1 v2)
def f_X0_howManyMeet (o0 : Nat) (x1 : Int32) (M : Mm) : Option (Int32) :=
  (f_X0_howManyMeet_L4 o0 x1 M 1000 0 0).bind fun v5 =>
  (f_J6_bitCount_0f7a4 v5).bind fun q6 =>
  some q6
def rm_X0_keepIfBetter : Room := { frames := 1, cells := 0, slots := 0, locals := 44 }
def f_X0_keepIfBetter (o0 : Nat) (x1 : Int32) (M : Mm) : Option (Mm) :=
  if x1 ≤ (M.1 o0 3) then (some M)
  else (bm (wI M o0 3 x1) fun M1 =>
  cpc 0 0 3 3 3 <| bm (wIr M1 (o0 + 3) (va_cpy (M1.1 (o0 + 2)) (M1.1 (o0 + 3)) (0 : Int32).toNatClampNeg (0 : Int32).toNatClampNeg (3 : Int32).toNatClampNeg)) fun M2 =>
  some M2)
def rm_X0_nextRow : Room := { frames := 0, cells := 0, slots := 0, locals := 0 }
def f_X0_nextRow_L4 (o0 : Nat) (x1 : Int32) (x2 : Int32) (M : Mm) : Nat → Int32 → Option (Int32)
  | 0, _ => none
  | n + 1, x3 =>
    if x3 < 0 then (some x3)
  else (chk x3 3 <|
  if (M.1 (o0 + 2) x3.toNatClampNeg) < ((x2 - x1) + x3) then (some x3)
  else (bi (x3 + (-1)) fun v2 =>
  f_X0_nextRow_L4 o0 x1 x2 M n v2))
def f_X0_nextRow_L49 (o0 : Nat) (x1 : Int32) : Nat → Int32 → Mm → Option (Mm)
  | 0, _, _ => none
  | n + 1, x4, M =>
    if x1 ≤ x4 then (some M)
  else (chk (x4 - 1) 3 <|
  chk x4 3 <| bm (wI M (o0 + 2) x4.toNatClampNeg ((M.1 (o0 + 2) (x4 - 1).toNatClampNeg) + 1)) fun M8 =>
  bi (x4 + 1) fun v9 =>
  f_X0_nextRow_L49 o0 x1 n v9 M8)
def f_X0_nextRow (o0 : Nat) (x1 : Int32) (x2 : Int32) (M : Mm) : Option (Mm × Int32) :=
  bi (x1 - 1) fun v1 =>
  (f_X0_nextRow_L4 o0 x1 x2 M 1000 v1).bind fun v5 =>
  if 0 ≤ v5 then (chk v5 3 <|
  chk v5 3 <| bm (wI M (o0 + 2) v5.toNatClampNeg ((M.1 (o0 + 2) v5.toNatClampNeg) + 1)) fun M6 =>
  bi (v5 + 1) fun v7 =>
  (f_X0_nextRow_L49 o0 x1 1000 v7 M6).bind fun M12 =>
  some (M12, 1))
  else (some (M, 0))
def rm_X0_chooseMeeting : Room := { frames := 4, cells := 0, slots := 0, locals := 88 }
def f_X0_chooseMeeting_L11 (o0 : Nat) (o1 : Nat) (x2 : Int32) : Nat → Int32 → Int32 → Mm → Option (Mm)
  | 0, _, _, _ => none
  | n + 1, x3, x4, M =>
    if x3 = 0 then (some M)
  else (if 364 ≤ x4 then (some M)
  else ((f_X0_howManyMeet o0 x2 M).bind fun q3 =>
  (f_X0_keepIfBetter o0 q3 M).bind fun q5 =>
  (f_X0_nextRow o0 x2 (q5.1 o1 0) q5).bind fun q7 =>
  bi q7.2 fun v9 =>
  bi (x4 + 1) fun v10 =>
  f_X0_chooseMeeting_L11 o0 o1 x2 n v9 v10 q7.1))
def f_X0_chooseMeeting (o0 : Nat) (o1 : Nat) (x2 : Int32) (M : Mm) : Option (Mm) :=
  (f_X0_begin o0 o1 x2 M).bind fun q1 =>
  (f_X0_chooseMeeting_L11 o0 o1 x2 1000 1 0 q1).bind fun M13 =>
  some M13
def rm_X2_outAfter : Room := { frames := 1, cells := 0, slots := 0, locals := 21 }
def f_X2_outAfter (o0 : Nat) (x1 : Int32) (M : Mm) : Option (Int32) :=
  some (imin 99 ((M.1 o0 4) + x1))
def rm_X0_fairness : Room := { frames := 2, cells := 0, slots := 0, locals := 42 }
def f_X0_fairness_L23 (o0 : Nat) (o1 : Nat) (x2 : Int32) (x3 : Int32) (x4 : Int32) (x5 : Int32) (M : Mm) : Nat → Int32 → Int32 → Option (Int32)
  | 0, _, _ => none
  | n + 1, x6, x7 =>
    if x2 ≤ x7 then (some x6)
  else (chk x7 3 <|
  chk (M.1 (o0 + 2) x7.toNatClampNeg) 14 <|
  (f_X7_hasBit (M.1 (o0 + 1) (M.1 (o0 + 2) x7.toNatClampNeg).toNatClampNeg) x5).bind fun q1 =>
  if q1 = 0 then (bi (x6 + 1) fun v3 =>
  bi (x7 + 1) fun v4 =>
  f_X0_fairness_L23 o0 o1 x2 x3 x4 x5 M n v3 v4)
  else (bi (x6 + 0) fun v5 =>
  bi (x7 + 1) fun v6 =>
  f_X0_fairness_L23 o0 o1 x2 x3 x4 x5 M n v5 v6))
def f_X0_fairness_L8 (o0 : Nat) (o1 : Nat) (x2 : Int32) (M : Mm) : Nat → Int32 → Int32 → Int32 → Option (Int32 × Int32)
  | 0, _, _, _ => none
  | n + 1, x3, x4, x5 =>
    if (M.1 o1 1) ≤ x5 then (some (x3, x4))
  else ((f_X0_fairness_L23 o0 o1 x2 x3 x4 x5 M 1000 0 0).bind fun v9 =>
  chk x5 8 <|
  (f_X2_outAfter (o1 + 2 + x5.toNatClampNeg) v9 M).bind fun q11 =>
  bi (imax x3 q11) fun v13 =>
  bi (x4 + q11) fun v14 =>
  bi (x5 + 1) fun v15 =>
  f_X0_fairness_L8 o0 o1 x2 M n v13 v14 v15)
def f_X0_fairness (o0 : Nat) (o1 : Nat) (x2 : Int32) (M : Mm) : Option (Int32) :=
  ob2 (f_X0_fairness_L8 o0 o1 x2 M 1000 0 0 0) fun v18 v19 =>
  some (-((v18 * 1000) + v19))
def rm_X0_chooseFair : Room := { frames := 4, cells := 0, slots := 0, locals := 88 }
def f_X0_chooseFair_L11 (o0 : Nat) (o1 : Nat) (x2 : Int32) : Nat → Int32 → Int32 → Mm → Option (Mm)
  | 0, _, _, _ => none
  | n + 1, x3, x4, M =>
    if x3 = 0 then (some M)
  else (if 364 ≤ x4 then (some M)
  else ((f_X0_fairness o0 o1 x2 M).bind fun q3 =>
  (f_X0_keepIfBetter o0 q3 M).bind fun q5 =>
  (f_X0_nextRow o0 x2 (q5.1 o1 0) q5).bind fun q7 =>
  bi q7.2 fun v9 =>
  bi (x4 + 1) fun v10 =>
  f_X0_chooseFair_L11 o0 o1 x2 n v9 v10 q7.1))
def f_X0_chooseFair (o0 : Nat) (o1 : Nat) (x2 : Int32) (M : Mm) : Option (Mm) :=
  (f_X0_begin o0 o1 x2 M).bind fun q1 =>
  (f_X0_chooseFair_L11 o0 o1 x2 1000 1 0 q1).bind fun M13 =>
  some M13
def rm_X0_greatestOut : Room := { frames := 0, cells := 0, slots := 0, locals := 0 }
def f_X0_greatestOut (o0 : Nat) (M : Mm) : Option (Int32) :=
  some ((-(M.1 o0 3)) / 1000)
def rm_X2_become : Room := { frames := 0, cells := 0, slots := 0, locals := 0 }
def f_X2_become (o0 : Nat) (o1 : Nat) (M : Mm) : Option (Mm) :=
  bm (wI M o0 0 (M.1 o1 0)) fun M1 =>
  bm (wI M1 o0 1 (M1.1 o1 1)) fun M2 =>
  bm (wI M2 o0 2 (M2.1 o1 2)) fun M3 =>
  bm (wI M3 o0 3 (M3.1 o1 3)) fun M4 =>
  bm (wI M4 o0 4 (M4.1 o1 4)) fun M5 =>
  some M5
def rm_X1_takeOver : Room := { frames := 1, cells := 0, slots := 0, locals := 21 }
def f_X1_takeOver_L58 (o0 : Nat) (o1 : Nat) : Nat → Int32 → Mm → Option (Mm)
  | 0, _, _ => none
  | n + 1, x2, M =>
    if 8 ≤ x2 then (some M)
  else (chk x2 8 <|
  chk x2 8 <|
  (f_X2_become (o0 + 2 + x2.toNatClampNeg) (o1 + 2 + x2.toNatClampNeg) M).bind fun q10 =>
  bi (x2 + 1) fun v12 =>
  f_X1_takeOver_L58 o0 o1 n v12 q10)
def f_X1_takeOver (o0 : Nat) (o1 : Nat) (M : Mm) : Option (Mm) :=
  bm (wI M o0 0 (M.1 o1 0)) fun M1 =>
  bm (wI M1 o0 1 (M1.1 o1 1)) fun M2 =>
  bm (wI M2 o0 2 (M2.1 o1 2)) fun M3 =>
  bm (wI M3 o0 3 (M3.1 o1 3)) fun M4 =>
  bm (wI M4 o0 4 (M4.1 o1 4)) fun M5 =>
  bm (wI M5 o0 5 (M5.1 o1 5)) fun M6 =>
  bm (wI M6 o0 6 (M6.1 o1 6)) fun M7 =>
  (f_X1_takeOver_L58 o0 o1 1000 0 M7).bind fun M15 =>
  some M15
def rm_X7_within : Room := { frames := 0, cells := 0, slots := 0, locals := 0 }
def f_X7_within (x0 : Int32) (x1 : Int32) (x2 : Int32) : Option (Int32) :=
  if x0 < x1 then (some 0)
  else (if x2 < x0 then (some 0)
  else (some 1))
def rm_X1_hasDay : Room := { frames := 1, cells := 0, slots := 0, locals := 22 }
def f_X1_hasDay (o0 : Nat) (x1 : Int32) (M : Mm) : Option (Int32) :=
  (f_X7_within x1 0 ((M.1 o0 0) - 1)).bind fun q1 =>
  chb q1 <| some q1
def rm_X1_hasPerson : Room := { frames := 1, cells := 0, slots := 0, locals := 22 }
def f_X1_hasPerson (o0 : Nat) (x1 : Int32) (M : Mm) : Option (Int32) :=
  (f_X7_within x1 0 ((M.1 o0 1) - 1)).bind fun q1 =>
  chb q1 <| some q1
def rm_X1_isFull : Room := { frames := 0, cells := 0, slots := 0, locals := 0 }
def f_X1_isFull (o0 : Nat) (M : Mm) : Option (Int32) :=
  if (M.1 o0 1) < 8 then (some 0)
  else (some 1)
def rm_X1_allDays : Room := { frames := 0, cells := 0, slots := 0, locals := 0 }
def f_X1_allDays (o0 : Nat) (M : Mm) : Option (Int32) :=
  some ((1 <<< ((M.1 o0 0) &&& 31)) - 1)
def rm_X1_changeDays : Room := { frames := 1, cells := 0, slots := 0, locals := 20 }
def f_X1_changeDays_L7 (o0 : Nat) : Nat → Int32 → Mm → Option (Mm)
  | 0, _, _ => none
  | n + 1, x2, M =>
    if (M.1 o0 1) ≤ x2 then (some M)
  else (chk x2 8 <|
  (f_X1_allDays o0 M).bind fun q3 =>
  bm (wI M (o0 + 2 + x2.toNatClampNeg) 3 ((M.1 (o0 + 2 + x2.toNatClampNeg) 3) &&& q3)) fun M5 =>
  bi (x2 + 1) fun v6 =>
  f_X1_changeDays_L7 o0 n v6 M5)
def f_X1_changeDays (o0 : Nat) (x1 : Int32) (M : Mm) : Option (Mm) :=
  bm (wI M o0 0 x1) fun M1 =>
  (f_X1_changeDays_L7 o0 1000 0 M1).bind fun M9 =>
  some M9
def rm_X2_begin : Room := { frames := 0, cells := 0, slots := 0, locals := 0 }
def f_X2_begin (o0 : Nat) (x1 : Int32) (x2 : Int32) (x3 : Int32) (M : Mm) : Option (Mm) :=
  bm (wI M o0 0 x1) fun M1 =>
  bm (wI M1 o0 1 x2) fun M2 =>
  bm (wI M2 o0 2 x3) fun M3 =>
  bm (wI M3 o0 3 0) fun M4 =>
  bm (wI M4 o0 4 0) fun M5 =>
  some M5
def rm_X1_takeIn : Room := { frames := 1, cells := 0, slots := 0, locals := 23 }
def f_X1_takeIn (o0 : Nat) (x1 : Int32) (x2 : Int32) (x3 : Int32) (M : Mm) : Option (Mm × Int32) :=
  (f_X1_isFull o0 M).bind fun q1 =>
  if q1 = 0 then (chk (M.1 o0 1) 8 <|
  (f_X2_begin (o0 + 2 + (M.1 o0 1).toNatClampNeg) x1 x2 x3 M).bind fun q4 =>
  bm (wI q4 o0 1 ((q4.1 o0 1) + 1)) fun M6 =>
  some (M6, (M6.1 o0 1) - 1))
  else (some (M, (-1)))
def rm_X1_howManyOn : Room := { frames := 3, cells := 0, slots := 0, locals := 65 }
def f_X1_howManyOn (o0 : Nat) (x1 : Int32) (M : Mm) : Option (Int32) :=
  (f_X1_thereOn o0 x1 M).bind fun q1 =>
  (f_J6_bitCount_0f7a4 q1).bind fun q3 =>
  some q3
def rm_X1_totalOnWeekday : Room := { frames := 4, cells := 0, slots := 0, locals := 86 }
def f_X1_totalOnWeekday_L4 (o0 : Nat) (M : Mm) : Nat → Int32 → Int32 → Option (Int32)
  | 0, _, _ => none
  | n + 1, x2, x3 =>
    if (M.1 o0 0) ≤ x3 then (some x2)
  else ((f_X1_howManyOn o0 x3 M).bind fun q1 =>
  bi (x2 + q1) fun v3 =>
  bi (x3 + 7) fun v4 =>
  f_X1_totalOnWeekday_L4 o0 M n v3 v4)
def f_X1_totalOnWeekday (o0 : Nat) (x1 : Int32) (M : Mm) : Option (Int32) :=
  (f_X1_totalOnWeekday_L4 o0 M 1000 0 x1).bind fun v7 =>
  some v7
def rm_X1_daysWithAtLeast : Room := { frames := 4, cells := 0, slots := 0, locals := 86 }
def f_X1_daysWithAtLeast_L4 (o0 : Nat) (x1 : Int32) (M : Mm) : Nat → Int32 → Int32 → Option (Int32)
  | 0, _, _ => none
  | n + 1, x2, x3 =>
    if (M.1 o0 0) ≤ x3 then (some x2)
  else ((f_X1_howManyOn o0 x3 M).bind fun q1 =>
  if q1 < x1 then (bi (x3 + 1) fun v3 =>
  f_X1_daysWithAtLeast_L4 o0 x1 M n x2 v3)
  else (bi (x2 ||| (1 <<< (x3 &&& 31))) fun v4 =>
  bi (x3 + 1) fun v5 =>
  f_X1_daysWithAtLeast_L4 o0 x1 M n v4 v5))
def f_X1_daysWithAtLeast (o0 : Nat) (x1 : Int32) (M : Mm) : Option (Int32) :=
  (f_X1_daysWithAtLeast_L4 o0 x1 M 1000 0 0).bind fun v8 =>
  some v8
def rm_X1_daysOfAllBut : Room := { frames := 1, cells := 0, slots := 0, locals := 20 }
def f_X1_daysOfAllBut_L7 (o0 : Nat) (x1 : Int32) (M : Mm) : Nat → Int32 → Int32 → Option (Int32)
  | 0, _, _ => none
  | n + 1, x2, x3 =>
    if (M.1 o0 1) ≤ x3 then (some x2)
  else (if x3 = x1 then (bi (x3 + 1) fun v3 =>
  f_X1_daysOfAllBut_L7 o0 x1 M n x2 v3)
  else (chk x3 8 <|
  bi (x2 &&& (M.1 (o0 + 2 + x3.toNatClampNeg) 3)) fun v5 =>
  bi (x3 + 1) fun v6 =>
  f_X1_daysOfAllBut_L7 o0 x1 M n v5 v6))
def f_X1_daysOfAllBut (o0 : Nat) (x1 : Int32) (M : Mm) : Option (Int32) :=
  (f_X1_allDays o0 M).bind fun q1 =>
  (f_X1_daysOfAllBut_L7 o0 x1 M 1000 q1 0).bind fun v9 =>
  some v9
def rm_X1_howManyShare : Room := { frames := 0, cells := 0, slots := 0, locals := 0 }
def f_X1_howManyShare_L4 (o0 : Nat) (x1 : Int32) (M : Mm) : Nat → Int32 → Int32 → Option (Int32)
  | 0, _, _ => none
  | n + 1, x2, x3 =>
    if (M.1 o0 1) ≤ x3 then (some x2)
  else (if x3 = x1 then (bi (x3 + 1) fun v1 =>
  f_X1_howManyShare_L4 o0 x1 M n x2 v1)
  else (chk x3 8 <|
  chk x1 8 <|
  if ((M.1 (o0 + 2 + x3.toNatClampNeg) 3) &&& (M.1 (o0 + 2 + x1.toNatClampNeg) 3)) = 0 then (bi (x3 + 1) fun v4 =>
  f_X1_howManyShare_L4 o0 x1 M n x2 v4)
  else (bi (x2 + 1) fun v5 =>
  bi (x3 + 1) fun v6 =>
  f_X1_howManyShare_L4 o0 x1 M n v5 v6)))
def f_X1_howManyShare (o0 : Nat) (x1 : Int32) (M : Mm) : Option (Int32) :=
  (f_X1_howManyShare_L4 o0 x1 M 1000 0 0).bind fun v9 =>
  some v9
def rm_X1_outTogether : Room := { frames := 0, cells := 0, slots := 0, locals := 0 }
def f_X1_outTogether_L4 (o0 : Nat) (M : Mm) : Nat → Int32 → Int32 → Option (Int32)
  | 0, _, _ => none
  | n + 1, x1, x2 =>
    if (M.1 o0 1) ≤ x2 then (some x1)
  else (chk x2 8 <|
  bi (x1 + (M.1 (o0 + 2 + x2.toNatClampNeg) 4)) fun v2 =>
  bi (x2 + 1) fun v3 =>
  f_X1_outTogether_L4 o0 M n v2 v3)
def f_X1_outTogether (o0 : Nat) (M : Mm) : Option (Int32) :=
  (f_X1_outTogether_L4 o0 M 1000 0 0).bind fun v6 =>
  some v6
def rm_X1_oddsToday : Room := { frames := 4, cells := 0, slots := 0, locals := 86 }
def f_X1_oddsToday (o0 : Nat) (x1 : Int32) (M : Mm) : Option (Int32) :=
  (f_X1_howManyOn o0 x1 M).bind fun q1 =>
  if q1 = (M.1 o0 1) then (some 1000000)
  else (some 0)
def rm_X7_twelfths : Room := { frames := 0, cells := 0, slots := 0, locals := 0 }
def f_X7_twelfths (x0 : Int32) (x1 : Int32) : Option (Int32) :=
  some ((x0 * x1) / 12)
def rm_X1_oddsNextDay : Room := { frames := 1, cells := 0, slots := 0, locals := 21 }
def f_X1_oddsNextDay_L4 (o0 : Nat) (M : Mm) : Nat → Int32 → Int32 → Option (Int32)
  | 0, _, _ => none
  | n + 1, x2, x3 =>
    if (M.1 o0 1) ≤ x3 then (some x2)
  else ((f_X7_twelfths x2 (12 - (M.1 o0 4))).bind fun q1 =>
  bi (x3 + 1) fun v3 =>
  f_X1_oddsNextDay_L4 o0 M n q1 v3)
def f_X1_oddsNextDay (o0 : Nat) (x1 : Int32) (M : Mm) : Option (Int32) :=
  (f_X1_oddsNextDay_L4 o0 M 1000 x1 0).bind fun v6 =>
  some v6
def rm_X1_howManyAskedBefore : Room := { frames := 0, cells := 0, slots := 0, locals := 0 }
def f_X1_howManyAskedBefore_L4 (o0 : Nat) (x1 : Int32) (M : Mm) : Nat → Int32 → Int32 → Option (Int32)
  | 0, _, _ => none
  | n + 1, x2, x3 =>
    if (M.1 o0 1) ≤ x3 then (some x2)
  else (chk x3 8 <|
  chk x1 8 <|
  bi ((M.1 (o0 + 2 + x3.toNatClampNeg) 2) - (M.1 (o0 + 2 + x1.toNatClampNeg) 2)) fun v3 =>
  if v3 < 0 then (bi (x2 + 1) fun v4 =>
  bi (x3 + 1) fun v5 =>
  f_X1_howManyAskedBefore_L4 o0 x1 M n v4 v5)
  else (if v3 = 0 then (if x1 ≤ x3 then (bi (x3 + 1) fun v7 =>
  f_X1_howManyAskedBefore_L4 o0 x1 M n x2 v7)
  else (bi (x2 + 1) fun v8 =>
  bi (x3 + 1) fun v9 =>
  f_X1_howManyAskedBefore_L4 o0 x1 M n v8 v9))
  else (bi (x3 + 1) fun v6 =>
  f_X1_howManyAskedBefore_L4 o0 x1 M n x2 v6)))
def f_X1_howManyAskedBefore (o0 : Nat) (x1 : Int32) (M : Mm) : Option (Int32) :=
  (f_X1_howManyAskedBefore_L4 o0 x1 M 1000 0 0).bind fun v12 =>
  some v12
def rm_X1_placeByLikely : Room := { frames := 1, cells := 0, slots := 0, locals := 24 }
def f_X1_placeByLikely_L2 (o0 : Nat) (x1 : Int32) (M : Mm) : Nat → Int32 → Option ((Unit) ⊕ (Int32))
  | 0, _ => none
  | n + 1, x2 =>
    if (M.1 o0 1) ≤ x2 then (some (Sum.inl ()))
  else ((f_X1_howManyAskedBefore o0 x2 M).bind fun q1 =>
  if q1 = x1 then (some (Sum.inr x2))
  else (bi (x2 + 1) fun v3 =>
  f_X1_placeByLikely_L2 o0 x1 M n v3))
def f_X1_placeByLikely (o0 : Nat) (x1 : Int32) (M : Mm) : Option (Int32) :=
  obS (f_X1_placeByLikely_L2 o0 x1 M 1000 0) (fun r9 => some r9) <| fun _ =>
  some (-1)
def rm_X1_meanAsked : Room := { frames := 2, cells := 0, slots := 0, locals := 46 }
def f_X1_meanAsked_L4 (o0 : Nat) (M : Mm) : Nat → Int64 → Int32 → Option (Int64)
  | 0, _, _ => none
  | n + 1, x1, x3 =>
    if (M.1 o0 1) ≤ x3 then (some x1)
  else (bl (x1 * 12) fun v1 =>
  bi (x3 + 1) fun v2 =>
  f_X1_meanAsked_L4 o0 M n v1 v2)
def f_X1_meanAsked_L32 (o0 : Nat) (x1 : Int64) (M : Mm) : Nat → Int64 → Int64 → Int32 → Option (Int64)
  | 0, _, _, _ => none
  | n + 1, x3, x5, x7 =>
    if (M.1 o0 1) ≤ x7 then (some x5)
  else (bl (x5 + x3) fun v6 =>
  (f_X1_placeByLikely o0 x7 M).bind fun q7 =>
  (f_X1_hasPerson o0 q7 M).bind fun q9 =>
  if q9 = 0 then (bi (x7 + 1) fun v11 =>
  f_X1_meanAsked_L32 o0 x1 M n 0 v6 v11)
  else (chk q7 8 <|
  bl ((x3 * ((M.1 (o0 + 2 + q7.toNatClampNeg) 2).toInt64)) / 12) fun v13 =>
  bi (x7 + 1) fun v14 =>
  f_X1_meanAsked_L32 o0 x1 M n v13 v6 v14))
def f_X1_meanAsked (o0 : Nat) (M : Mm) : Option (Int32) :=
  (f_X1_meanAsked_L4 o0 M 1000 1 0).bind fun v5 =>
  (f_X1_meanAsked_L32 o0 v5 M 1000 v5 0 0).bind fun v17 =>
  chZ v5 <|
  some (((1000 * v17) / v5).toInt32)
def rm_X1_dinnerOn : Room := { frames := 2, cells := 0, slots := 0, locals := 42 }
def f_X1_dinnerOn_L2 (o0 : Nat) (x1 : Int32) : Nat → Int32 → Mm → Option (Mm)
  | 0, _, _ => none
  | n + 1, x2, M =>
    if (M.1 o0 1) ≤ x2 then (some M)
  else (chk x2 8 <|
  (f_X2_isFree (o0 + 2 + x2.toNatClampNeg) x1 M).bind fun q2 =>
  if q2 = 0 then (chk x2 8 <|
  chk x2 8 <|
  (f_X2_outAfter (o0 + 2 + x2.toNatClampNeg) 1 M).bind fun q7 =>
  bm (wI M (o0 + 2 + x2.toNatClampNeg) 4 q7) fun M9 =>
  bi (x2 + 1) fun v10 =>
  f_X1_dinnerOn_L2 o0 x1 n v10 M9)
  else (bi (x2 + 1) fun v4 =>
  f_X1_dinnerOn_L2 o0 x1 n v4 M))
def f_X1_dinnerOn (o0 : Nat) (x1 : Int32) (M : Mm) : Option (Mm) :=
  (f_X1_dinnerOn_L2 o0 x1 1000 0 M).bind fun M13 =>
  bm (wI M13 o0 5 ((M13.1 o0 5) + 1)) fun M14 =>
  some M14
def rm_X1_drawTwelfth : Room := { frames := 0, cells := 0, slots := 0, locals := 0 }
def f_X1_drawTwelfth (o0 : Nat) (M : Mm) : Option (Mm × Int32) :=
  bm (wI M o0 6 (((M.1 o0 6) * 1103515245) + 12345)) fun M1 =>
  some (M1, (((M1.1 o0 6).toUInt32 >>> ((16 : Int32).toUInt32 &&& Int32.toUInt32 31)).toInt32) - (((M1.1 o0 6).toUInt32 >>> ((16 : Int32).toUInt32 &&& Int32.toUInt32 31)).toInt32) / 12 * 12)
def rm_X2_changeFree : Room := { frames := 0, cells := 0, slots := 0, locals := 0 }
def f_X2_changeFree (o0 : Nat) (x1 : Int32) (x2 : Int32) (M : Mm) : Option (Mm) :=
  if x2 = 0 then (bm (wI M o0 3 ((M.1 o0 3) &&& ((1 <<< (x1 &&& 31)) ^^^ (-1)))) fun M1 =>
  some M1)
  else (bm (wI M o0 3 ((M.1 o0 3) ||| (1 <<< (x1 &&& 31)))) fun M2 =>
  some M2)
def rm_X1_passDay : Room := { frames := 2, cells := 0, slots := 0, locals := 42 }
def f_X1_passDay_L14 (o0 : Nat) (x2 : Int32) : Nat → Int32 → Int32 → Mm → Option (Int32 × Mm)
  | 0, _, _, _ => none
  | n + 1, x1, x3, M =>
    if (M.1 o0 0) ≤ x3 then (some (x1, M))
  else (chk x2 8 <|
  (f_X2_isFree (o0 + 2 + x2.toNatClampNeg) x3 M).bind fun q2 =>
  if q2 = 0 then (bi (x3 + 1) fun v4 =>
  f_X1_passDay_L14 o0 x2 n x1 v4 M)
  else ((f_X1_drawTwelfth o0 M).bind fun q5 =>
  if (q5.1.1 o0 4) ≤ q5.2 then (bi (x3 + 1) fun v7 =>
  f_X1_passDay_L14 o0 x2 n x1 v7 q5.1)
  else (chk x2 8 <|
  (f_X2_changeFree (o0 + 2 + x2.toNatClampNeg) x3 0 q5.1).bind fun q9 =>
  bi (x1 + 1) fun v11 =>
  bi (x3 + 1) fun v12 =>
  f_X1_passDay_L14 o0 x2 n v11 v12 q9)))
def f_X1_passDay_L4 (o0 : Nat) : Nat → Int32 → Int32 → Mm → Option (Int32 × Mm)
  | 0, _, _, _ => none
  | n + 1, x1, x2, M =>
    if (M.1 o0 1) ≤ x2 then (some (x1, M))
  else (ob2 (f_X1_passDay_L14 o0 x2 1000 x1 0 M) fun v15 M16 =>
  bi (x2 + 1) fun v17 =>
  f_X1_passDay_L4 o0 n v15 v17 M16)
def f_X1_passDay (o0 : Nat) (M : Mm) : Option (Mm × Int32) :=
  ob2 (f_X1_passDay_L4 o0 1000 0 0 M) fun v20 M21 =>
  some (M21, v20)
def rm_X1_fillByDraws : Room := { frames := 1, cells := 0, slots := 0, locals := 22 }
def f_X1_fillByDraws_L14 (o0 : Nat) (x1 : Int32) (x2 : Int32) : Nat → Int32 → Mm → Option (Mm)
  | 0, _, _ => none
  | n + 1, x3, M =>
    if (M.1 o0 0) ≤ x3 then (some M)
  else (chk x2 8 <|
  (f_X1_drawTwelfth o0 M).bind fun q2 =>
  chk x2 8 <|
  if (q2.1.1 (o0 + 2 + x2.toNatClampNeg) 2) ≤ q2.2 then ((f_X2_changeFree (o0 + 2 + x2.toNatClampNeg) x3 0 q2.1).bind fun q5 =>
  bi (x3 + 1) fun v7 =>
  f_X1_fillByDraws_L14 o0 x1 x2 n v7 q5)
  else ((f_X2_changeFree (o0 + 2 + x2.toNatClampNeg) x3 1 q2.1).bind fun q8 =>
  bi (x3 + 1) fun v10 =>
  f_X1_fillByDraws_L14 o0 x1 x2 n v10 q8))
def f_X1_fillByDraws_L4 (o0 : Nat) : Nat → Int32 → Int32 → Mm → Option (Int32 × Mm)
  | 0, _, _, _ => none
  | n + 1, x1, x2, M =>
    if (M.1 o0 1) ≤ x2 then (some (x1, M))
  else ((f_X1_fillByDraws_L14 o0 x1 x2 1000 0 M).bind fun M13 =>
  chk x2 8 <|
  (f_J6_bitCount_0f7a4 (M13.1 (o0 + 2 + x2.toNatClampNeg) 3)).bind fun q15 =>
  bi (x1 + q15) fun v17 =>
  bi (x2 + 1) fun v18 =>
  f_X1_fillByDraws_L4 o0 n v17 v18 M13)
def f_X1_fillByDraws (o0 : Nat) (M : Mm) : Option (Mm × Int32) :=
  ob2 (f_X1_fillByDraws_L4 o0 1000 0 0 M) fun v21 M22 =>
  some (M22, v21)
def rm_X2_isOfKind : Room := { frames := 0, cells := 0, slots := 0, locals := 0 }
def f_X2_isOfKind (o0 : Nat) (x1 : Int32) (M : Mm) : Option (Int32) :=
  if x1 = 0 then (some 1)
  else (if (M.1 o0 0) = x1 then (some 1)
  else (if (M.1 o0 0) = 3 then (if x1 = 1 then (some 1)
  else (if (M.1 o0 0) = 4 then (if x1 = 2 then (some 1)
  else (some 0))
  else (some 0)))
  else (if (M.1 o0 0) = 4 then (if x1 = 2 then (some 1)
  else (some 0))
  else (some 0))))
def rm_X2_wordsAs : Room := { frames := 1, cells := 0, slots := 0, locals := 20 }
def f_X2_wordsAs (o0 : Nat) (x1 : Int32) (M : Mm) : Option (Int32) :=
  if x1 = 0 then ((f_J6_bitCount_0f7a4 (M.1 o0 3)).bind fun q2 =>
  some q2)
  else if x1 = 1 then (some (M.1 o0 2))
  else if x1 = 2 then (some (M.1 o0 1))
  else if x1 = 3 then (some (M.1 o0 2))
  else (some (M.1 o0 1))
def rm_X2_tickAs : Room := { frames := 2, cells := 0, slots := 0, locals := 42 }
def f_X2_tickAs (o0 : Nat) (x1 : Int32) (x2 : Int32) (x3 : Int32) (x4 : Int32) (M : Mm) : Option (Int32) :=
  (f_X2_isFree o0 x2 M).bind fun q1 =>
  if x1 = 1 then (some 2)
  else if x1 = 2 then (if q1 = 0 then (some 0)
  else (if x3 < (M.1 o0 1) then (some 1)
  else (some 2)))
  else if x1 = 3 then (if q1 = 0 then (some 1)
  else (some 2))
  else if x1 = 4 then (if q1 = 0 then (some 0)
  else (if x4 = 0 then (some 0)
  else (some 2)))
  else if x1 = 5 then (if q1 = 0 then (some 0)
  else (if x2 = (M.1 o0 1) then (some 2)
  else (some 0)))
  else (if q1 = 0 then (some 0)
  else (some 2))
def rm_X5_tokenBegunBy : Room := { frames := 1, cells := 0, slots := 0, locals := 22 }
def f_X5_tokenBegunBy (x0 : Int32) : Option (Int32) :=
  (f_X7_within x0 97 122).bind fun q1 =>
  if q1 = 0 then ((f_X7_within x0 48 57).bind fun q3 =>
  if q3 = 0 then (if x0 = 59 then (some 3)
  else (some 4))
  else (some 2))
  else (some 1)
def rm_X5_nextToken : Room := { frames := 2, cells := 0, slots := 0, locals := 42 }
def f_X5_nextToken_L8 (o0 : Nat) : Nat → Mm → Option (Mm)
  | 0, _ => none
  | n + 1, M =>
    if (M.1 o0 1) ≤ (M.1 o0 3) then (some M)
  else (chk (M.1 o0 3) 250 <|
  if (M.1 (o0 + 1) (M.1 o0 3).toNatClampNeg) = 32 then (bm (wI M o0 3 ((M.1 o0 3) + 1)) fun M2 =>
  f_X5_nextToken_L8 o0 n M2)
  else (some M))
def f_X5_nextToken_L116 (o0 : Nat) (x1 : Int32) : Nat → Mm → Option (Mm)
  | 0, _ => none
  | n + 1, M =>
    if x1 = 0 then (some M)
  else (if (M.1 o0 1) ≤ (M.1 o0 4) then (some M)
  else (chk (M.1 o0 4) 250 <|
  (f_X5_tokenBegunBy (M.1 (o0 + 1) (M.1 o0 4).toNatClampNeg)).bind fun q8 =>
  if q8 = (M.1 o0 2) then (bm (wI M o0 4 ((M.1 o0 4) + 1)) fun M10 =>
  f_X5_nextToken_L116 o0 x1 n M10)
  else (some M)))
def f_X5_nextToken (o0 : Nat) (M : Mm) : Option (Mm) :=
  bm (wI M o0 3 (M.1 o0 4)) fun M1 =>
  (f_X5_nextToken_L8 o0 1000 M1).bind fun M5 =>
  if (M5.1 o0 1) ≤ (M5.1 o0 3) then (bm (wI M5 o0 2 0) fun M6 =>
  bm (wI M6 o0 4 (imin (M6.1 o0 1) ((M6.1 o0 3) + 1))) fun M7 =>
  if (M7.1 o0 2) = 1 then ((f_X5_nextToken_L116 o0 1 1000 M7).bind fun M13 =>
  some M13)
  else (if (M7.1 o0 2) = 2 then ((f_X5_nextToken_L116 o0 1 1000 M7).bind fun M19 =>
  some M19)
  else ((f_X5_nextToken_L116 o0 0 1000 M7).bind fun M16 =>
  some M16)))
  else (chk (M5.1 o0 3) 250 <|
  (f_X5_tokenBegunBy (M5.1 (o0 + 1) (M5.1 o0 3).toNatClampNeg)).bind fun q20 =>
  bm (wI M5 o0 2 q20) fun M22 =>
  bm (wI M22 o0 4 (imin (M22.1 o0 1) ((M22.1 o0 3) + 1))) fun M23 =>
  if (M23.1 o0 2) = 1 then ((f_X5_nextToken_L116 o0 1 1000 M23).bind fun M26 =>
  some M26)
  else (if (M23.1 o0 2) = 2 then ((f_X5_nextToken_L116 o0 1 1000 M23).bind fun M32 =>
  some M32)
  else ((f_X5_nextToken_L116 o0 0 1000 M23).bind fun M29 =>
  some M29)))
def rm_X5_numberToken : Room := { frames := 0, cells := 0, slots := 0, locals := 0 }
def f_X5_numberToken_L30 (o0 : Nat) (M : Mm) : Nat → Int32 → Int32 → Option (Int32)
  | 0, _, _ => none
  | n + 1, x1, x2 =>
    if (M.1 o0 4) ≤ x2 then (some x1)
  else (chk x2 250 <|
  bi (((10 * x1) + (M.1 (o0 + 1) x2.toNatClampNeg)) - 48) fun v2 =>
  bi (x2 + 1) fun v3 =>
  f_X5_numberToken_L30 o0 M n v2 v3)
def f_X5_numberToken (o0 : Nat) (M : Mm) : Option (Int32) :=
  if (M.1 o0 2) = 2 then (if ((M.1 o0 4) - (M.1 o0 3)) ≤ 2 then (bi (M.1 o0 3) fun v1 =>
  (f_X5_numberToken_L30 o0 M 1000 0 v1).bind fun v6 =>
  some v6)
  else (some (-1)))
  else (some (-1))
def rm_X3_readNumber : Room := { frames := 3, cells := 0, slots := 0, locals := 63 }
def f_X3_readNumber (o0 : Nat) (x1 : Int32) (x2 : Int32) (M : Mm) : Option (Mm × Int32) :=
  if (M.1 o0 2) = (-1) then ((f_X5_numberToken (o0 + 1) M).bind fun q1 =>
  if q1 = (-1) then (bm (wI M o0 2 (M.1 (o0 + 1) 3)) fun M3 =>
  some (M3, (-1)))
  else ((f_X7_within q1 x1 x2).bind fun q4 =>
  if q4 = 0 then (bm (wI M o0 2 (M.1 (o0 + 1) 3)) fun M8 =>
  some (M8, (-1)))
  else ((f_X5_nextToken (o0 + 1) M).bind fun q6 =>
  some (q6, q1))))
  else (some (M, (-1)))
def rm_X3_readDays : Room := { frames := 4, cells := 0, slots := 0, locals := 86 }
def f_X3_readDays (o0 : Nat) (M : Mm) : Option (Mm) :=
  (f_X5_nextToken (o0 + 1) M).bind fun q1 =>
  (f_X3_readNumber o0 1 14 q1).bind fun q3 =>
  bi q3.2 fun v5 =>
  if (q3.1.1 o0 2) = (-1) then ((f_X1_changeDays (o0 + 3) v5 q3.1).bind fun q6 =>
  some q6)
  else (some q3.1)
def rm_X3_readEvening : Room := { frames := 4, cells := 0, slots := 0, locals := 86 }
def f_X3_readEvening (o0 : Nat) (x1 : Int32) (M : Mm) : Option (Mm) :=
  (f_X5_nextToken (o0 + 1) M).bind fun q1 =>
  (f_X3_readNumber o0 0 ((q1.1 (o0 + 3) 1) - 1) q1).bind fun q3 =>
  bi q3.2 fun v5 =>
  (f_X3_readNumber o0 0 ((q3.1.1 (o0 + 3) 0) - 1) q3.1).bind fun q6 =>
  bi q6.2 fun v8 =>
  if (q6.1.1 o0 2) = (-1) then (chk v5 8 <|
  (f_X2_changeFree (o0 + 5 + v5.toNatClampNeg) v8 x1 q6.1).bind fun q10 =>
  some q10)
  else (some q6.1)
def rm_X3_readHost : Room := { frames := 4, cells := 0, slots := 0, locals := 86 }
def f_X3_readHost (o0 : Nat) (M : Mm) : Option (Mm) :=
  (f_X5_nextToken (o0 + 1) M).bind fun q1 =>
  (f_X3_readNumber o0 0 ((q1.1 (o0 + 3) 1) - 1) q1).bind fun q3 =>
  bi q3.2 fun v5 =>
  if (q3.1.1 o0 2) = (-1) then (bm (wI q3.1 (o0 + 3) 2 v5) fun M6 =>
  some M6)
  else (some q3.1)
def rm_X3_readLeast : Room := { frames := 4, cells := 0, slots := 0, locals := 86 }
def f_X3_readLeast (o0 : Nat) (M : Mm) : Option (Mm) :=
  (f_X5_nextToken (o0 + 1) M).bind fun q1 =>
  (f_X3_readNumber o0 1 8 q1).bind fun q3 =>
  bi q3.2 fun v5 =>
  if (q3.1.1 o0 2) = (-1) then (bm (wI q3.1 (o0 + 3) 3 v5) fun M6 =>
  some M6)
  else (some q3.1)
def rm_X3_readLose : Room := { frames := 4, cells := 0, slots := 0, locals := 86 }
def f_X3_readLose (o0 : Nat) (M : Mm) : Option (Mm) :=
  (f_X5_nextToken (o0 + 1) M).bind fun q1 =>
  (f_X3_readNumber o0 0 12 q1).bind fun q3 =>
  bi q3.2 fun v5 =>
  if (q3.1.1 o0 2) = (-1) then (bm (wI q3.1 (o0 + 3) 4 v5) fun M6 =>
  some M6)
  else (some q3.1)
def rm_X3_readOut : Room := { frames := 4, cells := 0, slots := 0, locals := 86 }
def f_X3_readOut (o0 : Nat) (M : Mm) : Option (Mm) :=
  (f_X5_nextToken (o0 + 1) M).bind fun q1 =>
  (f_X3_readNumber o0 0 ((q1.1 (o0 + 3) 1) - 1) q1).bind fun q3 =>
  bi q3.2 fun v5 =>
  (f_X3_readNumber o0 0 99 q3.1).bind fun q6 =>
  bi q6.2 fun v8 =>
  if (q6.1.1 o0 2) = (-1) then (chk v5 8 <|
  bm (wI q6.1 (o0 + 5 + v5.toNatClampNeg) 4 v8) fun M10 =>
  some M10)
  else (some q6.1)
def rm_X3_readPerson : Room := { frames := 4, cells := 0, slots := 0, locals := 86 }
def f_X3_readPerson (o0 : Nat) (M : Mm) : Option (Mm) :=
  (f_X5_nextToken (o0 + 1) M).bind fun q1 =>
  (f_X3_readNumber o0 0 5 q1).bind fun q3 =>
  bi q3.2 fun v5 =>
  (f_X3_readNumber o0 0 13 q3.1).bind fun q6 =>
  bi q6.2 fun v8 =>
  (f_X3_readNumber o0 0 12 q6.1).bind fun q9 =>
  bi q9.2 fun v11 =>
  if (q9.1.1 o0 2) = (-1) then ((f_X1_takeIn (o0 + 3) v5 v8 v11 q9.1).bind fun q12 =>
  some q12.1)
  else (some q9.1)
def rm_X5_isWord : Room := { frames := 5, cells := 0, slots := 0, locals := 121 }
def f_X5_isWord_L28 (o0 : Nat) (w1 : Nat) : Nat → Int32 → Mm → Option ((Mm) ⊕ (Mm × Int32))
  | 0, _, _ => none
  | n + 1, x2, M =>
    (f_strLen w1).bind fun q3 =>
  if q3 ≤ x2 then (some (Sum.inl M))
  else (chk ((M.1 o0 3) + x2) 250 <|
  (f_strAt w1 x2).bind fun q5 =>
  if (M.1 (o0 + 1) ((M.1 o0 3) + x2).toNatClampNeg) = q5 then (bi (x2 + 1) fun v7 =>
  f_X5_isWord_L28 o0 w1 n v7 M)
  else (some (Sum.inr (M, 0))))
def f_X5_isWord (o0 : Nat) (w1 : Nat) (M : Mm) : Option (Mm × Int32) :=
  if (M.1 o0 2) = 1 then ((f_strLen w1).bind fun q1 =>
  if ((M.1 o0 4) - (M.1 o0 3)) = q1 then (obS (f_X5_isWord_L28 o0 w1 1000 0 M) (fun r9 => some r9) <| fun M10 =>
  some (M10, 1))
  else (some (M, 0)))
  else (some (M, 0))
def rm_X3_readStatement : Room := { frames := 6, cells := 0, slots := 0, locals := 143 }
def f_X3_readStatement (o0 : Nat) (M : Mm) : Option (Mm) :=
  (f_X5_isWord (o0 + 1) 0 M).bind fun q1 =>
  if q1.2 = 0 then ((f_X5_isWord (o0 + 1) 1 q1.1).bind fun q3 =>
  if q3.2 = 0 then ((f_X5_isWord (o0 + 1) 2 q3.1).bind fun q5 =>
  if q5.2 = 0 then ((f_X5_isWord (o0 + 1) 3 q5.1).bind fun q7 =>
  if q7.2 = 0 then ((f_X5_isWord (o0 + 1) 4 q7.1).bind fun q9 =>
  if q9.2 = 0 then ((f_X5_isWord (o0 + 1) 5 q9.1).bind fun q11 =>
  if q11.2 = 0 then ((f_X5_isWord (o0 + 1) 6 q11.1).bind fun q13 =>
  if q13.2 = 0 then ((f_X5_isWord (o0 + 1) 7 q13.1).bind fun q15 =>
  if q15.2 = 0 then (bm (wI q15.1 o0 2 (q15.1.1 (o0 + 1) 3)) fun M17 =>
  some M17)
  else ((f_X3_readOut o0 q15.1).bind fun q18 =>
  some q18))
  else ((f_X3_readLose o0 q13.1).bind fun q20 =>
  some q20))
  else ((f_X3_readLeast o0 q11.1).bind fun q22 =>
  some q22))
  else ((f_X3_readHost o0 q9.1).bind fun q24 =>
  some q24))
  else ((f_X3_readEvening o0 0 q7.1).bind fun q26 =>
  some q26))
  else ((f_X3_readEvening o0 1 q5.1).bind fun q28 =>
  some q28))
  else ((f_X1_isFull (o0 + 3) q3.1).bind fun q30 =>
  if q30 = 0 then ((f_X3_readPerson o0 q3.1).bind fun q57 =>
  some q57)
  else ((f_X5_isWord (o0 + 1) 2 q3.1).bind fun q32 =>
  if q32.2 = 0 then ((f_X5_isWord (o0 + 1) 3 q32.1).bind fun q34 =>
  if q34.2 = 0 then ((f_X5_isWord (o0 + 1) 4 q34.1).bind fun q36 =>
  if q36.2 = 0 then ((f_X5_isWord (o0 + 1) 5 q36.1).bind fun q38 =>
  if q38.2 = 0 then ((f_X5_isWord (o0 + 1) 6 q38.1).bind fun q40 =>
  if q40.2 = 0 then ((f_X5_isWord (o0 + 1) 7 q40.1).bind fun q42 =>
  if q42.2 = 0 then (bm (wI q42.1 o0 2 (q42.1.1 (o0 + 1) 3)) fun M44 =>
  some M44)
  else ((f_X3_readOut o0 q42.1).bind fun q45 =>
  some q45))
  else ((f_X3_readLose o0 q40.1).bind fun q47 =>
  some q47))
  else ((f_X3_readLeast o0 q38.1).bind fun q49 =>
  some q49))
  else ((f_X3_readHost o0 q36.1).bind fun q51 =>
  some q51))
  else ((f_X3_readEvening o0 0 q34.1).bind fun q53 =>
  some q53))
  else ((f_X3_readEvening o0 1 q32.1).bind fun q55 =>
  some q55))))
  else ((f_X3_readDays o0 q1.1).bind fun q59 =>
  some q59)
def rm_X5_rewind : Room := { frames := 3, cells := 0, slots := 0, locals := 63 }
def f_X5_rewind (o0 : Nat) (M : Mm) : Option (Mm) :=
  bm (wI M o0 4 0) fun M1 =>
  (f_X5_nextToken o0 M1).bind fun q2 =>
  some q2
def rm_X3_readStatements : Room := { frames := 7, cells := 0, slots := 0, locals := 163 }
def f_X3_readStatements_L16 (o0 : Nat) : Nat → Int32 → Int32 → Mm → Option (Int32 × Mm)
  | 0, _, _, _ => none
  | n + 1, x1, x2, M =>
    if x2 = 0 then (some (x1, M))
  else (if 250 ≤ x1 then (some (x1, M))
  else ((f_X3_readStatement o0 M).bind fun q4 =>
  bi (x1 + 1) fun v6 =>
  if (q4.1 o0 2) = (-1) then (if (q4.1 (o0 + 1) 2) = 3 then (if (1 : Int32) = 0 then (f_X3_readStatements_L16 o0 n v6 1 q4)
  else ((f_X5_nextToken (o0 + 1) q4).bind fun q11 =>
  f_X3_readStatements_L16 o0 n v6 1 q11))
  else (if (0 : Int32) = 0 then (f_X3_readStatements_L16 o0 n v6 0 q4)
  else ((f_X5_nextToken (o0 + 1) q4).bind fun q9 =>
  f_X3_readStatements_L16 o0 n v6 0 q9)))
  else (if (0 : Int32) = 0 then (f_X3_readStatements_L16 o0 n v6 0 q4)
  else ((f_X5_nextToken (o0 + 1) q4).bind fun q7 =>
  f_X3_readStatements_L16 o0 n v6 0 q7))))
def f_X3_readStatements (o0 : Nat) (M : Mm) : Option (Mm × Int32) :=
  bm (wI M o0 2 (-1)) fun M1 =>
  (f_X5_rewind (o0 + 1) M1).bind fun q2 =>
  ob2 (f_X3_readStatements_L16 o0 1000 0 1 q2) fun v15 M16 =>
  if (M16.1 o0 2) = (-1) then (if (M16.1 (o0 + 1) 2) = 0 then (some (M16, v15))
  else (bm (wI M16 o0 2 (M16.1 (o0 + 1) 3)) fun M17 =>
  some (M17, v15)))
  else (some (M16, v15))
def rm_X4_holdsRow : Room := { frames := 1, cells := 0, slots := 0, locals := 22 }
def f_X4_holdsRow (o0 : Nat) (M : Mm) : Option (Int32) :=
  (f_X7_within (M.1 o0 0) 0 4).bind fun q1 =>
  chb q1 <| some q1
def rm_X4_holdsPerson : Room := { frames := 0, cells := 0, slots := 0, locals := 0 }
def f_X4_holdsPerson (o0 : Nat) (M : Mm) : Option (Int32) :=
  if (M.1 o0 0) < 10 then (some 0)
  else (some 1)
def rm_X4_personHeld : Room := { frames := 1, cells := 0, slots := 0, locals := 20 }
def f_X4_personHeld (o0 : Nat) (M : Mm) : Option (Int32) :=
  (f_X4_holdsPerson o0 M).bind fun q1 =>
  if q1 = 0 then (some (-1))
  else (some ((M.1 o0 0) - 10))
def rm_X4_holdNothing : Room := { frames := 0, cells := 0, slots := 0, locals := 0 }
def f_X4_holdNothing (o0 : Nat) (M : Mm) : Option (Mm) :=
  bm (wI M o0 0 (-1)) fun M1 =>
  bm (wI M1 o0 1 0) fun M2 =>
  some M2
def rm_X4_holdPerson : Room := { frames := 0, cells := 0, slots := 0, locals := 0 }
def f_X4_holdPerson (o0 : Nat) (x1 : Int32) (M : Mm) : Option (Mm) :=
  bm (wI M o0 0 (10 + x1)) fun M1 =>
  bm (wI M1 o0 1 0) fun M2 =>
  some M2
def rm_J7_fill_d0a16 : Room := { frames := 0, cells := 0, slots := 0, locals := 0 }
def f_J7_fill_d0a16_L6 (nA : Nat) (o0 : Nat) (x1 : Int64) (x4 : Int32) : Nat → Int32 → Mm → Option (Mm)
  | 0, _, _ => none
  | n + 1, x3, M =>
    if x4 ≤ x3 then (some M)
  else (chk x3 nA <| bm (wJ M o0 x3.toNatClampNeg x1) fun M2 =>
  bi (x3 + 1) fun v3 =>
  f_J7_fill_d0a16_L6 nA o0 x1 x4 n v3 M2)
def f_J7_fill_d0a16 (nA : Nat) (o0 : Nat) (x1 : Int64) (M : Mm) : Option (Mm) :=
  bi (Int32.ofNat nA) fun v1 =>
  (f_J7_fill_d0a16_L6 nA o0 x1 v1 1000 0 M).bind fun M6 =>
  some M6
def rm_X4_holdRow : Room := { frames := 1, cells := 0, slots := 0, locals := 24 }
def f_X4_holdRow (o0 : Nat) (x1 : Int32) (x2 : Int32) (M : Mm) : Option (Mm) :=
  bm (wI M o0 0 x1) fun M1 =>
  bm (wI M1 o0 1 x2) fun M2 =>
  (f_J7_fill_d0a16 40 (o0 + 1) 0 M2).bind fun q3 =>
  some q3
def rm_X4_elementAt : Room := { frames := 1, cells := 0, slots := 0, locals := 22 }
def f_X4_elementAt (o0 : Nat) (x1 : Int32) (M : Mm) : Option (Int64) :=
  (f_X7_within x1 0 ((M.1 o0 1) - 1)).bind fun q1 =>
  if q1 = 0 then (some 0)
  else (chk x1 40 <|
  some (M.2.1 (o0 + 1) x1.toNatClampNeg))
def rm_X4_lowestBits : Room := { frames := 0, cells := 0, slots := 0, locals := 0 }
def f_X4_lowestBits (o0 : Nat) (x1 : Int64) (M : Mm) : Option (Int64) :=
  if (M.1 o0 0) = 0 then (some x1.toInt32.toInt8.toInt32.toInt64)
  else if (M.1 o0 0) = 1 then (some x1.toInt32.toInt16.toInt32.toInt64)
  else if (M.1 o0 0) = 2 then (some x1.toInt32.toInt64)
  else if (M.1 o0 0) = 3 then (some x1)
  else (if (lg_cmp x1 0) = 0 then (some 0)
  else (some 1))
def rm_X4_put : Room := { frames := 1, cells := 0, slots := 0, locals := 22 }
def f_X4_put (o0 : Nat) (x1 : Int32) (x2 : Int64) (M : Mm) : Option (Mm) :=
  (f_X7_within x1 0 ((M.1 o0 1) - 1)).bind fun q1 =>
  if q1 = 0 then (some M)
  else ((f_X4_lowestBits o0 x2 M).bind fun q3 =>
  chk x1 40 <| bm (wJ M (o0 + 1) x1.toNatClampNeg q3) fun M5 =>
  some M5)
def rm_X4_daysNotFree : Room := { frames := 2, cells := 0, slots := 0, locals := 43 }
def f_X4_daysNotFree_L5 (o0 : Nat) (o1 : Nat) (x2 : Int32) (M : Mm) : Nat → Int32 → Int32 → Option (Int32)
  | 0, _, _ => none
  | n + 1, x3, x4 =>
    if x2 ≤ x4 then (some x3)
  else ((f_X4_elementAt o0 x4 M).bind fun q1 =>
  (f_X2_isFree o1 q1.toInt32 M).bind fun q3 =>
  if q3 = 0 then (bi (x3 + 1) fun v5 =>
  bi (x4 + 1) fun v6 =>
  f_X4_daysNotFree_L5 o0 o1 x2 M n v5 v6)
  else (bi (x3 + 0) fun v7 =>
  bi (x4 + 1) fun v8 =>
  f_X4_daysNotFree_L5 o0 o1 x2 M n v7 v8))
def f_X4_daysNotFree (o0 : Nat) (o1 : Nat) (x2 : Int32) (M : Mm) : Option (Int32) :=
  (f_X4_daysNotFree_L5 o0 o1 x2 M 1000 0 0).bind fun v11 =>
  some v11
def rm_X5_takes : Room := { frames := 0, cells := 0, slots := 0, locals := 0 }
def f_X5_takes (o0 : Nat) (x1 : Int32) (M : Mm) : Option (Mm × Int32) :=
  if (M.1 o0 1) < 250 then (chk (M.1 o0 1) 250 <| bm (wI M (o0 + 1) (M.1 o0 1).toNatClampNeg x1) fun M1 =>
  bm (wI M1 o0 1 ((M1.1 o0 1) + 1)) fun M2 =>
  some (M2, 1))
  else (some (M, 0))
def rm_X6_dayOfMost : Room := { frames := 0, cells := 0, slots := 0, locals := 0 }
def f_X6_dayOfMost_L4 (o0 : Nat) (o1 : Nat) (M : Mm) : Nat → Int32 → Int32 → Option (Int32)
  | 0, _, _ => none
  | n + 1, x2, x3 =>
    if (M.1 o0 3) ≤ x3 then (some x2)
  else (chk x3 14 <|
  chk x2 14 <|
  if (M.1 o1 x3.toNatClampNeg) ≤ (M.1 o1 x2.toNatClampNeg) then (bi (x3 + 1) fun v1 =>
  f_X6_dayOfMost_L4 o0 o1 M n x2 v1)
  else (bi (x3 + 1) fun v2 =>
  f_X6_dayOfMost_L4 o0 o1 M n x3 v2))
def f_X6_dayOfMost (o0 : Nat) (o1 : Nat) (M : Mm) : Option (Int32) :=
  (f_X6_dayOfMost_L4 o0 o1 M 1000 0 1).bind fun v5 =>
  some v5
def rm_X6_tickAll : Room := { frames := 3, cells := 0, slots := 0, locals := 67 }
def f_X6_tickAll_L12 (o0 : Nat) (o1 : Nat) (o2 : Nat) (x3 : Int32) : Nat → Int32 → Mm → Option (Mm)
  | 0, _, _ => none
  | n + 1, x4, M =>
    if (M.1 o0 3) ≤ x4 then (some M)
  else (chk x4 14 <|
  if x4 = x3 then ((f_X2_tickAs o1 (M.1 o1 0) x4 (M.1 (o0 + 11) x4.toNatClampNeg) 1 M).bind fun q11 =>
  chk x4 14 <| bm (wI M o2 x4.toNatClampNeg q11) fun M13 =>
  chk x4 14 <|
  chk x4 14 <| bm (wI M13 (o0 + 10) x4.toNatClampNeg ((M13.1 (o0 + 10) x4.toNatClampNeg) + q11)) fun M14 =>
  chk x4 14 <|
  if q11 = 2 then (chk x4 14 <| bm (wI M14 (o0 + 11) x4.toNatClampNeg ((M14.1 (o0 + 11) x4.toNatClampNeg) + 1)) fun M17 =>
  bi (x4 + 1) fun v18 =>
  f_X6_tickAll_L12 o0 o1 o2 x3 n v18 M17)
  else (chk x4 14 <| bm (wI M14 (o0 + 11) x4.toNatClampNeg ((M14.1 (o0 + 11) x4.toNatClampNeg) + 0)) fun M15 =>
  bi (x4 + 1) fun v16 =>
  f_X6_tickAll_L12 o0 o1 o2 x3 n v16 M15))
  else ((f_X2_tickAs o1 (M.1 o1 0) x4 (M.1 (o0 + 11) x4.toNatClampNeg) 0 M).bind fun q3 =>
  chk x4 14 <| bm (wI M o2 x4.toNatClampNeg q3) fun M5 =>
  chk x4 14 <|
  chk x4 14 <| bm (wI M5 (o0 + 10) x4.toNatClampNeg ((M5.1 (o0 + 10) x4.toNatClampNeg) + q3)) fun M6 =>
  chk x4 14 <|
  if q3 = 2 then (chk x4 14 <| bm (wI M6 (o0 + 11) x4.toNatClampNeg ((M6.1 (o0 + 11) x4.toNatClampNeg) + 1)) fun M9 =>
  bi (x4 + 1) fun v10 =>
  f_X6_tickAll_L12 o0 o1 o2 x3 n v10 M9)
  else (chk x4 14 <| bm (wI M6 (o0 + 11) x4.toNatClampNeg ((M6.1 (o0 + 11) x4.toNatClampNeg) + 0)) fun M7 =>
  bi (x4 + 1) fun v8 =>
  f_X6_tickAll_L12 o0 o1 o2 x3 n v8 M7)))
def f_X6_tickAll (o0 : Nat) (o1 : Nat) (o2 : Nat) (M : Mm) : Option (Mm) :=
  (f_X6_dayOfMost o0 (o0 + 11) M).bind fun q1 =>
  (f_X6_tickAll_L12 o0 o1 o2 q1 1000 0 M).bind fun M21 =>
  some M21
def rm_J7_fill_53178 : Room := { frames := 0, cells := 0, slots := 0, locals := 0 }
def f_J7_fill_53178_L5 (nA : Nat) (o0 : Nat) (x1 : Int32) (x3 : Int32) : Nat → Int32 → Mm → Option (Mm)
  | 0, _, _ => none
  | n + 1, x2, M =>
    if x3 ≤ x2 then (some M)
  else (chk x2 nA <| bm (wI M o0 x2.toNatClampNeg x1) fun M2 =>
  bi (x2 + 1) fun v3 =>
  f_J7_fill_53178_L5 nA o0 x1 x3 n v3 M2)
def f_J7_fill_53178 (nA : Nat) (o0 : Nat) (x1 : Int32) (M : Mm) : Option (Mm) :=
  bi (Int32.ofNat nA) fun v1 =>
  (f_J7_fill_53178_L5 nA o0 x1 v1 1000 0 M).bind fun M6 =>
  some M6
def rm_X6_reckonAheadOf : Room := { frames := 4, cells := 0, slots := 0, locals := 92 }
def f_X6_reckonAheadOf_L26 (o0 : Nat) (o1 : Nat) (x2 : Int32) : Nat → Int32 → Mm → Option (Mm)
  | 0, _, _ => none
  | n + 1, x3, M =>
    if x2 ≤ x3 then (some M)
  else (chk x3 8 <|
  chk x3 8 <|
  (f_X6_tickAll o0 (o1 + 2 + x3.toNatClampNeg) (o0 + 2 + x3.toNatClampNeg) M).bind fun q8 =>
  bi (x3 + 1) fun v10 =>
  f_X6_reckonAheadOf_L26 o0 o1 x2 n v10 q8)
def f_X6_reckonAheadOf (o0 : Nat) (o1 : Nat) (x2 : Int32) (M : Mm) : Option (Mm) :=
  bm (wI M o0 3 (M.1 o1 0)) fun M1 =>
  (f_J7_fill_53178 14 (o0 + 10) 0 M1).bind fun q2 =>
  (f_J7_fill_53178 14 (o0 + 11) 0 q2).bind fun q4 =>
  (f_X6_reckonAheadOf_L26 o0 o1 x2 1000 0 q4).bind fun M13 =>
  some M13
def rm_X6_reckon : Room := { frames := 5, cells := 0, slots := 0, locals := 115 }
def f_X6_reckon (o0 : Nat) (o1 : Nat) (M : Mm) : Option (Mm) :=
  (f_X6_reckonAheadOf o0 o1 (M.1 o1 1) M).bind fun q1 =>
  some q1
def rm_X6_ticksSo : Room := { frames := 3, cells := 0, slots := 0, locals := 67 }
def f_X6_ticksSo_L13 (o0 : Nat) (o1 : Nat) (o2 : Nat) (x3 : Int32) (o4 : Nat) (x5 : Int32) (M : Mm) : Nat → Int32 → Option ((Unit) ⊕ (Int32))
  | 0, _ => none
  | n + 1, x6 =>
    if (M.1 o1 0) ≤ x6 then (some (Sum.inl ()))
  else (chk x6 14 <|
  if x6 = x5 then ((f_X2_tickAs o2 x3 x6 (M.1 (o0 + 11) x6.toNatClampNeg) 1 M).bind fun q8 =>
  (f_X4_elementAt o4 x6 M).bind fun q10 =>
  if (lg_cmp q8.toInt64 q10) = 0 then (bi (x6 + 1) fun v12 =>
  f_X6_ticksSo_L13 o0 o1 o2 x3 o4 x5 M n v12)
  else (some (Sum.inr 0)))
  else ((f_X2_tickAs o2 x3 x6 (M.1 (o0 + 11) x6.toNatClampNeg) 0 M).bind fun q3 =>
  (f_X4_elementAt o4 x6 M).bind fun q5 =>
  if (lg_cmp q3.toInt64 q5) = 0 then (bi (x6 + 1) fun v7 =>
  f_X6_ticksSo_L13 o0 o1 o2 x3 o4 x5 M n v7)
  else (some (Sum.inr 0))))
def f_X6_ticksSo (o0 : Nat) (o1 : Nat) (o2 : Nat) (x3 : Int32) (o4 : Nat) (M : Mm) : Option (Int32) :=
  (f_X6_dayOfMost o0 (o0 + 11) M).bind fun q1 =>
  obS (f_X6_ticksSo_L13 o0 o1 o2 x3 o4 q1 M 1000 0) (fun r9 => some r9) <| fun _ =>
  some 1
def rm_X6_leaveOut : Room := { frames := 0, cells := 0, slots := 0, locals := 0 }
def f_X6_leaveOut_L2 (o0 : Nat) (x1 : Int32) : Nat → Int32 → Mm → Option (Mm)
  | 0, _, _ => none
  | n + 1, x2, M =>
    if (M.1 o0 3) ≤ x2 then (some M)
  else (chk x2 14 <|
  chk x1 8 <|
  chk x2 14 <|
  chk x2 14 <| bm (wI M (o0 + 10) x2.toNatClampNeg ((M.1 (o0 + 10) x2.toNatClampNeg) - (M.1 (o0 + 2 + x1.toNatClampNeg) x2.toNatClampNeg))) fun M2 =>
  bi (x2 + 1) fun v3 =>
  f_X6_leaveOut_L2 o0 x1 n v3 M2)
def f_X6_leaveOut (o0 : Nat) (x1 : Int32) (M : Mm) : Option (Mm) :=
  (f_X6_leaveOut_L2 o0 x1 1000 0 M).bind fun M6 =>
  some M6
def rm_X6_daysWithYes : Room := { frames := 0, cells := 0, slots := 0, locals := 0 }
def f_X6_daysWithYes_L4 (o0 : Nat) (x1 : Int32) (M : Mm) : Nat → Int32 → Int32 → Option (Int32)
  | 0, _, _ => none
  | n + 1, x2, x3 =>
    if (M.1 o0 3) ≤ x3 then (some x2)
  else (chk x1 8 <|
  chk x3 14 <|
  if (M.1 (o0 + 2 + x1.toNatClampNeg) x3.toNatClampNeg) = 2 then (bi (x2 ||| (1 <<< (x3 &&& 31))) fun v3 =>
  bi (x3 + 1) fun v4 =>
  f_X6_daysWithYes_L4 o0 x1 M n v3 v4)
  else (bi (x3 + 1) fun v2 =>
  f_X6_daysWithYes_L4 o0 x1 M n x2 v2))
def f_X6_daysWithYes (o0 : Nat) (x1 : Int32) (M : Mm) : Option (Int32) :=
  (f_X6_daysWithYes_L4 o0 x1 M 1000 0 0).bind fun v7 =>
  some v7
def rm_X6_bestOfAll : Room := { frames := 1, cells := 0, slots := 0, locals := 23 }
def f_X6_bestOfAll (o0 : Nat) (M : Mm) : Option (Int32) :=
  (f_X6_dayOfMost o0 (o0 + 10) M).bind fun q1 =>
  some q1
def rm_X6_bestAmong : Room := { frames := 1, cells := 0, slots := 0, locals := 21 }
def f_X6_bestAmong_L4 (o0 : Nat) (x1 : Int32) (M : Mm) : Nat → Int32 → Int32 → Option (Int32)
  | 0, _, _ => none
  | n + 1, x2, x3 =>
    if (M.1 o0 3) ≤ x3 then (some x2)
  else ((f_X7_hasBit x1 x3).bind fun q1 =>
  if q1 = 0 then (bi (x3 + 1) fun v3 =>
  f_X6_bestAmong_L4 o0 x1 M n x2 v3)
  else (if x2 = (-1) then (bi (x3 + 1) fun v4 =>
  f_X6_bestAmong_L4 o0 x1 M n x3 v4)
  else (chk x3 14 <|
  chk x2 14 <|
  if (M.1 (o0 + 10) x3.toNatClampNeg) ≤ (M.1 (o0 + 10) x2.toNatClampNeg) then (bi (x3 + 1) fun v5 =>
  f_X6_bestAmong_L4 o0 x1 M n x2 v5)
  else (bi (x3 + 1) fun v6 =>
  f_X6_bestAmong_L4 o0 x1 M n x3 v6))))
def f_X6_bestAmong (o0 : Nat) (x1 : Int32) (M : Mm) : Option (Int32) :=
  (f_X6_bestAmong_L4 o0 x1 M 1000 (-1) 0).bind fun v9 =>
  some v9
def rm_X6_howManyBefore : Room := { frames := 0, cells := 0, slots := 0, locals := 0 }
def f_X6_howManyBefore_L4 (o0 : Nat) (x1 : Int32) (M : Mm) : Nat → Int32 → Int32 → Option (Int32)
  | 0, _, _ => none
  | n + 1, x2, x3 =>
    if (M.1 o0 3) ≤ x3 then (some x2)
  else (chk x3 14 <|
  chk x1 14 <|
  if (M.1 (o0 + 10) x1.toNatClampNeg) < (M.1 (o0 + 10) x3.toNatClampNeg) then (bi (x2 + 1) fun v1 =>
  bi (x3 + 1) fun v2 =>
  f_X6_howManyBefore_L4 o0 x1 M n v1 v2)
  else (chk x3 14 <|
  chk x1 14 <|
  if (M.1 (o0 + 10) x3.toNatClampNeg) = (M.1 (o0 + 10) x1.toNatClampNeg) then (if x1 ≤ x3 then (bi (x3 + 1) fun v4 =>
  f_X6_howManyBefore_L4 o0 x1 M n x2 v4)
  else (bi (x2 + 1) fun v5 =>
  bi (x3 + 1) fun v6 =>
  f_X6_howManyBefore_L4 o0 x1 M n v5 v6))
  else (bi (x3 + 1) fun v3 =>
  f_X6_howManyBefore_L4 o0 x1 M n x2 v3)))
def f_X6_howManyBefore (o0 : Nat) (x1 : Int32) (M : Mm) : Option (Int32) :=
  (f_X6_howManyBefore_L4 o0 x1 M 1000 0 0).bind fun v9 =>
  some v9
def rm_X6_dayAtPlace : Room := { frames := 1, cells := 0, slots := 0, locals := 23 }
def f_X6_dayAtPlace_L2 (o0 : Nat) (x1 : Int32) (M : Mm) : Nat → Int32 → Option ((Unit) ⊕ (Int32))
  | 0, _ => none
  | n + 1, x2 =>
    if (M.1 o0 3) ≤ x2 then (some (Sum.inl ()))
  else ((f_X6_howManyBefore o0 x2 M).bind fun q1 =>
  if q1 = x1 then (some (Sum.inr x2))
  else (bi (x2 + 1) fun v3 =>
  f_X6_dayAtPlace_L2 o0 x1 M n v3))
def f_X6_dayAtPlace (o0 : Nat) (x1 : Int32) (M : Mm) : Option (Int32) :=
  obS (f_X6_dayAtPlace_L2 o0 x1 M 1000 0) (fun r9 => some r9) <| fun _ =>
  some (-1)
def rm_X7_isShelf : Room := { frames := 1, cells := 0, slots := 0, locals := 22 }
def f_X7_isShelf (x0 : Int32) : Option (Int32) :=
  (f_X7_within x0 0 7).bind fun q1 =>
  chb q1 <| some q1
def rm_X7_refuse : Room := { frames := 1, cells := 0, slots := 0, locals := 22 }
def f_X7_refuse (x1 : Int32) (M : Mm) : Option (Mm × Int32) :=
  bi ((-2) - x1) fun v1 =>
  (f_X7_within v1 0 4).bind fun q2 =>
  if q2 = 0 then (some (M, x1))
  else (chk v1 5 <|
  chk v1 5 <| bm (wI M 52 v1.toNatClampNeg ((M.1 52 v1.toNatClampNeg) + 1)) fun M4 =>
  some (M4, x1))
def rm_X7_row : Room := { frames := 2, cells := 0, slots := 0, locals := 46 }
def f_X7_row (x1 : Int32) (x2 : Int32) (x3 : Int32) (M : Mm) : Option (Mm × Int32) :=
  (f_X7_isShelf x1).bind fun q1 =>
  if q1 = 0 then ((f_X7_refuse (-2) M).bind fun q3 =>
  some (q3.1, q3.2))
  else ((f_X7_within x2 0 4).bind fun q5 =>
  if q5 = 0 then ((f_X7_refuse (-2) M).bind fun q7 =>
  some (q7.1, q7.2))
  else ((f_X7_within x3 0 40).bind fun q9 =>
  if q9 = 0 then ((f_X7_refuse (-2) M).bind fun q14 =>
  some (q14.1, q14.2))
  else (chk x1 8 <|
  (f_X4_holdRow (53 + 2 * x1.toNatClampNeg) x2 x3 M).bind fun q12 =>
  some (q12, 1))))
def rm_X7_troubleOfRow : Room := { frames := 2, cells := 0, slots := 0, locals := 42 }
def f_X7_troubleOfRow (x1 : Int32) (M : Mm) : Option (Int32) :=
  (f_X7_isShelf x1).bind fun q1 =>
  if q1 = 0 then (some (-2))
  else (chk x1 8 <|
  (f_X4_holdsPerson (53 + 2 * x1.toNatClampNeg) M).bind fun q4 =>
  if q4 = 0 then (chk x1 8 <|
  if (M.1 (53 + 2 * x1.toNatClampNeg) 0) = (-1) then (some (-4))
  else (some 0))
  else (some (-3)))
def rm_X7_set : Room := { frames := 3, cells := 0, slots := 0, locals := 63 }
def f_X7_set (x1 : Int32) (x2 : Int32) (x3 : Int64) (M : Mm) : Option (Mm × Int32) :=
  (f_X7_troubleOfRow x1 M).bind fun q1 =>
  if q1 = 0 then (chk x1 8 <|
  (f_X7_within x2 0 ((M.1 (53 + 2 * x1.toNatClampNeg) 1) - 1)).bind fun q4 =>
  if q4 = 0 then ((f_X7_refuse (-2) M).bind fun q9 =>
  some (q9.1, q9.2))
  else (chk x1 8 <|
  (f_X4_put (53 + 2 * x1.toNatClampNeg) x2 x3 M).bind fun q7 =>
  some (q7, 1)))
  else ((f_X7_refuse q1 M).bind fun q11 =>
  some (q11.1, q11.2))
def rm_X7_copy : Room := { frames := 2, cells := 0, slots := 0, locals := 44 }
def f_X7_copy (x1 : Int32) (x2 : Int32) (x3 : Int32) (x4 : Int32) (x5 : Int32) (M : Mm) : Option (Mm × Int32) :=
  (f_X7_isShelf x1).bind fun q1 =>
  if q1 = 0 then ((f_X7_refuse (-2) M).bind fun q3 =>
  some (q3.1, q3.2))
  else ((f_X7_isShelf x2).bind fun q5 =>
  if q5 = 0 then ((f_X7_refuse (-2) M).bind fun q109 =>
  some (q109.1, q109.2))
  else (chk x1 8 <|
  chk x2 8 <|
  if (M.1 (53 + 2 * x1.toNatClampNeg) 0) = (-1) then ((f_X4_holdsPerson (53 + 2 * x1.toNatClampNeg) M).bind fun q9 =>
  if q9 = 0 then ((f_X4_holdsPerson (53 + 2 * x2.toNatClampNeg) M).bind fun q13 =>
  if q13 = 0 then (if (0 : Int32) = 0 then (if (M.1 (53 + 2 * x1.toNatClampNeg) 0) = (-1) then ((f_X7_refuse (-4) M).bind fun q17 =>
  some (q17.1, q17.2))
  else (if (M.1 (53 + 2 * x2.toNatClampNeg) 0) = (-1) then ((f_X7_refuse (-4) M).bind fun q30 =>
  some (q30.1, q30.2))
  else (if x5 < 0 then ((f_X7_refuse (-2) M).bind fun q19 =>
  some (q19.1, q19.2))
  else ((f_X7_within x3 0 ((M.1 (53 + 2 * x1.toNatClampNeg) 1) - x5)).bind fun q21 =>
  if q21 = 0 then ((f_X7_refuse (-2) M).bind fun q23 =>
  some (q23.1, q23.2))
  else ((f_X7_within x4 0 ((M.1 (53 + 2 * x2.toNatClampNeg) 1) - x5)).bind fun q25 =>
  if q25 = 0 then ((f_X7_refuse (-2) M).bind fun q28 =>
  some (q28.1, q28.2))
  else (cpc x3 x4 x5 40 40 <| bm (wJr M (53 + 2 * x2.toNatClampNeg + 1) (va_cpy (M.2.1 (53 + 2 * x1.toNatClampNeg + 1)) (M.2.1 (53 + 2 * x2.toNatClampNeg + 1)) x3.toNatClampNeg x4.toNatClampNeg x5.toNatClampNeg)) fun M27 =>
  some (M27, x5)))))))
  else ((f_X7_refuse (-3) M).bind fun q32 =>
  some (q32.1, q32.2)))
  else ((f_X7_refuse (-3) M).bind fun q15 =>
  some (q15.1, q15.2)))
  else ((f_X7_refuse (-3) M).bind fun q11 =>
  some (q11.1, q11.2)))
  else (if (M.1 (53 + 2 * x2.toNatClampNeg) 0) = (-1) then ((f_X4_holdsPerson (53 + 2 * x1.toNatClampNeg) M).bind fun q34 =>
  if q34 = 0 then ((f_X4_holdsPerson (53 + 2 * x2.toNatClampNeg) M).bind fun q38 =>
  if q38 = 0 then (if (0 : Int32) = 0 then (if (M.1 (53 + 2 * x1.toNatClampNeg) 0) = (-1) then ((f_X7_refuse (-4) M).bind fun q42 =>
  some (q42.1, q42.2))
  else (if (M.1 (53 + 2 * x2.toNatClampNeg) 0) = (-1) then ((f_X7_refuse (-4) M).bind fun q55 =>
  some (q55.1, q55.2))
  else (if x5 < 0 then ((f_X7_refuse (-2) M).bind fun q44 =>
  some (q44.1, q44.2))
  else ((f_X7_within x3 0 ((M.1 (53 + 2 * x1.toNatClampNeg) 1) - x5)).bind fun q46 =>
  if q46 = 0 then ((f_X7_refuse (-2) M).bind fun q48 =>
  some (q48.1, q48.2))
  else ((f_X7_within x4 0 ((M.1 (53 + 2 * x2.toNatClampNeg) 1) - x5)).bind fun q50 =>
  if q50 = 0 then ((f_X7_refuse (-2) M).bind fun q53 =>
  some (q53.1, q53.2))
  else (cpc x3 x4 x5 40 40 <| bm (wJr M (53 + 2 * x2.toNatClampNeg + 1) (va_cpy (M.2.1 (53 + 2 * x1.toNatClampNeg + 1)) (M.2.1 (53 + 2 * x2.toNatClampNeg + 1)) x3.toNatClampNeg x4.toNatClampNeg x5.toNatClampNeg)) fun M52 =>
  some (M52, x5)))))))
  else ((f_X7_refuse (-3) M).bind fun q57 =>
  some (q57.1, q57.2)))
  else ((f_X7_refuse (-3) M).bind fun q40 =>
  some (q40.1, q40.2)))
  else ((f_X7_refuse (-3) M).bind fun q36 =>
  some (q36.1, q36.2)))
  else (if (M.1 (53 + 2 * x1.toNatClampNeg) 0) = (M.1 (53 + 2 * x2.toNatClampNeg) 0) then ((f_X4_holdsPerson (53 + 2 * x1.toNatClampNeg) M).bind fun q59 =>
  if q59 = 0 then ((f_X4_holdsPerson (53 + 2 * x2.toNatClampNeg) M).bind fun q63 =>
  if q63 = 0 then (if (0 : Int32) = 0 then (if (M.1 (53 + 2 * x1.toNatClampNeg) 0) = (-1) then ((f_X7_refuse (-4) M).bind fun q67 =>
  some (q67.1, q67.2))
  else (if (M.1 (53 + 2 * x2.toNatClampNeg) 0) = (-1) then ((f_X7_refuse (-4) M).bind fun q80 =>
  some (q80.1, q80.2))
  else (if x5 < 0 then ((f_X7_refuse (-2) M).bind fun q69 =>
  some (q69.1, q69.2))
  else ((f_X7_within x3 0 ((M.1 (53 + 2 * x1.toNatClampNeg) 1) - x5)).bind fun q71 =>
  if q71 = 0 then ((f_X7_refuse (-2) M).bind fun q73 =>
  some (q73.1, q73.2))
  else ((f_X7_within x4 0 ((M.1 (53 + 2 * x2.toNatClampNeg) 1) - x5)).bind fun q75 =>
  if q75 = 0 then ((f_X7_refuse (-2) M).bind fun q78 =>
  some (q78.1, q78.2))
  else (cpc x3 x4 x5 40 40 <| bm (wJr M (53 + 2 * x2.toNatClampNeg + 1) (va_cpy (M.2.1 (53 + 2 * x1.toNatClampNeg + 1)) (M.2.1 (53 + 2 * x2.toNatClampNeg + 1)) x3.toNatClampNeg x4.toNatClampNeg x5.toNatClampNeg)) fun M77 =>
  some (M77, x5)))))))
  else ((f_X7_refuse (-3) M).bind fun q82 =>
  some (q82.1, q82.2)))
  else ((f_X7_refuse (-3) M).bind fun q65 =>
  some (q65.1, q65.2)))
  else ((f_X7_refuse (-3) M).bind fun q61 =>
  some (q61.1, q61.2)))
  else ((f_X4_holdsPerson (53 + 2 * x1.toNatClampNeg) M).bind fun q84 =>
  if q84 = 0 then ((f_X4_holdsPerson (53 + 2 * x2.toNatClampNeg) M).bind fun q88 =>
  if q88 = 0 then (if (1 : Int32) = 0 then (if (M.1 (53 + 2 * x1.toNatClampNeg) 0) = (-1) then ((f_X7_refuse (-4) M).bind fun q92 =>
  some (q92.1, q92.2))
  else (if (M.1 (53 + 2 * x2.toNatClampNeg) 0) = (-1) then ((f_X7_refuse (-4) M).bind fun q105 =>
  some (q105.1, q105.2))
  else (if x5 < 0 then ((f_X7_refuse (-2) M).bind fun q94 =>
  some (q94.1, q94.2))
  else ((f_X7_within x3 0 ((M.1 (53 + 2 * x1.toNatClampNeg) 1) - x5)).bind fun q96 =>
  if q96 = 0 then ((f_X7_refuse (-2) M).bind fun q98 =>
  some (q98.1, q98.2))
  else ((f_X7_within x4 0 ((M.1 (53 + 2 * x2.toNatClampNeg) 1) - x5)).bind fun q100 =>
  if q100 = 0 then ((f_X7_refuse (-2) M).bind fun q103 =>
  some (q103.1, q103.2))
  else (cpc x3 x4 x5 40 40 <| bm (wJr M (53 + 2 * x2.toNatClampNeg + 1) (va_cpy (M.2.1 (53 + 2 * x1.toNatClampNeg + 1)) (M.2.1 (53 + 2 * x2.toNatClampNeg + 1)) x3.toNatClampNeg x4.toNatClampNeg x5.toNatClampNeg)) fun M102 =>
  some (M102, x5)))))))
  else ((f_X7_refuse (-3) M).bind fun q107 =>
  some (q107.1, q107.2)))
  else ((f_X7_refuse (-3) M).bind fun q90 =>
  some (q90.1, q90.2)))
  else ((f_X7_refuse (-3) M).bind fun q86 =>
  some (q86.1, q86.2)))))))
def rm_X7_element : Room := { frames := 2, cells := 0, slots := 0, locals := 43 }
def f_X7_element (x1 : Int32) (x2 : Int32) (M : Mm) : Option (Int64) :=
  (f_X7_isShelf x1).bind fun q1 =>
  if q1 = 0 then (some 0)
  else (chk x1 8 <|
  (f_X4_holdsRow (53 + 2 * x1.toNatClampNeg) M).bind fun q4 =>
  if q4 = 0 then (some 0)
  else (chk x1 8 <|
  (f_X4_elementAt (53 + 2 * x1.toNatClampNeg) x2 M).bind fun q7 =>
  some q7))
def rm_X7_holds : Room := { frames := 2, cells := 0, slots := 0, locals := 42 }
def f_X7_holds (x1 : Int32) (M : Mm) : Option (Int32) :=
  (f_X7_isShelf x1).bind fun q1 =>
  if q1 = 0 then (some (-1))
  else (chk x1 8 <|
  some (M.1 (53 + 2 * x1.toNatClampNeg) 0))
def rm_X7_show : Room := { frames := 2, cells := 0, slots := 0, locals := 44 }
def f_X7_show (x1 : Int32) (x2 : Int32) (M : Mm) : Option (Mm × Int32) :=
  (f_X7_isShelf x1).bind fun q1 =>
  if q1 = 0 then ((f_X7_refuse (-2) M).bind fun q3 =>
  some (q3.1, q3.2))
  else (if x2 = (-1) then (if x2 = (-1) then (chk x1 8 <|
  (f_X4_holdNothing (53 + 2 * x1.toNatClampNeg) M).bind fun q9 =>
  some (q9, 1))
  else (chk x1 8 <|
  (f_X4_holdPerson (53 + 2 * x1.toNatClampNeg) x2 M).bind fun q6 =>
  some (q6, 1)))
  else ((f_X1_hasPerson 1 x2 M).bind fun q11 =>
  if q11 = 0 then ((f_X7_refuse (-2) M).bind fun q19 =>
  some (q19.1, q19.2))
  else (if x2 = (-1) then (chk x1 8 <|
  (f_X4_holdNothing (53 + 2 * x1.toNatClampNeg) M).bind fun q17 =>
  some (q17, 1))
  else (chk x1 8 <|
  (f_X4_holdPerson (53 + 2 * x1.toNatClampNeg) x2 M).bind fun q14 =>
  some (q14, 1)))))
def rm_X7_isKind : Room := { frames := 1, cells := 0, slots := 0, locals := 22 }
def f_X7_isKind (x0 : Int32) : Option (Int32) :=
  (f_X7_within x0 0 5).bind fun q1 =>
  chb q1 <| some q1
def rm_X7_says : Room := { frames := 2, cells := 0, slots := 0, locals := 44 }
def f_X7_says (x1 : Int32) (x2 : Int32) (M : Mm) : Option (Mm × Int32) :=
  (f_X7_isShelf x1).bind fun q1 =>
  if q1 = 0 then ((f_X7_refuse (-2) M).bind fun q3 =>
  some (q3.1, q3.2))
  else ((f_X7_isKind x2).bind fun q5 =>
  if q5 = 0 then ((f_X7_refuse (-2) M).bind fun q24 =>
  some (q24.1, q24.2))
  else (chk x1 8 <|
  if (M.1 (53 + 2 * x1.toNatClampNeg) 0) = (-1) then ((f_X7_refuse (-4) M).bind fun q22 =>
  some (q22.1, q22.2))
  else ((f_X4_personHeld (53 + 2 * x1.toNatClampNeg) M).bind fun q8 =>
  (f_X1_hasPerson 1 q8 M).bind fun q10 =>
  if q10 = 0 then ((f_X7_refuse (-3) M).bind fun q12 =>
  some (q12.1, q12.2))
  else (chk q8 8 <|
  (f_X2_isOfKind (3 + q8.toNatClampNeg) x2 M).bind fun q15 =>
  if q15 = 0 then ((f_X7_refuse (-3) M).bind fun q20 =>
  some (q20.1, q20.2))
  else (chk q8 8 <|
  (f_X2_wordsAs (3 + q8.toNatClampNeg) x2 M).bind fun q18 =>
  some (M, q18))))))
def rm_X7_days : Room := { frames := 2, cells := 0, slots := 0, locals := 44 }
def f_X7_days (x1 : Int32) (M : Mm) : Option (Mm × Int32) :=
  (f_X7_within x1 1 14).bind fun q1 =>
  if q1 = 0 then ((f_X7_refuse (-2) M).bind fun q6 =>
  some (q6.1, q6.2))
  else (bi (M.1 1 0) fun v3 =>
  (f_X1_changeDays 1 x1 M).bind fun q4 =>
  some (q4, v3))
def rm_X7_person : Room := { frames := 2, cells := 0, slots := 0, locals := 46 }
def f_X7_person (x1 : Int32) (x2 : Int32) (x3 : Int32) (M : Mm) : Option (Mm × Int32) :=
  (f_X7_isKind x1).bind fun q1 =>
  if q1 = 0 then ((f_X7_refuse (-2) M).bind fun q3 =>
  some (q3.1, q3.2))
  else ((f_X7_within x2 0 13).bind fun q5 =>
  if q5 = 0 then ((f_X7_refuse (-2) M).bind fun q7 =>
  some (q7.1, q7.2))
  else ((f_X7_within x3 0 12).bind fun q9 =>
  if q9 = 0 then ((f_X7_refuse (-2) M).bind fun q17 =>
  some (q17.1, q17.2))
  else ((f_X1_isFull 1 M).bind fun q11 =>
  if q11 = 0 then ((f_X1_takeIn 1 x1 x2 x3 M).bind fun q13 =>
  some (q13.1, q13.2))
  else ((f_X7_refuse (-6) M).bind fun q15 =>
  some (q15.1, q15.2)))))
def rm_X7_free : Room := { frames := 2, cells := 0, slots := 0, locals := 44 }
def f_X7_free (x1 : Int32) (x2 : Int32) (x3 : Int32) (M : Mm) : Option (Mm × Int32) :=
  (f_X1_hasPerson 1 x1 M).bind fun q1 =>
  if q1 = 0 then ((f_X7_refuse (-2) M).bind fun q3 =>
  some (q3.1, q3.2))
  else ((f_X1_hasDay 1 x2 M).bind fun q5 =>
  if q5 = 0 then ((f_X7_refuse (-2) M).bind fun q14 =>
  some (q14.1, q14.2))
  else (chk x1 8 <|
  (f_X2_isFree (3 + x1.toNatClampNeg) x2 M).bind fun q8 =>
  if q8 = 0 then ((f_X2_changeFree (3 + x1.toNatClampNeg) x2 x3 M).bind fun q10 =>
  some (q10, 0))
  else ((f_X2_changeFree (3 + x1.toNatClampNeg) x2 x3 M).bind fun q12 =>
  some (q12, 1))))
def rm_X7_ask : Room := { frames := 2, cells := 0, slots := 0, locals := 44 }
def f_X7_ask (x1 : Int32) (x2 : Int32) (M : Mm) : Option (Mm × Int32) :=
  if x1 = 0 then ((f_X1_hasPerson 1 x2 M).bind fun q25 =>
  if q25 = 0 then (if x1 = 1 then ((f_X7_within x2 1 8).bind fun q37 =>
  if q37 = 0 then (if x1 = 2 then ((f_X7_within x2 0 12).bind fun q42 =>
  if q42 = 0 then ((f_X7_refuse (-2) M).bind fun q44 =>
  bi q44.2 fun v46 =>
  some (q44.1, v46))
  else (bi (M.1 1 4) fun v47 =>
  bm (wI M 1 4 x2) fun M48 =>
  some (M48, v47)))
  else ((f_X7_refuse (-2) M).bind fun q39 =>
  bi q39.2 fun v41 =>
  some (q39.1, v41)))
  else (bi (M.1 1 3) fun v49 =>
  bm (wI M 1 3 x2) fun M50 =>
  some (M50, v49)))
  else (if x1 = 2 then ((f_X7_within x2 0 12).bind fun q30 =>
  if q30 = 0 then ((f_X7_refuse (-2) M).bind fun q32 =>
  bi q32.2 fun v34 =>
  some (q32.1, v34))
  else (bi (M.1 1 4) fun v35 =>
  bm (wI M 1 4 x2) fun M36 =>
  some (M36, v35)))
  else ((f_X7_refuse (-2) M).bind fun q27 =>
  bi q27.2 fun v29 =>
  some (q27.1, v29))))
  else (bi (M.1 1 2) fun v51 =>
  bm (wI M 1 2 x2) fun M52 =>
  some (M52, v51)))
  else (if x1 = 1 then ((f_X7_within x2 1 8).bind fun q11 =>
  if q11 = 0 then (if x1 = 2 then ((f_X7_within x2 0 12).bind fun q16 =>
  if q16 = 0 then ((f_X7_refuse (-2) M).bind fun q18 =>
  bi q18.2 fun v20 =>
  some (q18.1, v20))
  else (bi (M.1 1 4) fun v21 =>
  bm (wI M 1 4 x2) fun M22 =>
  some (M22, v21)))
  else ((f_X7_refuse (-2) M).bind fun q13 =>
  bi q13.2 fun v15 =>
  some (q13.1, v15)))
  else (bi (M.1 1 3) fun v23 =>
  bm (wI M 1 3 x2) fun M24 =>
  some (M24, v23)))
  else (if x1 = 2 then ((f_X7_within x2 0 12).bind fun q4 =>
  if q4 = 0 then ((f_X7_refuse (-2) M).bind fun q6 =>
  bi q6.2 fun v8 =>
  some (q6.1, v8))
  else (bi (M.1 1 4) fun v9 =>
  bm (wI M 1 4 x2) fun M10 =>
  some (M10, v9)))
  else ((f_X7_refuse (-2) M).bind fun q1 =>
  bi q1.2 fun v3 =>
  some (q1.1, v3))))
def rm_X7_out : Room := { frames := 2, cells := 0, slots := 0, locals := 44 }
def f_X7_out (x1 : Int32) (x2 : Int32) (M : Mm) : Option (Mm × Int32) :=
  (f_X1_hasPerson 1 x1 M).bind fun q1 =>
  if q1 = 0 then ((f_X7_refuse (-2) M).bind fun q3 =>
  some (q3.1, q3.2))
  else ((f_X7_within x2 0 99).bind fun q5 =>
  if q5 = 0 then ((f_X7_refuse (-2) M).bind fun q11 =>
  some (q11.1, q11.2))
  else (chk x1 8 <|
  bi (M.1 (3 + x1.toNatClampNeg) 4) fun v8 =>
  chk x1 8 <|
  bm (wI M (3 + x1.toNatClampNeg) 4 x2) fun M10 =>
  some (M10, v8)))
def rm_X7_feed : Room := { frames := 2, cells := 0, slots := 0, locals := 44 }
def f_X7_feed (x1 : Int32) (M : Mm) : Option (Mm × Int32) :=
  (f_X7_within x1 0 255).bind fun q1 =>
  if q1 = 0 then ((f_X7_refuse (-2) M).bind fun q7 =>
  some (q7.1, q7.2))
  else ((f_X5_takes 38 x1 M).bind fun q3 =>
  if q3.2 = 0 then ((f_X7_refuse (-6) q3.1).bind fun q5 =>
  some (q5.1, q5.2))
  else (some (q3.1, q3.1.1 38 1)))
def rm_X7_wipe : Room := { frames := 0, cells := 0, slots := 0, locals := 0 }
def f_X7_wipe  (M : Mm) : Option (Mm × Int32) :=
  bi (M.1 38 1) fun v1 =>
  bm (wI M 38 1 0) fun M2 =>
  some (M2, v1)
def rm_X7_calendar : Room := { frames := 8, cells := 0, slots := 0, locals := 185 }
def f_X7_calendar  (M : Mm) : Option (Mm × Int32) :=
  (f_X1_takeOver 40 1 M).bind fun q1 =>
  (f_X3_readStatements 37 q1).bind fun q3 =>
  bi q3.2 fun v5 =>
  bm (wI q3.1 38 1 0) fun M6 =>
  if (M6.1 37 2) = (-1) then ((f_X1_takeOver 1 40 M6).bind fun q7 =>
  some (q7, v5))
  else ((f_X7_refuse (-2) M6).bind fun q9 =>
  some (q9.1, (-20) - (q9.1.1 37 2)))
def rm_X7_personOf : Room := { frames := 2, cells := 0, slots := 0, locals := 44 }
def f_X7_personOf (x1 : Int32) (x2 : Int32) (M : Mm) : Option (Mm × Int32) :=
  (f_X1_hasPerson 1 x1 M).bind fun q1 =>
  if q1 = 0 then ((f_X7_refuse (-2) M).bind fun q11 =>
  some (q11.1, q11.2))
  else (chk x1 8 <|
  if x2 = 0 then (some (M, M.1 (3 + x1.toNatClampNeg) 0))
  else if x2 = 1 then (some (M, M.1 (3 + x1.toNatClampNeg) 1))
  else if x2 = 2 then (some (M, M.1 (3 + x1.toNatClampNeg) 2))
  else if x2 = 3 then (some (M, M.1 (3 + x1.toNatClampNeg) 3))
  else if x2 = 4 then (some (M, M.1 (3 + x1.toNatClampNeg) 4))
  else ((f_X7_refuse (-2) M).bind fun q9 =>
  some (q9.1, q9.2)))
def rm_X7_tick : Room := { frames := 6, cells := 0, slots := 0, locals := 136 }
def f_X7_tick (x1 : Int32) (x2 : Int32) (M : Mm) : Option (Mm × Int32) :=
  (f_X1_hasPerson 1 x1 M).bind fun q1 =>
  if q1 = 0 then ((f_X7_refuse (-2) M).bind fun q3 =>
  some (q3.1, q3.2))
  else ((f_X1_hasDay 1 x2 M).bind fun q5 =>
  if q5 = 0 then ((f_X7_refuse (-2) M).bind fun q10 =>
  some (q10.1, q10.2))
  else ((f_X6_reckon 21 1 M).bind fun q7 =>
  chk x1 8 <|
  chk x2 14 <|
  some (q7, q7.1 (23 + x1.toNatClampNeg) x2.toNatClampNeg)))
def rm_X7_count : Room := { frames := 6, cells := 0, slots := 0, locals := 136 }
def f_X7_count (x1 : Int32) (M : Mm) : Option (Mm × Int32) :=
  (f_X1_hasDay 1 x1 M).bind fun q1 =>
  if q1 = 0 then ((f_X7_refuse (-2) M).bind fun q5 =>
  some (q5.1, q5.2))
  else ((f_X6_reckon 21 1 M).bind fun q3 =>
  chk x1 14 <|
  some (q3, q3.1 31 x1.toNatClampNeg))
def rm_X7_best : Room := { frames := 6, cells := 0, slots := 0, locals := 136 }
def f_X7_best (x1 : Int32) (M : Mm) : Option (Mm × Int32) :=
  (f_X7_within x1 0 1).bind fun q1 =>
  if q1 = 0 then ((f_X7_refuse (-2) M).bind fun q13 =>
  some (q13.1, q13.2))
  else (if (M.1 1 1) = 0 then ((f_X7_refuse (-5) M).bind fun q11 =>
  some (q11.1, q11.2))
  else ((f_X6_reckon 21 1 M).bind fun q3 =>
  if x1 = 0 then ((f_X6_bestOfAll 21 q3).bind fun q9 =>
  some (q3, q9))
  else ((f_X6_daysWithYes 21 (q3.1 1 2) q3).bind fun q5 =>
  (f_X6_bestAmong 21 q5 q3).bind fun q7 =>
  some (q3, q7))))
def rm_X7_there : Room := { frames := 3, cells := 0, slots := 0, locals := 65 }
def f_X7_there (x1 : Int32) (M : Mm) : Option (Mm × Int32) :=
  (f_X1_hasDay 1 x1 M).bind fun q1 =>
  if q1 = 0 then ((f_X7_refuse (-2) M).bind fun q3 =>
  some (q3.1, q3.2))
  else ((f_X1_thereOn 1 x1 M).bind fun q5 =>
  some (M, q5))
def rm_X7_all : Room := { frames := 2, cells := 0, slots := 0, locals := 43 }
def f_X7_all  (M : Mm) : Option (Int32) :=
  (f_X1_daysOfAllBut 1 (-1) M).bind fun q1 =>
  some q1
def rm_X7_held : Room := { frames := 6, cells := 0, slots := 0, locals := 136 }
def f_X7_held (x1 : Int32) (x2 : Int32) (M : Mm) : Option (Mm × Int32) :=
  (f_X1_hasPerson 1 x1 M).bind fun q1 =>
  if q1 = 0 then ((f_X7_refuse (-2) M).bind fun q3 =>
  some (q3.1, q3.2))
  else ((f_X7_within x2 0 1).bind fun q5 =>
  if q5 = 0 then ((f_X7_refuse (-2) M).bind fun q18 =>
  some (q18.1, q18.2))
  else ((f_X6_reckon 21 1 M).bind fun q7 =>
  (f_X6_daysWithYes 21 x1 q7).bind fun q9 =>
  if x2 = 1 then ((f_X6_bestOfAll 21 q7).bind fun q13 =>
  bi (q9 &&& ((1 <<< (q13 &&& 31)) ^^^ (-1))) fun v15 =>
  (f_J6_bitCount_0f7a4 v15).bind fun q16 =>
  some (q7, q16))
  else ((f_J6_bitCount_0f7a4 q9).bind fun q11 =>
  some (q7, q11))))
def rm_X7_leftAfterDay : Room := { frames := 0, cells := 0, slots := 0, locals := 0 }
def f_X7_leftAfterDay (x0 : Int32) (x1 : Int32) : Option (Int32) :=
  some (((x0.toInt64 * ((1000000 - x1).toInt64)) / 1000000).toInt32)
def rm_X7_oddsOfDays : Room := { frames := 1, cells := 0, slots := 0, locals := 21 }
def f_X7_oddsOfDays_L5 (x0 : Int32) (x1 : Int32) : Nat → Int32 → Int32 → Option (Int32)
  | 0, _, _ => none
  | n + 1, x2, x3 =>
    if x1 ≤ x3 then (some x2)
  else ((f_X7_leftAfterDay x2 x0).bind fun q1 =>
  bi (x3 + 1) fun v3 =>
  f_X7_oddsOfDays_L5 x0 x1 n q1 v3)
def f_X7_oddsOfDays (x0 : Int32) (x1 : Int32) : Option (Int32) :=
  (f_X7_oddsOfDays_L5 x0 x1 1000 1000000 0).bind fun v6 =>
  some (1000000 - v6)
def rm_X7_oneDay : Room := { frames := 1, cells := 0, slots := 0, locals := 21 }
def f_X7_oneDay_L5 (x0 : Int32) (x1 : Int32) : Nat → Int32 → Int32 → Option (Int32)
  | 0, _, _ => none
  | n + 1, x2, x3 =>
    if x0 ≤ x3 then (some x2)
  else ((f_X7_twelfths x2 x1).bind fun q1 =>
  bi (x3 + 1) fun v3 =>
  f_X7_oneDay_L5 x0 x1 n q1 v3)
def f_X7_oneDay (x0 : Int32) (x1 : Int32) : Option (Int32) :=
  (f_X7_oneDay_L5 x0 x1 1000 1000000 0).bind fun v6 =>
  some v6
def rm_X7_odds : Room := { frames := 2, cells := 0, slots := 0, locals := 44 }
def f_X7_odds (x1 : Int32) (x2 : Int32) (x3 : Int32) (M : Mm) : Option (Mm × Int32) :=
  (f_X7_within x1 1 99).bind fun q1 =>
  if q1 = 0 then ((f_X7_refuse (-2) M).bind fun q3 =>
  some (q3.1, q3.2))
  else ((f_X7_within x2 1 99).bind fun q5 =>
  if q5 = 0 then ((f_X7_refuse (-2) M).bind fun q7 =>
  some (q7.1, q7.2))
  else ((f_X7_within x3 0 12).bind fun q9 =>
  if q9 = 0 then ((f_X7_refuse (-2) M).bind fun q15 =>
  some (q15.1, q15.2))
  else ((f_X7_oneDay x1 x3).bind fun q11 =>
  (f_X7_oddsOfDays q11 x2).bind fun q13 =>
  some (M, q13))))
def rm_X7_offer : Room := { frames := 2, cells := 0, slots := 0, locals := 44 }
def f_X7_offer_L51 (x3 : Int32) (x4 : Int32) (M : Mm) : Nat → Int32 → Int32 → Option ((Unit) ⊕ (Mm × Int32))
  | 0, _, _ => none
  | n + 1, x5, x6 =>
    if 99 < x6 then (some (Sum.inl ()))
  else ((f_X7_leftAfterDay x5 x4).bind fun q13 =>
  if (1000000 - q13) < x3 then (bi (x6 + 1) fun v15 =>
  f_X7_offer_L51 x3 x4 M n q13 v15)
  else (some (Sum.inr (M, x6))))
def f_X7_offer (x1 : Int32) (x2 : Int32) (x3 : Int32) (M : Mm) : Option (Mm × Int32) :=
  (f_X7_within x1 1 99).bind fun q1 =>
  if q1 = 0 then ((f_X7_refuse (-2) M).bind fun q3 =>
  some (q3.1, q3.2))
  else ((f_X7_within x2 0 12).bind fun q5 =>
  if q5 = 0 then ((f_X7_refuse (-2) M).bind fun q7 =>
  some (q7.1, q7.2))
  else ((f_X7_within x3 0 1000000).bind fun q9 =>
  if q9 = 0 then ((f_X7_refuse (-2) M).bind fun q18 =>
  some (q18.1, q18.2))
  else ((f_X7_oneDay x1 x2).bind fun q11 =>
  obS (f_X7_offer_L51 x3 q11 M 1000 1000000 1) (fun r9 => some r9) <| fun _ =>
  some (M, (-1)))))
def rm_X7_never : Room := { frames := 2, cells := 0, slots := 0, locals := 44 }
def f_X7_never_L44 (x1 : Int32) (x2 : Int32) (x3 : Int32) (M : Mm) : Nat → Int32 → Int32 → Option ((Unit) ⊕ (Mm × Int32))
  | 0, _, _ => none
  | n + 1, x4, x5 =>
    if 99 < x5 then (some (Sum.inl ()))
  else ((f_X7_twelfths x4 x2).bind fun q11 =>
  (f_X7_oddsOfDays q11 x1).bind fun q13 =>
  if x3 ≤ q13 then (bi (x5 + 1) fun v15 =>
  f_X7_never_L44 x1 x2 x3 M n q11 v15)
  else (some (Sum.inr (M, x5))))
def f_X7_never (x1 : Int32) (x2 : Int32) (x3 : Int32) (M : Mm) : Option (Mm × Int32) :=
  (f_X7_within x1 1 99).bind fun q1 =>
  if q1 = 0 then ((f_X7_refuse (-2) M).bind fun q3 =>
  some (q3.1, q3.2))
  else ((f_X7_within x2 0 12).bind fun q5 =>
  if q5 = 0 then ((f_X7_refuse (-2) M).bind fun q7 =>
  some (q7.1, q7.2))
  else ((f_X7_within x3 0 1000000).bind fun q9 =>
  if q9 = 0 then ((f_X7_refuse (-2) M).bind fun q18 =>
  some (q18.1, q18.2))
  else (obS (f_X7_never_L44 x1 x2 x3 M 1000 1000000 1) (fun r9 => some r9) <| fun _ =>
  some (M, (-1)))))
def rm_X7_known : Room := { frames := 5, cells := 0, slots := 0, locals := 107 }
def f_X7_known_L40 (x2 : Int32) (M : Mm) : Nat → Int32 → Int32 → Option (Int32)
  | 0, _, _ => none
  | n + 1, x3, x4 =>
    if x2 ≤ x4 then (some x3)
  else ((f_X1_oddsNextDay 1 x3 M).bind fun q9 =>
  bi (x4 + 1) fun v11 =>
  f_X7_known_L40 x2 M n q9 v11)
def f_X7_known (x1 : Int32) (x2 : Int32) (M : Mm) : Option (Mm × Int32) :=
  (f_X1_hasDay 1 x1 M).bind fun q1 =>
  if q1 = 0 then ((f_X7_refuse (-2) M).bind fun q3 =>
  some (q3.1, q3.2))
  else ((f_X7_within x2 0 99).bind fun q5 =>
  if q5 = 0 then ((f_X7_refuse (-2) M).bind fun q15 =>
  some (q15.1, q15.2))
  else ((f_X1_oddsToday 1 x1 M).bind fun q7 =>
  (f_X7_known_L40 x2 M 1000 q7 0).bind fun v14 =>
  some (M, v14)))
def rm_X7_first : Room := { frames := 3, cells := 0, slots := 0, locals := 74 }
def f_X7_first (x1 : Int32) (M : Mm) : Option (Mm × Int32) :=
  (f_X7_within x1 (-1) ((M.1 1 1) - 1)).bind fun q1 =>
  if q1 = 0 then ((f_X7_refuse (-2) M).bind fun q9 =>
  some (q9.1, q9.2))
  else (if (M.1 1 1) = 0 then ((f_X7_refuse (-5) M).bind fun q7 =>
  some (q7.1, q7.2))
  else (if x1 = (-1) then ((f_X1_meanAsked 1 M).bind fun q5 =>
  some (M, q5))
  else ((f_X1_placeByLikely 1 x1 M).bind fun q3 =>
  some (M, q3))))
def rm_X7_meeting : Room := { frames := 5, cells := 0, slots := 0, locals := 112 }
def f_X7_meeting (x1 : Int32) (x2 : Int32) (M : Mm) : Option (Mm × Int32) :=
  (f_X7_within x2 (-1) (x1 - 1)).bind fun q1 =>
  if q1 = 0 then ((f_X7_refuse (-2) M).bind fun q7 =>
  some (q7.1, q7.2))
  else (if x1 ≤ (M.1 1 0) then ((f_X0_chooseMeeting 33 1 x1 M).bind fun q3 =>
  if x2 = (-1) then (some (q3, q3.1 33 3))
  else (chk x2 3 <|
  some (q3, q3.1 36 x2.toNatClampNeg)))
  else ((f_X7_refuse (-5) M).bind fun q5 =>
  some (q5.1, q5.2)))
def rm_X7_two : Room := { frames := 6, cells := 0, slots := 0, locals := 134 }
def f_X7_two (x1 : Int32) (M : Mm) : Option (Mm × Int32) :=
  (f_X7_meeting 2 x1 M).bind fun q1 =>
  some (q1.1, q1.2)
def rm_X7_fixed : Room := { frames := 5, cells := 0, slots := 0, locals := 109 }
def f_X7_fixed_L4  (M : Mm) : Nat → Int32 → Int32 → Option (Int32)
  | 0, _, _ => none
  | n + 1, x1, x2 =>
    if 7 ≤ x2 then (some x1)
  else ((f_X1_totalOnWeekday 1 x2 M).bind fun q1 =>
  (f_X1_totalOnWeekday 1 x1 M).bind fun q3 =>
  if q1 ≤ q3 then (bi (x2 + 1) fun v5 =>
  f_X7_fixed_L4 M n x1 v5)
  else (bi (x2 + 1) fun v6 =>
  f_X7_fixed_L4 M n x2 v6))
def f_X7_fixed  (M : Mm) : Option (Int32) :=
  (f_X7_fixed_L4 M 1000 0 1).bind fun v9 =>
  some v9
def rm_X7_fair : Room := { frames := 5, cells := 0, slots := 0, locals := 112 }
def f_X7_fair (x1 : Int32) (x2 : Int32) (M : Mm) : Option (Mm × Int32) :=
  (f_X7_within x1 1 3).bind fun q1 =>
  if q1 = 0 then ((f_X7_refuse (-2) M).bind fun q3 =>
  some (q3.1, q3.2))
  else ((f_X7_within x2 (-1) (x1 - 1)).bind fun q5 =>
  if q5 = 0 then ((f_X7_refuse (-2) M).bind fun q15 =>
  some (q15.1, q15.2))
  else (if (M.1 1 0) < x1 then ((f_X7_refuse (-5) M).bind fun q7 =>
  some (q7.1, q7.2))
  else (if (M.1 1 1) = 0 then ((f_X7_refuse (-5) M).bind fun q13 =>
  some (q13.1, q13.2))
  else ((f_X0_chooseFair 33 1 x1 M).bind fun q9 =>
  if x2 = (-1) then ((f_X0_greatestOut 33 q9).bind fun q11 =>
  some (q9, q11))
  else (chk x2 3 <|
  some (q9, q9.1 36 x2.toNatClampNeg))))))
def rm_X7_worst : Room := { frames := 2, cells := 0, slots := 0, locals := 44 }
def f_X7_worst_L21  (M : Mm) : Nat → Int32 → Int32 → Option (Int32)
  | 0, _, _ => none
  | n + 1, x1, x2 =>
    if (M.1 1 1) ≤ x2 then (some x1)
  else (chk x2 8 <|
  chk x1 8 <|
  if (M.1 (3 + x2.toNatClampNeg) 4) ≤ (M.1 (3 + x1.toNatClampNeg) 4) then (bi (x2 + 1) fun v3 =>
  f_X7_worst_L21 M n x1 v3)
  else (bi (x2 + 1) fun v4 =>
  f_X7_worst_L21 M n x2 v4))
def f_X7_worst  (M : Mm) : Option (Mm × Int32) :=
  if (M.1 1 1) = 0 then ((f_X7_refuse (-5) M).bind fun q8 =>
  some (q8.1, q8.2))
  else ((f_X7_worst_L21 M 1000 0 1).bind fun v7 =>
  some (M, v7))
def rm_X7_drop : Room := { frames := 2, cells := 0, slots := 0, locals := 44 }
def f_X7_drop_L40 (x1 : Int32) (M : Mm) : Nat → Int32 → Int32 → Int32 → Option (Int32 × Int32)
  | 0, _, _, _ => none
  | n + 1, x2, x3, x4 =>
    if (M.1 1 1) ≤ x4 then (some (x2, x3))
  else ((f_X1_daysOfAllBut 1 x4 M).bind fun q3 =>
  (f_J6_bitCount_0f7a4 q3).bind fun q5 =>
  if q5 ≤ x3 then (bi (x4 + 1) fun v7 =>
  f_X7_drop_L40 x1 M n x2 x3 v7)
  else (bi (x4 + 1) fun v8 =>
  f_X7_drop_L40 x1 M n x4 q5 v8))
def f_X7_drop (x1 : Int32) (M : Mm) : Option (Mm × Int32) :=
  (f_X7_within x1 0 1).bind fun q1 =>
  if q1 = 0 then ((f_X7_refuse (-2) M).bind fun q15 =>
  some (q15.1, q15.2))
  else (if (M.1 1 1) = 0 then ((f_X7_refuse (-5) M).bind fun q13 =>
  some (q13.1, q13.2))
  else (ob2 (f_X7_drop_L40 x1 M 1000 (-1) (-1) 0) fun v11 v12 =>
  if x1 = 0 then (some (M, v11))
  else (some (M, v12))))
def rm_X7_pairs : Room := { frames := 1, cells := 0, slots := 0, locals := 20 }
def f_X7_pairs_L22 (x3 : Int32) (M : Mm) : Nat → Int32 → Int32 → Int32 → Option (Int32 × Int32)
  | 0, _, _, _ => none
  | n + 1, x1, x2, x4 =>
    if (M.1 1 1) ≤ x4 then (some (x1, x2))
  else (chk x3 8 <|
  chk x4 8 <|
  (f_J6_bitCount_0f7a4 ((M.1 (3 + x3.toNatClampNeg) 3) &&& (M.1 (3 + x4.toNatClampNeg) 3))).bind fun q4 =>
  if q4 ≤ x2 then (bi (x4 + 1) fun v6 =>
  f_X7_pairs_L22 x3 M n x1 x2 v6)
  else (bi ((10 * x3) + x4) fun v7 =>
  bi (x4 + 1) fun v8 =>
  f_X7_pairs_L22 x3 M n v7 q4 v8))
def f_X7_pairs_L6  (M : Mm) : Nat → Int32 → Int32 → Int32 → Option (Int32)
  | 0, _, _, _ => none
  | n + 1, x1, x2, x3 =>
    if (M.1 1 1) ≤ x3 then (some x1)
  else (bi (x3 + 1) fun v1 =>
  ob2 (f_X7_pairs_L22 x3 M 1000 x1 x2 v1) fun v11 v12 =>
  bi (x3 + 1) fun v13 =>
  f_X7_pairs_L6 M n v11 v12 v13)
def f_X7_pairs  (M : Mm) : Option (Int32) :=
  (f_X7_pairs_L6 M 1000 (-1) (-1) 0).bind fun v16 =>
  some v16
def rm_X7_quiet : Room := { frames := 6, cells := 0, slots := 0, locals := 136 }
def f_X7_quiet_L15  (M : Mm) : Nat → Int32 → Int32 → Option (Int32)
  | 0, _, _ => none
  | n + 1, x1, x2 =>
    if (M.1 1 1) ≤ x2 then (some x1)
  else ((f_X6_daysWithYes 21 x2 M).bind fun q3 =>
  bi (x1 ||| q3) fun v5 =>
  bi (x2 + 1) fun v6 =>
  f_X7_quiet_L15 M n v5 v6)
def f_X7_quiet  (M : Mm) : Option (Mm × Int32) :=
  (f_X6_reckon 21 1 M).bind fun q1 =>
  (f_X7_quiet_L15 q1 1000 0 0).bind fun v9 =>
  (f_X1_allDays 1 q1).bind fun q10 =>
  some (q1, q10 &&& (v9 ^^^ (-1)))
def rm_X7_agree : Room := { frames := 6, cells := 0, slots := 0, locals := 136 }
def f_X7_agree (x1 : Int32) (x2 : Int32) (M : Mm) : Option (Mm × Int32) :=
  (f_X1_hasPerson 1 x1 M).bind fun q1 =>
  if q1 = 0 then ((f_X7_refuse (-2) M).bind fun q3 =>
  some (q3.1, q3.2))
  else ((f_X1_hasPerson 1 x2 M).bind fun q5 =>
  if q5 = 0 then ((f_X7_refuse (-2) M).bind fun q7 =>
  some (q7.1, q7.2))
  else (if x1 = x2 then ((f_X7_refuse (-2) M).bind fun q15 =>
  some (q15.1, q15.2))
  else ((f_X6_reckon 21 1 M).bind fun q9 =>
  (f_X6_daysWithYes 21 x1 q9).bind fun q11 =>
  (f_X6_daysWithYes 21 x2 q9).bind fun q13 =>
  some (q9, q11 &&& q13))))
def rm_X7_votes : Room := { frames := 6, cells := 0, slots := 0, locals := 136 }
def f_X7_votes_L43 (x1 : Int32) (x2 : Int32) (M : Mm) : Nat → Int32 → Int32 → Option (Int32)
  | 0, _, _ => none
  | n + 1, x3, x4 =>
    if (M.1 1 1) ≤ x4 then (some x3)
  else (chk x4 8 <|
  chk x1 14 <|
  if (M.1 (23 + x4.toNatClampNeg) x1.toNatClampNeg) = x2 then (bi (x3 + 1) fun v11 =>
  bi (x4 + 1) fun v12 =>
  f_X7_votes_L43 x1 x2 M n v11 v12)
  else (bi (x4 + 1) fun v10 =>
  f_X7_votes_L43 x1 x2 M n x3 v10))
def f_X7_votes (x1 : Int32) (x2 : Int32) (M : Mm) : Option (Mm × Int32) :=
  (f_X1_hasDay 1 x1 M).bind fun q1 =>
  if q1 = 0 then ((f_X7_refuse (-2) M).bind fun q3 =>
  some (q3.1, q3.2))
  else ((f_X7_within x2 0 2).bind fun q5 =>
  if q5 = 0 then ((f_X7_refuse (-2) M).bind fun q16 =>
  some (q16.1, q16.2))
  else ((f_X6_reckon 21 1 M).bind fun q7 =>
  (f_X7_votes_L43 x1 x2 q7 1000 0 0).bind fun v15 =>
  some (q7, v15)))
def rm_X7_order : Room := { frames := 6, cells := 0, slots := 0, locals := 136 }
def f_X7_order (x1 : Int32) (M : Mm) : Option (Mm × Int32) :=
  (f_X1_hasDay 1 x1 M).bind fun q1 =>
  if q1 = 0 then ((f_X7_refuse (-2) M).bind fun q7 =>
  some (q7.1, q7.2))
  else ((f_X6_reckon 21 1 M).bind fun q3 =>
  (f_X6_dayAtPlace 21 x1 q3).bind fun q5 =>
  some (q3, q5))
def rm_X7_without : Room := { frames := 6, cells := 0, slots := 0, locals := 136 }
def f_X7_without (x1 : Int32) (M : Mm) : Option (Mm × Int32) :=
  (f_X1_hasPerson 1 x1 M).bind fun q1 =>
  if q1 = 0 then ((f_X7_refuse (-2) M).bind fun q9 =>
  some (q9.1, q9.2))
  else ((f_X6_reckon 21 1 M).bind fun q3 =>
  (f_X6_leaveOut 21 x1 q3).bind fun q5 =>
  (f_X6_bestOfAll 21 q5).bind fun q7 =>
  some (q5, q7))
def rm_X7_until : Room := { frames := 5, cells := 0, slots := 0, locals := 107 }
def f_X7_until_L40 (x2 : Int32) (M : Mm) : Nat → Int32 → Int32 → Option ((Unit) ⊕ (Mm × Int32))
  | 0, _, _ => none
  | n + 1, x3, x4 =>
    if 99 < x4 then (some (Sum.inl ()))
  else (if x2 ≤ x3 then ((f_X1_oddsNextDay 1 x3 M).bind fun q9 =>
  bi (x4 + 1) fun v11 =>
  f_X7_until_L40 x2 M n q9 v11)
  else (some (Sum.inr (M, x4))))
def f_X7_until (x1 : Int32) (x2 : Int32) (M : Mm) : Option (Mm × Int32) :=
  (f_X1_hasDay 1 x1 M).bind fun q1 =>
  if q1 = 0 then ((f_X7_refuse (-2) M).bind fun q3 =>
  some (q3.1, q3.2))
  else ((f_X7_within x2 0 1000000).bind fun q5 =>
  if q5 = 0 then ((f_X7_refuse (-2) M).bind fun q14 =>
  some (q14.1, q14.2))
  else ((f_X1_oddsToday 1 x1 M).bind fun q7 =>
  obS (f_X7_until_L40 x2 M 1000 q7 0) (fun r9 => some r9) <| fun _ =>
  some (M, (-1))))
def rm_X7_alone : Room := { frames := 1, cells := 0, slots := 0, locals := 23 }
def f_X7_alone_L4  (M : Mm) : Nat → Int32 → Int32 → Option (Int32)
  | 0, _, _ => none
  | n + 1, x1, x2 =>
    if (M.1 1 1) ≤ x2 then (some x1)
  else ((f_X1_howManyShare 1 x2 M).bind fun q1 =>
  if q1 = 0 then (bi (x1 ||| (1 <<< (x2 &&& 31))) fun v4 =>
  bi (x2 + 1) fun v5 =>
  f_X7_alone_L4 M n v4 v5)
  else (bi (x2 + 1) fun v3 =>
  f_X7_alone_L4 M n x1 v3))
def f_X7_alone  (M : Mm) : Option (Int32) :=
  (f_X7_alone_L4 M 1000 0 0).bind fun v8 =>
  some v8
def rm_X7_with : Room := { frames := 5, cells := 0, slots := 0, locals := 109 }
def f_X7_with (x1 : Int32) (M : Mm) : Option (Mm × Int32) :=
  (f_X7_within x1 0 8).bind fun q1 =>
  if q1 = 0 then ((f_X7_refuse (-2) M).bind fun q3 =>
  some (q3.1, q3.2))
  else ((f_X1_daysWithAtLeast 1 x1 M).bind fun q5 =>
  some (M, q5))
def rm_X7_reach : Room := { frames := 2, cells := 0, slots := 0, locals := 44 }
def f_X7_reach (x1 : Int32) (M : Mm) : Option (Mm × Int32) :=
  (f_X1_hasPerson 1 x1 M).bind fun q1 =>
  if q1 = 0 then ((f_X7_refuse (-2) M).bind fun q3 =>
  some (q3.1, q3.2))
  else ((f_X1_howManyShare 1 x1 M).bind fun q5 =>
  some (M, q5))
def rm_X7_three : Room := { frames := 6, cells := 0, slots := 0, locals := 134 }
def f_X7_three (x1 : Int32) (M : Mm) : Option (Mm × Int32) :=
  (f_X7_meeting 3 x1 M).bind fun q1 =>
  some (q1.1, q1.2)
def rm_X7_run : Room := { frames := 5, cells := 0, slots := 0, locals := 109 }
def f_X7_run_L22 (x1 : Int32) (M : Mm) : Nat → Int32 → Int32 → Int32 → Option (Int32)
  | 0, _, _, _ => none
  | n + 1, x2, x3, x4 =>
    if (M.1 1 0) ≤ x4 then (some x3)
  else ((f_X7_hasBit x1 x4).bind fun q3 =>
  if q3 = 0 then (bi (imax x3 0) fun v5 =>
  bi (x4 + 1) fun v6 =>
  f_X7_run_L22 x1 M n 0 v5 v6)
  else (bi (x2 + 1) fun v7 =>
  bi (imax x3 v7) fun v8 =>
  bi (x4 + 1) fun v9 =>
  f_X7_run_L22 x1 M n v7 v8 v9))
def f_X7_run  (M : Mm) : Option (Int32) :=
  (f_X1_daysWithAtLeast 1 (M.1 1 3) M).bind fun q1 =>
  (f_X7_run_L22 q1 M 1000 0 0 0).bind fun v12 =>
  some v12
def rm_X7_weeks : Room := { frames := 5, cells := 0, slots := 0, locals := 109 }
def f_X7_weeks (x1 : Int32) (M : Mm) : Option (Mm × Int32) :=
  (f_X7_within x1 0 6).bind fun q1 =>
  if q1 = 0 then ((f_X7_refuse (-2) M).bind fun q3 =>
  some (q3.1, q3.2))
  else ((f_X1_totalOnWeekday 1 x1 M).bind fun q5 =>
  some (M, q5))
def rm_X7_spread : Room := { frames := 1, cells := 0, slots := 0, locals := 21 }
def f_X7_spread_L19  (M : Mm) : Nat → Int32 → Int32 → Int32 → Option (Int32 × Int32)
  | 0, _, _, _ => none
  | n + 1, x1, x2, x3 =>
    if (M.1 1 1) ≤ x3 then (some (x1, x2))
  else (chk x3 8 <|
  bi (imin x1 (M.1 (3 + x3.toNatClampNeg) 4)) fun v2 =>
  chk x3 8 <|
  bi (imax x2 (M.1 (3 + x3.toNatClampNeg) 4)) fun v4 =>
  bi (x3 + 1) fun v5 =>
  f_X7_spread_L19 M n v2 v4 v5)
def f_X7_spread  (M : Mm) : Option (Int32) :=
  if (M.1 1 1) = 0 then (some 0)
  else (ob2 (f_X7_spread_L19 M 1000 99 0 0) fun v8 v9 =>
  some (v9 - v8))
def rm_X7_mean : Room := { frames := 1, cells := 0, slots := 0, locals := 20 }
def f_X7_mean_L17  (M : Mm) : Nat → Int32 → Int32 → Option (Int32)
  | 0, _, _ => none
  | n + 1, x1, x2 =>
    if (M.1 1 1) ≤ x2 then (some x1)
  else (chk x2 8 <|
  (f_J6_bitCount_0f7a4 (M.1 (3 + x2.toNatClampNeg) 3)).bind fun q2 =>
  bi (x1 + q2) fun v4 =>
  bi (x2 + 1) fun v5 =>
  f_X7_mean_L17 M n v4 v5)
def f_X7_mean  (M : Mm) : Option (Int32) :=
  if 1 ≤ (M.1 1 0) then ((f_X7_mean_L17 M 1000 0 0).bind fun v8 =>
  chz (M.1 1 0) <|
  some ((1000 * v8) / (M.1 1 0)))
  else (some 0)
def rm_X7_firstBit : Room := { frames := 1, cells := 0, slots := 0, locals := 21 }
def f_X7_firstBit_L2 (x0 : Int32) : Nat → Int32 → Option ((Unit) ⊕ (Int32))
  | 0, _ => none
  | n + 1, x2 =>
    if 14 ≤ x2 then (some (Sum.inl ()))
  else ((f_X7_hasBit x0 x2).bind fun q1 =>
  if q1 = 0 then (bi (x2 + 1) fun v3 =>
  f_X7_firstBit_L2 x0 n v3)
  else (some (Sum.inr x2)))
def f_X7_firstBit (x0 : Int32) (x1 : Int32) : Option (Int32) :=
  obS (f_X7_firstBit_L2 x0 1000 x1) (fun r9 => some r9) <| fun _ =>
  some (-1)
def rm_X7_withHost : Room := { frames := 2, cells := 0, slots := 0, locals := 44 }
def f_X7_withHost (x1 : Int32) (M : Mm) : Option (Mm × Int32) :=
  (f_X1_hasPerson 1 x1 M).bind fun q1 =>
  if q1 = 0 then ((f_X7_refuse (-2) M).bind fun q3 =>
  some (q3.1, q3.2))
  else ((f_X1_hasPerson 1 (M.1 1 2) M).bind fun q5 =>
  if q5 = 0 then ((f_X7_refuse (-2) M).bind fun q11 =>
  some (q11.1, q11.2))
  else (chk x1 8 <|
  chk (M.1 1 2) 8 <|
  (f_X7_firstBit ((M.1 (3 + x1.toNatClampNeg) 3) &&& (M.1 (3 + (M.1 1 2).toNatClampNeg) 3)) 0).bind fun q9 =>
  some (M, q9)))
def rm_X7_addToCrowd : Room := { frames := 1, cells := 0, slots := 0, locals := 21 }
def f_X7_addToCrowd_L3 (x1 : Int32) : Nat → Int32 → Mm → Option (Mm)
  | 0, _, _ => none
  | n + 1, x2, M =>
    if x2 ≤ 0 then (some M)
  else (chk x2 21 <|
  (f_X7_twelfths (M.1 51 x2.toNatClampNeg) (12 - x1)).bind fun q1 =>
  chk (x2 - 1) 21 <|
  (f_X7_twelfths (M.1 51 (x2 - 1).toNatClampNeg) x1).bind fun q3 =>
  chk x2 21 <| bm (wI M 51 x2.toNatClampNeg (q1 + q3)) fun M5 =>
  bi (x2 + (-1)) fun v6 =>
  f_X7_addToCrowd_L3 x1 n v6 M5)
def f_X7_addToCrowd (x1 : Int32) (M : Mm) : Option (Mm) :=
  (f_X7_addToCrowd_L3 x1 1000 20 M).bind fun M9 =>
  (f_X7_twelfths (M9.1 51 0) (12 - x1)).bind fun q10 =>
  bm (wI M9 51 0 q10) fun M12 =>
  some M12
def rm_X7_most : Room := { frames := 2, cells := 0, slots := 0, locals := 44 }
def f_X7_most_L56 (x1 : Int32) (x2 : Int32) (x3 : Int32) : Nat → Int32 → Mm → Option (Mm)
  | 0, _, _ => none
  | n + 1, x4, M =>
    if x1 ≤ x4 then (some M)
  else ((f_X7_addToCrowd x2 M).bind fun q14 =>
  bi (x4 + 1) fun v16 =>
  f_X7_most_L56 x1 x2 x3 n v16 q14)
def f_X7_most_L79  (M : Mm) : Nat → Int32 → Int32 → Option (Int32)
  | 0, _, _ => none
  | n + 1, x4, x5 =>
    if 20 < x5 then (some x4)
  else (chk x5 21 <|
  bi (x4 + (M.1 51 x5.toNatClampNeg)) fun v20 =>
  bi (x5 + 1) fun v21 =>
  f_X7_most_L79 M n v20 v21)
def f_X7_most (x1 : Int32) (x2 : Int32) (x3 : Int32) (M : Mm) : Option (Mm × Int32) :=
  (f_X7_within x1 0 20).bind fun q1 =>
  if q1 = 0 then ((f_X7_refuse (-2) M).bind fun q3 =>
  some (q3.1, q3.2))
  else ((f_X7_within x2 0 12).bind fun q5 =>
  if q5 = 0 then ((f_X7_refuse (-2) M).bind fun q7 =>
  some (q7.1, q7.2))
  else ((f_X7_within x3 0 20).bind fun q9 =>
  if q9 = 0 then ((f_X7_refuse (-2) M).bind fun q25 =>
  some (q25.1, q25.2))
  else ((f_J7_fill_53178 21 51 0 M).bind fun q11 =>
  bm (wI q11 51 0 1000000) fun M13 =>
  (f_X7_most_L56 x1 x2 x3 1000 0 M13).bind fun M19 =>
  (f_X7_most_L79 M19 1000 0 x3).bind fun v24 =>
  some (M19, v24))))
def rm_X7_later : Room := { frames := 5, cells := 0, slots := 0, locals := 109 }
def f_X7_later (x1 : Int32) (M : Mm) : Option (Mm × Int32) :=
  (f_X1_hasDay 1 x1 M).bind fun q1 =>
  if q1 = 0 then ((f_X7_refuse (-2) M).bind fun q3 =>
  some (q3.1, q3.2))
  else ((f_X1_daysWithAtLeast 1 (M.1 1 3) M).bind fun q5 =>
  (f_X7_firstBit q5 x1).bind fun q7 =>
  some (M, q7))
def rm_X7_troubleOfTicks : Room := { frames := 3, cells := 0, slots := 0, locals := 63 }
def f_X7_troubleOfTicks_L53 (x1 : Int32) (M : Mm) : Nat → Int32 → Option ((Unit) ⊕ (Int32))
  | 0, _ => none
  | n + 1, x4 =>
    if (M.1 1 0) ≤ x4 then (some (Sum.inl ()))
  else (chk x1 8 <|
  (f_X4_elementAt (53 + 2 * x1.toNatClampNeg) x4 M).bind fun q5 =>
  if (lg_cmp q5 0) < 0 then (some (Sum.inr (-5)))
  else (if (lg_cmp q5 2) ≤ 0 then (bi (x4 + 1) fun v7 =>
  f_X7_troubleOfTicks_L53 x1 M n v7)
  else (some (Sum.inr (-5)))))
def f_X7_troubleOfTicks (x1 : Int32) (x2 : Int32) (M : Mm) : Option (Int32) :=
  (f_X1_hasPerson 1 x2 M).bind fun q1 =>
  if q1 = 0 then (if ((-2) : Int32) = 0 then (chk x1 8 <|
  if (M.1 1 0) ≤ (M.1 (53 + 2 * x1.toNatClampNeg) 1) then (obS (f_X7_troubleOfTicks_L53 x1 M 1000 0) (fun r9 => some r9) <| fun _ =>
  some 0)
  else (some (-2)))
  else (some (-2)))
  else ((f_X7_troubleOfRow x1 M).bind fun q10 =>
  if q10 = 0 then (chk x1 8 <|
  if (M.1 1 0) ≤ (M.1 (53 + 2 * x1.toNatClampNeg) 1) then (obS (f_X7_troubleOfTicks_L53 x1 M 1000 0) (fun r9 => some r9) <| fun _ =>
  some 0)
  else (some (-2)))
  else (some q10))
def rm_X7_meant : Room := { frames := 5, cells := 0, slots := 0, locals := 115 }
def f_X7_meant_L35 (x1 : Int32) (x2 : Int32) (M : Mm) : Nat → Int32 → Int32 → Option (Int32)
  | 0, _, _ => none
  | n + 1, x4, x5 =>
    if 5 < x5 then (some x4)
  else (chk x2 8 <|
  chk x1 8 <|
  (f_X6_ticksSo 21 1 (3 + x2.toNatClampNeg) x5 (53 + 2 * x1.toNatClampNeg) M).bind fun q7 =>
  if q7 = 0 then (bi (x5 + 1) fun v9 =>
  f_X7_meant_L35 x1 x2 M n x4 v9)
  else (bi (x4 ||| (1 <<< (x5 &&& 31))) fun v10 =>
  bi (x5 + 1) fun v11 =>
  f_X7_meant_L35 x1 x2 M n v10 v11))
def f_X7_meant (x1 : Int32) (x2 : Int32) (M : Mm) : Option (Mm × Int32) :=
  (f_X7_troubleOfTicks x1 x2 M).bind fun q1 =>
  if q1 = 0 then ((f_X6_reckonAheadOf 21 1 x2 M).bind fun q3 =>
  (f_X7_meant_L35 x1 x2 q3 1000 0 0).bind fun v14 =>
  some (q3, v14))
  else ((f_X7_refuse q1 M).bind fun q15 =>
  some (q15.1, q15.2))
def rm_X7_freed : Room := { frames := 4, cells := 0, slots := 0, locals := 89 }
def f_X7_freed_L37 (x1 : Int32) (x4 : Int32) (M : Mm) : Nat → Int32 → Int32 → Option (Int32)
  | 0, _, _ => none
  | n + 1, x5, x6 =>
    if (M.1 1 0) ≤ x6 then (some x5)
  else (chk x1 8 <|
  (f_X4_elementAt (53 + 2 * x1.toNatClampNeg) x6 M).bind fun q6 =>
  if (lg_cmp q6 2) = 0 then (if x4 = 1 then (if (lg_cmp q6 1) = 0 then (if x4 = 2 then (bi (x5 ||| (1 <<< (x6 &&& 31))) fun v16 =>
  bi (x6 + 1) fun v17 =>
  f_X7_freed_L37 x1 x4 M n v16 v17)
  else (bi (x6 + 1) fun v15 =>
  f_X7_freed_L37 x1 x4 M n x5 v15))
  else (bi (x6 + 1) fun v14 =>
  f_X7_freed_L37 x1 x4 M n x5 v14))
  else (bi (x5 ||| (1 <<< (x6 &&& 31))) fun v12 =>
  bi (x6 + 1) fun v13 =>
  f_X7_freed_L37 x1 x4 M n v12 v13))
  else (if (lg_cmp q6 1) = 0 then (if x4 = 2 then (bi (x5 ||| (1 <<< (x6 &&& 31))) fun v10 =>
  bi (x6 + 1) fun v11 =>
  f_X7_freed_L37 x1 x4 M n v10 v11)
  else (bi (x6 + 1) fun v9 =>
  f_X7_freed_L37 x1 x4 M n x5 v9))
  else (bi (x6 + 1) fun v8 =>
  f_X7_freed_L37 x1 x4 M n x5 v8)))
def f_X7_freed (x1 : Int32) (x2 : Int32) (M : Mm) : Option (Mm × Int32) :=
  (f_X7_troubleOfTicks x1 x2 M).bind fun q1 =>
  if q1 = 0 then (chk x2 8 <|
  bi (M.1 (3 + x2.toNatClampNeg) 0) fun v4 =>
  (f_X7_freed_L37 x1 v4 M 1000 0 0).bind fun v20 =>
  some (M, v20))
  else ((f_X7_refuse q1 M).bind fun q21 =>
  some (q21.1, q21.2))
def rm_X7_firstWrong : Room := { frames := 4, cells := 0, slots := 0, locals := 86 }
def f_X7_firstWrong_L7 (o1 : Nat) (x2 : Int32) (M : Mm) : Nat → Int64 → Int32 → Option ((Unit) ⊕ (Int32))
  | 0, _, _ => none
  | n + 1, x3, x5 =>
    if x2 ≤ x5 then (some (Sum.inl ()))
  else ((f_X4_elementAt o1 x5 M).bind fun q1 =>
  if (lg_cmp q1 x3) ≤ 0 then (some (Sum.inr x5))
  else (if 0 ≤ (lg_cmp q1 ((M.1 1 0).toInt64)) then (some (Sum.inr x5))
  else ((f_X1_howManyOn 1 q1.toInt32 M).bind fun q3 =>
  if (M.1 1 3) ≤ q3 then (bi (x5 + 1) fun v5 =>
  f_X7_firstWrong_L7 o1 x2 M n q1 v5)
  else (some (Sum.inr x5)))))
def f_X7_firstWrong (o1 : Nat) (x2 : Int32) (M : Mm) : Option (Int32) :=
  obS (f_X7_firstWrong_L7 o1 x2 M 1000 (-1) 0) (fun r9 => some r9) <| fun _ =>
  some (-1)
def rm_X7_troubleOfPlan : Room := { frames := 3, cells := 0, slots := 0, locals := 63 }
def f_X7_troubleOfPlan (x1 : Int32) (x2 : Int32) (M : Mm) : Option (Int32) :=
  (f_X7_within x2 0 40).bind fun q1 =>
  if q1 = 0 then (if ((-2) : Int32) = 0 then (chk x1 8 <|
  if x2 ≤ (M.1 (53 + 2 * x1.toNatClampNeg) 1) then (some (-2))
  else (some (-2)))
  else (some (-2)))
  else ((f_X7_troubleOfRow x1 M).bind fun q4 =>
  if q4 = 0 then (chk x1 8 <|
  if x2 ≤ (M.1 (53 + 2 * x1.toNatClampNeg) 1) then (some q4)
  else (some (-2)))
  else (some q4))
def rm_X7_judge : Room := { frames := 5, cells := 0, slots := 0, locals := 113 }
def f_X7_judge (x1 : Int32) (x2 : Int32) (M : Mm) : Option (Mm × Int32) :=
  (f_X7_troubleOfPlan x1 x2 M).bind fun q1 =>
  if q1 = 0 then (chk x1 8 <|
  (f_X7_firstWrong (53 + 2 * x1.toNatClampNeg) x2 M).bind fun q6 =>
  some (M, q6))
  else ((f_X7_refuse q1 M).bind fun q3 =>
  some (q3.1, q3.2))
def rm_X7_troubleOfRightPlan : Room := { frames := 5, cells := 0, slots := 0, locals := 113 }
def f_X7_troubleOfRightPlan (x1 : Int32) (x2 : Int32) (M : Mm) : Option (Int32) :=
  (f_X7_troubleOfPlan x1 x2 M).bind fun q1 =>
  if q1 = 0 then (chk x1 8 <|
  (f_X7_firstWrong (53 + 2 * x1.toNatClampNeg) x2 M).bind fun q4 =>
  if q4 = (-1) then (some q1)
  else (some (-5)))
  else (some q1)
def rm_X7_leftOut : Room := { frames := 6, cells := 0, slots := 0, locals := 136 }
def f_X7_leftOut_L43 (x1 : Int32) (x2 : Int32) (x3 : Int32) (M : Mm) : Nat → Int32 → Int32 → Int32 → Option (Int32 × Int32)
  | 0, _, _, _ => none
  | n + 1, x5, x6, x7 =>
    if (M.1 1 1) ≤ x7 then (some (x5, x6))
  else (chk x1 8 <|
  chk x7 8 <|
  (f_X4_daysNotFree (53 + 2 * x1.toNatClampNeg) (3 + x7.toNatClampNeg) x2 M).bind fun q5 =>
  bi (x5 + q5) fun v7 =>
  chk x7 8 <|
  (f_X2_outAfter (3 + x7.toNatClampNeg) q5 M).bind fun q9 =>
  bi (imax x6 q9) fun v11 =>
  bi (x7 + 1) fun v12 =>
  f_X7_leftOut_L43 x1 x2 x3 M n v7 v11 v12)
def f_X7_leftOut (x1 : Int32) (x2 : Int32) (x3 : Int32) (M : Mm) : Option (Mm × Int32) :=
  (f_X7_within x3 0 1).bind fun q1 =>
  if q1 = 0 then (if ((-2) : Int32) = 0 then (ob2 (f_X7_leftOut_L43 x1 x2 x3 M 1000 0 0 0) fun v15 v16 =>
  if x3 = 0 then (some (M, v15))
  else (some (M, v16)))
  else ((f_X7_refuse (-2) M).bind fun q17 =>
  some (q17.1, q17.2)))
  else ((f_X7_troubleOfRightPlan x1 x2 M).bind fun q19 =>
  if q19 = 0 then (ob2 (f_X7_leftOut_L43 x1 x2 x3 M 1000 0 0 0) fun v23 v24 =>
  if x3 = 0 then (some (M, v23))
  else (some (M, v24)))
  else ((f_X7_refuse q19 M).bind fun q25 =>
  some (q25.1, q25.2)))
def rm_X7_done : Room := { frames := 6, cells := 0, slots := 0, locals := 136 }
def f_X7_done_L20 (x1 : Int32) (x2 : Int32) : Nat → Int32 → Mm → Option (Mm)
  | 0, _, _ => none
  | n + 1, x4, M =>
    if x2 ≤ x4 then (some M)
  else (chk x1 8 <|
  (f_X4_elementAt (53 + 2 * x1.toNatClampNeg) x4 M).bind fun q4 =>
  (f_X1_dinnerOn 1 q4.toInt32 M).bind fun q6 =>
  bi (x4 + 1) fun v8 =>
  f_X7_done_L20 x1 x2 n v8 q6)
def f_X7_done (x1 : Int32) (x2 : Int32) (M : Mm) : Option (Mm × Int32) :=
  (f_X7_troubleOfRightPlan x1 x2 M).bind fun q1 =>
  if q1 = 0 then ((f_X7_done_L20 x1 x2 1000 0 M).bind fun M11 =>
  some (M11, M11.1 1 5))
  else ((f_X7_refuse q1 M).bind fun q12 =>
  some (q12.1, q12.2))
def rm_X7_dine : Room := { frames := 4, cells := 0, slots := 0, locals := 86 }
def f_X7_dine (x1 : Int32) (M : Mm) : Option (Mm × Int32) :=
  (f_X1_hasDay 1 x1 M).bind fun q1 =>
  if q1 = 0 then ((f_X7_refuse (-2) M).bind fun q11 =>
  some (q11.1, q11.2))
  else ((f_X1_howManyOn 1 x1 M).bind fun q3 =>
  if (M.1 1 3) ≤ q3 then ((f_X1_dinnerOn 1 x1 M).bind fun q5 =>
  (f_X1_howManyOn 1 x1 q5).bind fun q7 =>
  some (q5, q7))
  else ((f_X7_refuse (-5) M).bind fun q9 =>
  some (q9.1, q9.2)))
def rm_X7_clear : Room := { frames := 2, cells := 0, slots := 0, locals := 44 }
def f_X7_clear (x1 : Int32) (M : Mm) : Option (Mm × Int32) :=
  (f_X1_hasPerson 1 x1 M).bind fun q1 =>
  if q1 = 0 then ((f_X7_refuse (-2) M).bind fun q8 =>
  some (q8.1, q8.2))
  else (chk x1 8 <|
  (f_J6_bitCount_0f7a4 (M.1 (3 + x1.toNatClampNeg) 3)).bind fun q4 =>
  chk x1 8 <|
  bm (wI M (3 + x1.toNatClampNeg) 3 0) fun M7 =>
  some (M7, q4))
def rm_X7_pass : Room := { frames := 3, cells := 0, slots := 0, locals := 65 }
def f_X7_pass_L21 (x1 : Int32) : Nat → Int32 → Int32 → Mm → Option (Int32 × Mm)
  | 0, _, _, _ => none
  | n + 1, x2, x3, M =>
    if x1 ≤ x3 then (some (x2, M))
  else ((f_X1_passDay 1 M).bind fun q3 =>
  bi (x2 + q3.2) fun v5 =>
  bi (x3 + 1) fun v6 =>
  f_X7_pass_L21 x1 n v5 v6 q3.1)
def f_X7_pass (x1 : Int32) (M : Mm) : Option (Mm × Int32) :=
  (f_X7_within x1 1 99).bind fun q1 =>
  if q1 = 0 then ((f_X7_refuse (-2) M).bind fun q11 =>
  some (q11.1, q11.2))
  else (ob2 (f_X7_pass_L21 x1 1000 0 0 M) fun v9 M10 =>
  some (M10, v9))
def rm_X7_fill : Room := { frames := 2, cells := 0, slots := 0, locals := 45 }
def f_X7_fill  (M : Mm) : Option (Mm × Int32) :=
  (f_X1_fillByDraws 1 M).bind fun q1 =>
  some (q1.1, q1.2)
def rm_X7_years : Room := { frames := 6, cells := 0, slots := 0, locals := 136 }
def f_X7_years_L44 (x1 : Int32) (x2 : Int32) : Nat → Int32 → Mm → Option (Mm)
  | 0, _, _ => none
  | n + 1, x3, M =>
    if x1 ≤ x3 then (some M)
  else ((f_X1_fillByDraws 1 M).bind fun q4 =>
  (f_X6_reckon 21 1 q4.1).bind fun q6 =>
  (f_X6_bestOfAll 21 q6).bind fun q8 =>
  (f_X1_howManyOn 1 q8 q6).bind fun q10 =>
  if q10 < (q6.1 1 3) then (bi (x3 + 1) fun v12 =>
  f_X7_years_L44 x1 x2 n v12 q6)
  else ((f_X1_dinnerOn 1 q8 q6).bind fun q13 =>
  bi (x3 + 1) fun v15 =>
  f_X7_years_L44 x1 x2 n v15 q13))
def f_X7_years (x1 : Int32) (M : Mm) : Option (Mm × Int32) :=
  (f_X7_within x1 1 50).bind fun q1 =>
  if q1 = 0 then ((f_X7_refuse (-2) M).bind fun q21 =>
  some (q21.1, q21.2))
  else (if (M.1 1 1) = 0 then ((f_X7_refuse (-5) M).bind fun q19 =>
  some (q19.1, q19.2))
  else (bi (M.1 1 5) fun v3 =>
  (f_X7_years_L44 x1 v3 1000 0 M).bind fun M18 =>
  some (M18, (M18.1 1 5) - v3)))
def rm_X7_seed : Room := { frames := 0, cells := 0, slots := 0, locals := 0 }
def f_X7_seed (x1 : Int32) (M : Mm) : Option (Mm × Int32) :=
  bi (M.1 1 6) fun v1 =>
  bm (wI M 1 6 x1) fun M2 =>
  some (M2, v1)
def rm_X7_image : Room := { frames := 2, cells := 0, slots := 0, locals := 43 }
def f_X7_image  (M : Mm) : Option (Mm × Int32) :=
  (f_X1_takeOver 11 1 M).bind fun q1 =>
  bm (wI q1 0 2 1) fun M3 =>
  some (M3, 1)
def rm_X7_back : Room := { frames := 2, cells := 0, slots := 0, locals := 44 }
def f_X7_back_L27  : Nat → Int32 → Mm → Option (Mm)
  | 0, _, _ => none
  | n + 1, x1, M =>
    if 8 ≤ x1 then (some M)
  else (chk x1 8 <|
  (f_X4_holdsPerson (53 + 2 * x1.toNatClampNeg) M).bind fun q4 =>
  if q4 = 0 then (bi (x1 + 1) fun v6 =>
  f_X7_back_L27 n v6 M)
  else (chk x1 8 <|
  (f_X4_personHeld (53 + 2 * x1.toNatClampNeg) M).bind fun q8 =>
  (f_X1_hasPerson 1 q8 M).bind fun q10 =>
  if q10 = 0 then (chk x1 8 <|
  (f_X4_holdNothing (53 + 2 * x1.toNatClampNeg) M).bind fun q14 =>
  bi (x1 + 1) fun v16 =>
  f_X7_back_L27 n v16 q14)
  else (bi (x1 + 1) fun v12 =>
  f_X7_back_L27 n v12 M)))
def f_X7_back  (M : Mm) : Option (Mm × Int32) :=
  if (M.1 0 2) = 0 then ((f_X7_refuse (-5) M).bind fun q20 =>
  some (q20.1, q20.2))
  else ((f_X1_takeOver 1 11 M).bind fun q1 =>
  (f_X7_back_L27 1000 0 q1).bind fun M19 =>
  some (M19, 1))
def rm_X7_shelvesInUse : Room := { frames := 0, cells := 0, slots := 0, locals := 0 }
def f_X7_shelvesInUse_L4  (M : Mm) : Nat → Int32 → Int32 → Option (Int32)
  | 0, _, _ => none
  | n + 1, x1, x2 =>
    if 8 ≤ x2 then (some x1)
  else (chk x2 8 <|
  if (M.1 (53 + 2 * x2.toNatClampNeg) 0) = (-1) then (bi (x2 + 1) fun v2 =>
  f_X7_shelvesInUse_L4 M n x1 v2)
  else (bi (x1 + 1) fun v3 =>
  bi (x2 + 1) fun v4 =>
  f_X7_shelvesInUse_L4 M n v3 v4))
def f_X7_shelvesInUse  (M : Mm) : Option (Int32) :=
  (f_X7_shelvesInUse_L4 M 1000 0 0).bind fun v7 =>
  some v7
def rm_X7_status : Room := { frames := 1, cells := 0, slots := 0, locals := 22 }
def f_X7_status (x1 : Int32) (M : Mm) : Option (Int32) :=
  if x1 = 0 then (some (M.1 1 1))
  else if x1 = 1 then (some (M.1 1 0))
  else if x1 = 2 then (some (M.1 1 2))
  else if x1 = 3 then (some (M.1 1 3))
  else if x1 = 4 then (some (M.1 1 4))
  else if x1 = 5 then (some (M.1 1 5))
  else if x1 = 6 then ((f_X1_outTogether 1 M).bind fun q8 =>
  some q8)
  else if x1 = 7 then (some (M.1 38 1))
  else if x1 = 8 then (some (M.1 1 6))
  else if x1 = 9 then ((f_X7_shelvesInUse M).bind fun q13 =>
  some q13)
  else ((f_X7_within x1 12 16).bind fun q15 =>
  if q15 = 0 then (some (-1))
  else (chk (x1 - 12) 5 <|
  some (M.1 52 (x1 - 12).toNatClampNeg)))
def rm_X8_refuse : Room := { frames := 0, cells := 0, slots := 0, locals := 0 }
def f_X8_refuse (o0 : Nat) (x1 : Int32) (M : Mm) : Option (Mm × Int32) :=
  chk (-x1) 8 <|
  chk (-x1) 8 <| bm (wI M (o0 + 16) (-x1).toNatClampNeg ((M.1 (o0 + 16) (-x1).toNatClampNeg) + 1)) fun M1 =>
  some (M1, x1)
def rm_X8_in : Room := { frames := 0, cells := 0, slots := 0, locals := 0 }
def f_X8_in (x0 : Int64) (x2 : Int64) (x4 : Int64) : Option (Int32) :=
  if (lg_cmp x0 x2) < 0 then (some 0)
  else (if 0 < (lg_cmp x0 x4) then (some 0)
  else (some 1))
def rm_X8_isOne : Room := { frames := 1, cells := 0, slots := 0, locals := 25 }
def f_X8_isOne (o0 : Nat) (x1 : Int32) (M : Mm) : Option (Int32) :=
  (f_X8_in x1.toInt64 0 (((M.1 o0 10) - 1).toInt64)).bind fun q1 =>
  chb q1 <| some q1
def rm_X8_isDay : Room := { frames := 1, cells := 0, slots := 0, locals := 25 }
def f_X8_isDay (o0 : Nat) (x1 : Int64) (M : Mm) : Option (Int32) :=
  (f_X8_in x1 0 (((M.1 o0 9) - 1).toInt64)).bind fun q1 =>
  chb q1 <| some q1
def rm_X8_isHundred : Room := { frames := 1, cells := 0, slots := 0, locals := 25 }
def f_X8_isHundred (x0 : Int32) : Option (Int32) :=
  (f_X8_in x0.toInt64 1 99).bind fun q1 =>
  chb q1 <| some q1
def rm_X8_isFree : Room := { frames := 0, cells := 0, slots := 0, locals := 0 }
def f_X8_isFree (o0 : Nat) (x1 : Int32) (x2 : Int32) (M : Mm) : Option (Int32) :=
  chk x1 8 <|
  if (((M.1 (o0 + 20) x1.toNatClampNeg) >>> (x2 &&& 31)) &&& 1) = 0 then (some 0)
  else (some 1)
def rm_X8_bits : Room := { frames := 0, cells := 0, slots := 0, locals := 0 }
def f_X8_bits_L4  : Nat → Int32 → Int32 → Option (Int32)
  | 0, _, _ => none
  | n + 1, x1, x2 =>
    if x2 = 0 then (some x1)
  else (bi (x1 + 1) fun v1 =>
  bi (x2 &&& (x2 - 1)) fun v2 =>
  f_X8_bits_L4 n v1 v2)
def f_X8_bits (x0 : Int32) : Option (Int32) :=
  (f_X8_bits_L4 1000 0 x0).bind fun v5 =>
  some v5
def rm_X8_row : Room := { frames := 1, cells := 0, slots := 0, locals := 25 }
def f_X8_row_L67 (o0 : Nat) (x1 : Int32) : Nat → Int32 → Mm → Option (Mm)
  | 0, _, _ => none
  | n + 1, x4, M =>
    if 40 ≤ x4 then (some M)
  else (chk x1 8 <|
  chk x4 40 <| bm (wJ M (o0 + 5 + x1.toNatClampNeg) x4.toNatClampNeg 0) fun M15 =>
  bi (x4 + 1) fun v16 =>
  f_X8_row_L67 o0 x1 n v16 M15)
def f_X8_row (o0 : Nat) (x1 : Int32) (x2 : Int32) (x3 : Int32) (M : Mm) : Option (Mm × Int32) :=
  (f_X8_in x1.toInt64 0 7).bind fun q1 =>
  if q1 = 0 then ((f_X8_refuse o0 (-2) M).bind fun q3 =>
  some (q3.1, q3.2))
  else ((f_X8_in x2.toInt64 0 4).bind fun q5 =>
  if q5 = 0 then ((f_X8_refuse o0 (-2) M).bind fun q7 =>
  some (q7.1, q7.2))
  else ((f_X8_in x3.toInt64 0 40).bind fun q9 =>
  if q9 = 0 then ((f_X8_refuse o0 (-2) M).bind fun q20 =>
  some (q20.1, q20.2))
  else (chk x1 8 <| bm (wI M (o0 + 1) x1.toNatClampNeg 1) fun M11 =>
  chk x1 8 <| bm (wI M11 (o0 + 2) x1.toNatClampNeg x2) fun M12 =>
  chk x1 8 <| bm (wI M12 (o0 + 3) x1.toNatClampNeg x3) fun M13 =>
  (f_X8_row_L67 o0 x1 1000 0 M13).bind fun M19 =>
  some (M19, 1))))
def rm_X8_fit : Room := { frames := 0, cells := 0, slots := 0, locals := 0 }
def f_X8_fit (x0 : Int32) (x1 : Int64) : Option (Int64) :=
  if x0 = 0 then (some x1.toInt32.toInt8.toInt32.toInt64)
  else if x0 = 1 then (some x1.toInt32.toInt16.toInt32.toInt64)
  else if x0 = 2 then (some x1.toInt32.toInt64)
  else if x0 = 3 then (some x1)
  else (if (lg_cmp x1 0) = 0 then (some 0)
  else (some 1))
def rm_X8_noRow : Room := { frames := 1, cells := 0, slots := 0, locals := 25 }
def f_X8_noRow (o0 : Nat) (x1 : Int32) (M : Mm) : Option (Mm × Int32) :=
  (f_X8_in x1.toInt64 0 7).bind fun q1 =>
  if q1 = 0 then ((f_X8_refuse o0 (-2) M).bind fun q7 =>
  some (q7.1, q7.2))
  else (chk x1 8 <|
  if (M.1 (o0 + 1) x1.toNatClampNeg) = 2 then ((f_X8_refuse o0 (-3) M).bind fun q5 =>
  some (q5.1, q5.2))
  else (chk x1 8 <|
  if (M.1 (o0 + 1) x1.toNatClampNeg) = 0 then ((f_X8_refuse o0 (-4) M).bind fun q3 =>
  some (q3.1, q3.2))
  else (some (M, 0))))
def rm_X8_set : Room := { frames := 2, cells := 0, slots := 0, locals := 46 }
def f_X8_set (o0 : Nat) (x1 : Int32) (x2 : Int32) (x3 : Int64) (M : Mm) : Option (Mm × Int32) :=
  (f_X8_noRow o0 x1 M).bind fun q1 =>
  bi q1.2 fun v3 =>
  if v3 = 0 then (chk x1 8 <|
  (f_X8_in x2.toInt64 0 (((q1.1.1 (o0 + 3) x1.toNatClampNeg) - 1).toInt64)).bind fun q4 =>
  if q4 = 0 then ((f_X8_refuse o0 (-2) q1.1).bind fun q10 =>
  some (q10.1, q10.2))
  else (chk x1 8 <|
  chk x1 8 <|
  (f_X8_fit (q1.1.1 (o0 + 2) x1.toNatClampNeg) x3).bind fun q7 =>
  chk x2 40 <| bm (wJ q1.1 (o0 + 5 + x1.toNatClampNeg) x2.toNatClampNeg q7) fun M9 =>
  some (M9, 1)))
  else (some (q1.1, v3))
def rm_X8_copy : Room := { frames := 1, cells := 0, slots := 0, locals := 25 }
def f_X8_copy_L191 (o0 : Nat) (x1 : Int32) (x2 : Int32) (x3 : Int32) (x4 : Int32) (x5 : Int32) : Nat → Int32 → Mm → Option (Mm)
  | 0, _, _ => none
  | n + 1, x6, M =>
    if x5 ≤ x6 then (some M)
  else (chk x1 8 <|
  chk (x3 + x6) 40 <|
  chk x6 40 <| bm (wJ M (o0 + 13) x6.toNatClampNeg (M.2.1 (o0 + 5 + x1.toNatClampNeg) (x3 + x6).toNatClampNeg)) fun M26 =>
  bi (x6 + 1) fun v27 =>
  f_X8_copy_L191 o0 x1 x2 x3 x4 x5 n v27 M26)
def f_X8_copy_L225 (o0 : Nat) (x2 : Int32) (x4 : Int32) (x5 : Int32) : Nat → Int32 → Mm → Option (Mm)
  | 0, _, _ => none
  | n + 1, x6, M =>
    if x5 ≤ x6 then (some M)
  else (chk x2 8 <|
  chk x6 40 <|
  chk (x4 + x6) 40 <| bm (wJ M (o0 + 5 + x2.toNatClampNeg) (x4 + x6).toNatClampNeg (M.2.1 (o0 + 13) x6.toNatClampNeg)) fun M32 =>
  bi (x6 + 1) fun v33 =>
  f_X8_copy_L225 o0 x2 x4 x5 n v33 M32)
def f_X8_copy (o0 : Nat) (x1 : Int32) (x2 : Int32) (x3 : Int32) (x4 : Int32) (x5 : Int32) (M : Mm) : Option (Mm × Int32) :=
  (f_X8_in x1.toInt64 0 7).bind fun q1 =>
  if q1 = 0 then ((f_X8_refuse o0 (-2) M).bind fun q3 =>
  some (q3.1, q3.2))
  else ((f_X8_in x2.toInt64 0 7).bind fun q5 =>
  if q5 = 0 then ((f_X8_refuse o0 (-2) M).bind fun q91 =>
  some (q91.1, q91.2))
  else (chk x1 8 <|
  if (M.1 (o0 + 1) x1.toNatClampNeg) = 2 then ((f_X8_refuse o0 (-3) M).bind fun q7 =>
  some (q7.1, q7.2))
  else (chk x2 8 <|
  if (M.1 (o0 + 1) x2.toNatClampNeg) = 2 then ((f_X8_refuse o0 (-3) M).bind fun q9 =>
  some (q9.1, q9.2))
  else (chk x1 8 <|
  if (M.1 (o0 + 1) x1.toNatClampNeg) = 1 then (chk x2 8 <|
  if (M.1 (o0 + 1) x2.toNatClampNeg) = 1 then (chk x1 8 <|
  chk x2 8 <|
  if (M.1 (o0 + 2) x1.toNatClampNeg) = (M.1 (o0 + 2) x2.toNatClampNeg) then (chk x1 8 <|
  if (M.1 (o0 + 1) x1.toNatClampNeg) = 0 then ((f_X8_refuse o0 (-4) M).bind fun q65 =>
  some (q65.1, q65.2))
  else (chk x2 8 <|
  if (M.1 (o0 + 1) x2.toNatClampNeg) = 0 then ((f_X8_refuse o0 (-4) M).bind fun q87 =>
  some (q87.1, q87.2))
  else (if x5 < 0 then ((f_X8_refuse o0 (-2) M).bind fun q67 =>
  some (q67.1, q67.2))
  else (if x3 < 0 then ((f_X8_refuse o0 (-2) M).bind fun q69 =>
  some (q69.1, q69.2))
  else (if x4 < 0 then ((f_X8_refuse o0 (-2) M).bind fun q71 =>
  some (q71.1, q71.2))
  else (chk x1 8 <|
  if (M.1 (o0 + 3) x1.toNatClampNeg) < x5 then ((f_X8_refuse o0 (-2) M).bind fun q73 =>
  some (q73.1, q73.2))
  else (chk x2 8 <|
  if (M.1 (o0 + 3) x2.toNatClampNeg) < x5 then ((f_X8_refuse o0 (-2) M).bind fun q75 =>
  some (q75.1, q75.2))
  else (chk x1 8 <|
  if ((M.1 (o0 + 3) x1.toNatClampNeg) - x5) < x3 then ((f_X8_refuse o0 (-2) M).bind fun q77 =>
  some (q77.1, q77.2))
  else (chk x2 8 <|
  if x4 ≤ ((M.1 (o0 + 3) x2.toNatClampNeg) - x5) then ((f_X8_copy_L191 o0 x1 x2 x3 x4 x5 1000 0 M).bind fun M81 =>
  (f_X8_copy_L225 o0 x2 x4 x5 1000 0 M81).bind fun M84 =>
  some (M84, x5))
  else ((f_X8_refuse o0 (-2) M).bind fun q85 =>
  some (q85.1, q85.2)))))))))))
  else ((f_X8_refuse o0 (-3) M).bind fun q89 =>
  some (q89.1, q89.2)))
  else (chk x1 8 <|
  if (M.1 (o0 + 1) x1.toNatClampNeg) = 0 then ((f_X8_refuse o0 (-4) M).bind fun q41 =>
  some (q41.1, q41.2))
  else (chk x2 8 <|
  if (M.1 (o0 + 1) x2.toNatClampNeg) = 0 then ((f_X8_refuse o0 (-4) M).bind fun q63 =>
  some (q63.1, q63.2))
  else (if x5 < 0 then ((f_X8_refuse o0 (-2) M).bind fun q43 =>
  some (q43.1, q43.2))
  else (if x3 < 0 then ((f_X8_refuse o0 (-2) M).bind fun q45 =>
  some (q45.1, q45.2))
  else (if x4 < 0 then ((f_X8_refuse o0 (-2) M).bind fun q47 =>
  some (q47.1, q47.2))
  else (chk x1 8 <|
  if (M.1 (o0 + 3) x1.toNatClampNeg) < x5 then ((f_X8_refuse o0 (-2) M).bind fun q49 =>
  some (q49.1, q49.2))
  else (chk x2 8 <|
  if (M.1 (o0 + 3) x2.toNatClampNeg) < x5 then ((f_X8_refuse o0 (-2) M).bind fun q51 =>
  some (q51.1, q51.2))
  else (chk x1 8 <|
  if ((M.1 (o0 + 3) x1.toNatClampNeg) - x5) < x3 then ((f_X8_refuse o0 (-2) M).bind fun q53 =>
  some (q53.1, q53.2))
  else (chk x2 8 <|
  if x4 ≤ ((M.1 (o0 + 3) x2.toNatClampNeg) - x5) then ((f_X8_copy_L191 o0 x1 x2 x3 x4 x5 1000 0 M).bind fun M57 =>
  (f_X8_copy_L225 o0 x2 x4 x5 1000 0 M57).bind fun M60 =>
  some (M60, x5))
  else ((f_X8_refuse o0 (-2) M).bind fun q61 =>
  some (q61.1, q61.2))))))))))))
  else (chk x1 8 <|
  if (M.1 (o0 + 1) x1.toNatClampNeg) = 0 then ((f_X8_refuse o0 (-4) M).bind fun q11 =>
  some (q11.1, q11.2))
  else (chk x2 8 <|
  if (M.1 (o0 + 1) x2.toNatClampNeg) = 0 then ((f_X8_refuse o0 (-4) M).bind fun q39 =>
  some (q39.1, q39.2))
  else (if x5 < 0 then ((f_X8_refuse o0 (-2) M).bind fun q13 =>
  some (q13.1, q13.2))
  else (if x3 < 0 then ((f_X8_refuse o0 (-2) M).bind fun q15 =>
  some (q15.1, q15.2))
  else (if x4 < 0 then ((f_X8_refuse o0 (-2) M).bind fun q17 =>
  some (q17.1, q17.2))
  else (chk x1 8 <|
  if (M.1 (o0 + 3) x1.toNatClampNeg) < x5 then ((f_X8_refuse o0 (-2) M).bind fun q19 =>
  some (q19.1, q19.2))
  else (chk x2 8 <|
  if (M.1 (o0 + 3) x2.toNatClampNeg) < x5 then ((f_X8_refuse o0 (-2) M).bind fun q21 =>
  some (q21.1, q21.2))
  else (chk x1 8 <|
  if ((M.1 (o0 + 3) x1.toNatClampNeg) - x5) < x3 then ((f_X8_refuse o0 (-2) M).bind fun q23 =>
  some (q23.1, q23.2))
  else (chk x2 8 <|
  if x4 ≤ ((M.1 (o0 + 3) x2.toNatClampNeg) - x5) then ((f_X8_copy_L191 o0 x1 x2 x3 x4 x5 1000 0 M).bind fun M30 =>
  (f_X8_copy_L225 o0 x2 x4 x5 1000 0 M30).bind fun M36 =>
  some (M36, x5))
  else ((f_X8_refuse o0 (-2) M).bind fun q37 =>
  some (q37.1, q37.2)))))))))))))))
def rm_X8_element : Room := { frames := 1, cells := 0, slots := 0, locals := 25 }
def f_X8_element (o0 : Nat) (x1 : Int32) (x2 : Int32) (M : Mm) : Option (Int64) :=
  (f_X8_in x1.toInt64 0 7).bind fun q1 =>
  if q1 = 0 then (some 0)
  else (chk x1 8 <|
  if (M.1 (o0 + 1) x1.toNatClampNeg) = 1 then (chk x1 8 <|
  (f_X8_in x2.toInt64 0 (((M.1 (o0 + 3) x1.toNatClampNeg) - 1).toInt64)).bind fun q3 =>
  if q3 = 0 then (some 0)
  else (chk x1 8 <|
  chk x2 40 <|
  some (M.2.1 (o0 + 5 + x1.toNatClampNeg) x2.toNatClampNeg)))
  else (some 0))
def rm_X8_holds : Room := { frames := 1, cells := 0, slots := 0, locals := 25 }
def f_X8_holds (o0 : Nat) (x1 : Int32) (M : Mm) : Option (Int32) :=
  (f_X8_in x1.toInt64 0 7).bind fun q1 =>
  if q1 = 0 then (some (-1))
  else (chk x1 8 <|
  if (M.1 (o0 + 1) x1.toNatClampNeg) = 0 then (some (-1))
  else (chk x1 8 <|
  if (M.1 (o0 + 1) x1.toNatClampNeg) = 1 then (chk x1 8 <|
  some (M.1 (o0 + 2) x1.toNatClampNeg))
  else (chk x1 8 <|
  some (10 + (M.1 (o0 + 14) x1.toNatClampNeg)))))
def rm_X8_show : Room := { frames := 2, cells := 0, slots := 0, locals := 46 }
def f_X8_show (o0 : Nat) (x1 : Int32) (x2 : Int32) (M : Mm) : Option (Mm × Int32) :=
  (f_X8_in x1.toInt64 0 7).bind fun q1 =>
  if q1 = 0 then ((f_X8_refuse o0 (-2) M).bind fun q3 =>
  some (q3.1, q3.2))
  else (if x2 = (-1) then (if x2 = (-1) then (chk x1 8 <| bm (wI M (o0 + 1) x1.toNatClampNeg 0) fun M7 =>
  chk x1 8 <| bm (wI M7 (o0 + 14) x1.toNatClampNeg x2) fun M8 =>
  some (M8, 1))
  else (chk x1 8 <| bm (wI M (o0 + 1) x1.toNatClampNeg 2) fun M5 =>
  chk x1 8 <| bm (wI M5 (o0 + 14) x1.toNatClampNeg x2) fun M6 =>
  some (M6, 1)))
  else ((f_X8_isOne o0 x2 M).bind fun q9 =>
  if q9 = 0 then ((f_X8_refuse o0 (-2) M).bind fun q15 =>
  some (q15.1, q15.2))
  else (if x2 = (-1) then (chk x1 8 <| bm (wI M (o0 + 1) x1.toNatClampNeg 0) fun M13 =>
  chk x1 8 <| bm (wI M13 (o0 + 14) x1.toNatClampNeg x2) fun M14 =>
  some (M14, 1))
  else (chk x1 8 <| bm (wI M (o0 + 1) x1.toNatClampNeg 2) fun M11 =>
  chk x1 8 <| bm (wI M11 (o0 + 14) x1.toNatClampNeg x2) fun M12 =>
  some (M12, 1)))))
def rm_X8_isUnder : Room := { frames := 0, cells := 0, slots := 0, locals := 0 }
def f_X8_isUnder (x0 : Int32) (x1 : Int32) : Option (Int32) :=
  if x1 = 0 then (some 1)
  else (if x0 = x1 then (some 1)
  else (if x1 = 1 then (if x0 = 3 then (some 1)
  else (if x1 = 2 then (if x0 = 4 then (some 1)
  else (some 0))
  else (some 0)))
  else (if x1 = 2 then (if x0 = 4 then (some 1)
  else (some 0))
  else (some 0))))
def rm_X8_says : Room := { frames := 1, cells := 0, slots := 0, locals := 25 }
def f_X8_says (o0 : Nat) (x1 : Int32) (x2 : Int32) (M : Mm) : Option (Mm × Int32) :=
  (f_X8_in x1.toInt64 0 7).bind fun q1 =>
  if q1 = 0 then ((f_X8_refuse o0 (-2) M).bind fun q3 =>
  some (q3.1, q3.2))
  else ((f_X8_in x2.toInt64 0 5).bind fun q5 =>
  if q5 = 0 then ((f_X8_refuse o0 (-2) M).bind fun q23 =>
  some (q23.1, q23.2))
  else (chk x1 8 <|
  if (M.1 (o0 + 1) x1.toNatClampNeg) = 1 then ((f_X8_refuse o0 (-3) M).bind fun q7 =>
  some (q7.1, q7.2))
  else (chk x1 8 <|
  if (M.1 (o0 + 1) x1.toNatClampNeg) = 2 then (chk x1 8 <|
  chk (M.1 (o0 + 14) x1.toNatClampNeg) 8 <|
  (f_X8_isUnder (M.1 (o0 + 17) (M.1 (o0 + 14) x1.toNatClampNeg).toNatClampNeg) x2).bind fun q14 =>
  if q14 = 0 then ((f_X8_refuse o0 (-3) M).bind fun q21 =>
  some (q21.1, q21.2))
  else (chk x1 8 <|
  if (M.1 (o0 + 1) x1.toNatClampNeg) = 0 then ((f_X8_refuse o0 (-4) M).bind fun q19 =>
  some (q19.1, q19.2))
  else (chk x1 8 <|
  bi (M.1 (o0 + 14) x1.toNatClampNeg) fun v16 =>
  if x2 = 0 then (chk v16 8 <|
  (f_X8_bits (M.1 (o0 + 20) v16.toNatClampNeg)).bind fun q17 =>
  some (M, q17))
  else (if x2 = 1 then (chk v16 8 <|
  some (M, M.1 (o0 + 19) v16.toNatClampNeg))
  else (if x2 = 3 then (chk v16 8 <|
  some (M, M.1 (o0 + 19) v16.toNatClampNeg))
  else (chk v16 8 <|
  some (M, M.1 (o0 + 18) v16.toNatClampNeg)))))))
  else (chk x1 8 <|
  if (M.1 (o0 + 1) x1.toNatClampNeg) = 0 then ((f_X8_refuse o0 (-4) M).bind fun q12 =>
  some (q12.1, q12.2))
  else (chk x1 8 <|
  bi (M.1 (o0 + 14) x1.toNatClampNeg) fun v9 =>
  if x2 = 0 then (chk v9 8 <|
  (f_X8_bits (M.1 (o0 + 20) v9.toNatClampNeg)).bind fun q10 =>
  some (M, q10))
  else (if x2 = 1 then (chk v9 8 <|
  some (M, M.1 (o0 + 19) v9.toNatClampNeg))
  else (if x2 = 3 then (chk v9 8 <|
  some (M, M.1 (o0 + 19) v9.toNatClampNeg))
  else (chk v9 8 <|
  some (M, M.1 (o0 + 18) v9.toNatClampNeg)))))))))
def rm_X8_daysAre : Room := { frames := 0, cells := 0, slots := 0, locals := 0 }
def f_X8_daysAre_L7 (o0 : Nat) (x1 : Int32) : Nat → Int32 → Mm → Option (Mm)
  | 0, _, _ => none
  | n + 1, x2, M =>
    if (M.1 o0 10) ≤ x2 then (some M)
  else (chk x2 8 <|
  chk x2 8 <| bm (wI M (o0 + 20) x2.toNatClampNeg ((M.1 (o0 + 20) x2.toNatClampNeg) &&& ((1 <<< (x1 &&& 31)) - 1))) fun M2 =>
  bi (x2 + 1) fun v3 =>
  f_X8_daysAre_L7 o0 x1 n v3 M2)
def f_X8_daysAre (o0 : Nat) (x1 : Int32) (M : Mm) : Option (Mm) :=
  bm (wI M o0 9 x1) fun M1 =>
  (f_X8_daysAre_L7 o0 x1 1000 0 M1).bind fun M6 =>
  some M6
def rm_X8_days : Room := { frames := 1, cells := 0, slots := 0, locals := 25 }
def f_X8_days (o0 : Nat) (x1 : Int32) (M : Mm) : Option (Mm × Int32) :=
  (f_X8_in x1.toInt64 1 14).bind fun q1 =>
  if q1 = 0 then ((f_X8_refuse o0 (-2) M).bind fun q6 =>
  some (q6.1, q6.2))
  else (bi (M.1 o0 9) fun v3 =>
  (f_X8_daysAre o0 x1 M).bind fun q4 =>
  some (q4, v3))
def rm_X8_addPerson : Room := { frames := 0, cells := 0, slots := 0, locals := 0 }
def f_X8_addPerson (o0 : Nat) (x1 : Int32) (x2 : Int32) (x3 : Int32) (M : Mm) : Option (Mm) :=
  chk (M.1 o0 10) 8 <| bm (wI M (o0 + 17) (M.1 o0 10).toNatClampNeg x1) fun M1 =>
  chk (M1.1 o0 10) 8 <| bm (wI M1 (o0 + 18) (M1.1 o0 10).toNatClampNeg x2) fun M2 =>
  chk (M2.1 o0 10) 8 <| bm (wI M2 (o0 + 19) (M2.1 o0 10).toNatClampNeg x3) fun M3 =>
  chk (M3.1 o0 10) 8 <| bm (wI M3 (o0 + 20) (M3.1 o0 10).toNatClampNeg 0) fun M4 =>
  chk (M4.1 o0 10) 8 <| bm (wI M4 (o0 + 21) (M4.1 o0 10).toNatClampNeg 0) fun M5 =>
  bm (wI M5 o0 10 ((M5.1 o0 10) + 1)) fun M6 =>
  some M6
def rm_X8_person : Room := { frames := 1, cells := 0, slots := 0, locals := 25 }
def f_X8_person (o0 : Nat) (x1 : Int32) (x2 : Int32) (x3 : Int32) (M : Mm) : Option (Mm × Int32) :=
  (f_X8_in x1.toInt64 0 5).bind fun q1 =>
  if q1 = 0 then ((f_X8_refuse o0 (-2) M).bind fun q3 =>
  some (q3.1, q3.2))
  else ((f_X8_in x2.toInt64 0 13).bind fun q5 =>
  if q5 = 0 then ((f_X8_refuse o0 (-2) M).bind fun q7 =>
  some (q7.1, q7.2))
  else ((f_X8_in x3.toInt64 0 12).bind fun q9 =>
  if q9 = 0 then ((f_X8_refuse o0 (-2) M).bind fun q15 =>
  some (q15.1, q15.2))
  else (if (M.1 o0 10) = 8 then ((f_X8_refuse o0 (-6) M).bind fun q13 =>
  some (q13.1, q13.2))
  else ((f_X8_addPerson o0 x1 x2 x3 M).bind fun q11 =>
  some (q11, (q11.1 o0 10) - 1)))))
def rm_X8_frees : Room := { frames := 0, cells := 0, slots := 0, locals := 0 }
def f_X8_frees (o0 : Nat) (x1 : Int32) (x2 : Int32) (x3 : Int32) (M : Mm) : Option (Mm) :=
  if x3 = 0 then (chk x1 8 <|
  chk x1 8 <| bm (wI M (o0 + 20) x1.toNatClampNeg ((M.1 (o0 + 20) x1.toNatClampNeg) &&& ((1 <<< (x2 &&& 31)) ^^^ (-1)))) fun M1 =>
  some M1)
  else (chk x1 8 <|
  chk x1 8 <| bm (wI M (o0 + 20) x1.toNatClampNeg ((M.1 (o0 + 20) x1.toNatClampNeg) ||| (1 <<< (x2 &&& 31)))) fun M2 =>
  some M2)
def rm_X8_free : Room := { frames := 2, cells := 0, slots := 0, locals := 47 }
def f_X8_free (o0 : Nat) (x1 : Int32) (x2 : Int32) (x3 : Int32) (M : Mm) : Option (Mm × Int32) :=
  (f_X8_isOne o0 x1 M).bind fun q1 =>
  if q1 = 0 then ((f_X8_refuse o0 (-2) M).bind fun q3 =>
  some (q3.1, q3.2))
  else ((f_X8_isDay o0 x2.toInt64 M).bind fun q5 =>
  if q5 = 0 then ((f_X8_refuse o0 (-2) M).bind fun q13 =>
  some (q13.1, q13.2))
  else ((f_X8_isFree o0 x1 x2 M).bind fun q7 =>
  if q7 = 0 then ((f_X8_frees o0 x1 x2 x3 M).bind fun q9 =>
  some (q9, 0))
  else ((f_X8_frees o0 x1 x2 x3 M).bind fun q11 =>
  some (q11, 1))))
def rm_X8_ask : Room := { frames := 2, cells := 0, slots := 0, locals := 46 }
def f_X8_ask (o0 : Nat) (x1 : Int32) (x2 : Int32) (M : Mm) : Option (Mm × Int32) :=
  if x1 = 0 then ((f_X8_isOne o0 x2 M).bind fun q15 =>
  if q15 = 0 then ((f_X8_refuse o0 (-2) M).bind fun q19 =>
  some (q19.1, q19.2))
  else (chk x1 3 <|
  bi (M.1 (o0 + 22) x1.toNatClampNeg) fun v17 =>
  chk x1 3 <| bm (wI M (o0 + 22) x1.toNatClampNeg x2) fun M18 =>
  some (M18, v17)))
  else (if x1 = 1 then ((f_X8_in x2.toInt64 1 8).bind fun q9 =>
  if q9 = 0 then ((f_X8_refuse o0 (-2) M).bind fun q13 =>
  some (q13.1, q13.2))
  else (chk x1 3 <|
  bi (M.1 (o0 + 22) x1.toNatClampNeg) fun v11 =>
  chk x1 3 <| bm (wI M (o0 + 22) x1.toNatClampNeg x2) fun M12 =>
  some (M12, v11)))
  else (if x1 = 2 then ((f_X8_in x2.toInt64 0 12).bind fun q3 =>
  if q3 = 0 then ((f_X8_refuse o0 (-2) M).bind fun q7 =>
  some (q7.1, q7.2))
  else (chk x1 3 <|
  bi (M.1 (o0 + 22) x1.toNatClampNeg) fun v5 =>
  chk x1 3 <| bm (wI M (o0 + 22) x1.toNatClampNeg x2) fun M6 =>
  some (M6, v5)))
  else ((f_X8_refuse o0 (-2) M).bind fun q1 =>
  some (q1.1, q1.2))))
def rm_X8_out : Room := { frames := 2, cells := 0, slots := 0, locals := 46 }
def f_X8_out (o0 : Nat) (x1 : Int32) (x2 : Int32) (M : Mm) : Option (Mm × Int32) :=
  (f_X8_isOne o0 x1 M).bind fun q1 =>
  if q1 = 0 then ((f_X8_refuse o0 (-2) M).bind fun q3 =>
  some (q3.1, q3.2))
  else ((f_X8_in x2.toInt64 0 99).bind fun q5 =>
  if q5 = 0 then ((f_X8_refuse o0 (-2) M).bind fun q9 =>
  some (q9.1, q9.2))
  else (chk x1 8 <|
  bi (M.1 (o0 + 21) x1.toNatClampNeg) fun v7 =>
  chk x1 8 <| bm (wI M (o0 + 21) x1.toNatClampNeg x2) fun M8 =>
  some (M8, v7)))
def rm_X8_feed : Room := { frames := 1, cells := 0, slots := 0, locals := 25 }
def f_X8_feed (o0 : Nat) (x1 : Int32) (M : Mm) : Option (Mm × Int32) :=
  (f_X8_in x1.toInt64 0 255).bind fun q1 =>
  if q1 = 0 then ((f_X8_refuse o0 (-2) M).bind fun q7 =>
  some (q7.1, q7.2))
  else (if (M.1 o0 7) = 250 then ((f_X8_refuse o0 (-6) M).bind fun q5 =>
  some (q5.1, q5.2))
  else (bm (wI M o0 7 ((M.1 o0 7) + 1)) fun M3 =>
  chk (M.1 o0 7) 250 <| bm (wI M3 (o0 + 15) (M.1 o0 7).toNatClampNeg x1) fun M4 =>
  some (M4, M4.1 o0 7)))
def rm_X8_wipe : Room := { frames := 0, cells := 0, slots := 0, locals := 0 }
def f_X8_wipe (o0 : Nat) (M : Mm) : Option (Mm × Int32) :=
  bi (M.1 o0 7) fun v1 =>
  bm (wI M o0 7 0) fun M2 =>
  some (M2, v1)
def rm_X8_isLetter : Room := { frames := 0, cells := 0, slots := 0, locals := 0 }
def f_X8_isLetter (x0 : Int32) : Option (Int32) :=
  if x0 < 97 then (some 0)
  else (if 122 < x0 then (some 0)
  else (some 1))
def rm_X8_isDigit : Room := { frames := 0, cells := 0, slots := 0, locals := 0 }
def f_X8_isDigit (x0 : Int32) : Option (Int32) :=
  if x0 < 48 then (some 0)
  else (if 57 < x0 then (some 0)
  else (some 1))
def rm_X8_look : Room := { frames := 1, cells := 0, slots := 0, locals := 20 }
def f_X8_look_L0 (o0 : Nat) : Nat → Mm → Option (Mm)
  | 0, _ => none
  | n + 1, M =>
    if (M.1 o0 7) ≤ (M.1 o0 21) then (some M)
  else (chk (M.1 o0 21) 250 <|
  if (M.1 (o0 + 15) (M.1 o0 21).toNatClampNeg) = 32 then (bm (wI M o0 21 ((M.1 o0 21) + 1)) fun M1 =>
  f_X8_look_L0 o0 n M1)
  else (some M))
def f_X8_look_L149 (o0 : Nat) : Nat → Mm → Option (Mm)
  | 0, _ => none
  | n + 1, M =>
    if (M.1 o0 7) ≤ (M.1 o0 21) then (some M)
  else (chk (M.1 o0 21) 250 <|
  (f_X8_isDigit (M.1 (o0 + 15) (M.1 o0 21).toNatClampNeg)).bind fun q16 =>
  if q16 = 0 then (some M)
  else (if 2 ≤ ((M.1 o0 21) - (M.1 o0 23)) then (bm (wI M o0 24 1000) fun M18 =>
  bm (wI M18 o0 21 ((M18.1 o0 21) + 1)) fun M19 =>
  f_X8_look_L149 o0 n M19)
  else (chk (M.1 o0 21) 250 <|
  bm (wI M o0 24 ((((M.1 o0 24) * 10) + (M.1 (o0 + 15) (M.1 o0 21).toNatClampNeg)) - 48)) fun M20 =>
  bm (wI M20 o0 21 ((M20.1 o0 21) + 1)) fun M21 =>
  f_X8_look_L149 o0 n M21)))
def f_X8_look_L90 (o0 : Nat) : Nat → Mm → Option (Mm)
  | 0, _ => none
  | n + 1, M =>
    if (M.1 o0 7) ≤ (M.1 o0 21) then (some M)
  else (chk (M.1 o0 21) 250 <|
  (f_X8_isLetter (M.1 (o0 + 15) (M.1 o0 21).toNatClampNeg)).bind fun q26 =>
  if q26 = 0 then (some M)
  else (bm (wI M o0 21 ((M.1 o0 21) + 1)) fun M28 =>
  f_X8_look_L90 o0 n M28))
def f_X8_look (o0 : Nat) (M : Mm) : Option (Mm) :=
  (f_X8_look_L0 o0 1000 M).bind fun M4 =>
  bm (wI M4 o0 23 (M4.1 o0 21)) fun M5 =>
  bm (wI M5 o0 24 0) fun M6 =>
  if (M6.1 o0 21) = (M6.1 o0 7) then (bm (wI M6 o0 22 0) fun M32 =>
  some M32)
  else (chk (M6.1 o0 21) 250 <|
  (f_X8_isLetter (M6.1 (o0 + 15) (M6.1 o0 21).toNatClampNeg)).bind fun q7 =>
  if q7 = 0 then (chk (M6.1 o0 21) 250 <|
  (f_X8_isDigit (M6.1 (o0 + 15) (M6.1 o0 21).toNatClampNeg)).bind fun q9 =>
  if q9 = 0 then (chk (M6.1 o0 21) 250 <|
  if (M6.1 (o0 + 15) (M6.1 o0 21).toNatClampNeg) = 59 then (bm (wI M6 o0 22 3) fun M13 =>
  bm (wI M13 o0 21 ((M13.1 o0 21) + 1)) fun M14 =>
  some M14)
  else (bm (wI M6 o0 22 4) fun M11 =>
  bm (wI M11 o0 21 ((M11.1 o0 21) + 1)) fun M12 =>
  some M12))
  else (bm (wI M6 o0 22 2) fun M15 =>
  (f_X8_look_L149 o0 1000 M15).bind fun M24 =>
  some M24))
  else (bm (wI M6 o0 22 1) fun M25 =>
  (f_X8_look_L90 o0 1000 M25).bind fun M31 =>
  some M31))
def rm_X8_wrong : Room := { frames := 0, cells := 0, slots := 0, locals := 0 }
def f_X8_wrong (o0 : Nat) (M : Mm) : Option (Mm × Int32) :=
  bm (wI M o0 25 (M.1 o0 23)) fun M1 =>
  some (M1, 0)
def rm_X8_isWord : Room := { frames := 5, cells := 0, slots := 0, locals := 121 }
def f_X8_isWord_L28 (o0 : Nat) (w1 : Nat) : Nat → Int32 → Mm → Option ((Mm) ⊕ (Mm × Int32))
  | 0, _, _ => none
  | n + 1, x2, M =>
    (f_strLen w1).bind fun q3 =>
  if q3 ≤ x2 then (some (Sum.inl M))
  else (chk ((M.1 o0 23) + x2) 250 <|
  (f_strAt w1 x2).bind fun q5 =>
  if (M.1 (o0 + 15) ((M.1 o0 23) + x2).toNatClampNeg) = q5 then (bi (x2 + 1) fun v7 =>
  f_X8_isWord_L28 o0 w1 n v7 M)
  else (some (Sum.inr (M, 0))))
def f_X8_isWord (o0 : Nat) (w1 : Nat) (M : Mm) : Option (Mm × Int32) :=
  if (M.1 o0 22) = 1 then ((f_strLen w1).bind fun q1 =>
  if ((M.1 o0 21) - (M.1 o0 23)) = q1 then (obS (f_X8_isWord_L28 o0 w1 1000 0 M) (fun r9 => some r9) <| fun M10 =>
  some (M10, 1))
  else (some (M, 0)))
  else (some (M, 0))
def rm_X8_number : Room := { frames := 2, cells := 0, slots := 0, locals := 40 }
def f_X8_number (o0 : Nat) (x1 : Int32) (x2 : Int32) (x3 : Int32) (M : Mm) : Option (Mm × Int32) :=
  if (M.1 o0 22) = 2 then ((f_X8_in ((M.1 o0 24).toInt64) x2.toInt64 x3.toInt64).bind fun q3 =>
  if q3 = 0 then ((f_X8_wrong o0 M).bind fun q8 =>
  chb q8.2 <| some (q8.1, q8.2))
  else (chk x1 3 <| bm (wI M (o0 + 23) x1.toNatClampNeg (M.1 o0 24)) fun M5 =>
  (f_X8_look o0 M5).bind fun q6 =>
  some (q6, 1)))
  else ((f_X8_wrong o0 M).bind fun q1 =>
  chb q1.2 <| some (q1.1, q1.2))
def rm_X8_tells : Room := { frames := 3, cells := 0, slots := 0, locals := 63 }
def f_X8_tells (o0 : Nat) (x1 : Int32) (x2 : Int32) (M : Mm) : Option (Mm × Int32) :=
  (f_X8_look o0 M).bind fun q1 =>
  (f_X8_number o0 0 x1 x2 q1).bind fun q3 =>
  chb q3.2 <| some (q3.1, q3.2)
def rm_X8_asks : Room := { frames := 4, cells := 0, slots := 0, locals := 85 }
def f_X8_asks (o0 : Nat) (x1 : Int32) (x2 : Int32) (x3 : Int32) (M : Mm) : Option (Mm × Int32) :=
  (f_X8_tells o0 x2 x3 M).bind fun q1 =>
  bi q1.2 fun v3 =>
  if v3 = 0 then (chk x1 3 <|
  chk x1 3 <| bm (wI q1.1 (o0 + 22) x1.toNatClampNeg (q1.1.1 (o0 + 22) x1.toNatClampNeg)) fun M4 =>
  chb v3 <| some (M4, v3))
  else (chk x1 3 <| bm (wI q1.1 (o0 + 22) x1.toNatClampNeg (q1.1.1 (o0 + 23) 0)) fun M5 =>
  chb v3 <| some (M5, v3))
def rm_X8_freeTold : Room := { frames := 4, cells := 0, slots := 0, locals := 85 }
def f_X8_freeTold (o0 : Nat) (x1 : Int32) (M : Mm) : Option (Mm × Int32) :=
  (f_X8_tells o0 0 ((M.1 o0 10) - 1) M).bind fun q1 =>
  if q1.2 = 0 then (some (q1.1, 0))
  else ((f_X8_number o0 1 0 ((q1.1.1 o0 9) - 1) q1.1).bind fun q3 =>
  if q3.2 = 0 then (some (q3.1, 0))
  else ((f_X8_frees o0 (q3.1.1 (o0 + 23) 0) (q3.1.1 (o0 + 23) 1) x1 q3.1).bind fun q5 =>
  some (q5, 1)))
def rm_X8_statement : Room := { frames := 6, cells := 0, slots := 0, locals := 143 }
def f_X8_statement (o0 : Nat) (M : Mm) : Option (Mm × Int32) :=
  (f_X8_isWord o0 0 M).bind fun q1 =>
  if q1.2 = 0 then ((f_X8_isWord o0 1 q1.1).bind fun q3 =>
  if q3.2 = 0 then ((f_X8_isWord o0 2 q3.1).bind fun q5 =>
  if q5.2 = 0 then ((f_X8_isWord o0 3 q5.1).bind fun q7 =>
  if q7.2 = 0 then ((f_X8_isWord o0 7 q7.1).bind fun q9 =>
  if q9.2 = 0 then ((f_X8_isWord o0 4 q9.1).bind fun q11 =>
  if q11.2 = 0 then ((f_X8_isWord o0 5 q11.1).bind fun q13 =>
  if q13.2 = 0 then ((f_X8_isWord o0 6 q13.1).bind fun q15 =>
  if q15.2 = 0 then ((f_X8_wrong o0 q15.1).bind fun q17 =>
  chb q17.2 <| some (q17.1, q17.2))
  else ((f_X8_asks o0 2 0 12 q15.1).bind fun q19 =>
  chb q19.2 <| some (q19.1, q19.2)))
  else ((f_X8_asks o0 1 1 8 q13.1).bind fun q21 =>
  chb q21.2 <| some (q21.1, q21.2)))
  else ((f_X8_asks o0 0 0 ((q11.1.1 o0 10) - 1) q11.1).bind fun q23 =>
  chb q23.2 <| some (q23.1, q23.2)))
  else ((f_X8_tells o0 0 ((q9.1.1 o0 10) - 1) q9.1).bind fun q25 =>
  if q25.2 = 0 then (some (q25.1, 0))
  else ((f_X8_number o0 1 0 99 q25.1).bind fun q27 =>
  if q27.2 = 0 then (some (q27.1, 0))
  else (chk (q27.1.1 (o0 + 23) 0) 8 <| bm (wI q27.1 (o0 + 21) (q27.1.1 (o0 + 23) 0).toNatClampNeg (q27.1.1 (o0 + 23) 1)) fun M29 =>
  some (M29, 1)))))
  else ((f_X8_freeTold o0 0 q7.1).bind fun q30 =>
  chb q30.2 <| some (q30.1, q30.2)))
  else ((f_X8_freeTold o0 1 q5.1).bind fun q32 =>
  chb q32.2 <| some (q32.1, q32.2)))
  else (if 8 ≤ (q3.1.1 o0 10) then ((f_X8_isWord o0 2 q3.1).bind fun q34 =>
  if q34.2 = 0 then ((f_X8_isWord o0 3 q34.1).bind fun q36 =>
  if q36.2 = 0 then ((f_X8_isWord o0 7 q36.1).bind fun q38 =>
  if q38.2 = 0 then ((f_X8_isWord o0 4 q38.1).bind fun q40 =>
  if q40.2 = 0 then ((f_X8_isWord o0 5 q40.1).bind fun q42 =>
  if q42.2 = 0 then ((f_X8_isWord o0 6 q42.1).bind fun q44 =>
  if q44.2 = 0 then ((f_X8_wrong o0 q44.1).bind fun q46 =>
  chb q46.2 <| some (q46.1, q46.2))
  else ((f_X8_asks o0 2 0 12 q44.1).bind fun q48 =>
  chb q48.2 <| some (q48.1, q48.2)))
  else ((f_X8_asks o0 1 1 8 q42.1).bind fun q50 =>
  chb q50.2 <| some (q50.1, q50.2)))
  else ((f_X8_asks o0 0 0 ((q40.1.1 o0 10) - 1) q40.1).bind fun q52 =>
  chb q52.2 <| some (q52.1, q52.2)))
  else ((f_X8_tells o0 0 ((q38.1.1 o0 10) - 1) q38.1).bind fun q54 =>
  if q54.2 = 0 then (some (q54.1, 0))
  else ((f_X8_number o0 1 0 99 q54.1).bind fun q56 =>
  if q56.2 = 0 then (some (q56.1, 0))
  else (chk (q56.1.1 (o0 + 23) 0) 8 <| bm (wI q56.1 (o0 + 21) (q56.1.1 (o0 + 23) 0).toNatClampNeg (q56.1.1 (o0 + 23) 1)) fun M58 =>
  some (M58, 1)))))
  else ((f_X8_freeTold o0 0 q36.1).bind fun q59 =>
  chb q59.2 <| some (q59.1, q59.2)))
  else ((f_X8_freeTold o0 1 q34.1).bind fun q61 =>
  chb q61.2 <| some (q61.1, q61.2)))
  else ((f_X8_tells o0 0 5 q3.1).bind fun q63 =>
  if q63.2 = 0 then (some (q63.1, 0))
  else ((f_X8_number o0 1 0 13 q63.1).bind fun q65 =>
  if q65.2 = 0 then (some (q65.1, 0))
  else ((f_X8_number o0 2 0 12 q65.1).bind fun q67 =>
  if q67.2 = 0 then (some (q67.1, 0))
  else ((f_X8_addPerson o0 (q67.1.1 (o0 + 23) 0) (q67.1.1 (o0 + 23) 1) (q67.1.1 (o0 + 23) 2) q67.1).bind fun q69 =>
  some (q69, 1)))))))
  else ((f_X8_tells o0 1 14 q1.1).bind fun q71 =>
  bi q71.2 fun v73 =>
  if v73 = 0 then ((f_X8_daysAre o0 (q71.1.1 o0 9) q71.1).bind fun q74 =>
  chb v73 <| some (q74, v73))
  else ((f_X8_daysAre o0 (q71.1.1 (o0 + 23) 0) q71.1).bind fun q76 =>
  chb v73 <| some (q76, v73)))
def rm_X8_readAll : Room := { frames := 7, cells := 0, slots := 0, locals := 164 }
def f_X8_readAll_L23 (o0 : Nat) : Nat → Mm → Option ((Mm) ⊕ (Mm × Int32))
  | 0, _ => none
  | n + 1, M =>
    if (M.1 o0 22) = 0 then (some (Sum.inl M))
  else (if (M.1 o0 22) = 3 then ((f_X8_look o0 M).bind fun q7 =>
  (f_X8_statement o0 q7).bind fun q9 =>
  if q9.2 = 0 then (some (Sum.inr (q9.1, 0)))
  else (bm (wI q9.1 o0 27 ((q9.1.1 o0 27) + 1)) fun M11 =>
  f_X8_readAll_L23 o0 n M11))
  else ((f_X8_wrong o0 M).bind fun q12 =>
  chb q12.2 <| some (Sum.inr (q12.1, q12.2))))
def f_X8_readAll (o0 : Nat) (M : Mm) : Option (Mm × Int32) :=
  bm (wI M o0 27 1) fun M1 =>
  bm (wI M1 o0 21 0) fun M2 =>
  (f_X8_look o0 M2).bind fun q3 =>
  (f_X8_statement o0 q3).bind fun q5 =>
  if q5.2 = 0 then (some (q5.1, 0))
  else (obS (f_X8_readAll_L23 o0 1000 q5.1) (fun r9 => some r9) <| fun M16 =>
  some (M16, 1))
def rm_X8_copied : Room := { frames := 0, cells := 0, slots := 0, locals := 0 }
def f_X8_copied_L2 (nA : Nat) (o0 : Nat) (o1 : Nat) : Nat → Int32 → Mm → Option (Mm)
  | 0, _, _ => none
  | n + 1, x2, M =>
    if (Int32.ofNat nA) ≤ x2 then (some M)
  else (chk x2 nA <|
  chk x2 nA <| bm (wI M o1 x2.toNatClampNeg (M.1 o0 x2.toNatClampNeg)) fun M1 =>
  bi (x2 + 1) fun v2 =>
  f_X8_copied_L2 nA o0 o1 n v2 M1)
def f_X8_copied (nA : Nat) (o0 : Nat) (o1 : Nat) (M : Mm) : Option (Mm) :=
  (f_X8_copied_L2 nA o0 o1 1000 0 M).bind fun M5 =>
  some M5
def rm_X8_takeFrom : Room := { frames := 1, cells := 0, slots := 0, locals := 22 }
def f_X8_takeFrom (o0 : Nat) (o1 : Nat) (M : Mm) : Option (Mm) :=
  bm (wI M o0 9 (M.1 o1 9)) fun M1 =>
  bm (wI M1 o0 10 (M1.1 o1 10)) fun M2 =>
  (f_X8_copied 8 (o1 + 17) (o0 + 17) M2).bind fun q3 =>
  (f_X8_copied 8 (o1 + 18) (o0 + 18) q3).bind fun q5 =>
  (f_X8_copied 8 (o1 + 19) (o0 + 19) q5).bind fun q7 =>
  (f_X8_copied 8 (o1 + 20) (o0 + 20) q7).bind fun q9 =>
  (f_X8_copied 8 (o1 + 21) (o0 + 21) q9).bind fun q11 =>
  (f_X8_copied 3 (o1 + 22) (o0 + 22) q11).bind fun q13 =>
  bm (wI q13 o0 17 (q13.1 o1 17)) fun M15 =>
  bm (wI M15 o0 18 (M15.1 o1 18)) fun M16 =>
  some M16
def rm_X8_personOf : Room := { frames := 2, cells := 0, slots := 0, locals := 46 }
def f_X8_personOf (o0 : Nat) (x1 : Int32) (x2 : Int32) (M : Mm) : Option (Mm × Int32) :=
  (f_X8_isOne o0 x1 M).bind fun q1 =>
  if q1 = 0 then ((f_X8_refuse o0 (-2) M).bind fun q10 =>
  some (q10.1, q10.2))
  else (if x2 = 0 then (chk x1 8 <|
  some (M, M.1 (o0 + 17) x1.toNatClampNeg))
  else if x2 = 1 then (chk x1 8 <|
  some (M, M.1 (o0 + 18) x1.toNatClampNeg))
  else if x2 = 2 then (chk x1 8 <|
  some (M, M.1 (o0 + 19) x1.toNatClampNeg))
  else if x2 = 3 then (chk x1 8 <|
  some (M, M.1 (o0 + 20) x1.toNatClampNeg))
  else if x2 = 4 then (chk x1 8 <|
  some (M, M.1 (o0 + 21) x1.toNatClampNeg))
  else ((f_X8_refuse o0 (-2) M).bind fun q8 =>
  some (q8.1, q8.2)))
def rm_X8_mostYes : Room := { frames := 0, cells := 0, slots := 0, locals := 0 }
def f_X8_mostYes_L4 (o0 : Nat) (M : Mm) : Nat → Int32 → Int32 → Option (Int32)
  | 0, _, _ => none
  | n + 1, x1, x2 =>
    if (M.1 o0 9) ≤ x2 then (some x1)
  else (chk x2 14 <|
  chk x1 14 <|
  if (M.1 (o0 + 33) x2.toNatClampNeg) ≤ (M.1 (o0 + 33) x1.toNatClampNeg) then (bi (x2 + 1) fun v1 =>
  f_X8_mostYes_L4 o0 M n x1 v1)
  else (bi (x2 + 1) fun v2 =>
  f_X8_mostYes_L4 o0 M n x2 v2))
def f_X8_mostYes (o0 : Nat) (M : Mm) : Option (Int32) :=
  (f_X8_mostYes_L4 o0 M 1000 0 1).bind fun v5 =>
  some v5
def rm_X8_tickBy : Room := { frames := 1, cells := 0, slots := 0, locals := 22 }
def f_X8_tickBy (o0 : Nat) (x1 : Int32) (x2 : Int32) (x3 : Int32) (M : Mm) : Option (Int32) :=
  (f_X8_isFree o0 x1 x3 M).bind fun q1 =>
  if x2 = 1 then (some 2)
  else if x2 = 2 then (if q1 = 0 then (some 0)
  else (chk x3 14 <|
  chk x1 8 <|
  if (M.1 (o0 + 33) x3.toNatClampNeg) < (M.1 (o0 + 18) x1.toNatClampNeg) then (some 1)
  else (some 2)))
  else if x2 = 3 then (if q1 = 0 then (some 1)
  else (some 2))
  else if x2 = 4 then (if q1 = 0 then (some 0)
  else ((f_X8_mostYes o0 M).bind fun q7 =>
  if x3 = q7 then (some 2)
  else (some 0)))
  else if x2 = 5 then (if q1 = 0 then (some 0)
  else (chk x1 8 <|
  if x3 = (M.1 (o0 + 18) x1.toNatClampNeg) then (some 2)
  else (some 0)))
  else (if q1 = 0 then (some 0)
  else (some 2))
def rm_X8_findTicks : Room := { frames := 2, cells := 0, slots := 0, locals := 46 }
def f_X8_findTicks_L2 (o0 : Nat) (x1 : Int32) : Nat → Int32 → Mm → Option (Mm)
  | 0, _, _ => none
  | n + 1, x2, M =>
    if (M.1 o0 9) ≤ x2 then (some M)
  else (chk x2 14 <| bm (wI M (o0 + 33) x2.toNatClampNeg 0) fun M1 =>
  bi (x2 + 1) fun v2 =>
  f_X8_findTicks_L2 o0 x1 n v2 M1)
def f_X8_findTicks_L32 (o0 : Nat) (x1 : Int32) (x2 : Int32) : Nat → Int32 → Mm → Option (Mm)
  | 0, _, _ => none
  | n + 1, x3, M =>
    if (M.1 o0 9) ≤ x3 then (some M)
  else (chk x2 8 <|
  chk x2 8 <|
  (f_X8_tickBy o0 x2 (M.1 (o0 + 17) x2.toNatClampNeg) x3 M).bind fun q7 =>
  chk x3 14 <| bm (wI M (o0 + 25 + x2.toNatClampNeg) x3.toNatClampNeg q7) fun M9 =>
  bi (x3 + 1) fun v10 =>
  f_X8_findTicks_L32 o0 x1 x2 n v10 M9)
def f_X8_findTicks_L68 (o0 : Nat) (x1 : Int32) (x2 : Int32) : Nat → Int32 → Mm → Option (Mm)
  | 0, _, _ => none
  | n + 1, x3, M =>
    if (M.1 o0 9) ≤ x3 then (some M)
  else (chk x3 14 <|
  chk x2 8 <|
  chk x3 14 <|
  if (M.1 (o0 + 25 + x2.toNatClampNeg) x3.toNatClampNeg) = 2 then (chk x3 14 <| bm (wI M (o0 + 33) x3.toNatClampNeg ((M.1 (o0 + 33) x3.toNatClampNeg) + 1)) fun M17 =>
  bi (x3 + 1) fun v18 =>
  f_X8_findTicks_L68 o0 x1 x2 n v18 M17)
  else (chk x3 14 <| bm (wI M (o0 + 33) x3.toNatClampNeg ((M.1 (o0 + 33) x3.toNatClampNeg) + 0)) fun M15 =>
  bi (x3 + 1) fun v16 =>
  f_X8_findTicks_L68 o0 x1 x2 n v16 M15))
def f_X8_findTicks_L25 (o0 : Nat) (x1 : Int32) : Nat → Int32 → Mm → Option (Mm)
  | 0, _, _ => none
  | n + 1, x2, M =>
    if x1 ≤ x2 then (some M)
  else ((f_X8_findTicks_L32 o0 x1 x2 1000 0 M).bind fun M13 =>
  (f_X8_findTicks_L68 o0 x1 x2 1000 0 M13).bind fun M21 =>
  bi (x2 + 1) fun v22 =>
  f_X8_findTicks_L25 o0 x1 n v22 M21)
def f_X8_findTicks (o0 : Nat) (x1 : Int32) (M : Mm) : Option (Mm) :=
  (f_X8_findTicks_L2 o0 x1 1000 0 M).bind fun M5 =>
  (f_X8_findTicks_L25 o0 x1 1000 0 M5).bind fun M25 =>
  some M25
def rm_X8_tick : Room := { frames := 3, cells := 0, slots := 0, locals := 69 }
def f_X8_tick (o0 : Nat) (x1 : Int32) (x2 : Int32) (M : Mm) : Option (Mm × Int32) :=
  (f_X8_isOne o0 x1 M).bind fun q1 =>
  if q1 = 0 then ((f_X8_refuse o0 (-2) M).bind fun q3 =>
  some (q3.1, q3.2))
  else ((f_X8_isDay o0 x2.toInt64 M).bind fun q5 =>
  if q5 = 0 then ((f_X8_refuse o0 (-2) M).bind fun q10 =>
  some (q10.1, q10.2))
  else ((f_X8_findTicks o0 (M.1 o0 10) M).bind fun q7 =>
  chk x1 8 <|
  chk x2 14 <|
  some (q7, q7.1 (o0 + 25 + x1.toNatClampNeg) x2.toNatClampNeg)))
def rm_X8_countOf : Room := { frames := 0, cells := 0, slots := 0, locals := 0 }
def f_X8_countOf_L4 (o0 : Nat) (x1 : Int32) (M : Mm) : Nat → Int32 → Int32 → Option (Int32)
  | 0, _, _ => none
  | n + 1, x2, x3 =>
    if (M.1 o0 10) ≤ x3 then (some x2)
  else (chk x3 8 <|
  chk x1 14 <|
  bi (x2 + (M.1 (o0 + 25 + x3.toNatClampNeg) x1.toNatClampNeg)) fun v2 =>
  bi (x3 + 1) fun v3 =>
  f_X8_countOf_L4 o0 x1 M n v2 v3)
def f_X8_countOf (o0 : Nat) (x1 : Int32) (M : Mm) : Option (Int32) :=
  (f_X8_countOf_L4 o0 x1 M 1000 0 0).bind fun v6 =>
  some v6
def rm_X8_count : Room := { frames := 3, cells := 0, slots := 0, locals := 69 }
def f_X8_count (o0 : Nat) (x1 : Int32) (M : Mm) : Option (Mm × Int32) :=
  (f_X8_isDay o0 x1.toInt64 M).bind fun q1 =>
  if q1 = 0 then ((f_X8_refuse o0 (-2) M).bind fun q7 =>
  some (q7.1, q7.2))
  else ((f_X8_findTicks o0 (M.1 o0 10) M).bind fun q3 =>
  (f_X8_countOf o0 x1 q3).bind fun q5 =>
  some (q3, q5))
def rm_X8_bestDay : Room := { frames := 3, cells := 0, slots := 0, locals := 69 }
def f_X8_bestDay_L12 (o0 : Nat) (x1 : Int32) (M : Mm) : Nat → Int32 → Int32 → Option (Int32)
  | 0, _, _ => none
  | n + 1, x2, x3 =>
    if (M.1 o0 9) ≤ x3 then (some x2)
  else (if x1 = 0 then (if (1 : Int32) = 0 then (bi (x3 + 1) fun v3 =>
  f_X8_bestDay_L12 o0 x1 M n x2 v3)
  else (if x2 = (-1) then (bi (x3 + 1) fun v4 =>
  f_X8_bestDay_L12 o0 x1 M n x3 v4)
  else ((f_X8_countOf o0 x3 M).bind fun q5 =>
  (f_X8_countOf o0 x2 M).bind fun q7 =>
  if q5 ≤ q7 then (bi (x3 + 1) fun v9 =>
  f_X8_bestDay_L12 o0 x1 M n x2 v9)
  else (bi (x3 + 1) fun v10 =>
  f_X8_bestDay_L12 o0 x1 M n x3 v10))))
  else (chk (M.1 (o0 + 22) 0) 8 <|
  chk x3 14 <|
  if (M.1 (o0 + 25 + (M.1 (o0 + 22) 0).toNatClampNeg) x3.toNatClampNeg) = 2 then (if (1 : Int32) = 0 then (bi (x3 + 1) fun v20 =>
  f_X8_bestDay_L12 o0 x1 M n x2 v20)
  else (if x2 = (-1) then (bi (x3 + 1) fun v21 =>
  f_X8_bestDay_L12 o0 x1 M n x3 v21)
  else ((f_X8_countOf o0 x3 M).bind fun q22 =>
  (f_X8_countOf o0 x2 M).bind fun q24 =>
  if q22 ≤ q24 then (bi (x3 + 1) fun v26 =>
  f_X8_bestDay_L12 o0 x1 M n x2 v26)
  else (bi (x3 + 1) fun v27 =>
  f_X8_bestDay_L12 o0 x1 M n x3 v27))))
  else (if (0 : Int32) = 0 then (bi (x3 + 1) fun v12 =>
  f_X8_bestDay_L12 o0 x1 M n x2 v12)
  else (if x2 = (-1) then (bi (x3 + 1) fun v13 =>
  f_X8_bestDay_L12 o0 x1 M n x3 v13)
  else ((f_X8_countOf o0 x3 M).bind fun q14 =>
  (f_X8_countOf o0 x2 M).bind fun q16 =>
  if q14 ≤ q16 then (bi (x3 + 1) fun v18 =>
  f_X8_bestDay_L12 o0 x1 M n x2 v18)
  else (bi (x3 + 1) fun v19 =>
  f_X8_bestDay_L12 o0 x1 M n x3 v19))))))
def f_X8_bestDay (o0 : Nat) (x1 : Int32) (M : Mm) : Option (Mm × Int32) :=
  (f_X8_findTicks o0 (M.1 o0 10) M).bind fun q1 =>
  (f_X8_bestDay_L12 o0 x1 q1 1000 (-1) 0).bind fun v30 =>
  some (q1, v30)
def rm_X8_best : Room := { frames := 4, cells := 0, slots := 0, locals := 93 }
def f_X8_best (o0 : Nat) (x1 : Int32) (M : Mm) : Option (Mm × Int32) :=
  (f_X8_in x1.toInt64 0 1).bind fun q1 =>
  if q1 = 0 then ((f_X8_refuse o0 (-2) M).bind fun q9 =>
  some (q9.1, q9.2))
  else (if (M.1 o0 10) = 0 then ((f_X8_refuse o0 (-5) M).bind fun q7 =>
  some (q7.1, q7.2))
  else (if x1 = 1 then ((f_X8_bestDay o0 1 M).bind fun q5 =>
  some (q5.1, q5.2))
  else ((f_X8_bestDay o0 0 M).bind fun q3 =>
  some (q3.1, q3.2))))
def rm_X8_thereOn : Room := { frames := 1, cells := 0, slots := 0, locals := 22 }
def f_X8_thereOn_L4 (o0 : Nat) (x1 : Int32) (M : Mm) : Nat → Int32 → Int32 → Option (Int32)
  | 0, _, _ => none
  | n + 1, x2, x3 =>
    if (M.1 o0 10) ≤ x3 then (some x2)
  else ((f_X8_isFree o0 x3 x1 M).bind fun q1 =>
  if q1 = 0 then (bi (x2 ||| 0) fun v3 =>
  bi (x3 + 1) fun v4 =>
  f_X8_thereOn_L4 o0 x1 M n v3 v4)
  else (bi (x2 ||| (1 <<< (x3 &&& 31))) fun v5 =>
  bi (x3 + 1) fun v6 =>
  f_X8_thereOn_L4 o0 x1 M n v5 v6))
def f_X8_thereOn (o0 : Nat) (x1 : Int32) (M : Mm) : Option (Int32) :=
  (f_X8_thereOn_L4 o0 x1 M 1000 0 0).bind fun v9 =>
  some v9
def rm_X8_there : Room := { frames := 2, cells := 0, slots := 0, locals := 47 }
def f_X8_there (o0 : Nat) (x1 : Int32) (M : Mm) : Option (Mm × Int32) :=
  (f_X8_isDay o0 x1.toInt64 M).bind fun q1 =>
  if q1 = 0 then ((f_X8_refuse o0 (-2) M).bind fun q3 =>
  some (q3.1, q3.2))
  else ((f_X8_thereOn o0 x1 M).bind fun q5 =>
  some (M, q5))
def rm_X8_allBut : Room := { frames := 0, cells := 0, slots := 0, locals := 0 }
def f_X8_allBut_L11 (o0 : Nat) (x1 : Int32) (M : Mm) : Nat → Int32 → Int32 → Option (Int32)
  | 0, _, _ => none
  | n + 1, x2, x3 =>
    if (M.1 o0 10) ≤ x3 then (some x2)
  else (if x3 = x1 then (bi (x2 &&& x2) fun v4 =>
  bi (x3 + 1) fun v5 =>
  f_X8_allBut_L11 o0 x1 M n v4 v5)
  else (chk x3 8 <|
  bi (x2 &&& (M.1 (o0 + 20) x3.toNatClampNeg)) fun v2 =>
  bi (x3 + 1) fun v3 =>
  f_X8_allBut_L11 o0 x1 M n v2 v3))
def f_X8_allBut (o0 : Nat) (x1 : Int32) (M : Mm) : Option (Int32) :=
  bi ((1 <<< ((M.1 o0 9) &&& 31)) - 1) fun v1 =>
  (f_X8_allBut_L11 o0 x1 M 1000 v1 0).bind fun v8 =>
  some v8
def rm_X8_all : Room := { frames := 1, cells := 0, slots := 0, locals := 23 }
def f_X8_all (o0 : Nat) (M : Mm) : Option (Int32) :=
  (f_X8_allBut o0 (-1) M).bind fun q1 =>
  some q1
def rm_X8_held : Room := { frames := 4, cells := 0, slots := 0, locals := 93 }
def f_X8_held_L37 (o0 : Nat) (x1 : Int32) (x2 : Int32) (x3 : Int32) (M : Mm) : Nat → Int32 → Int32 → Option (Int32)
  | 0, _, _ => none
  | n + 1, x4, x5 =>
    if (M.1 o0 9) ≤ x5 then (some x4)
  else (chk x1 8 <|
  chk x5 14 <|
  if (M.1 (o0 + 25 + x1.toNatClampNeg) x5.toNatClampNeg) = 2 then (if x2 = 0 then (bi (x4 + 1) fun v13 =>
  bi (x5 + 1) fun v14 =>
  f_X8_held_L37 o0 x1 x2 x3 M n v13 v14)
  else (if x5 = x3 then (bi (x4 + 0) fun v15 =>
  bi (x5 + 1) fun v16 =>
  f_X8_held_L37 o0 x1 x2 x3 M n v15 v16)
  else (bi (x4 + 1) fun v17 =>
  bi (x5 + 1) fun v18 =>
  f_X8_held_L37 o0 x1 x2 x3 M n v17 v18)))
  else (bi (x4 + 0) fun v11 =>
  bi (x5 + 1) fun v12 =>
  f_X8_held_L37 o0 x1 x2 x3 M n v11 v12))
def f_X8_held (o0 : Nat) (x1 : Int32) (x2 : Int32) (M : Mm) : Option (Mm × Int32) :=
  (f_X8_isOne o0 x1 M).bind fun q1 =>
  if q1 = 0 then ((f_X8_refuse o0 (-2) M).bind fun q3 =>
  some (q3.1, q3.2))
  else ((f_X8_in x2.toInt64 0 1).bind fun q5 =>
  if q5 = 0 then ((f_X8_refuse o0 (-2) M).bind fun q22 =>
  some (q22.1, q22.2))
  else ((f_X8_bestDay o0 0 M).bind fun q7 =>
  bi q7.2 fun v9 =>
  (f_X8_held_L37 o0 x1 x2 v9 q7.1 1000 0 0).bind fun v21 =>
  some (q7.1, v21)))
def rm_X8_yesDays : Room := { frames := 0, cells := 0, slots := 0, locals := 0 }
def f_X8_yesDays_L4 (o0 : Nat) (x1 : Int32) (M : Mm) : Nat → Int32 → Int32 → Option (Int32)
  | 0, _, _ => none
  | n + 1, x2, x3 =>
    if (M.1 o0 9) ≤ x3 then (some x2)
  else (chk x1 8 <|
  chk x3 14 <|
  if (M.1 (o0 + 25 + x1.toNatClampNeg) x3.toNatClampNeg) = 2 then (bi (x2 ||| (1 <<< (x3 &&& 31))) fun v4 =>
  bi (x3 + 1) fun v5 =>
  f_X8_yesDays_L4 o0 x1 M n v4 v5)
  else (bi (x2 ||| 0) fun v2 =>
  bi (x3 + 1) fun v3 =>
  f_X8_yesDays_L4 o0 x1 M n v2 v3))
def f_X8_yesDays (o0 : Nat) (x1 : Int32) (M : Mm) : Option (Int32) :=
  (f_X8_yesDays_L4 o0 x1 M 1000 0 0).bind fun v8 =>
  some v8
def rm_X8_quiet : Room := { frames := 3, cells := 0, slots := 0, locals := 69 }
def f_X8_quiet_L19 (o0 : Nat) (M : Mm) : Nat → Int32 → Int32 → Option (Int32)
  | 0, _, _ => none
  | n + 1, x1, x2 =>
    if (M.1 o0 10) ≤ x2 then (some x1)
  else ((f_X8_yesDays o0 x2 M).bind fun q4 =>
  bi (x1 &&& (q4 ^^^ (-1))) fun v6 =>
  bi (x2 + 1) fun v7 =>
  f_X8_quiet_L19 o0 M n v6 v7)
def f_X8_quiet (o0 : Nat) (M : Mm) : Option (Mm × Int32) :=
  (f_X8_findTicks o0 (M.1 o0 10) M).bind fun q1 =>
  bi ((1 <<< ((q1.1 o0 9) &&& 31)) - 1) fun v3 =>
  (f_X8_quiet_L19 o0 q1 1000 v3 0).bind fun v10 =>
  some (q1, v10)
def rm_X8_agree : Room := { frames := 3, cells := 0, slots := 0, locals := 69 }
def f_X8_agree (o0 : Nat) (x1 : Int32) (x2 : Int32) (M : Mm) : Option (Mm × Int32) :=
  (f_X8_isOne o0 x1 M).bind fun q1 =>
  if q1 = 0 then ((f_X8_refuse o0 (-2) M).bind fun q3 =>
  some (q3.1, q3.2))
  else ((f_X8_isOne o0 x2 M).bind fun q5 =>
  if q5 = 0 then ((f_X8_refuse o0 (-2) M).bind fun q7 =>
  some (q7.1, q7.2))
  else (if x1 = x2 then ((f_X8_refuse o0 (-2) M).bind fun q15 =>
  some (q15.1, q15.2))
  else ((f_X8_findTicks o0 (M.1 o0 10) M).bind fun q9 =>
  (f_X8_yesDays o0 x1 q9).bind fun q11 =>
  (f_X8_yesDays o0 x2 q9).bind fun q13 =>
  some (q9, q11 &&& q13))))
def rm_X8_votes : Room := { frames := 3, cells := 0, slots := 0, locals := 69 }
def f_X8_votes_L41 (o0 : Nat) (x1 : Int32) (x2 : Int32) (M : Mm) : Nat → Int32 → Int32 → Option (Int32)
  | 0, _, _ => none
  | n + 1, x3, x4 =>
    if (M.1 o0 10) ≤ x4 then (some x3)
  else (chk x4 8 <|
  chk x1 14 <|
  if (M.1 (o0 + 25 + x4.toNatClampNeg) x1.toNatClampNeg) = x2 then (bi (x3 + 1) fun v12 =>
  bi (x4 + 1) fun v13 =>
  f_X8_votes_L41 o0 x1 x2 M n v12 v13)
  else (bi (x3 + 0) fun v10 =>
  bi (x4 + 1) fun v11 =>
  f_X8_votes_L41 o0 x1 x2 M n v10 v11))
def f_X8_votes (o0 : Nat) (x1 : Int32) (x2 : Int32) (M : Mm) : Option (Mm × Int32) :=
  (f_X8_isDay o0 x1.toInt64 M).bind fun q1 =>
  if q1 = 0 then ((f_X8_refuse o0 (-2) M).bind fun q3 =>
  some (q3.1, q3.2))
  else ((f_X8_in x2.toInt64 0 2).bind fun q5 =>
  if q5 = 0 then ((f_X8_refuse o0 (-2) M).bind fun q17 =>
  some (q17.1, q17.2))
  else ((f_X8_findTicks o0 (M.1 o0 10) M).bind fun q7 =>
  (f_X8_votes_L41 o0 x1 x2 q7 1000 0 0).bind fun v16 =>
  some (q7, v16)))
def rm_X8_order : Room := { frames := 3, cells := 0, slots := 0, locals := 69 }
def f_X8_order_L42 (o0 : Nat) (x1 : Int32) (x2 : Int32) (x4 : Int32) (M : Mm) : Nat → Int32 → Int32 → Option (Int32)
  | 0, _, _ => none
  | n + 1, x3, x5 =>
    if (M.1 o0 9) ≤ x5 then (some x3)
  else (if ((x2 >>> (x5 &&& 31)) &&& 1) = 0 then (if (1 : Int32) = 0 then (bi (x5 + 1) fun v13 =>
  f_X8_order_L42 o0 x1 x2 x4 M n x3 v13)
  else (if x3 = (-1) then (bi (x5 + 1) fun v14 =>
  f_X8_order_L42 o0 x1 x2 x4 M n x5 v14)
  else ((f_X8_countOf o0 x5 M).bind fun q15 =>
  (f_X8_countOf o0 x3 M).bind fun q17 =>
  if q15 ≤ q17 then (bi (x5 + 1) fun v19 =>
  f_X8_order_L42 o0 x1 x2 x4 M n x3 v19)
  else (bi (x5 + 1) fun v20 =>
  f_X8_order_L42 o0 x1 x2 x4 M n x5 v20))))
  else (if (0 : Int32) = 0 then (bi (x5 + 1) fun v5 =>
  f_X8_order_L42 o0 x1 x2 x4 M n x3 v5)
  else (if x3 = (-1) then (bi (x5 + 1) fun v6 =>
  f_X8_order_L42 o0 x1 x2 x4 M n x5 v6)
  else ((f_X8_countOf o0 x5 M).bind fun q7 =>
  (f_X8_countOf o0 x3 M).bind fun q9 =>
  if q7 ≤ q9 then (bi (x5 + 1) fun v11 =>
  f_X8_order_L42 o0 x1 x2 x4 M n x3 v11)
  else (bi (x5 + 1) fun v12 =>
  f_X8_order_L42 o0 x1 x2 x4 M n x5 v12)))))
def f_X8_order_L31 (o0 : Nat) (x1 : Int32) (M : Mm) : Nat → Int32 → Int32 → Int32 → Option (Int32)
  | 0, _, _, _ => none
  | n + 1, x2, x3, x4 =>
    if x1 < x4 then (some x3)
  else ((f_X8_order_L42 o0 x1 x2 x4 M 1000 (-1) 0).bind fun v23 =>
  bi (x2 ||| (1 <<< (v23 &&& 31))) fun v24 =>
  bi (x4 + 1) fun v25 =>
  f_X8_order_L31 o0 x1 M n v24 v23 v25)
def f_X8_order (o0 : Nat) (x1 : Int32) (M : Mm) : Option (Mm × Int32) :=
  (f_X8_isDay o0 x1.toInt64 M).bind fun q1 =>
  if q1 = 0 then ((f_X8_refuse o0 (-2) M).bind fun q29 =>
  some (q29.1, q29.2))
  else ((f_X8_findTicks o0 (M.1 o0 10) M).bind fun q3 =>
  (f_X8_order_L31 o0 x1 q3 1000 0 (-1) 0).bind fun v28 =>
  some (q3, v28))
def rm_X8_without : Room := { frames := 3, cells := 0, slots := 0, locals := 69 }
def f_X8_without_L27 (o0 : Nat) (x1 : Int32) (M : Mm) : Nat → Int32 → Int32 → Option (Int32)
  | 0, _, _ => none
  | n + 1, x2, x3 =>
    if (M.1 o0 9) ≤ x3 then (some x2)
  else ((f_X8_countOf o0 x3 M).bind fun q5 =>
  chk x1 8 <|
  chk x3 14 <|
  (f_X8_countOf o0 x2 M).bind fun q8 =>
  chk x1 8 <|
  chk x2 14 <|
  if (q5 - (M.1 (o0 + 25 + x1.toNatClampNeg) x3.toNatClampNeg)) ≤ (q8 - (M.1 (o0 + 25 + x1.toNatClampNeg) x2.toNatClampNeg)) then (bi (x3 + 1) fun v11 =>
  f_X8_without_L27 o0 x1 M n x2 v11)
  else (bi (x3 + 1) fun v12 =>
  f_X8_without_L27 o0 x1 M n x3 v12))
def f_X8_without (o0 : Nat) (x1 : Int32) (M : Mm) : Option (Mm × Int32) :=
  (f_X8_isOne o0 x1 M).bind fun q1 =>
  if q1 = 0 then ((f_X8_refuse o0 (-2) M).bind fun q16 =>
  some (q16.1, q16.2))
  else ((f_X8_findTicks o0 (M.1 o0 10) M).bind fun q3 =>
  (f_X8_without_L27 o0 x1 q3 1000 0 1).bind fun v15 =>
  some (q3, v15))
def rm_X8_reachOf : Room := { frames := 0, cells := 0, slots := 0, locals := 0 }
def f_X8_reachOf_L4 (o0 : Nat) (x1 : Int32) (M : Mm) : Nat → Int32 → Int32 → Option (Int32)
  | 0, _, _ => none
  | n + 1, x2, x3 =>
    if (M.1 o0 10) ≤ x3 then (some x2)
  else (if x3 = x1 then (bi (x2 + 0) fun v1 =>
  bi (x3 + 1) fun v2 =>
  f_X8_reachOf_L4 o0 x1 M n v1 v2)
  else (chk x1 8 <|
  chk x3 8 <|
  if ((M.1 (o0 + 20) x1.toNatClampNeg) &&& (M.1 (o0 + 20) x3.toNatClampNeg)) = 0 then (bi (x2 + 0) fun v3 =>
  bi (x3 + 1) fun v4 =>
  f_X8_reachOf_L4 o0 x1 M n v3 v4)
  else (bi (x2 + 1) fun v5 =>
  bi (x3 + 1) fun v6 =>
  f_X8_reachOf_L4 o0 x1 M n v5 v6)))
def f_X8_reachOf (o0 : Nat) (x1 : Int32) (M : Mm) : Option (Int32) :=
  (f_X8_reachOf_L4 o0 x1 M 1000 0 0).bind fun v9 =>
  some v9
def rm_X8_alone : Room := { frames := 1, cells := 0, slots := 0, locals := 23 }
def f_X8_alone_L4 (o0 : Nat) (M : Mm) : Nat → Int32 → Int32 → Option (Int32)
  | 0, _, _ => none
  | n + 1, x1, x2 =>
    if (M.1 o0 10) ≤ x2 then (some x1)
  else ((f_X8_reachOf o0 x2 M).bind fun q1 =>
  if q1 = 0 then (bi (x1 ||| (1 <<< (x2 &&& 31))) fun v5 =>
  bi (x2 + 1) fun v6 =>
  f_X8_alone_L4 o0 M n v5 v6)
  else (bi (x1 ||| 0) fun v3 =>
  bi (x2 + 1) fun v4 =>
  f_X8_alone_L4 o0 M n v3 v4))
def f_X8_alone (o0 : Nat) (M : Mm) : Option (Int32) :=
  (f_X8_alone_L4 o0 M 1000 0 0).bind fun v9 =>
  some v9
def rm_X8_reach : Room := { frames := 2, cells := 0, slots := 0, locals := 46 }
def f_X8_reach (o0 : Nat) (x1 : Int32) (M : Mm) : Option (Mm × Int32) :=
  (f_X8_isOne o0 x1 M).bind fun q1 =>
  if q1 = 0 then ((f_X8_refuse o0 (-2) M).bind fun q3 =>
  some (q3.1, q3.2))
  else ((f_X8_reachOf o0 x1 M).bind fun q5 =>
  some (M, q5))
def rm_X8_daysWith : Room := { frames := 2, cells := 0, slots := 0, locals := 45 }
def f_X8_daysWith_L4 (o0 : Nat) (x1 : Int32) (M : Mm) : Nat → Int32 → Int32 → Option (Int32)
  | 0, _, _ => none
  | n + 1, x2, x3 =>
    if (M.1 o0 9) ≤ x3 then (some x2)
  else ((f_X8_thereOn o0 x3 M).bind fun q1 =>
  (f_X8_bits q1).bind fun q3 =>
  if q3 < x1 then (bi (x2 ||| 0) fun v5 =>
  bi (x3 + 1) fun v6 =>
  f_X8_daysWith_L4 o0 x1 M n v5 v6)
  else (bi (x2 ||| (1 <<< (x3 &&& 31))) fun v7 =>
  bi (x3 + 1) fun v8 =>
  f_X8_daysWith_L4 o0 x1 M n v7 v8))
def f_X8_daysWith (o0 : Nat) (x1 : Int32) (M : Mm) : Option (Int32) :=
  (f_X8_daysWith_L4 o0 x1 M 1000 0 0).bind fun v11 =>
  some v11
def rm_X8_with : Room := { frames := 3, cells := 0, slots := 0, locals := 68 }
def f_X8_with (o0 : Nat) (x1 : Int32) (M : Mm) : Option (Mm × Int32) :=
  (f_X8_in x1.toInt64 0 8).bind fun q1 =>
  if q1 = 0 then ((f_X8_refuse o0 (-2) M).bind fun q3 =>
  some (q3.1, q3.2))
  else ((f_X8_daysWith o0 x1 M).bind fun q5 =>
  some (M, q5))
def rm_X8_mayDine : Room := { frames := 2, cells := 0, slots := 0, locals := 45 }
def f_X8_mayDine (o0 : Nat) (x1 : Int32) (M : Mm) : Option (Int32) :=
  (f_X8_thereOn o0 x1 M).bind fun q1 =>
  (f_X8_bits q1).bind fun q3 =>
  if q3 < (M.1 (o0 + 22) 1) then (some 0)
  else (some 1)
def rm_X8_run : Room := { frames := 3, cells := 0, slots := 0, locals := 66 }
def f_X8_run_L6 (o0 : Nat) (M : Mm) : Nat → Int32 → Int32 → Int32 → Option (Int32)
  | 0, _, _, _ => none
  | n + 1, x1, x2, x3 =>
    if (M.1 o0 9) ≤ x3 then (some x1)
  else ((f_X8_mayDine o0 x3 M).bind fun q1 =>
  if q1 = 0 then (if (0 : Int32) ≤ x1 then (bi (x3 + 1) fun v3 =>
  f_X8_run_L6 o0 M n x1 0 v3)
  else (bi (x3 + 1) fun v4 =>
  f_X8_run_L6 o0 M n 0 0 v4))
  else (bi (x2 + 1) fun v5 =>
  if v5 ≤ x1 then (bi (x3 + 1) fun v6 =>
  f_X8_run_L6 o0 M n x1 v5 v6)
  else (bi (x3 + 1) fun v7 =>
  f_X8_run_L6 o0 M n v5 v5 v7)))
def f_X8_run (o0 : Nat) (M : Mm) : Option (Int32) :=
  (f_X8_run_L6 o0 M 1000 0 0 0).bind fun v10 =>
  some v10
def rm_X8_later : Room := { frames := 3, cells := 0, slots := 0, locals := 66 }
def f_X8_later_L18 (o0 : Nat) (M : Mm) : Nat → Int32 → Option ((Unit) ⊕ (Mm × Int32))
  | 0, _ => none
  | n + 1, x2 =>
    if (M.1 o0 9) ≤ x2 then (some (Sum.inl ()))
  else ((f_X8_mayDine o0 x2 M).bind fun q3 =>
  if q3 = 0 then (bi (x2 + 1) fun v5 =>
  f_X8_later_L18 o0 M n v5)
  else (some (Sum.inr (M, x2))))
def f_X8_later (o0 : Nat) (x1 : Int32) (M : Mm) : Option (Mm × Int32) :=
  (f_X8_isDay o0 x1.toInt64 M).bind fun q1 =>
  if q1 = 0 then ((f_X8_refuse o0 (-2) M).bind fun q8 =>
  some (q8.1, q8.2))
  else (obS (f_X8_later_L18 o0 M 1000 x1) (fun r9 => some r9) <| fun _ =>
  some (M, (-1)))
def rm_X8_weeks : Room := { frames := 2, cells := 0, slots := 0, locals := 45 }
def f_X8_weeks_L23 (o0 : Nat) (M : Mm) : Nat → Int32 → Int32 → Option (Int32)
  | 0, _, _ => none
  | n + 1, x2, x3 =>
    if (M.1 o0 9) ≤ x3 then (some x2)
  else ((f_X8_thereOn o0 x3 M).bind fun q3 =>
  (f_X8_bits q3).bind fun q5 =>
  bi (x2 + q5) fun v7 =>
  bi (x3 + 7) fun v8 =>
  f_X8_weeks_L23 o0 M n v7 v8)
def f_X8_weeks (o0 : Nat) (x1 : Int32) (M : Mm) : Option (Mm × Int32) :=
  (f_X8_in x1.toInt64 0 6).bind fun q1 =>
  if q1 = 0 then ((f_X8_refuse o0 (-2) M).bind fun q12 =>
  some (q12.1, q12.2))
  else ((f_X8_weeks_L23 o0 M 1000 0 x1).bind fun v11 =>
  some (M, v11))
def rm_X8_freeNow : Room := { frames := 1, cells := 0, slots := 0, locals := 22 }
def f_X8_freeNow_L4 (o0 : Nat) (M : Mm) : Nat → Int32 → Int32 → Option (Int32)
  | 0, _, _ => none
  | n + 1, x1, x2 =>
    if (M.1 o0 10) ≤ x2 then (some x1)
  else (chk x2 8 <|
  (f_X8_bits (M.1 (o0 + 20) x2.toNatClampNeg)).bind fun q1 =>
  bi (x1 + q1) fun v3 =>
  bi (x2 + 1) fun v4 =>
  f_X8_freeNow_L4 o0 M n v3 v4)
def f_X8_freeNow (o0 : Nat) (M : Mm) : Option (Int32) :=
  (f_X8_freeNow_L4 o0 M 1000 0 0).bind fun v7 =>
  some v7
def rm_X8_mean : Room := { frames := 2, cells := 0, slots := 0, locals := 44 }
def f_X8_mean (o0 : Nat) (M : Mm) : Option (Int32) :=
  (f_X8_freeNow o0 M).bind fun q1 =>
  chz (M.1 o0 9) <|
  some ((1000 * q1) / (M.1 o0 9))
def rm_X8_spread : Room := { frames := 0, cells := 0, slots := 0, locals := 0 }
def f_X8_spread_L7 (o0 : Nat) (M : Mm) : Nat → Int32 → Int32 → Int32 → Option (Int32 × Int32)
  | 0, _, _, _ => none
  | n + 1, x1, x2, x3 =>
    if (M.1 o0 10) ≤ x3 then (some (x1, x2))
  else (chk x3 8 <|
  if x1 ≤ (M.1 (o0 + 21) x3.toNatClampNeg) then (chk x3 8 <|
  if (M.1 (o0 + 21) x3.toNatClampNeg) ≤ x2 then (bi (x3 + 1) fun v1 =>
  f_X8_spread_L7 o0 M n x1 x2 v1)
  else (chk x3 8 <|
  bi (M.1 (o0 + 21) x3.toNatClampNeg) fun v2 =>
  bi (x3 + 1) fun v3 =>
  f_X8_spread_L7 o0 M n x1 v2 v3))
  else (chk x3 8 <|
  bi (M.1 (o0 + 21) x3.toNatClampNeg) fun v4 =>
  chk x3 8 <|
  if (M.1 (o0 + 21) x3.toNatClampNeg) ≤ x2 then (bi (x3 + 1) fun v5 =>
  f_X8_spread_L7 o0 M n v4 x2 v5)
  else (chk x3 8 <|
  bi (M.1 (o0 + 21) x3.toNatClampNeg) fun v6 =>
  bi (x3 + 1) fun v7 =>
  f_X8_spread_L7 o0 M n v4 v6 v7)))
def f_X8_spread (o0 : Nat) (M : Mm) : Option (Int32) :=
  ob2 (f_X8_spread_L7 o0 M 1000 99 0 0) fun v10 v11 =>
  if (M.1 o0 10) = 0 then (some 0)
  else (some (v11 - v10))
def rm_X8_withHost : Room := { frames := 2, cells := 0, slots := 0, locals := 46 }
def f_X8_withHost_L36 (o0 : Nat) (x2 : Int32) (M : Mm) : Nat → Int32 → Option ((Unit) ⊕ (Mm × Int32))
  | 0, _ => none
  | n + 1, x3 =>
    if (M.1 o0 9) ≤ x3 then (some (Sum.inl ()))
  else (if ((x2 >>> (x3 &&& 31)) &&& 1) = 0 then (bi (x3 + 1) fun v4 =>
  f_X8_withHost_L36 o0 x2 M n v4)
  else (some (Sum.inr (M, x3))))
def f_X8_withHost (o0 : Nat) (x1 : Int32) (M : Mm) : Option (Mm × Int32) :=
  (f_X8_isOne o0 x1 M).bind fun q1 =>
  if q1 = 0 then ((f_X8_refuse o0 (-2) M).bind fun q7 =>
  some (q7.1, q7.2))
  else (chk x1 8 <|
  chk (M.1 (o0 + 22) 0) 8 <|
  bi ((M.1 (o0 + 20) x1.toNatClampNeg) &&& (M.1 (o0 + 20) (M.1 (o0 + 22) 0).toNatClampNeg)) fun v3 =>
  obS (f_X8_withHost_L36 o0 v3 M 1000 0) (fun r9 => some r9) <| fun _ =>
  some (M, (-1)))
def rm_X8_clear : Room := { frames := 2, cells := 0, slots := 0, locals := 46 }
def f_X8_clear (o0 : Nat) (x1 : Int32) (M : Mm) : Option (Mm × Int32) :=
  (f_X8_isOne o0 x1 M).bind fun q1 =>
  if q1 = 0 then ((f_X8_refuse o0 (-2) M).bind fun q6 =>
  some (q6.1, q6.2))
  else (chk x1 8 <|
  (f_X8_bits (M.1 (o0 + 20) x1.toNatClampNeg)).bind fun q3 =>
  chk x1 8 <| bm (wI M (o0 + 20) x1.toNatClampNeg 0) fun M5 =>
  some (M5, q3))
def rm_X8_three : Room := { frames := 2, cells := 0, slots := 0, locals := 45 }
def f_X8_three_L68 (o0 : Nat) (x1 : Int32) (x3 : Int32) (x4 : Int32) : Nat → Int32 → Int32 → Mm → Option (Int32 × Mm)
  | 0, _, _, _ => none
  | n + 1, x2, x5, M =>
    if (M.1 o0 9) ≤ x5 then (some (x2, M))
  else ((f_X8_thereOn o0 x3 M).bind fun q5 =>
  (f_X8_thereOn o0 x4 M).bind fun q7 =>
  (f_X8_thereOn o0 x5 M).bind fun q9 =>
  (f_X8_bits ((q5 ||| q7) ||| q9)).bind fun q11 =>
  if q11 ≤ x2 then (bi (x5 + 1) fun v13 =>
  f_X8_three_L68 o0 x1 x3 x4 n x2 v13 M)
  else (bm (wI M (o0 + 36) 0 x3) fun M14 =>
  bm (wI M14 (o0 + 36) 1 x4) fun M15 =>
  bm (wI M15 (o0 + 36) 2 x5) fun M16 =>
  bi (x5 + 1) fun v17 =>
  f_X8_three_L68 o0 x1 x3 x4 n q11 v17 M16))
def f_X8_three_L53 (o0 : Nat) (x1 : Int32) (x3 : Int32) : Nat → Int32 → Int32 → Mm → Option (Int32 × Mm)
  | 0, _, _, _ => none
  | n + 1, x2, x4, M =>
    if (M.1 o0 9) ≤ x4 then (some (x2, M))
  else (bi (x4 + 1) fun v4 =>
  ob2 (f_X8_three_L68 o0 x1 x3 x4 1000 x2 v4 M) fun v20 M21 =>
  bi (x4 + 1) fun v22 =>
  f_X8_three_L53 o0 x1 x3 n v20 v22 M21)
def f_X8_three_L40 (o0 : Nat) (x1 : Int32) : Nat → Int32 → Int32 → Mm → Option (Int32 × Mm)
  | 0, _, _, _ => none
  | n + 1, x2, x3, M =>
    if (M.1 o0 9) ≤ x3 then (some (x2, M))
  else (bi (x3 + 1) fun v3 =>
  ob2 (f_X8_three_L53 o0 x1 x3 1000 x2 v3 M) fun v25 M26 =>
  bi (x3 + 1) fun v27 =>
  f_X8_three_L40 o0 x1 n v25 v27 M26)
def f_X8_three (o0 : Nat) (x1 : Int32) (M : Mm) : Option (Mm × Int32) :=
  (f_X8_in x1.toInt64 (-1) 2).bind fun q1 =>
  if q1 = 0 then ((f_X8_refuse o0 (-2) M).bind fun q34 =>
  some (q34.1, q34.2))
  else (if 3 ≤ (M.1 o0 9) then (ob2 (f_X8_three_L40 o0 x1 1000 (-1) 0 M) fun v30 M31 =>
  if x1 = (-1) then (some (M31, v30))
  else (chk x1 3 <|
  some (M31, M31.1 (o0 + 36) x1.toNatClampNeg)))
  else ((f_X8_refuse o0 (-5) M).bind fun q32 =>
  some (q32.1, q32.2)))
def rm_X8_most : Room := { frames := 1, cells := 0, slots := 0, locals := 25 }
def f_X8_most_L46 (o0 : Nat) (x1 : Int32) (x2 : Int32) (x3 : Int32) : Nat → Int32 → Mm → Option (Mm)
  | 0, _, _ => none
  | n + 1, x4, M =>
    if 20 < x4 then (some M)
  else (if x4 = 0 then (chk x4 21 <| bm (wI M (o0 + 34) x4.toNatClampNeg 1000000) fun M13 =>
  bi (x4 + 1) fun v14 =>
  f_X8_most_L46 o0 x1 x2 x3 n v14 M13)
  else (chk x4 21 <| bm (wI M (o0 + 34) x4.toNatClampNeg 0) fun M11 =>
  bi (x4 + 1) fun v12 =>
  f_X8_most_L46 o0 x1 x2 x3 n v12 M11))
def f_X8_most_L91 (o0 : Nat) (x1 : Int32) (x2 : Int32) (x3 : Int32) (x4 : Int32) : Nat → Int32 → Mm → Option (Mm)
  | 0, _, _ => none
  | n + 1, x5, M =>
    if x5 < 0 then (some M)
  else (if x5 = 0 then (chk x5 21 <|
  chk x5 21 <| bm (wI M (o0 + 34) x5.toNatClampNeg ((((M.1 (o0 + 34) x5.toNatClampNeg) * (12 - x2)) / 12) + 0)) fun M21 =>
  bi (x5 + (-1)) fun v22 =>
  f_X8_most_L91 o0 x1 x2 x3 x4 n v22 M21)
  else (chk (x5 - 1) 21 <|
  bi (((M.1 (o0 + 34) (x5 - 1).toNatClampNeg) * x2) / 12) fun v18 =>
  chk x5 21 <|
  chk x5 21 <| bm (wI M (o0 + 34) x5.toNatClampNeg ((((M.1 (o0 + 34) x5.toNatClampNeg) * (12 - x2)) / 12) + v18)) fun M19 =>
  bi (x5 + (-1)) fun v20 =>
  f_X8_most_L91 o0 x1 x2 x3 x4 n v20 M19))
def f_X8_most_L81 (o0 : Nat) (x1 : Int32) (x2 : Int32) (x3 : Int32) : Nat → Int32 → Mm → Option (Mm)
  | 0, _, _ => none
  | n + 1, x4, M =>
    if x1 ≤ x4 then (some M)
  else ((f_X8_most_L91 o0 x1 x2 x3 x4 1000 20 M).bind fun M25 =>
  bi (x4 + 1) fun v26 =>
  f_X8_most_L81 o0 x1 x2 x3 n v26 M25)
def f_X8_most_L164 (o0 : Nat) (M : Mm) : Nat → Int32 → Int32 → Option (Int32)
  | 0, _, _ => none
  | n + 1, x4, x5 =>
    if 20 < x5 then (some x4)
  else (chk x5 21 <|
  bi (x4 + (M.1 (o0 + 34) x5.toNatClampNeg)) fun v30 =>
  bi (x5 + 1) fun v31 =>
  f_X8_most_L164 o0 M n v30 v31)
def f_X8_most (o0 : Nat) (x1 : Int32) (x2 : Int32) (x3 : Int32) (M : Mm) : Option (Mm × Int32) :=
  (f_X8_in x1.toInt64 0 20).bind fun q1 =>
  if q1 = 0 then ((f_X8_refuse o0 (-2) M).bind fun q3 =>
  some (q3.1, q3.2))
  else ((f_X8_in x2.toInt64 0 12).bind fun q5 =>
  if q5 = 0 then ((f_X8_refuse o0 (-2) M).bind fun q7 =>
  some (q7.1, q7.2))
  else ((f_X8_in x3.toInt64 0 20).bind fun q9 =>
  if q9 = 0 then ((f_X8_refuse o0 (-2) M).bind fun q35 =>
  some (q35.1, q35.2))
  else ((f_X8_most_L46 o0 x1 x2 x3 1000 0 M).bind fun M17 =>
  (f_X8_most_L81 o0 x1 x2 x3 1000 0 M17).bind fun M29 =>
  (f_X8_most_L164 o0 M29 1000 0 x3).bind fun v34 =>
  some (M29, v34))))
def rm_X8_known : Room := { frames := 2, cells := 0, slots := 0, locals := 47 }
def f_X8_known_L52 (o0 : Nat) (x2 : Int32) (M : Mm) : Nat → Int32 → Int32 → Option (Int32)
  | 0, _, _ => none
  | n + 1, x3, x4 =>
    if (x2 * (M.1 o0 10)) ≤ x4 then (some x3)
  else (bi ((x3 * (12 - (M.1 (o0 + 22) 2))) / 12) fun v11 =>
  bi (x4 + 1) fun v12 =>
  f_X8_known_L52 o0 x2 M n v11 v12)
def f_X8_known (o0 : Nat) (x1 : Int32) (x2 : Int32) (M : Mm) : Option (Mm × Int32) :=
  (f_X8_isDay o0 x1.toInt64 M).bind fun q1 =>
  if q1 = 0 then ((f_X8_refuse o0 (-2) M).bind fun q3 =>
  some (q3.1, q3.2))
  else ((f_X8_in x2.toInt64 0 99).bind fun q5 =>
  if q5 = 0 then ((f_X8_refuse o0 (-2) M).bind fun q16 =>
  some (q16.1, q16.2))
  else ((f_X8_thereOn o0 x1 M).bind fun q7 =>
  (f_X8_bits q7).bind fun q9 =>
  if (M.1 o0 10) ≤ q9 then ((f_X8_known_L52 o0 x2 M 1000 1000000 0).bind fun v15 =>
  some (M, v15))
  else (some (M, 0))))
def rm_X8_until : Room := { frames := 3, cells := 0, slots := 0, locals := 71 }
def f_X8_until_L30 (o0 : Nat) (x1 : Int32) (x2 : Int32) : Nat → Int32 → Mm → Option ((Mm) ⊕ (Mm × Int32))
  | 0, _, _ => none
  | n + 1, x3, M =>
    if 99 < x3 then (some (Sum.inl M))
  else ((f_X8_known o0 x1 x3 M).bind fun q7 =>
  if x2 ≤ q7.2 then (bi (x3 + 1) fun v9 =>
  f_X8_until_L30 o0 x1 x2 n v9 q7.1)
  else (some (Sum.inr (q7.1, x3))))
def f_X8_until (o0 : Nat) (x1 : Int32) (x2 : Int32) (M : Mm) : Option (Mm × Int32) :=
  (f_X8_isDay o0 x1.toInt64 M).bind fun q1 =>
  if q1 = 0 then ((f_X8_refuse o0 (-2) M).bind fun q3 =>
  some (q3.1, q3.2))
  else ((f_X8_in x2.toInt64 0 1000000).bind fun q5 =>
  if q5 = 0 then ((f_X8_refuse o0 (-2) M).bind fun q13 =>
  some (q13.1, q13.2))
  else (obS (f_X8_until_L30 o0 x1 x2 1000 0 M) (fun r9 => some r9) <| fun M12 =>
  some (M12, (-1))))
def rm_X8_oddsOf : Room := { frames := 0, cells := 0, slots := 0, locals := 0 }
def f_X8_oddsOf_L7 (x0 : Int32) (x1 : Int32) (x2 : Int32) : Nat → Int32 → Int32 → Option (Int32)
  | 0, _, _ => none
  | n + 1, x3, x4 =>
    if x0 ≤ x4 then (some x3)
  else (bi ((x3 * x2) / 12) fun v1 =>
  bi (x4 + 1) fun v2 =>
  f_X8_oddsOf_L7 x0 x1 x2 n v1 v2)
def f_X8_oddsOf_L34 (x1 : Int32) (x3 : Int32) : Nat → Int64 → Int32 → Option (Int64)
  | 0, _, _ => none
  | n + 1, x4, x6 =>
    if x1 ≤ x6 then (some x4)
  else (bl ((x4 * ((1000000 - x3).toInt64)) / 1000000) fun v6 =>
  bi (x6 + 1) fun v7 =>
  f_X8_oddsOf_L34 x1 x3 n v6 v7)
def f_X8_oddsOf (x0 : Int32) (x1 : Int32) (x2 : Int32) : Option (Int32) :=
  (f_X8_oddsOf_L7 x0 x1 x2 1000 1000000 0).bind fun v5 =>
  (f_X8_oddsOf_L34 x1 v5 1000 1000000 0).bind fun v10 =>
  some ((1000000 - v10).toInt32)
def rm_X8_odds : Room := { frames := 2, cells := 0, slots := 0, locals := 45 }
def f_X8_odds (o0 : Nat) (x1 : Int32) (x2 : Int32) (x3 : Int32) (M : Mm) : Option (Mm × Int32) :=
  (f_X8_isHundred x1).bind fun q1 =>
  if q1 = 0 then ((f_X8_refuse o0 (-2) M).bind fun q3 =>
  some (q3.1, q3.2))
  else ((f_X8_isHundred x2).bind fun q5 =>
  if q5 = 0 then ((f_X8_refuse o0 (-2) M).bind fun q7 =>
  some (q7.1, q7.2))
  else ((f_X8_in x3.toInt64 0 12).bind fun q9 =>
  if q9 = 0 then ((f_X8_refuse o0 (-2) M).bind fun q11 =>
  some (q11.1, q11.2))
  else ((f_X8_oddsOf x1 x2 x3).bind fun q13 =>
  some (M, q13))))
def rm_X8_offer : Room := { frames := 2, cells := 0, slots := 0, locals := 45 }
def f_X8_offer_L41 (x1 : Int32) (x2 : Int32) (x3 : Int32) (M : Mm) : Nat → Int32 → Option ((Unit) ⊕ (Mm × Int32))
  | 0, _ => none
  | n + 1, x4 =>
    if 99 < x4 then (some (Sum.inl ()))
  else ((f_X8_oddsOf x1 x4 x2).bind fun q11 =>
  if q11 < x3 then (bi (x4 + 1) fun v13 =>
  f_X8_offer_L41 x1 x2 x3 M n v13)
  else (some (Sum.inr (M, x4))))
def f_X8_offer (o0 : Nat) (x1 : Int32) (x2 : Int32) (x3 : Int32) (M : Mm) : Option (Mm × Int32) :=
  (f_X8_isHundred x1).bind fun q1 =>
  if q1 = 0 then ((f_X8_refuse o0 (-2) M).bind fun q3 =>
  some (q3.1, q3.2))
  else ((f_X8_in x2.toInt64 0 12).bind fun q5 =>
  if q5 = 0 then ((f_X8_refuse o0 (-2) M).bind fun q7 =>
  some (q7.1, q7.2))
  else ((f_X8_in x3.toInt64 0 1000000).bind fun q9 =>
  if q9 = 0 then ((f_X8_refuse o0 (-2) M).bind fun q16 =>
  some (q16.1, q16.2))
  else (obS (f_X8_offer_L41 x1 x2 x3 M 1000 1) (fun r9 => some r9) <| fun _ =>
  some (M, (-1)))))
def rm_X8_never : Room := { frames := 2, cells := 0, slots := 0, locals := 45 }
def f_X8_never_L41 (x1 : Int32) (x2 : Int32) (x3 : Int32) (M : Mm) : Nat → Int32 → Option ((Unit) ⊕ (Mm × Int32))
  | 0, _ => none
  | n + 1, x4 =>
    if 99 < x4 then (some (Sum.inl ()))
  else ((f_X8_oddsOf x4 x1 x2).bind fun q11 =>
  if x3 ≤ q11 then (bi (x4 + 1) fun v13 =>
  f_X8_never_L41 x1 x2 x3 M n v13)
  else (some (Sum.inr (M, x4))))
def f_X8_never (o0 : Nat) (x1 : Int32) (x2 : Int32) (x3 : Int32) (M : Mm) : Option (Mm × Int32) :=
  (f_X8_isHundred x1).bind fun q1 =>
  if q1 = 0 then ((f_X8_refuse o0 (-2) M).bind fun q3 =>
  some (q3.1, q3.2))
  else ((f_X8_in x2.toInt64 0 12).bind fun q5 =>
  if q5 = 0 then ((f_X8_refuse o0 (-2) M).bind fun q7 =>
  some (q7.1, q7.2))
  else ((f_X8_in x3.toInt64 0 1000000).bind fun q9 =>
  if q9 = 0 then ((f_X8_refuse o0 (-2) M).bind fun q16 =>
  some (q16.1, q16.2))
  else (obS (f_X8_never_L41 x1 x2 x3 M 1000 1) (fun r9 => some r9) <| fun _ =>
  some (M, (-1)))))
def rm_X8_nextAsked : Room := { frames := 0, cells := 0, slots := 0, locals := 0 }
def f_X8_nextAsked_L4 (o0 : Nat) (x1 : Int32) (M : Mm) : Nat → Int32 → Int32 → Option (Int32)
  | 0, _, _ => none
  | n + 1, x2, x3 =>
    if (M.1 o0 10) ≤ x3 then (some x2)
  else (if ((x1 >>> (x3 &&& 31)) &&& 1) = 0 then (if (1 : Int32) = 0 then (bi (x3 + 1) fun v5 =>
  f_X8_nextAsked_L4 o0 x1 M n x2 v5)
  else (if x2 = (-1) then (bi (x3 + 1) fun v6 =>
  f_X8_nextAsked_L4 o0 x1 M n x3 v6)
  else (chk x3 8 <|
  chk x2 8 <|
  if (M.1 (o0 + 19) x2.toNatClampNeg) ≤ (M.1 (o0 + 19) x3.toNatClampNeg) then (bi (x3 + 1) fun v7 =>
  f_X8_nextAsked_L4 o0 x1 M n x2 v7)
  else (bi (x3 + 1) fun v8 =>
  f_X8_nextAsked_L4 o0 x1 M n x3 v8))))
  else (if (0 : Int32) = 0 then (bi (x3 + 1) fun v1 =>
  f_X8_nextAsked_L4 o0 x1 M n x2 v1)
  else (if x2 = (-1) then (bi (x3 + 1) fun v2 =>
  f_X8_nextAsked_L4 o0 x1 M n x3 v2)
  else (chk x3 8 <|
  chk x2 8 <|
  if (M.1 (o0 + 19) x2.toNatClampNeg) ≤ (M.1 (o0 + 19) x3.toNatClampNeg) then (bi (x3 + 1) fun v3 =>
  f_X8_nextAsked_L4 o0 x1 M n x2 v3)
  else (bi (x3 + 1) fun v4 =>
  f_X8_nextAsked_L4 o0 x1 M n x3 v4)))))
def f_X8_nextAsked (o0 : Nat) (x1 : Int32) (M : Mm) : Option (Int32) :=
  (f_X8_nextAsked_L4 o0 x1 M 1000 (-1) 0).bind fun v11 =>
  some v11
def rm_X8_first : Room := { frames := 1, cells := 0, slots := 0, locals := 25 }
def f_X8_first_L53 (o0 : Nat) (x1 : Int32) (M : Mm) : Nat → Int64 → Int64 → Int64 → Int32 → Int32 → Option ((Int64 × Int64) ⊕ (Mm × Int32))
  | 0, _, _, _, _, _ => none
  | n + 1, x2, x4, x6, x8, x9 =>
    if (M.1 o0 10) ≤ x9 then (some (Sum.inl (x2, x4)))
  else ((f_X8_nextAsked o0 x8 M).bind fun q3 =>
  if x9 = x1 then (some (Sum.inr (M, q3)))
  else (bl ((x4 * 12) + (x6 * 12)) fun v5 =>
  chk q3 8 <|
  bl (x6 * ((M.1 (o0 + 19) q3.toNatClampNeg).toInt64)) fun v6 =>
  bl (x2 * 12) fun v7 =>
  bi (x8 ||| (1 <<< (q3 &&& 31))) fun v8 =>
  bi (x9 + 1) fun v9 =>
  f_X8_first_L53 o0 x1 M n v7 v5 v6 v8 v9))
def f_X8_first (o0 : Nat) (x1 : Int32) (M : Mm) : Option (Mm × Int32) :=
  (f_X8_in x1.toInt64 (-1) (((M.1 o0 10) - 1).toInt64)).bind fun q1 =>
  if q1 = 0 then ((f_X8_refuse o0 (-2) M).bind fun q16 =>
  some (q16.1, q16.2))
  else (if (M.1 o0 10) = 0 then ((f_X8_refuse o0 (-5) M).bind fun q14 =>
  some (q14.1, q14.2))
  else (obS (f_X8_first_L53 o0 x1 M 1000 1 0 1 0 0) (fun r9 => some r9) <| un2 fun v12 v13 =>
  chZ v12 <|
  some (M, ((1000 * v13) / v12).toInt32)))
def rm_X8_findTwo : Room := { frames := 2, cells := 0, slots := 0, locals := 45 }
def f_X8_findTwo_L16 (o0 : Nat) (x2 : Int32) : Nat → Int32 → Int32 → Mm → Option (Int32 × Mm)
  | 0, _, _, _ => none
  | n + 1, x1, x3, M =>
    if (M.1 o0 9) ≤ x3 then (some (x1, M))
  else ((f_X8_thereOn o0 x2 M).bind fun q2 =>
  (f_X8_thereOn o0 x3 M).bind fun q4 =>
  (f_X8_bits (q2 ||| q4)).bind fun q6 =>
  if q6 ≤ x1 then (bi (x3 + 1) fun v8 =>
  f_X8_findTwo_L16 o0 x2 n x1 v8 M)
  else (bm (wI M o0 31 x2) fun M9 =>
  bm (wI M9 o0 32 x3) fun M10 =>
  bi (x3 + 1) fun v11 =>
  f_X8_findTwo_L16 o0 x2 n q6 v11 M10))
def f_X8_findTwo_L4 (o0 : Nat) : Nat → Int32 → Int32 → Mm → Option (Int32 × Mm)
  | 0, _, _, _ => none
  | n + 1, x1, x2, M =>
    if (M.1 o0 9) ≤ x2 then (some (x1, M))
  else (bi (x2 + 1) fun v1 =>
  ob2 (f_X8_findTwo_L16 o0 x2 1000 x1 v1 M) fun v14 M15 =>
  bi (x2 + 1) fun v16 =>
  f_X8_findTwo_L4 o0 n v14 v16 M15)
def f_X8_findTwo (o0 : Nat) (M : Mm) : Option (Mm × Int32) :=
  ob2 (f_X8_findTwo_L4 o0 1000 (-1) 0 M) fun v19 M20 =>
  some (M20, v19)
def rm_X8_two : Room := { frames := 3, cells := 0, slots := 0, locals := 69 }
def f_X8_two (o0 : Nat) (x1 : Int32) (M : Mm) : Option (Mm × Int32) :=
  (f_X8_in x1.toInt64 (-1) 1).bind fun q1 =>
  if q1 = 0 then ((f_X8_refuse o0 (-2) M).bind fun q8 =>
  some (q8.1, q8.2))
  else (if 2 ≤ (M.1 o0 9) then ((f_X8_findTwo o0 M).bind fun q3 =>
  bi q3.2 fun v5 =>
  if x1 = (-1) then (some (q3.1, v5))
  else (if x1 = 0 then (some (q3.1, q3.1.1 o0 31))
  else (some (q3.1, q3.1.1 o0 32))))
  else ((f_X8_refuse o0 (-5) M).bind fun q6 =>
  some (q6.1, q6.2)))
def rm_X8_fixed : Room := { frames := 2, cells := 0, slots := 0, locals := 45 }
def f_X8_fixed_L18 (o0 : Nat) (x1 : Int32) (x2 : Int32) (x3 : Int32) (M : Mm) : Nat → Int32 → Int32 → Option (Int32)
  | 0, _, _ => none
  | n + 1, x4, x5 =>
    if (M.1 o0 9) ≤ x5 then (some x4)
  else ((f_X8_thereOn o0 x5 M).bind fun q1 =>
  (f_X8_bits q1).bind fun q3 =>
  bi (x4 + q3) fun v5 =>
  bi (x5 + 7) fun v6 =>
  f_X8_fixed_L18 o0 x1 x2 x3 M n v5 v6)
def f_X8_fixed_L6 (o0 : Nat) (M : Mm) : Nat → Int32 → Int32 → Int32 → Option (Int32)
  | 0, _, _, _ => none
  | n + 1, x1, x2, x3 =>
    if 7 ≤ x3 then (some x1)
  else ((f_X8_fixed_L18 o0 x1 x2 x3 M 1000 0 x3).bind fun v9 =>
  if v9 ≤ x2 then (if v9 ≤ x2 then (bi (x3 + 1) fun v10 =>
  f_X8_fixed_L6 o0 M n x1 x2 v10)
  else (bi (x3 + 1) fun v11 =>
  f_X8_fixed_L6 o0 M n x1 v9 v11))
  else (if v9 ≤ x2 then (bi (x3 + 1) fun v12 =>
  f_X8_fixed_L6 o0 M n x3 x2 v12)
  else (bi (x3 + 1) fun v13 =>
  f_X8_fixed_L6 o0 M n x3 v9 v13)))
def f_X8_fixed (o0 : Nat) (M : Mm) : Option (Int32) :=
  (f_X8_fixed_L6 o0 M 1000 0 (-1) 0).bind fun v16 =>
  some v16
def rm_X8_seekFair0 : Room := { frames := 2, cells := 0, slots := 0, locals := 60 }
def f_X8_seekFair0 (o0 : Nat) (x1 : Int32) (x2 : Int32) (x3 : Int32) (M : Mm) : Option (Mm) := none
def rm_X8_seekFair1 : Room := { frames := 3, cells := 0, slots := 0, locals := 120 }
def f_X8_seekFair1_L171 (o0 : Nat) (x1 : Int32) (x2 : Int32) : Nat → Int32 → Mm → Option (Mm)
  | 0, _, _ => none
  | n + 1, x4, M =>
    if (M.1 o0 9) ≤ x4 then (some M)
  else (chk x1 3 <| bm (wI M (o0 + 35) x1.toNatClampNeg x4) fun M1 =>
  (f_X8_seekFair0 o0 (x1 + 1) x2 (x4 + 1) M1).bind fun q2 =>
  bi (x4 + 1) fun v4 =>
  f_X8_seekFair1_L171 o0 x1 x2 n v4 q2)
def f_X8_seekFair1_L35 (o0 : Nat) (x2 : Int32) (x4 : Int32) (x5 : Int32) (x6 : Int32) (M : Mm) : Nat → Int32 → Int32 → Option (Int32)
  | 0, _, _ => none
  | n + 1, x7, x8 =>
    if x2 ≤ x8 then (some x7)
  else (chk x8 3 <|
  (f_X8_isFree o0 x6 (M.1 (o0 + 35) x8.toNatClampNeg) M).bind fun q9 =>
  if q9 = 0 then (if x7 = 99 then (bi (x7 + 0) fun v15 =>
  bi (x8 + 1) fun v16 =>
  f_X8_seekFair1_L35 o0 x2 x4 x5 x6 M n v15 v16)
  else (bi (x7 + 1) fun v13 =>
  bi (x8 + 1) fun v14 =>
  f_X8_seekFair1_L35 o0 x2 x4 x5 x6 M n v13 v14))
  else (bi (x7 + 0) fun v11 =>
  bi (x8 + 1) fun v12 =>
  f_X8_seekFair1_L35 o0 x2 x4 x5 x6 M n v11 v12))
def f_X8_seekFair1_L14 (o0 : Nat) (x2 : Int32) (M : Mm) : Nat → Int32 → Int32 → Int32 → Option (Int32 × Int32)
  | 0, _, _, _ => none
  | n + 1, x4, x5, x6 =>
    if (M.1 o0 10) ≤ x6 then (some (x4, x5))
  else (chk x6 8 <|
  bi (M.1 (o0 + 21) x6.toNatClampNeg) fun v8 =>
  (f_X8_seekFair1_L35 o0 x2 x4 x5 x6 M 1000 v8 0).bind fun v19 =>
  if v19 ≤ x4 then (bi (x5 + v19) fun v20 =>
  bi (x6 + 1) fun v21 =>
  f_X8_seekFair1_L14 o0 x2 M n x4 v20 v21)
  else (bi (x5 + v19) fun v22 =>
  bi (x6 + 1) fun v23 =>
  f_X8_seekFair1_L14 o0 x2 M n v19 v22 v23))
def f_X8_seekFair1 (o0 : Nat) (x1 : Int32) (x2 : Int32) (x3 : Int32) (M : Mm) : Option (Mm) :=
  if x1 = x2 then (ob2 (f_X8_seekFair1_L14 o0 x2 M 1000 0 0 0) fun v26 v27 =>
  if (M.1 o0 35) = (-1) then (bm (wI M o0 35 v26) fun M28 =>
  bm (wI M28 o0 36 v27) fun M29 =>
  (f_X8_copied 3 (o0 + 35) (o0 + 36) M29).bind fun q30 =>
  some q30)
  else (if v26 < (M.1 o0 35) then (bm (wI M o0 35 v26) fun M32 =>
  bm (wI M32 o0 36 v27) fun M33 =>
  (f_X8_copied 3 (o0 + 35) (o0 + 36) M33).bind fun q34 =>
  some q34)
  else (if v26 = (M.1 o0 35) then (if (M.1 o0 36) ≤ v27 then (some M)
  else (bm (wI M o0 35 v26) fun M36 =>
  bm (wI M36 o0 36 v27) fun M37 =>
  (f_X8_copied 3 (o0 + 35) (o0 + 36) M37).bind fun q38 =>
  some q38))
  else (some M))))
  else ((f_X8_seekFair1_L171 o0 x1 x2 1000 x3 M).bind fun M7 =>
  some M7)
def rm_X8_seekFair2 : Room := { frames := 4, cells := 0, slots := 0, locals := 148 }
def f_X8_seekFair2_L171 (o0 : Nat) (x1 : Int32) (x2 : Int32) : Nat → Int32 → Mm → Option (Mm)
  | 0, _, _ => none
  | n + 1, x4, M =>
    if (M.1 o0 9) ≤ x4 then (some M)
  else (chk x1 3 <| bm (wI M (o0 + 35) x1.toNatClampNeg x4) fun M1 =>
  (f_X8_seekFair1 o0 (x1 + 1) x2 (x4 + 1) M1).bind fun q2 =>
  bi (x4 + 1) fun v4 =>
  f_X8_seekFair2_L171 o0 x1 x2 n v4 q2)
def f_X8_seekFair2_L35 (o0 : Nat) (x2 : Int32) (x4 : Int32) (x5 : Int32) (x6 : Int32) (M : Mm) : Nat → Int32 → Int32 → Option (Int32)
  | 0, _, _ => none
  | n + 1, x7, x8 =>
    if x2 ≤ x8 then (some x7)
  else (chk x8 3 <|
  (f_X8_isFree o0 x6 (M.1 (o0 + 35) x8.toNatClampNeg) M).bind fun q9 =>
  if q9 = 0 then (if x7 = 99 then (bi (x7 + 0) fun v15 =>
  bi (x8 + 1) fun v16 =>
  f_X8_seekFair2_L35 o0 x2 x4 x5 x6 M n v15 v16)
  else (bi (x7 + 1) fun v13 =>
  bi (x8 + 1) fun v14 =>
  f_X8_seekFair2_L35 o0 x2 x4 x5 x6 M n v13 v14))
  else (bi (x7 + 0) fun v11 =>
  bi (x8 + 1) fun v12 =>
  f_X8_seekFair2_L35 o0 x2 x4 x5 x6 M n v11 v12))
def f_X8_seekFair2_L14 (o0 : Nat) (x2 : Int32) (M : Mm) : Nat → Int32 → Int32 → Int32 → Option (Int32 × Int32)
  | 0, _, _, _ => none
  | n + 1, x4, x5, x6 =>
    if (M.1 o0 10) ≤ x6 then (some (x4, x5))
  else (chk x6 8 <|
  bi (M.1 (o0 + 21) x6.toNatClampNeg) fun v8 =>
  (f_X8_seekFair2_L35 o0 x2 x4 x5 x6 M 1000 v8 0).bind fun v19 =>
  if v19 ≤ x4 then (bi (x5 + v19) fun v20 =>
  bi (x6 + 1) fun v21 =>
  f_X8_seekFair2_L14 o0 x2 M n x4 v20 v21)
  else (bi (x5 + v19) fun v22 =>
  bi (x6 + 1) fun v23 =>
  f_X8_seekFair2_L14 o0 x2 M n v19 v22 v23))
def f_X8_seekFair2 (o0 : Nat) (x1 : Int32) (x2 : Int32) (x3 : Int32) (M : Mm) : Option (Mm) :=
  if x1 = x2 then (ob2 (f_X8_seekFair2_L14 o0 x2 M 1000 0 0 0) fun v26 v27 =>
  if (M.1 o0 35) = (-1) then (bm (wI M o0 35 v26) fun M28 =>
  bm (wI M28 o0 36 v27) fun M29 =>
  (f_X8_copied 3 (o0 + 35) (o0 + 36) M29).bind fun q30 =>
  some q30)
  else (if v26 < (M.1 o0 35) then (bm (wI M o0 35 v26) fun M32 =>
  bm (wI M32 o0 36 v27) fun M33 =>
  (f_X8_copied 3 (o0 + 35) (o0 + 36) M33).bind fun q34 =>
  some q34)
  else (if v26 = (M.1 o0 35) then (if (M.1 o0 36) ≤ v27 then (some M)
  else (bm (wI M o0 35 v26) fun M36 =>
  bm (wI M36 o0 36 v27) fun M37 =>
  (f_X8_copied 3 (o0 + 35) (o0 + 36) M37).bind fun q38 =>
  some q38))
  else (some M))))
  else ((f_X8_seekFair2_L171 o0 x1 x2 1000 x3 M).bind fun M7 =>
  some M7)
def rm_X8_seekFair3 : Room := { frames := 5, cells := 0, slots := 0, locals := 176 }
def f_X8_seekFair3_L171 (o0 : Nat) (x1 : Int32) (x2 : Int32) : Nat → Int32 → Mm → Option (Mm)
  | 0, _, _ => none
  | n + 1, x4, M =>
    if (M.1 o0 9) ≤ x4 then (some M)
  else (chk x1 3 <| bm (wI M (o0 + 35) x1.toNatClampNeg x4) fun M1 =>
  (f_X8_seekFair2 o0 (x1 + 1) x2 (x4 + 1) M1).bind fun q2 =>
  bi (x4 + 1) fun v4 =>
  f_X8_seekFair3_L171 o0 x1 x2 n v4 q2)
def f_X8_seekFair3_L35 (o0 : Nat) (x2 : Int32) (x4 : Int32) (x5 : Int32) (x6 : Int32) (M : Mm) : Nat → Int32 → Int32 → Option (Int32)
  | 0, _, _ => none
  | n + 1, x7, x8 =>
    if x2 ≤ x8 then (some x7)
  else (chk x8 3 <|
  (f_X8_isFree o0 x6 (M.1 (o0 + 35) x8.toNatClampNeg) M).bind fun q9 =>
  if q9 = 0 then (if x7 = 99 then (bi (x7 + 0) fun v15 =>
  bi (x8 + 1) fun v16 =>
  f_X8_seekFair3_L35 o0 x2 x4 x5 x6 M n v15 v16)
  else (bi (x7 + 1) fun v13 =>
  bi (x8 + 1) fun v14 =>
  f_X8_seekFair3_L35 o0 x2 x4 x5 x6 M n v13 v14))
  else (bi (x7 + 0) fun v11 =>
  bi (x8 + 1) fun v12 =>
  f_X8_seekFair3_L35 o0 x2 x4 x5 x6 M n v11 v12))
def f_X8_seekFair3_L14 (o0 : Nat) (x2 : Int32) (M : Mm) : Nat → Int32 → Int32 → Int32 → Option (Int32 × Int32)
  | 0, _, _, _ => none
  | n + 1, x4, x5, x6 =>
    if (M.1 o0 10) ≤ x6 then (some (x4, x5))
  else (chk x6 8 <|
  bi (M.1 (o0 + 21) x6.toNatClampNeg) fun v8 =>
  (f_X8_seekFair3_L35 o0 x2 x4 x5 x6 M 1000 v8 0).bind fun v19 =>
  if v19 ≤ x4 then (bi (x5 + v19) fun v20 =>
  bi (x6 + 1) fun v21 =>
  f_X8_seekFair3_L14 o0 x2 M n x4 v20 v21)
  else (bi (x5 + v19) fun v22 =>
  bi (x6 + 1) fun v23 =>
  f_X8_seekFair3_L14 o0 x2 M n v19 v22 v23))
def f_X8_seekFair3 (o0 : Nat) (x1 : Int32) (x2 : Int32) (x3 : Int32) (M : Mm) : Option (Mm) :=
  if x1 = x2 then (ob2 (f_X8_seekFair3_L14 o0 x2 M 1000 0 0 0) fun v26 v27 =>
  if (M.1 o0 35) = (-1) then (bm (wI M o0 35 v26) fun M28 =>
  bm (wI M28 o0 36 v27) fun M29 =>
  (f_X8_copied 3 (o0 + 35) (o0 + 36) M29).bind fun q30 =>
  some q30)
  else (if v26 < (M.1 o0 35) then (bm (wI M o0 35 v26) fun M32 =>
  bm (wI M32 o0 36 v27) fun M33 =>
  (f_X8_copied 3 (o0 + 35) (o0 + 36) M33).bind fun q34 =>
  some q34)
  else (if v26 = (M.1 o0 35) then (if (M.1 o0 36) ≤ v27 then (some M)
  else (bm (wI M o0 35 v26) fun M36 =>
  bm (wI M36 o0 36 v27) fun M37 =>
  (f_X8_copied 3 (o0 + 35) (o0 + 36) M37).bind fun q38 =>
  some q38))
  else (some M))))
  else ((f_X8_seekFair3_L171 o0 x1 x2 1000 x3 M).bind fun M7 =>
  some M7)
def rm_X8_seekFair4 : Room := { frames := 6, cells := 0, slots := 0, locals := 204 }
def f_X8_seekFair4_L171 (o0 : Nat) (x1 : Int32) (x2 : Int32) : Nat → Int32 → Mm → Option (Mm)
  | 0, _, _ => none
  | n + 1, x4, M =>
    if (M.1 o0 9) ≤ x4 then (some M)
  else (chk x1 3 <| bm (wI M (o0 + 35) x1.toNatClampNeg x4) fun M1 =>
  (f_X8_seekFair3 o0 (x1 + 1) x2 (x4 + 1) M1).bind fun q2 =>
  bi (x4 + 1) fun v4 =>
  f_X8_seekFair4_L171 o0 x1 x2 n v4 q2)
def f_X8_seekFair4_L35 (o0 : Nat) (x2 : Int32) (x4 : Int32) (x5 : Int32) (x6 : Int32) (M : Mm) : Nat → Int32 → Int32 → Option (Int32)
  | 0, _, _ => none
  | n + 1, x7, x8 =>
    if x2 ≤ x8 then (some x7)
  else (chk x8 3 <|
  (f_X8_isFree o0 x6 (M.1 (o0 + 35) x8.toNatClampNeg) M).bind fun q9 =>
  if q9 = 0 then (if x7 = 99 then (bi (x7 + 0) fun v15 =>
  bi (x8 + 1) fun v16 =>
  f_X8_seekFair4_L35 o0 x2 x4 x5 x6 M n v15 v16)
  else (bi (x7 + 1) fun v13 =>
  bi (x8 + 1) fun v14 =>
  f_X8_seekFair4_L35 o0 x2 x4 x5 x6 M n v13 v14))
  else (bi (x7 + 0) fun v11 =>
  bi (x8 + 1) fun v12 =>
  f_X8_seekFair4_L35 o0 x2 x4 x5 x6 M n v11 v12))
def f_X8_seekFair4_L14 (o0 : Nat) (x2 : Int32) (M : Mm) : Nat → Int32 → Int32 → Int32 → Option (Int32 × Int32)
  | 0, _, _, _ => none
  | n + 1, x4, x5, x6 =>
    if (M.1 o0 10) ≤ x6 then (some (x4, x5))
  else (chk x6 8 <|
  bi (M.1 (o0 + 21) x6.toNatClampNeg) fun v8 =>
  (f_X8_seekFair4_L35 o0 x2 x4 x5 x6 M 1000 v8 0).bind fun v19 =>
  if v19 ≤ x4 then (bi (x5 + v19) fun v20 =>
  bi (x6 + 1) fun v21 =>
  f_X8_seekFair4_L14 o0 x2 M n x4 v20 v21)
  else (bi (x5 + v19) fun v22 =>
  bi (x6 + 1) fun v23 =>
  f_X8_seekFair4_L14 o0 x2 M n v19 v22 v23))
def f_X8_seekFair4 (o0 : Nat) (x1 : Int32) (x2 : Int32) (x3 : Int32) (M : Mm) : Option (Mm) :=
  if x1 = x2 then (ob2 (f_X8_seekFair4_L14 o0 x2 M 1000 0 0 0) fun v26 v27 =>
  if (M.1 o0 35) = (-1) then (bm (wI M o0 35 v26) fun M28 =>
  bm (wI M28 o0 36 v27) fun M29 =>
  (f_X8_copied 3 (o0 + 35) (o0 + 36) M29).bind fun q30 =>
  some q30)
  else (if v26 < (M.1 o0 35) then (bm (wI M o0 35 v26) fun M32 =>
  bm (wI M32 o0 36 v27) fun M33 =>
  (f_X8_copied 3 (o0 + 35) (o0 + 36) M33).bind fun q34 =>
  some q34)
  else (if v26 = (M.1 o0 35) then (if (M.1 o0 36) ≤ v27 then (some M)
  else (bm (wI M o0 35 v26) fun M36 =>
  bm (wI M36 o0 36 v27) fun M37 =>
  (f_X8_copied 3 (o0 + 35) (o0 + 36) M37).bind fun q38 =>
  some q38))
  else (some M))))
  else ((f_X8_seekFair4_L171 o0 x1 x2 1000 x3 M).bind fun M7 =>
  some M7)
def rm_X8_fair : Room := { frames := 7, cells := 0, slots := 0, locals := 232 }
def f_X8_fair (o0 : Nat) (x1 : Int32) (x2 : Int32) (M : Mm) : Option (Mm × Int32) :=
  (f_X8_in x1.toInt64 1 3).bind fun q1 =>
  if q1 = 0 then ((f_X8_refuse o0 (-2) M).bind fun q3 =>
  some (q3.1, q3.2))
  else ((f_X8_in x2.toInt64 (-1) ((x1 - 1).toInt64)).bind fun q5 =>
  if q5 = 0 then ((f_X8_refuse o0 (-2) M).bind fun q14 =>
  some (q14.1, q14.2))
  else (if (M.1 o0 9) < x1 then ((f_X8_refuse o0 (-5) M).bind fun q7 =>
  some (q7.1, q7.2))
  else (if (M.1 o0 10) = 0 then ((f_X8_refuse o0 (-5) M).bind fun q12 =>
  some (q12.1, q12.2))
  else (bm (wI M o0 35 (-1)) fun M9 =>
  (f_X8_seekFair4 o0 0 x1 0 M9).bind fun q10 =>
  if x2 = (-1) then (some (q10, q10.1 o0 35))
  else (chk x2 3 <|
  some (q10, q10.1 (o0 + 36) x2.toNatClampNeg))))))
def rm_X8_worstOf : Room := { frames := 0, cells := 0, slots := 0, locals := 0 }
def f_X8_worstOf_L4 (o0 : Nat) (M : Mm) : Nat → Int32 → Int32 → Option (Int32)
  | 0, _, _ => none
  | n + 1, x1, x2 =>
    if (M.1 o0 10) ≤ x2 then (some x1)
  else (chk x2 8 <|
  chk x1 8 <|
  if (M.1 (o0 + 21) x2.toNatClampNeg) ≤ (M.1 (o0 + 21) x1.toNatClampNeg) then (bi (x2 + 1) fun v1 =>
  f_X8_worstOf_L4 o0 M n x1 v1)
  else (bi (x2 + 1) fun v2 =>
  f_X8_worstOf_L4 o0 M n x2 v2))
def f_X8_worstOf (o0 : Nat) (M : Mm) : Option (Int32) :=
  (f_X8_worstOf_L4 o0 M 1000 0 1).bind fun v5 =>
  some v5
def rm_X8_worst : Room := { frames := 1, cells := 0, slots := 0, locals := 22 }
def f_X8_worst (o0 : Nat) (M : Mm) : Option (Mm × Int32) :=
  if (M.1 o0 10) = 0 then ((f_X8_refuse o0 (-5) M).bind fun q3 =>
  some (q3.1, q3.2))
  else ((f_X8_worstOf o0 M).bind fun q1 =>
  some (M, q1))
def rm_X8_drop : Room := { frames := 1, cells := 0, slots := 0, locals := 25 }
def f_X8_drop_L35 (o0 : Nat) (x1 : Int32) (M : Mm) : Nat → Int32 → Int32 → Option (Int32)
  | 0, _, _ => none
  | n + 1, x2, x3 =>
    if (M.1 o0 10) ≤ x3 then (some x2)
  else ((f_X8_allBut o0 x3 M).bind fun q3 =>
  (f_X8_bits q3).bind fun q5 =>
  (f_X8_allBut o0 x2 M).bind fun q7 =>
  (f_X8_bits q7).bind fun q9 =>
  if q5 ≤ q9 then (bi (x3 + 1) fun v11 =>
  f_X8_drop_L35 o0 x1 M n x2 v11)
  else (bi (x3 + 1) fun v12 =>
  f_X8_drop_L35 o0 x1 M n x3 v12))
def f_X8_drop (o0 : Nat) (x1 : Int32) (M : Mm) : Option (Mm × Int32) :=
  (f_X8_in x1.toInt64 0 1).bind fun q1 =>
  if q1 = 0 then ((f_X8_refuse o0 (-2) M).bind fun q22 =>
  some (q22.1, q22.2))
  else (if (M.1 o0 10) = 0 then ((f_X8_refuse o0 (-5) M).bind fun q20 =>
  some (q20.1, q20.2))
  else ((f_X8_drop_L35 o0 x1 M 1000 0 1).bind fun v15 =>
  if x1 = 0 then (some (M, v15))
  else ((f_X8_allBut o0 v15 M).bind fun q16 =>
  (f_X8_bits q16).bind fun q18 =>
  some (M, q18))))
def rm_X8_pairs : Room := { frames := 1, cells := 0, slots := 0, locals := 22 }
def f_X8_pairs_L19 (o0 : Nat) (x3 : Int32) (M : Mm) : Nat → Int32 → Int32 → Int32 → Option (Int32 × Int32)
  | 0, _, _, _ => none
  | n + 1, x1, x2, x4 =>
    if (M.1 o0 10) ≤ x4 then (some (x1, x2))
  else (chk x3 8 <|
  chk x4 8 <|
  (f_X8_bits ((M.1 (o0 + 20) x3.toNatClampNeg) &&& (M.1 (o0 + 20) x4.toNatClampNeg))).bind fun q2 =>
  if q2 ≤ x2 then (if q2 ≤ x2 then (bi (x4 + 1) fun v4 =>
  f_X8_pairs_L19 o0 x3 M n x1 x2 v4)
  else (bi (x4 + 1) fun v5 =>
  f_X8_pairs_L19 o0 x3 M n x1 q2 v5))
  else (bi ((10 * x3) + x4) fun v6 =>
  if q2 ≤ x2 then (bi (x4 + 1) fun v7 =>
  f_X8_pairs_L19 o0 x3 M n v6 x2 v7)
  else (bi (x4 + 1) fun v8 =>
  f_X8_pairs_L19 o0 x3 M n v6 q2 v8)))
def f_X8_pairs_L6 (o0 : Nat) (M : Mm) : Nat → Int32 → Int32 → Int32 → Option (Int32)
  | 0, _, _, _ => none
  | n + 1, x1, x2, x3 =>
    if (M.1 o0 10) ≤ x3 then (some x1)
  else (bi (x3 + 1) fun v1 =>
  ob2 (f_X8_pairs_L19 o0 x3 M 1000 x1 x2 v1) fun v11 v12 =>
  bi (x3 + 1) fun v13 =>
  f_X8_pairs_L6 o0 M n v11 v12 v13)
def f_X8_pairs (o0 : Nat) (M : Mm) : Option (Int32) :=
  (f_X8_pairs_L6 o0 M 1000 (-1) (-1) 0).bind fun v16 =>
  some v16
def rm_X8_noTicks : Room := { frames := 2, cells := 0, slots := 0, locals := 46 }
def f_X8_noTicks_L62 (o0 : Nat) (x1 : Int32) (M : Mm) : Nat → Int32 → Option ((Unit) ⊕ (Mm × Int32))
  | 0, _ => none
  | n + 1, x4 =>
    if (M.1 o0 9) ≤ x4 then (some (Sum.inl ()))
  else (chk x1 8 <|
  chk x4 40 <|
  (f_X8_in (M.2.1 (o0 + 5 + x1.toNatClampNeg) x4.toNatClampNeg) 0 2).bind fun q11 =>
  if q11 = 0 then ((f_X8_refuse o0 (-5) M).bind fun q14 =>
  some (Sum.inr (q14.1, q14.2)))
  else (bi (x4 + 1) fun v13 =>
  f_X8_noTicks_L62 o0 x1 M n v13))
def f_X8_noTicks (o0 : Nat) (x1 : Int32) (x2 : Int32) (M : Mm) : Option (Mm × Int32) :=
  (f_X8_in x1.toInt64 0 7).bind fun q1 =>
  if q1 = 0 then ((f_X8_refuse o0 (-2) M).bind fun q3 =>
  some (q3.1, q3.2))
  else ((f_X8_isOne o0 x2 M).bind fun q5 =>
  if q5 = 0 then ((f_X8_refuse o0 (-2) M).bind fun q20 =>
  some (q20.1, q20.2))
  else ((f_X8_noRow o0 x1 M).bind fun q7 =>
  bi q7.2 fun v9 =>
  if v9 = 0 then (chk x1 8 <|
  if (q7.1.1 o0 9) ≤ (q7.1.1 (o0 + 3) x1.toNatClampNeg) then (obS (f_X8_noTicks_L62 o0 x1 q7.1 1000 0) (fun r9 => some r9) <| fun _ =>
  some (q7.1, 0))
  else ((f_X8_refuse o0 (-2) q7.1).bind fun q18 =>
  some (q18.1, q18.2)))
  else (some (q7.1, v9))))
def rm_X8_wouldTick : Room := { frames := 2, cells := 0, slots := 0, locals := 46 }
def f_X8_wouldTick_L3 (o0 : Nat) (o1 : Nat) (x2 : Int32) (x3 : Int32) (M : Mm) : Nat → Int32 → Option ((Unit) ⊕ (Int32))
  | 0, _ => none
  | n + 1, x4 =>
    if (M.1 o0 9) ≤ x4 then (some (Sum.inl ()))
  else ((f_X8_tickBy o0 x2 x3 x4 M).bind fun q1 =>
  chk x4 40 <|
  if (lg_cmp q1.toInt64 (M.2.1 o1 x4.toNatClampNeg)) = 0 then (bi (x4 + 1) fun v3 =>
  f_X8_wouldTick_L3 o0 o1 x2 x3 M n v3)
  else (some (Sum.inr 0)))
def f_X8_wouldTick (o0 : Nat) (o1 : Nat) (x2 : Int32) (x3 : Int32) (M : Mm) : Option (Int32) :=
  obS (f_X8_wouldTick_L3 o0 o1 x2 x3 M 1000 0) (fun r9 => some r9) <| fun _ =>
  some 1
def rm_X8_meant : Room := { frames := 3, cells := 0, slots := 0, locals := 70 }
def f_X8_meant_L24 (o0 : Nat) (x1 : Int32) (x2 : Int32) (M : Mm) : Nat → Int32 → Int32 → Option (Int32)
  | 0, _, _ => none
  | n + 1, x4, x5 =>
    if 5 < x5 then (some x4)
  else (chk x1 8 <|
  (f_X8_wouldTick o0 (o0 + 5 + x1.toNatClampNeg) x2 x5 M).bind fun q7 =>
  if q7 = 0 then (bi (x4 ||| 0) fun v9 =>
  bi (x5 + 1) fun v10 =>
  f_X8_meant_L24 o0 x1 x2 M n v9 v10)
  else (bi (x4 ||| (1 <<< (x5 &&& 31))) fun v11 =>
  bi (x5 + 1) fun v12 =>
  f_X8_meant_L24 o0 x1 x2 M n v11 v12))
def f_X8_meant (o0 : Nat) (x1 : Int32) (x2 : Int32) (M : Mm) : Option (Mm × Int32) :=
  (f_X8_noTicks o0 x1 x2 M).bind fun q1 =>
  bi q1.2 fun v3 =>
  if v3 = 0 then ((f_X8_findTicks o0 x2 q1.1).bind fun q4 =>
  (f_X8_meant_L24 o0 x1 x2 q4 1000 0 0).bind fun v15 =>
  some (q4, v15))
  else (some (q1.1, v3))
def rm_X8_freed : Room := { frames := 3, cells := 0, slots := 0, locals := 70 }
def f_X8_freed_L19 (o0 : Nat) (x1 : Int32) (x2 : Int32) (M : Mm) : Nat → Int32 → Int32 → Option (Int32)
  | 0, _, _ => none
  | n + 1, x4, x5 =>
    if (M.1 o0 9) ≤ x5 then (some x4)
  else (chk x2 8 <|
  if (M.1 (o0 + 17) x2.toNatClampNeg) = 1 then (some x4)
  else (chk x1 8 <|
  chk x5 40 <|
  if (lg_cmp (M.2.1 (o0 + 5 + x1.toNatClampNeg) x5.toNatClampNeg) 2) = 0 then (if (1 : Int32) = 0 then (bi (x4 ||| 0) fun v5 =>
  bi (x5 + 1) fun v6 =>
  f_X8_freed_L19 o0 x1 x2 M n v5 v6)
  else (bi (x4 ||| (1 <<< (x5 &&& 31))) fun v7 =>
  bi (x5 + 1) fun v8 =>
  f_X8_freed_L19 o0 x1 x2 M n v7 v8))
  else (chk x2 8 <|
  if (M.1 (o0 + 17) x2.toNatClampNeg) = 2 then (chk x1 8 <|
  chk x5 40 <|
  if (lg_cmp (M.2.1 (o0 + 5 + x1.toNatClampNeg) x5.toNatClampNeg) 1) = 0 then (if (1 : Int32) = 0 then (bi (x4 ||| 0) fun v18 =>
  bi (x5 + 1) fun v19 =>
  f_X8_freed_L19 o0 x1 x2 M n v18 v19)
  else (bi (x4 ||| (1 <<< (x5 &&& 31))) fun v20 =>
  bi (x5 + 1) fun v21 =>
  f_X8_freed_L19 o0 x1 x2 M n v20 v21))
  else (if (0 : Int32) = 0 then (bi (x4 ||| 0) fun v14 =>
  bi (x5 + 1) fun v15 =>
  f_X8_freed_L19 o0 x1 x2 M n v14 v15)
  else (bi (x4 ||| (1 <<< (x5 &&& 31))) fun v16 =>
  bi (x5 + 1) fun v17 =>
  f_X8_freed_L19 o0 x1 x2 M n v16 v17)))
  else (if (0 : Int32) = 0 then (bi (x4 ||| 0) fun v9 =>
  bi (x5 + 1) fun v10 =>
  f_X8_freed_L19 o0 x1 x2 M n v9 v10)
  else (bi (x4 ||| (1 <<< (x5 &&& 31))) fun v11 =>
  bi (x5 + 1) fun v12 =>
  f_X8_freed_L19 o0 x1 x2 M n v11 v12)))))
def f_X8_freed (o0 : Nat) (x1 : Int32) (x2 : Int32) (M : Mm) : Option (Mm × Int32) :=
  (f_X8_noTicks o0 x1 x2 M).bind fun q1 =>
  bi q1.2 fun v3 =>
  if v3 = 0 then ((f_X8_freed_L19 o0 x1 x2 q1.1 1000 0 0).bind fun v24 =>
  some (q1.1, v24))
  else (some (q1.1, v3))
def rm_X8_noPlan : Room := { frames := 2, cells := 0, slots := 0, locals := 46 }
def f_X8_noPlan (o0 : Nat) (x1 : Int32) (x2 : Int32) (M : Mm) : Option (Mm × Int32) :=
  (f_X8_in x1.toInt64 0 7).bind fun q1 =>
  if q1 = 0 then ((f_X8_refuse o0 (-2) M).bind fun q3 =>
  some (q3.1, q3.2))
  else ((f_X8_in x2.toInt64 0 40).bind fun q5 =>
  if q5 = 0 then ((f_X8_refuse o0 (-2) M).bind fun q12 =>
  some (q12.1, q12.2))
  else ((f_X8_noRow o0 x1 M).bind fun q7 =>
  bi q7.2 fun v9 =>
  if v9 = 0 then (chk x1 8 <|
  if x2 ≤ (q7.1.1 (o0 + 3) x1.toNatClampNeg) then (some (q7.1, 0))
  else ((f_X8_refuse o0 (-2) q7.1).bind fun q10 =>
  some (q10.1, q10.2)))
  else (some (q7.1, v9))))
def rm_X8_wrongIn : Room := { frames := 3, cells := 0, slots := 0, locals := 66 }
def f_X8_wrongIn_L2 (o0 : Nat) (o1 : Nat) (x2 : Int32) (M : Mm) : Nat → Int32 → Option ((Unit) ⊕ (Int32))
  | 0, _ => none
  | n + 1, x3 =>
    if x2 ≤ x3 then (some (Sum.inl ()))
  else (if x3 = 0 then (chk x3 40 <|
  (f_X8_isDay o0 (M.2.1 o1 x3.toNatClampNeg) M).bind fun q1 =>
  if q1 = 0 then (some (Sum.inr x3))
  else (if (1 : Int32) = 0 then (some (Sum.inr x3))
  else (chk x3 40 <|
  (f_X8_mayDine o0 ((M.2.1 o1 x3.toNatClampNeg).toInt32) M).bind fun q3 =>
  if q3 = 0 then (some (Sum.inr x3))
  else (bi (x3 + 1) fun v5 =>
  f_X8_wrongIn_L2 o0 o1 x2 M n v5))))
  else (chk x3 40 <|
  chk (x3 - 1) 40 <|
  if (lg_cmp (M.2.1 o1 x3.toNatClampNeg) (M.2.1 o1 (x3 - 1).toNatClampNeg)) ≤ 0 then (chk x3 40 <|
  (f_X8_isDay o0 (M.2.1 o1 x3.toNatClampNeg) M).bind fun q6 =>
  if q6 = 0 then (some (Sum.inr x3))
  else (if (0 : Int32) = 0 then (some (Sum.inr x3))
  else (chk x3 40 <|
  (f_X8_mayDine o0 ((M.2.1 o1 x3.toNatClampNeg).toInt32) M).bind fun q8 =>
  if q8 = 0 then (some (Sum.inr x3))
  else (bi (x3 + 1) fun v10 =>
  f_X8_wrongIn_L2 o0 o1 x2 M n v10))))
  else (chk x3 40 <|
  (f_X8_isDay o0 (M.2.1 o1 x3.toNatClampNeg) M).bind fun q11 =>
  if q11 = 0 then (some (Sum.inr x3))
  else (if (1 : Int32) = 0 then (some (Sum.inr x3))
  else (chk x3 40 <|
  (f_X8_mayDine o0 ((M.2.1 o1 x3.toNatClampNeg).toInt32) M).bind fun q13 =>
  if q13 = 0 then (some (Sum.inr x3))
  else (bi (x3 + 1) fun v15 =>
  f_X8_wrongIn_L2 o0 o1 x2 M n v15))))))
def f_X8_wrongIn (o0 : Nat) (o1 : Nat) (x2 : Int32) (M : Mm) : Option (Int32) :=
  obS (f_X8_wrongIn_L2 o0 o1 x2 M 1000 0) (fun r9 => some r9) <| fun _ =>
  some (-1)
def rm_X8_judge : Room := { frames := 4, cells := 0, slots := 0, locals := 90 }
def f_X8_judge (o0 : Nat) (x1 : Int32) (x2 : Int32) (M : Mm) : Option (Mm × Int32) :=
  (f_X8_noPlan o0 x1 x2 M).bind fun q1 =>
  bi q1.2 fun v3 =>
  if v3 = 0 then (chk x1 8 <|
  (f_X8_wrongIn o0 (o0 + 5 + x1.toNatClampNeg) x2 q1.1).bind fun q5 =>
  some (q1.1, q5))
  else (some (q1.1, v3))
def rm_X8_leftOut : Room := { frames := 4, cells := 0, slots := 0, locals := 90 }
def f_X8_leftOut_L103 (o0 : Nat) (x1 : Int32) (x2 : Int32) (x3 : Int32) (x5 : Int32) (x6 : Int32) (x7 : Int32) (M : Mm) : Nat → Int32 → Int32 → Option (Int32)
  | 0, _, _ => none
  | n + 1, x8, x9 =>
    if x2 ≤ x9 then (some x8)
  else (chk x1 8 <|
  chk x9 40 <|
  (f_X8_isFree o0 x7 ((M.2.1 (o0 + 5 + x1.toNatClampNeg) x9.toNatClampNeg).toInt32) M).bind fun q18 =>
  if q18 = 0 then (bi (x8 + 1) fun v20 =>
  bi (x9 + 1) fun v21 =>
  f_X8_leftOut_L103 o0 x1 x2 x3 x5 x6 x7 M n v20 v21)
  else (bi (x8 + 0) fun v22 =>
  bi (x9 + 1) fun v23 =>
  f_X8_leftOut_L103 o0 x1 x2 x3 x5 x6 x7 M n v22 v23))
def f_X8_leftOut_L88 (o0 : Nat) (x1 : Int32) (x2 : Int32) (x3 : Int32) (M : Mm) : Nat → Int32 → Int32 → Int32 → Option (Int32 × Int32)
  | 0, _, _, _ => none
  | n + 1, x5, x6, x7 =>
    if (M.1 o0 10) ≤ x7 then (some (x5, x6))
  else ((f_X8_leftOut_L103 o0 x1 x2 x3 x5 x6 x7 M 1000 0 0).bind fun v26 =>
  bi (x5 + v26) fun v27 =>
  chk x7 8 <|
  if 99 ≤ ((M.1 (o0 + 21) x7.toNatClampNeg) + v26) then (if (99 : Int32) ≤ x6 then (bi (x7 + 1) fun v28 =>
  f_X8_leftOut_L88 o0 x1 x2 x3 M n v27 x6 v28)
  else (bi (x7 + 1) fun v29 =>
  f_X8_leftOut_L88 o0 x1 x2 x3 M n v27 99 v29))
  else (chk x7 8 <|
  bi ((M.1 (o0 + 21) x7.toNatClampNeg) + v26) fun v30 =>
  if v30 ≤ x6 then (bi (x7 + 1) fun v31 =>
  f_X8_leftOut_L88 o0 x1 x2 x3 M n v27 x6 v31)
  else (bi (x7 + 1) fun v32 =>
  f_X8_leftOut_L88 o0 x1 x2 x3 M n v27 v30 v32)))
def f_X8_leftOut (o0 : Nat) (x1 : Int32) (x2 : Int32) (x3 : Int32) (M : Mm) : Option (Mm × Int32) :=
  (f_X8_in x1.toInt64 0 7).bind fun q1 =>
  if q1 = 0 then ((f_X8_refuse o0 (-2) M).bind fun q3 =>
  some (q3.1, q3.2))
  else ((f_X8_in x2.toInt64 0 40).bind fun q5 =>
  if q5 = 0 then ((f_X8_refuse o0 (-2) M).bind fun q7 =>
  some (q7.1, q7.2))
  else ((f_X8_in x3.toInt64 0 1).bind fun q9 =>
  if q9 = 0 then ((f_X8_refuse o0 (-2) M).bind fun q39 =>
  some (q39.1, q39.2))
  else ((f_X8_noPlan o0 x1 x2 M).bind fun q11 =>
  bi q11.2 fun v13 =>
  if v13 = 0 then (chk x1 8 <|
  (f_X8_wrongIn o0 (o0 + 5 + x1.toNatClampNeg) x2 q11.1).bind fun q15 =>
  if q15 = (-1) then (ob2 (f_X8_leftOut_L88 o0 x1 x2 x3 q11.1 1000 0 0 0) fun v35 v36 =>
  if x3 = 0 then (some (q11.1, v35))
  else (some (q11.1, v36)))
  else ((f_X8_refuse o0 (-5) q11.1).bind fun q37 =>
  some (q37.1, q37.2)))
  else (some (q11.1, v13)))))
def rm_X8_dines : Room := { frames := 1, cells := 0, slots := 0, locals := 22 }
def f_X8_dines_L2 (o0 : Nat) (x1 : Int32) : Nat → Int32 → Mm → Option (Mm)
  | 0, _, _ => none
  | n + 1, x2, M =>
    if (M.1 o0 10) ≤ x2 then (some M)
  else (chk x2 8 <|
  (f_X8_isFree o0 x2 x1 M).bind fun q1 =>
  if q1 = 0 then (chk x2 8 <|
  if (M.1 (o0 + 21) x2.toNatClampNeg) = 99 then (chk x2 8 <| bm (wI M (o0 + 21) x2.toNatClampNeg ((M.1 (o0 + 21) x2.toNatClampNeg) + 0)) fun M7 =>
  bi (x2 + 1) fun v8 =>
  f_X8_dines_L2 o0 x1 n v8 M7)
  else (chk x2 8 <| bm (wI M (o0 + 21) x2.toNatClampNeg ((M.1 (o0 + 21) x2.toNatClampNeg) + 1)) fun M5 =>
  bi (x2 + 1) fun v6 =>
  f_X8_dines_L2 o0 x1 n v6 M5))
  else (chk x2 8 <| bm (wI M (o0 + 21) x2.toNatClampNeg ((M.1 (o0 + 21) x2.toNatClampNeg) + 0)) fun M3 =>
  bi (x2 + 1) fun v4 =>
  f_X8_dines_L2 o0 x1 n v4 M3))
def f_X8_dines (o0 : Nat) (x1 : Int32) (M : Mm) : Option (Mm) :=
  (f_X8_dines_L2 o0 x1 1000 0 M).bind fun M11 =>
  bm (wI M11 o0 17 ((M11.1 o0 17) + 1)) fun M12 =>
  some M12
def rm_X8_done : Room := { frames := 4, cells := 0, slots := 0, locals := 90 }
def f_X8_done_L38 (o0 : Nat) (x1 : Int32) (x2 : Int32) : Nat → Int32 → Mm → Option (Mm)
  | 0, _, _ => none
  | n + 1, x4, M =>
    if x2 ≤ x4 then (some M)
  else (chk x1 8 <|
  chk x4 40 <|
  (f_X8_dines o0 ((M.2.1 (o0 + 5 + x1.toNatClampNeg) x4.toNatClampNeg).toInt32) M).bind fun q8 =>
  bi (x4 + 1) fun v10 =>
  f_X8_done_L38 o0 x1 x2 n v10 q8)
def f_X8_done (o0 : Nat) (x1 : Int32) (x2 : Int32) (M : Mm) : Option (Mm × Int32) :=
  (f_X8_noPlan o0 x1 x2 M).bind fun q1 =>
  bi q1.2 fun v3 =>
  if v3 = 0 then (chk x1 8 <|
  (f_X8_wrongIn o0 (o0 + 5 + x1.toNatClampNeg) x2 q1.1).bind fun q5 =>
  if q5 = (-1) then ((f_X8_done_L38 o0 x1 x2 1000 0 q1.1).bind fun M13 =>
  some (M13, M13.1 o0 17))
  else ((f_X8_refuse o0 (-5) q1.1).bind fun q14 =>
  some (q14.1, q14.2)))
  else (some (q1.1, v3))
def rm_X8_below : Room := { frames := 0, cells := 0, slots := 0, locals := 0 }
def f_X8_below (o0 : Nat) (x1 : Int32) (M : Mm) : Option (Mm × Int32) :=
  bm (wI M o0 18 (((M.1 o0 18) * 1103515245) + 12345)) fun M1 =>
  chz x1 <|
  some (M1, (((M1.1 o0 18).toUInt32 >>> ((16 : Int32).toUInt32 &&& Int32.toUInt32 31)).toInt32) - (((M1.1 o0 18).toUInt32 >>> ((16 : Int32).toUInt32 &&& Int32.toUInt32 31)).toInt32) / x1 * x1)
def rm_X8_dine : Room := { frames := 3, cells := 0, slots := 0, locals := 66 }
def f_X8_dine (o0 : Nat) (x1 : Int32) (M : Mm) : Option (Mm × Int32) :=
  (f_X8_isDay o0 x1.toInt64 M).bind fun q1 =>
  if q1 = 0 then ((f_X8_refuse o0 (-2) M).bind fun q13 =>
  some (q13.1, q13.2))
  else ((f_X8_mayDine o0 x1 M).bind fun q3 =>
  if q3 = 0 then ((f_X8_refuse o0 (-5) M).bind fun q11 =>
  some (q11.1, q11.2))
  else ((f_X8_dines o0 x1 M).bind fun q5 =>
  (f_X8_thereOn o0 x1 q5).bind fun q7 =>
  (f_X8_bits q7).bind fun q9 =>
  some (q5, q9)))
def rm_X8_pass : Room := { frames := 2, cells := 0, slots := 0, locals := 45 }
def f_X8_pass_L41 (o0 : Nat) (x1 : Int32) (x2 : Int32) (x3 : Int32) (x4 : Int32) : Nat → Int32 → Mm → Option (Mm)
  | 0, _, _ => none
  | n + 1, x5, M =>
    if (M.1 o0 9) ≤ x5 then (some M)
  else ((f_X8_isFree o0 x4 x5 M).bind fun q5 =>
  if q5 = 0 then (bi (x5 + 1) fun v7 =>
  f_X8_pass_L41 o0 x1 x2 x3 x4 n v7 M)
  else ((f_X8_below o0 12 M).bind fun q8 =>
  if (q8.1.1 (o0 + 22) 2) ≤ q8.2 then (bi (x5 + 1) fun v10 =>
  f_X8_pass_L41 o0 x1 x2 x3 x4 n v10 q8.1)
  else ((f_X8_frees o0 x4 x5 0 q8.1).bind fun q11 =>
  bi (x5 + 1) fun v13 =>
  f_X8_pass_L41 o0 x1 x2 x3 x4 n v13 q11)))
def f_X8_pass_L29 (o0 : Nat) (x1 : Int32) (x2 : Int32) (x3 : Int32) : Nat → Int32 → Mm → Option (Mm)
  | 0, _, _ => none
  | n + 1, x4, M =>
    if (M.1 o0 10) ≤ x4 then (some M)
  else ((f_X8_pass_L41 o0 x1 x2 x3 x4 1000 0 M).bind fun M16 =>
  bi (x4 + 1) fun v17 =>
  f_X8_pass_L29 o0 x1 x2 x3 n v17 M16)
def f_X8_pass_L21 (o0 : Nat) (x1 : Int32) (x2 : Int32) : Nat → Int32 → Mm → Option (Mm)
  | 0, _, _ => none
  | n + 1, x3, M =>
    if x1 ≤ x3 then (some M)
  else ((f_X8_pass_L29 o0 x1 x2 x3 1000 0 M).bind fun M20 =>
  bi (x3 + 1) fun v21 =>
  f_X8_pass_L21 o0 x1 x2 n v21 M20)
def f_X8_pass (o0 : Nat) (x1 : Int32) (M : Mm) : Option (Mm × Int32) :=
  (f_X8_isHundred x1).bind fun q1 =>
  if q1 = 0 then ((f_X8_refuse o0 (-2) M).bind fun q27 =>
  some (q27.1, q27.2))
  else ((f_X8_freeNow o0 M).bind fun q3 =>
  (f_X8_pass_L21 o0 x1 q3 1000 0 M).bind fun M24 =>
  (f_X8_freeNow o0 M24).bind fun q25 =>
  some (M24, q3 - q25))
def rm_X8_fills : Room := { frames := 1, cells := 0, slots := 0, locals := 23 }
def f_X8_fills_L12 (o0 : Nat) (x1 : Int32) : Nat → Int32 → Mm → Option (Mm)
  | 0, _, _ => none
  | n + 1, x2, M =>
    if (M.1 o0 9) ≤ x2 then (some M)
  else ((f_X8_below o0 12 M).bind fun q1 =>
  chk x1 8 <|
  if (q1.1.1 (o0 + 19) x1.toNatClampNeg) ≤ q1.2 then ((f_X8_frees o0 x1 x2 0 q1.1).bind fun q3 =>
  bi (x2 + 1) fun v5 =>
  f_X8_fills_L12 o0 x1 n v5 q3)
  else ((f_X8_frees o0 x1 x2 1 q1.1).bind fun q6 =>
  bi (x2 + 1) fun v8 =>
  f_X8_fills_L12 o0 x1 n v8 q6))
def f_X8_fills_L2 (o0 : Nat) : Nat → Int32 → Mm → Option (Mm)
  | 0, _, _ => none
  | n + 1, x1, M =>
    if (M.1 o0 10) ≤ x1 then (some M)
  else ((f_X8_fills_L12 o0 x1 1000 0 M).bind fun M11 =>
  bi (x1 + 1) fun v12 =>
  f_X8_fills_L2 o0 n v12 M11)
def f_X8_fills (o0 : Nat) (M : Mm) : Option (Mm) :=
  (f_X8_fills_L2 o0 1000 0 M).bind fun M15 =>
  some M15
def rm_X8_fill : Room := { frames := 2, cells := 0, slots := 0, locals := 45 }
def f_X8_fill (o0 : Nat) (M : Mm) : Option (Mm × Int32) :=
  (f_X8_fills o0 M).bind fun q1 =>
  (f_X8_freeNow o0 q1).bind fun q3 =>
  some (q1, q3)
def rm_X8_years : Room := { frames := 4, cells := 0, slots := 0, locals := 93 }
def f_X8_years_L37 (o0 : Nat) (x1 : Int32) : Nat → Int32 → Int32 → Mm → Option (Int32 × Mm)
  | 0, _, _, _ => none
  | n + 1, x2, x3, M =>
    if x1 ≤ x3 then (some (x2, M))
  else ((f_X8_fills o0 M).bind fun q3 =>
  (f_X8_bestDay o0 0 q3).bind fun q5 =>
  bi q5.2 fun v7 =>
  (f_X8_mayDine o0 v7 q5.1).bind fun q8 =>
  if q8 = 0 then (bi (x3 + 1) fun v10 =>
  f_X8_years_L37 o0 x1 n x2 v10 q5.1)
  else ((f_X8_dines o0 v7 q5.1).bind fun q11 =>
  bi (x2 + 1) fun v13 =>
  bi (x3 + 1) fun v14 =>
  f_X8_years_L37 o0 x1 n v13 v14 q11))
def f_X8_years (o0 : Nat) (x1 : Int32) (M : Mm) : Option (Mm × Int32) :=
  (f_X8_in x1.toInt64 1 50).bind fun q1 =>
  if q1 = 0 then ((f_X8_refuse o0 (-2) M).bind fun q21 =>
  some (q21.1, q21.2))
  else (if (M.1 o0 10) = 0 then ((f_X8_refuse o0 (-5) M).bind fun q19 =>
  some (q19.1, q19.2))
  else (ob2 (f_X8_years_L37 o0 x1 1000 0 0 M) fun v17 M18 =>
  some (M18, v17)))
def rm_X8_seed : Room := { frames := 0, cells := 0, slots := 0, locals := 0 }
def f_X8_seed (o0 : Nat) (x1 : Int32) (M : Mm) : Option (Mm × Int32) :=
  bi (M.1 o0 18) fun v1 =>
  bm (wI M o0 18 x1) fun M2 =>
  some (M2, v1)
def rm_X8_status : Room := { frames := 1, cells := 0, slots := 0, locals := 25 }
def f_X8_status_L82 (o0 : Nat) (M : Mm) : Nat → Int32 → Int32 → Option (Int32)
  | 0, _, _ => none
  | n + 1, x2, x3 =>
    if (M.1 o0 10) ≤ x3 then (some x2)
  else (chk x3 8 <|
  bi (x2 + (M.1 (o0 + 21) x3.toNatClampNeg)) fun v8 =>
  bi (x3 + 1) fun v9 =>
  f_X8_status_L82 o0 M n v8 v9)
def f_X8_status_L119 (o0 : Nat) (M : Mm) : Nat → Int32 → Int32 → Option (Int32)
  | 0, _, _ => none
  | n + 1, x2, x3 =>
    if 8 ≤ x3 then (some x2)
  else (chk x3 8 <|
  if (M.1 (o0 + 1) x3.toNatClampNeg) = 0 then (bi (x2 + 0) fun v16 =>
  bi (x3 + 1) fun v17 =>
  f_X8_status_L119 o0 M n v16 v17)
  else (bi (x2 + 1) fun v18 =>
  bi (x3 + 1) fun v19 =>
  f_X8_status_L119 o0 M n v18 v19))
def f_X8_status (o0 : Nat) (x1 : Int32) (M : Mm) : Option (Int32) :=
  if x1 = 0 then (some (M.1 o0 10))
  else if x1 = 1 then (some (M.1 o0 9))
  else if x1 = 2 then (chk (x1 - 2) 3 <|
  some (M.1 (o0 + 22) (x1 - 2).toNatClampNeg))
  else if x1 = 3 then (chk (x1 - 2) 3 <|
  some (M.1 (o0 + 22) (x1 - 2).toNatClampNeg))
  else if x1 = 4 then (chk (x1 - 2) 3 <|
  some (M.1 (o0 + 22) (x1 - 2).toNatClampNeg))
  else if x1 = 5 then (some (M.1 o0 17))
  else if x1 = 6 then ((f_X8_status_L82 o0 M 1000 0 0).bind fun v12 =>
  some v12)
  else if x1 = 7 then (some (M.1 o0 7))
  else if x1 = 8 then (some (M.1 o0 18))
  else if x1 = 9 then ((f_X8_status_L119 o0 M 1000 0 0).bind fun v22 =>
  some v22)
  else ((f_X8_in x1.toInt64 12 16).bind fun q23 =>
  if q23 = 0 then (some (-1))
  else (chk (x1 - 10) 8 <|
  some (M.1 (o0 + 16) (x1 - 10).toNatClampNeg)))
