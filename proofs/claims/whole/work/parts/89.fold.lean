/-! new objects become places -/
theorem mkE_cong {G : GG} {q : Nat × Nat} {o : Nat} {M M2 : Mm} (h1 : M2.1 o = M.1 o) (h2 : M2.2.1 o = M.2.1 o) (h3 : M2.2.2 o = M.2.2 o) : mkE G q o M2 = mkE G q o M := by
  unfold mkE
  rw [h1, h2, h3]
theorem wP_fold {G : GG} {sh shN : Sh} {M M2 : Mm} {L : List va_E} {H : Heap} (hP : wP G sh M L H) (hl : L.length = shN.length) (h1 : ∀ o, o < sh.length → M2.1 o = M.1 o ∧ M2.2.1 o = M.2.1 o ∧ M2.2.2 o = M.2.2 o) (h2 : ∀ j c, shN[j]? = some c → L[j]? = some (mkE G c (sh.length + j) M2)) : wP G (sh ++ shN) M2 [] H := by
  refine ⟨by rw [hP.1, List.length_append, hl]; rfl, fun o c hc => ?_, fun j e h => by cases h⟩
  by_cases q : o < sh.length
  · rw [List.getElem?_append_left q] at hc
    have h := h1 o q
    rw [mkE_cong h.1 h.2.1 h.2.2]
    exact hP.2.1 o c hc
  · rw [List.getElem?_append_right (by omega)] at hc
    have h := hP.2.2 _ _ (h2 _ _ hc)
    rw [show sh.length + (o - sh.length) = o by omega] at h
    exact h
def addM (M : Mm) (b : Nat) (f : Nat → Nat → Int32) : Mm := (fun x => if x < b then M.1 x else f (x - b), fun x => if x < b then M.2.1 x else fun _ => 0, fun x => if x < b then M.2.2 x else fun _ => 0)
theorem addM_lo {M : Mm} {b x : Nat} {f : Nat → Nat → Int32} (h : x < b) : (addM M b f).1 x = M.1 x ∧ (addM M b f).2.1 x = M.2.1 x ∧ (addM M b f).2.2 x = M.2.2 x := ⟨if_pos h, if_pos h, if_pos h⟩
theorem addM_hi {M : Mm} {b j : Nat} {f : Nat → Nat → Int32} : (addM M b f).1 (b + j) = f j ∧ (addM M b f).2.1 (b + j) = (fun _ => 0) ∧ (addM M b f).2.2 (b + j) = fun _ => 0 := by
  have h : ¬ b + j < b := by omega
  refine ⟨?_, if_neg h, if_neg h⟩
  show (if b + j < b then M.1 (b + j) else f (b + j - b)) = f j
  rw [if_neg h, Nat.add_sub_cancel_left]
def kM (g : Nat → Int32) : Mm := (fun _ => g, fun _ _ => 0, fun _ _ => 0)
theorem mk_add {G : GG} {M : Mm} {b j : Nat} {f : Nat → Nat → Int32} {c : Nat × Nat} : mkE G c (b + j) (addM M b f) = mkE G c (b + j) (kM (f j)) := mkE_cong addM_hi.1 addM_hi.2.1 addM_hi.2.2
theorem ge_app {sh t : Sh} {o : Nat} {q : Nat × Nat} (h : sh[o]? = some q) : (sh ++ t)[o]? = some q := by
  rw [List.getElem?_append_left (List.getElem?_eq_some_iff.mp h).1]; exact h
theorem ge_new {sh t : Sh} {j : Nat} {q : Nat × Nat} (h : t[j]? = some q) : (sh ++ t)[sh.length + j]? = some q := by
  rw [List.getElem?_append_right (by omega), Nat.add_sub_cancel_left]; exact h
def mIni : Nat → Nat → Int32 := fun r => if r = 0 then (fun y => if y = 9 then 11 else if y = 18 then 1 else 0) else if r = 22 then upd (upd (fun _ => 0) 1 2) 2 1 else fun _ => 0
def cIni : Nat → Int32 := fun y => if y = 0 then 11 else if y = 3 then 2 else if y = 4 then 1 else if y = 6 then 1 else 0
def sIni : Nat → Int32 := fun y => if y = 0 then -1 else 0
def xIni : Nat → Nat → Int32 := fun r => if r = 1 ∨ r = 11 ∨ r = 40 then cIni else if r = 53 ∨ r = 55 ∨ r = 57 ∨ r = 59 ∨ r = 61 ∨ r = 63 ∨ r = 65 ∨ r = 67 then sIni else fun _ => 0
def shM : Sh := [(8, 0), (9, 8), (9, 8), (9, 8), (14, 8), (10, 40), (10, 40), (10, 40), (10, 40), (10, 40), (10, 40), (10, 40), (10, 40), (10, 40), (9, 8), (9, 250), (9, 8), (9, 8), (9, 8), (9, 8), (9, 8), (9, 8), (9, 3), (9, 3), (13, 8), (9, 14), (9, 14), (9, 14), (9, 14), (9, 14), (9, 14), (9, 14), (9, 14), (9, 14), (9, 21), (9, 3), (9, 3)]
def shX : Sh := [(7, 0), (1, 0), (11, 8), (2, 0), (2, 0), (2, 0), (2, 0), (2, 0), (2, 0), (2, 0), (2, 0), (1, 0), (11, 8), (2, 0), (2, 0), (2, 0), (2, 0), (2, 0), (2, 0), (2, 0), (2, 0), (6, 0), (13, 8), (9, 14), (9, 14), (9, 14), (9, 14), (9, 14), (9, 14), (9, 14), (9, 14), (9, 14), (9, 14), (0, 0), (9, 14), (9, 3), (9, 3), (3, 0), (5, 0), (9, 250), (1, 0), (11, 8), (2, 0), (2, 0), (2, 0), (2, 0), (2, 0), (2, 0), (2, 0), (2, 0), (12, 8), (9, 21), (9, 5), (4, 0), (10, 40), (4, 0), (10, 40), (4, 0), (10, 40), (4, 0), (10, 40), (4, 0), (10, 40), (4, 0), (10, 40), (4, 0), (10, 40), (4, 0), (10, 40)]
def clM (G : GG) (o : Nat) : List va_E := [.inr (8, [rA G (o + 1), rA G (o + 2), rA G (o + 3), rA G (o + 4), rA G (o + 13), rA G (o + 14), rA G (o + 15), .int 0, rA G (o + 16), .int 11, .int 0, rA G (o + 17), rA G (o + 18), rA G (o + 19), rA G (o + 20), rA G (o + 21), rA G (o + 22), .int 0, .int 1, .null, .null, .int 0, .int 0, .int 0, .int 0, .int 0, rA G (o + 23), .int 0, rA G (o + 24), rA G (o + 33), rA G (o + 34), .int 0, .int 0, rA G (o + 35), rA G (o + 36), .int 0, .int 0]), eI G 8, eI G 8, eI G 8, rArr G 5 8 (o + 4) 1 1, eJ G 40, eJ G 40, eJ G 40, eJ G 40, eJ G 40, eJ G 40, eJ G 40, eJ G 40, eJ G 40, eI G 8, eI G 250, eI G 8, eI G 8, eI G 8, eI G 8, eI G 8, eI G 8, .inl (gC G 0, 3, .inl (upd (upd (fun _ => 0) 1 2) 2 1)), eI G 3, rArr G 4 8 (o + 24) 1 1, eI G 14, eI G 14, eI G 14, eI G 14, eI G 14, eI G 14, eI G 14, eI G 14, eI G 14, eI G 21, eI G 3, eI G 3]
def clX (G : GG) (o : Nat) : List va_E := [.inr (7, [rA G (o + 1), rA G (o + 11), .int 0, rA G (o + 21), rA G (o + 33), rA G (o + 37), rA G (o + 50), rA G (o + 51), rA G (o + 52)]), .inr (1, [.int 11, .int 0, .int 0, .int 2, .int 1, .int 0, .int 1, rA G (o + 1 + 1)]), rArr G 2 8 (o + 1 + 1) 1 1, .inr (2, [.int 0, .int 0, .int 0, .int 0, .int 0]), .inr (2, [.int 0, .int 0, .int 0, .int 0, .int 0]), .inr (2, [.int 0, .int 0, .int 0, .int 0, .int 0]), .inr (2, [.int 0, .int 0, .int 0, .int 0, .int 0]), .inr (2, [.int 0, .int 0, .int 0, .int 0, .int 0]), .inr (2, [.int 0, .int 0, .int 0, .int 0, .int 0]), .inr (2, [.int 0, .int 0, .int 0, .int 0, .int 0]), .inr (2, [.int 0, .int 0, .int 0, .int 0, .int 0]), .inr (1, [.int 11, .int 0, .int 0, .int 2, .int 1, .int 0, .int 1, rA G (o + 11 + 1)]), rArr G 2 8 (o + 11 + 1) 1 1, .inr (2, [.int 0, .int 0, .int 0, .int 0, .int 0]), .inr (2, [.int 0, .int 0, .int 0, .int 0, .int 0]), .inr (2, [.int 0, .int 0, .int 0, .int 0, .int 0]), .inr (2, [.int 0, .int 0, .int 0, .int 0, .int 0]), .inr (2, [.int 0, .int 0, .int 0, .int 0, .int 0]), .inr (2, [.int 0, .int 0, .int 0, .int 0, .int 0]), .inr (2, [.int 0, .int 0, .int 0, .int 0, .int 0]), .inr (2, [.int 0, .int 0, .int 0, .int 0, .int 0]), .inr (6, [rA G (o + 21 + 1), rA G (o + 21 + 10), rA G (o + 21 + 11), .int 0]), rArr G 4 8 (o + 21 + 1) 1 1, eI G 14, eI G 14, eI G 14, eI G 14, eI G 14, eI G 14, eI G 14, eI G 14, eI G 14, eI G 14, .inr (0, [rA G (o + 33 + 1), rA G (o + 33 + 2), rA G (o + 33 + 3), .int 0]), eI G 14, eI G 3, eI G 3, .inr (3, [rA G (o + 37 + 1), rA G (o + 37 + 3), .int 0]), .inr (5, [rA G (o + 37 + 1 + 1), .int 0, .int 0, .int 0, .int 0]), eI G 250, .inr (1, [.int 11, .int 0, .int 0, .int 2, .int 1, .int 0, .int 1, rA G (o + 37 + 3 + 1)]), rArr G 2 8 (o + 37 + 3 + 1) 1 1, .inr (2, [.int 0, .int 0, .int 0, .int 0, .int 0]), .inr (2, [.int 0, .int 0, .int 0, .int 0, .int 0]), .inr (2, [.int 0, .int 0, .int 0, .int 0, .int 0]), .inr (2, [.int 0, .int 0, .int 0, .int 0, .int 0]), .inr (2, [.int 0, .int 0, .int 0, .int 0, .int 0]), .inr (2, [.int 0, .int 0, .int 0, .int 0, .int 0]), .inr (2, [.int 0, .int 0, .int 0, .int 0, .int 0]), .inr (2, [.int 0, .int 0, .int 0, .int 0, .int 0]), rArr G 3 8 (o + 50) 3 2, eI G 21, eI G 5, .inr (4, [.int (-1), .int 0, rA G (o + 53 + 1)]), eJ G 40, .inr (4, [.int (-1), .int 0, rA G (o + 55 + 1)]), eJ G 40, .inr (4, [.int (-1), .int 0, rA G (o + 57 + 1)]), eJ G 40, .inr (4, [.int (-1), .int 0, rA G (o + 59 + 1)]), eJ G 40, .inr (4, [.int (-1), .int 0, rA G (o + 61 + 1)]), eJ G 40, .inr (4, [.int (-1), .int 0, rA G (o + 63 + 1)]), eJ G 40, .inr (4, [.int (-1), .int 0, rA G (o + 65 + 1)]), eJ G 40, .inr (4, [.int (-1), .int 0, rA G (o + 67 + 1)]), eJ G 40]
set_option maxRecDepth 100000 in
theorem clM_ok (G : GG) (o : Nat) : ∀ j c, shM[j]? = some c → (clM G o)[j]? = some (mkE G c (o + j) (kM (mIni j))) := fun j c h => match j, h with
  | 0, h => by cases h; rfl
  | 1, h => by cases h; rfl
  | 2, h => by cases h; rfl
  | 3, h => by cases h; rfl
  | 4, h => by cases h; rfl
  | 5, h => by cases h; rfl
  | 6, h => by cases h; rfl
  | 7, h => by cases h; rfl
  | 8, h => by cases h; rfl
  | 9, h => by cases h; rfl
  | 10, h => by cases h; rfl
  | 11, h => by cases h; rfl
  | 12, h => by cases h; rfl
  | 13, h => by cases h; rfl
  | 14, h => by cases h; rfl
  | 15, h => by cases h; rfl
  | 16, h => by cases h; rfl
  | 17, h => by cases h; rfl
  | 18, h => by cases h; rfl
  | 19, h => by cases h; rfl
  | 20, h => by cases h; rfl
  | 21, h => by cases h; rfl
  | 22, h => by cases h; rfl
  | 23, h => by cases h; rfl
  | 24, h => by cases h; rfl
  | 25, h => by cases h; rfl
  | 26, h => by cases h; rfl
  | 27, h => by cases h; rfl
  | 28, h => by cases h; rfl
  | 29, h => by cases h; rfl
  | 30, h => by cases h; rfl
  | 31, h => by cases h; rfl
  | 32, h => by cases h; rfl
  | 33, h => by cases h; rfl
  | 34, h => by cases h; rfl
  | 35, h => by cases h; rfl
  | 36, h => by cases h; rfl
  | n + 37, h => by cases h
theorem fold_M {G : GG} {sh : Sh} {M : Mm} {H : Heap} (hP : wP G sh M (clM G sh.length) H) : wP G (sh ++ shM) (addM M sh.length mIni) [] H := wP_fold hP rfl (fun o h => addM_lo h) (fun j c h => by rw [mk_add]; exact clM_ok G sh.length j c h)
set_option maxRecDepth 100000 in
theorem clX_ok (G : GG) (o : Nat) : ∀ j c, shX[j]? = some c → (clX G o)[j]? = some (mkE G c (o + j) (kM (xIni j))) := fun j c h => match j, h with
  | 0, h => by cases h; rfl
  | 1, h => by cases h; rfl
  | 2, h => by cases h; rfl
  | 3, h => by cases h; rfl
  | 4, h => by cases h; rfl
  | 5, h => by cases h; rfl
  | 6, h => by cases h; rfl
  | 7, h => by cases h; rfl
  | 8, h => by cases h; rfl
  | 9, h => by cases h; rfl
  | 10, h => by cases h; rfl
  | 11, h => by cases h; rfl
  | 12, h => by cases h; rfl
  | 13, h => by cases h; rfl
  | 14, h => by cases h; rfl
  | 15, h => by cases h; rfl
  | 16, h => by cases h; rfl
  | 17, h => by cases h; rfl
  | 18, h => by cases h; rfl
  | 19, h => by cases h; rfl
  | 20, h => by cases h; rfl
  | 21, h => by cases h; rfl
  | 22, h => by cases h; rfl
  | 23, h => by cases h; rfl
  | 24, h => by cases h; rfl
  | 25, h => by cases h; rfl
  | 26, h => by cases h; rfl
  | 27, h => by cases h; rfl
  | 28, h => by cases h; rfl
  | 29, h => by cases h; rfl
  | 30, h => by cases h; rfl
  | 31, h => by cases h; rfl
  | 32, h => by cases h; rfl
  | 33, h => by cases h; rfl
  | 34, h => by cases h; rfl
  | 35, h => by cases h; rfl
  | 36, h => by cases h; rfl
  | 37, h => by cases h; rfl
  | 38, h => by cases h; rfl
  | 39, h => by cases h; rfl
  | 40, h => by cases h; rfl
  | 41, h => by cases h; rfl
  | 42, h => by cases h; rfl
  | 43, h => by cases h; rfl
  | 44, h => by cases h; rfl
  | 45, h => by cases h; rfl
  | 46, h => by cases h; rfl
  | 47, h => by cases h; rfl
  | 48, h => by cases h; rfl
  | 49, h => by cases h; rfl
  | 50, h => by cases h; rfl
  | 51, h => by cases h; rfl
  | 52, h => by cases h; rfl
  | 53, h => by cases h; rfl
  | 54, h => by cases h; rfl
  | 55, h => by cases h; rfl
  | 56, h => by cases h; rfl
  | 57, h => by cases h; rfl
  | 58, h => by cases h; rfl
  | 59, h => by cases h; rfl
  | 60, h => by cases h; rfl
  | 61, h => by cases h; rfl
  | 62, h => by cases h; rfl
  | 63, h => by cases h; rfl
  | 64, h => by cases h; rfl
  | 65, h => by cases h; rfl
  | 66, h => by cases h; rfl
  | 67, h => by cases h; rfl
  | 68, h => by cases h; rfl
  | n + 69, h => by cases h
theorem fold_X {G : GG} {sh : Sh} {M : Mm} {H : Heap} (hP : wP G sh M (clX G sh.length) H) : wP G (sh ++ shX) (addM M sh.length xIni) [] H := wP_fold hP rfl (fun o h => addM_lo h) (fun j c h => by rw [mk_add]; exact clX_ok G sh.length j c h)
theorem isM_new (sh : Sh) : isM (sh ++ shM) sh.length := by
  have g : ∀ (j : Nat) (q : Nat × Nat), shM[j]? = some q → (sh ++ shM)[sh.length + j]? = some q := fun j q h => ge_new h
  refine ⟨g 0 _ rfl, g 1 _ rfl, g 2 _ rfl, g 3 _ rfl, g 4 _ rfl, g 13 _ rfl, g 14 _ rfl, g 15 _ rfl, g 16 _ rfl, g 17 _ rfl, g 18 _ rfl, g 19 _ rfl, g 20 _ rfl, g 21 _ rfl, g 22 _ rfl, g 23 _ rfl, g 24 _ rfl, g 33 _ rfl, g 34 _ rfl, g 35 _ rfl, g 36 _ rfl, fun p hp => ?_, fun p hp => ?_⟩
  · rw [Nat.add_assoc]; exact g _ _ (match p, hp with
    | 0, _ => rfl
    | 1, _ => rfl
    | 2, _ => rfl
    | 3, _ => rfl
    | 4, _ => rfl
    | 5, _ => rfl
    | 6, _ => rfl
    | 7, _ => rfl
    | n + 8, h => absurd h (by omega))
  · rw [Nat.add_assoc]; exact g _ _ (match p, hp with
    | 0, _ => rfl
    | 1, _ => rfl
    | 2, _ => rfl
    | 3, _ => rfl
    | 4, _ => rfl
    | 5, _ => rfl
    | 6, _ => rfl
    | 7, _ => rfl
    | n + 8, h => absurd h (by omega))
theorem isM.app {sh t : Sh} {o : Nat} (h : isM sh o) : isM (sh ++ t) o := by
  obtain ⟨h1, h2, h3, h4, h5, h6, h7, h8, h9, h10, h11, h12, h13, h14, h15, h16, h17, h18, h19, h20, h21, h22, h23⟩ := h
  exact ⟨ge_app h1, ge_app h2, ge_app h3, ge_app h4, ge_app h5, ge_app h6, ge_app h7, ge_app h8, ge_app h9, ge_app h10, ge_app h11, ge_app h12, ge_app h13, ge_app h14, ge_app h15, ge_app h16, ge_app h17, ge_app h18, ge_app h19, ge_app h20, ge_app h21, fun p hp => ge_app (h22 p hp), fun p hp => ge_app (h23 p hp)⟩
theorem isC.app {sh t : Sh} {o : Nat} (h : isC sh o) : isC (sh ++ t) o := ⟨ge_app h.1, ge_app h.2.1, fun p hp => ge_app (h.2.2 p hp)⟩
theorem isX_0 : isX shX := by
  have pc : ∀ o, o = 1 ∨ o = 11 ∨ o = 40 → isC shX o := fun o h => by
    rcases h with rfl | rfl | rfl <;> exact ⟨rfl, rfl, fun p hp => match p, hp with
      | 0, _ => rfl
      | 1, _ => rfl
      | 2, _ => rfl
      | 3, _ => rfl
      | 4, _ => rfl
      | 5, _ => rfl
      | 6, _ => rfl
      | 7, _ => rfl
      | n + 8, h => absurd h (by omega)⟩
  exact ⟨rfl, pc 1 (by decide), pc 11 (by decide), ⟨rfl, rfl, (fun p hp => match p, hp with
    | 0, _ => rfl
    | 1, _ => rfl
    | 2, _ => rfl
    | 3, _ => rfl
    | 4, _ => rfl
    | 5, _ => rfl
    | 6, _ => rfl
    | 7, _ => rfl
    | n + 8, h => absurd h (by omega)), rfl, rfl⟩, ⟨rfl, rfl, rfl, rfl⟩, ⟨rfl, ⟨rfl, rfl⟩, pc 40 (by decide)⟩, rfl, rfl, rfl, fun k hk => match k, hk with
    | 0, _ => ⟨rfl, rfl⟩
    | 1, _ => ⟨rfl, rfl⟩
    | 2, _ => ⟨rfl, rfl⟩
    | 3, _ => ⟨rfl, rfl⟩
    | 4, _ => ⟨rfl, rfl⟩
    | 5, _ => ⟨rfl, rfl⟩
    | 6, _ => ⟨rfl, rfl⟩
    | 7, _ => ⟨rfl, rfl⟩
    | n + 8, h => absurd h (by omega)⟩
theorem isX.app {sh t : Sh} (h : isX sh) : isX (sh ++ t) := by
  obtain ⟨h1, h2, h3, h4, h5, h6, h7, h8, h9, h10⟩ := h
  exact ⟨ge_app h1, h2.app, h3.app, ⟨ge_app h4.1, ge_app h4.2.1, fun p hp => ge_app (h4.2.2.1 p hp), ge_app h4.2.2.2.1, ge_app h4.2.2.2.2⟩, ⟨ge_app h5.1, ge_app h5.2.1, ge_app h5.2.2.1, ge_app h5.2.2.2⟩, ⟨ge_app h6.1, ⟨ge_app h6.2.1.1, ge_app h6.2.1.2⟩, h6.2.2.app⟩, ge_app h7, ge_app h8, ge_app h9, fun k hk => ⟨ge_app (h10 k hk).1, ge_app (h10 k hk).2⟩⟩
