/-- how many bits: 14 of them looked at -/
def pcF : Nat → Nat → Nat
  | 0, _ => 0
  | k + 1, x => Nat.add (pcF k (Nat.div x 2)) (Nat.mod x 2)
def pcN (x : Nat) : Nat := pcF 14 x
def bc (x : Int32) : Int32 := (f_J6_bitCount_0f7a4 x).getD 0
theorem bc_ok (x : Int32) : f_J6_bitCount_0f7a4 x = some (bc x) := rfl
theorem bc_c0 : ∀ b, b < 512 → bc (nI (Nat.add 0 b)) = nI (pcN (Nat.add 0 b)) := by decide +kernel
theorem bc_c1 : ∀ b, b < 512 → bc (nI (Nat.add 512 b)) = nI (pcN (Nat.add 512 b)) := by decide +kernel
theorem bc_c2 : ∀ b, b < 512 → bc (nI (Nat.add 1024 b)) = nI (pcN (Nat.add 1024 b)) := by decide +kernel
theorem bc_c3 : ∀ b, b < 512 → bc (nI (Nat.add 1536 b)) = nI (pcN (Nat.add 1536 b)) := by decide +kernel
theorem bc_c4 : ∀ b, b < 512 → bc (nI (Nat.add 2048 b)) = nI (pcN (Nat.add 2048 b)) := by decide +kernel
theorem bc_c5 : ∀ b, b < 512 → bc (nI (Nat.add 2560 b)) = nI (pcN (Nat.add 2560 b)) := by decide +kernel
theorem bc_c6 : ∀ b, b < 512 → bc (nI (Nat.add 3072 b)) = nI (pcN (Nat.add 3072 b)) := by decide +kernel
theorem bc_c7 : ∀ b, b < 512 → bc (nI (Nat.add 3584 b)) = nI (pcN (Nat.add 3584 b)) := by decide +kernel
theorem bc_c8 : ∀ b, b < 512 → bc (nI (Nat.add 4096 b)) = nI (pcN (Nat.add 4096 b)) := by decide +kernel
theorem bc_c9 : ∀ b, b < 512 → bc (nI (Nat.add 4608 b)) = nI (pcN (Nat.add 4608 b)) := by decide +kernel
theorem bc_c10 : ∀ b, b < 512 → bc (nI (Nat.add 5120 b)) = nI (pcN (Nat.add 5120 b)) := by decide +kernel
theorem bc_c11 : ∀ b, b < 512 → bc (nI (Nat.add 5632 b)) = nI (pcN (Nat.add 5632 b)) := by decide +kernel
theorem bc_c12 : ∀ b, b < 512 → bc (nI (Nat.add 6144 b)) = nI (pcN (Nat.add 6144 b)) := by decide +kernel
theorem bc_c13 : ∀ b, b < 512 → bc (nI (Nat.add 6656 b)) = nI (pcN (Nat.add 6656 b)) := by decide +kernel
theorem bc_c14 : ∀ b, b < 512 → bc (nI (Nat.add 7168 b)) = nI (pcN (Nat.add 7168 b)) := by decide +kernel
theorem bc_c15 : ∀ b, b < 512 → bc (nI (Nat.add 7680 b)) = nI (pcN (Nat.add 7680 b)) := by decide +kernel
theorem bc_c16 : ∀ b, b < 512 → bc (nI (Nat.add 8192 b)) = nI (pcN (Nat.add 8192 b)) := by decide +kernel
theorem bc_c17 : ∀ b, b < 512 → bc (nI (Nat.add 8704 b)) = nI (pcN (Nat.add 8704 b)) := by decide +kernel
theorem bc_c18 : ∀ b, b < 512 → bc (nI (Nat.add 9216 b)) = nI (pcN (Nat.add 9216 b)) := by decide +kernel
theorem bc_c19 : ∀ b, b < 512 → bc (nI (Nat.add 9728 b)) = nI (pcN (Nat.add 9728 b)) := by decide +kernel
theorem bc_c20 : ∀ b, b < 512 → bc (nI (Nat.add 10240 b)) = nI (pcN (Nat.add 10240 b)) := by decide +kernel
theorem bc_c21 : ∀ b, b < 512 → bc (nI (Nat.add 10752 b)) = nI (pcN (Nat.add 10752 b)) := by decide +kernel
theorem bc_c22 : ∀ b, b < 512 → bc (nI (Nat.add 11264 b)) = nI (pcN (Nat.add 11264 b)) := by decide +kernel
theorem bc_c23 : ∀ b, b < 512 → bc (nI (Nat.add 11776 b)) = nI (pcN (Nat.add 11776 b)) := by decide +kernel
theorem bc_c24 : ∀ b, b < 512 → bc (nI (Nat.add 12288 b)) = nI (pcN (Nat.add 12288 b)) := by decide +kernel
theorem bc_c25 : ∀ b, b < 512 → bc (nI (Nat.add 12800 b)) = nI (pcN (Nat.add 12800 b)) := by decide +kernel
theorem bc_c26 : ∀ b, b < 512 → bc (nI (Nat.add 13312 b)) = nI (pcN (Nat.add 13312 b)) := by decide +kernel
theorem bc_c27 : ∀ b, b < 512 → bc (nI (Nat.add 13824 b)) = nI (pcN (Nat.add 13824 b)) := by decide +kernel
theorem bc_c28 : ∀ b, b < 512 → bc (nI (Nat.add 14336 b)) = nI (pcN (Nat.add 14336 b)) := by decide +kernel
theorem bc_c29 : ∀ b, b < 512 → bc (nI (Nat.add 14848 b)) = nI (pcN (Nat.add 14848 b)) := by decide +kernel
theorem bc_c30 : ∀ b, b < 512 → bc (nI (Nat.add 15360 b)) = nI (pcN (Nat.add 15360 b)) := by decide +kernel
theorem bc_c31 : ∀ b, b < 512 → bc (nI (Nat.add 15872 b)) = nI (pcN (Nat.add 15872 b)) := by decide +kernel
theorem bc_pc {x : Nat} (h : x < 16384) : bc (nI x) = nI (pcN x) := by
  have hb : x % 512 < 512 := Nat.mod_lt _ (by decide)
  have hx : x = 512 * (x / 512) + x % 512 := by omega
  have ha : x / 512 < 32 := by omega
  generalize x / 512 = a at hx ha
  generalize x % 512 = b at hx hb
  subst hx
  match a, ha with
  | 0, _ => exact bc_c0 b hb
  | 1, _ => exact bc_c1 b hb
  | 2, _ => exact bc_c2 b hb
  | 3, _ => exact bc_c3 b hb
  | 4, _ => exact bc_c4 b hb
  | 5, _ => exact bc_c5 b hb
  | 6, _ => exact bc_c6 b hb
  | 7, _ => exact bc_c7 b hb
  | 8, _ => exact bc_c8 b hb
  | 9, _ => exact bc_c9 b hb
  | 10, _ => exact bc_c10 b hb
  | 11, _ => exact bc_c11 b hb
  | 12, _ => exact bc_c12 b hb
  | 13, _ => exact bc_c13 b hb
  | 14, _ => exact bc_c14 b hb
  | 15, _ => exact bc_c15 b hb
  | 16, _ => exact bc_c16 b hb
  | 17, _ => exact bc_c17 b hb
  | 18, _ => exact bc_c18 b hb
  | 19, _ => exact bc_c19 b hb
  | 20, _ => exact bc_c20 b hb
  | 21, _ => exact bc_c21 b hb
  | 22, _ => exact bc_c22 b hb
  | 23, _ => exact bc_c23 b hb
  | 24, _ => exact bc_c24 b hb
  | 25, _ => exact bc_c25 b hb
  | 26, _ => exact bc_c26 b hb
  | 27, _ => exact bc_c27 b hb
  | 28, _ => exact bc_c28 b hb
  | 29, _ => exact bc_c29 b hb
  | 30, _ => exact bc_c30 b hb
  | 31, _ => exact bc_c31 b hb
  | k + 32, h => exact absurd h (by omega)
theorem pcF_0 : ∀ k, pcF k 0 = 0 := by
  intro k
  induction k with
  | zero => rfl
  | succ k ih => show Nat.add (pcF k (Nat.div 0 2)) (Nat.mod 0 2) = 0; exact ih
theorem pcF_s (k x : Nat) : pcF (k + 1) x = pcF k (x / 2) + x % 2 := rfl
theorem and_pred_odd (y : Nat) : (2 * y + 1) &&& (2 * y) = 2 * y := by
  apply Nat.eq_of_testBit_eq
  intro i
  rw [Nat.testBit_and]
  cases i with
  | zero => simp
  | succ i => simp [Nat.testBit_succ, show (2 * y + 1) / 2 = y by omega]
theorem and_pred_even {y : Nat} (h : 0 < y) : (2 * y) &&& (2 * y - 1) = 2 * (y &&& (y - 1)) := by
  apply Nat.eq_of_testBit_eq
  intro i
  rw [Nat.testBit_and]
  cases i with
  | zero => simp
  | succ i => simp [Nat.testBit_succ, show (2 * y - 1) / 2 = y - 1 by omega, Nat.testBit_and]
theorem pcF_kern : ∀ (k x : Nat), 0 < x → x < 2 ^ k → pcF k (x &&& (x - 1)) + 1 = pcF k x := by
  intro k
  induction k with
  | zero => intro x h1 h2; omega
  | succ k ih =>
    intro x h1 h2
    rcases Nat.mod_two_eq_zero_or_one x with h | h
    · obtain ⟨y, rfl⟩ : ∃ y, x = 2 * y := ⟨x / 2, by omega⟩
      rw [and_pred_even (by omega), pcF_s, pcF_s, show 2 * (y &&& (y - 1)) / 2 = y &&& (y - 1) by omega, show 2 * y / 2 = y by omega, show 2 * (y &&& (y - 1)) % 2 = 0 by omega, show 2 * y % 2 = 0 by omega]
      exact ih y (by omega) (by rw [Nat.pow_succ] at h2; omega)
    · obtain ⟨y, rfl⟩ : ∃ y, x = 2 * y + 1 := ⟨x / 2, by omega⟩
      rw [show 2 * y + 1 - 1 = 2 * y by omega, and_pred_odd, pcF_s, pcF_s, show 2 * y / 2 = y by omega, show (2 * y + 1) / 2 = y by omega, show 2 * y % 2 = 0 by omega, show (2 * y + 1) % 2 = 1 by omega]
theorem pcF_le : ∀ (k x : Nat), pcF k x ≤ k := by
  intro k
  induction k with
  | zero => intro x; exact Nat.le_refl _
  | succ k ih => intro x; rw [pcF_s]; have := ih (x / 2); omega
theorem pcF_pos : ∀ (k x : Nat), pcF k x = 0 → x < 2 ^ k → x = 0 := by
  intro k
  induction k with
  | zero => intro x _ h; omega
  | succ k ih =>
    intro x h h2
    rw [pcF_s] at h
    have := ih (x / 2) (by omega) (by rw [Nat.pow_succ] at h2; omega)
    omega
theorem nI_and (a b : Nat) : nI a &&& nI b = nI (a &&& b) := by
  apply Int32.toBitVec_inj.mp
  show BitVec.ofNat 32 a &&& BitVec.ofNat 32 b = BitVec.ofNat 32 (a &&& b)
  apply BitVec.eq_of_toNat_eq
  simp [BitVec.toNat_and, Nat.and_mod_two_pow]
theorem nI_or (a b : Nat) : nI a ||| nI b = nI (a ||| b) := by
  apply Int32.toBitVec_inj.mp
  show BitVec.ofNat 32 a ||| BitVec.ofNat 32 b = BitVec.ofNat 32 (a ||| b)
  apply BitVec.eq_of_toNat_eq
  simp [BitVec.toNat_or, Nat.or_mod_two_pow]
theorem bits_L : ∀ (m n x a : Nat), pcF 14 x = m → x < 2 ^ 14 → m < n → f_X8_bits_L4 n (nI a) (nI x) = some (nI (a + m)) := by
  intro m
  induction m with
  | zero =>
    intro n x a h1 h2 h3
    have := pcF_pos 14 x h1 h2
    subst this
    obtain ⟨n, rfl⟩ : ∃ k, n = k + 1 := ⟨n - 1, by omega⟩
    rw [f_X8_bits_L4, if_pos nI_0]
    rfl
  | succ m ih =>
    intro n x a h1 h2 h3
    obtain ⟨n, rfl⟩ : ∃ k, n = k + 1 := ⟨n - 1, by omega⟩
    have hx : 0 < x := by
      rcases Nat.eq_zero_or_pos x with h | h
      · subst h; rw [pcF_0] at h1; omega
      · exact h
    have h4 := pcF_kern 14 x hx h2
    rw [f_X8_bits_L4, if_neg (nI_ne0 hx (by omega))]
    show f_X8_bits_L4 n (nI a + 1) (nI x &&& (nI x - 1)) = _
    have h5 : nI x - 1 = nI (x - 1) := by
      have h6 := nI_pred (x - 1)
      rw [show x - 1 + 1 = x by omega] at h6
      exact h6
    rw [h5, nI_and, nI_1, ih n (x &&& (x - 1)) (a + 1) (by omega) (Nat.lt_of_le_of_lt Nat.and_le_left h2) (by omega), show a + 1 + m = a + (m + 1) by omega]
theorem bits_nI {x : Nat} (h : x < 16384) : f_X8_bits (nI x) = some (bc (nI x)) := by
  unfold f_X8_bits
  have := pcF_le 14 x
  rw [show f_X8_bits_L4 1000 0 (nI x) = _ from bits_L (pcF 14 x) 1000 x 0 rfl h (by omega), bc_pc h]
  simp only [Option.bind_some, Nat.zero_add]
  rfl
theorem pcN_le (x : Nat) : pcN x ≤ 14 := pcF_le 14 x
