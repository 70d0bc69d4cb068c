/-! PURE: the numbers of the code; masks; the committee's state T and how the class and the reference hold it. -/
theorem kx_nI {n : Nat} (h : n < 2 ^ 31) : kx (nI n) = n := nI_clamp h
theorem kG_nI {α : Type} {j n : Nat} {k : Option α} (h : j < n) (hn : n < 2 ^ 31) : kG (nI j) n k = k := kG_in (vp_in_nI h hn)
theorem g760_0 {α : Type} (k : Option α) : kG 0 760 k = k := kG_nI (j := 0) (by decide) (by decide)
theorem g760_1 {α : Type} (k : Option α) : kG 1 760 k = k := kG_nI (j := 1) (by decide) (by decide)
theorem g760_2 {α : Type} (k : Option α) : kG 2 760 k = k := kG_nI (j := 2) (by decide) (by decide)
theorem g760_3 {α : Type} (k : Option α) : kG 3 760 k = k := kG_nI (j := 3) (by decide) (by decide)
theorem g760_4 {α : Type} (k : Option α) : kG 4 760 k = k := kG_nI (j := 4) (by decide) (by decide)
theorem g760_5 {α : Type} (k : Option α) : kG 5 760 k = k := kG_nI (j := 5) (by decide) (by decide)
theorem g760_6 {α : Type} (k : Option α) : kG 6 760 k = k := kG_nI (j := 6) (by decide) (by decide)
theorem g760_7 {α : Type} (k : Option α) : kG 7 760 k = k := kG_nI (j := 7) (by decide) (by decide)
theorem g760_8 {α : Type} (k : Option α) : kG 8 760 k = k := kG_nI (j := 8) (by decide) (by decide)
theorem g760_9 {α : Type} (k : Option α) : kG 9 760 k = k := kG_nI (j := 9) (by decide) (by decide)
theorem g760_10 {α : Type} (k : Option α) : kG 10 760 k = k := kG_nI (j := 10) (by decide) (by decide)
theorem g12_0 {α : Type} (k : Option α) : kG 0 12 k = k := kG_nI (j := 0) (by decide) (by decide)
theorem g12_1 {α : Type} (k : Option α) : kG 1 12 k = k := kG_nI (j := 1) (by decide) (by decide)
theorem g12_2 {α : Type} (k : Option α) : kG 2 12 k = k := kG_nI (j := 2) (by decide) (by decide)
theorem g6_0 {α : Type} (k : Option α) : kG 0 6 k = k := kG_nI (j := 0) (by decide) (by decide)
theorem g6_1 {α : Type} (k : Option α) : kG 1 6 k = k := kG_nI (j := 1) (by decide) (by decide)
theorem g6_2 {α : Type} (k : Option α) : kG 2 6 k = k := kG_nI (j := 2) (by decide) (by decide)
theorem g6_3 {α : Type} (k : Option α) : kG 3 6 k = k := kG_nI (j := 3) (by decide) (by decide)
theorem g6_4 {α : Type} (k : Option α) : kG 4 6 k = k := kG_nI (j := 4) (by decide) (by decide)
theorem g6_5 {α : Type} (k : Option α) : kG 5 6 k = k := kG_nI (j := 5) (by decide) (by decide)
theorem x_0 : kx 0 = 0 := kx_nI (n := 0) (by decide)
theorem x_1 : kx 1 = 1 := kx_nI (n := 1) (by decide)
theorem x_2 : kx 2 = 2 := kx_nI (n := 2) (by decide)
theorem x_3 : kx 3 = 3 := kx_nI (n := 3) (by decide)
theorem x_4 : kx 4 = 4 := kx_nI (n := 4) (by decide)
theorem x_5 : kx 5 = 5 := kx_nI (n := 5) (by decide)
theorem x_6 : kx 6 = 6 := kx_nI (n := 6) (by decide)
theorem x_7 : kx 7 = 7 := kx_nI (n := 7) (by decide)
theorem x_8 : kx 8 = 8 := kx_nI (n := 8) (by decide)
theorem x_9 : kx 9 = 9 := kx_nI (n := 9) (by decide)
theorem x_10 : kx 10 = 10 := kx_nI (n := 10) (by decide)
theorem x_11 : kx 11 = 11 := kx_nI (n := 11) (by decide)
theorem x_12 : kx 12 = 12 := kx_nI (n := 12) (by decide)
theorem x_13 : kx 13 = 13 := kx_nI (n := 13) (by decide)
theorem x_14 : kx 14 = 14 := kx_nI (n := 14) (by decide)
theorem x_15 : kx 15 = 15 := kx_nI (n := 15) (by decide)
theorem x_16 : kx 16 = 16 := kx_nI (n := 16) (by decide)
theorem x_17 : kx 17 = 17 := kx_nI (n := 17) (by decide)
theorem x_18 : kx 18 = 18 := kx_nI (n := 18) (by decide)
theorem x_19 : kx 19 = 19 := kx_nI (n := 19) (by decide)
theorem x_20 : kx 20 = 20 := kx_nI (n := 20) (by decide)
theorem l_nI0 : nI 0 = 0 := rfl
theorem l_nI1 : nI 1 = 1 := rfl
theorem n6_ne {j : Nat} (h : j < 2 ^ 31) : ¬ nI j = -6 := by
  intro e
  have := congrArg Int32.toInt e
  rw [nI_toInt h] at this
  have h6 : (-6 : Int32).toInt = -6 := by decide
  omega
theorem n6_lt : (-6 : Int32) < 0 := by decide
theorem pos_nI {j : Nat} (h : j < 2 ^ 31) : ¬ nI j < 0 := nI_pos h
theorem leI {a b : Nat} (ha : a < 2 ^ 31) (hb : b < 2 ^ 31) : (nI a ≤ nI b) = (a ≤ b) := propext (nI_leI ha hb)
theorem ltI {a b : Nat} (ha : a < 2 ^ 31) (hb : b < 2 ^ 31) : (nI a < nI b) = (a < b) := propext (nI_ltI ha hb)
theorem eqI {a b : Nat} (ha : a < 2 ^ 31) (hb : b < 2 ^ 31) : (nI a = nI b) = (a = b) := propext (nI_eq ha hb)
/-- an index is bad, or one of the n -/
theorem ixc (x : Int32) {n : Nat} (hn : n < 2 ^ 31) : (x < 0 ∨ nI n ≤ x) ∨ ∃ j, j < n ∧ x = nI j := by
  rcases pk_ix x hn with h | h | h
  · exact Or.inl (Or.inl h)
  · exact Or.inl (Or.inr h)
  · exact Or.inr h
-- masks
def msk (p : Nat → Bool) : Nat → Nat
  | 0 => 0
  | n + 1 => msk p n + if p n then 2 ^ n else 0
theorem msk_lt (p : Nat → Bool) : ∀ n, msk p n < 2 ^ n
  | 0 => Nat.one_pos
  | n + 1 => by
    have := msk_lt p n
    rw [msk, Nat.pow_succ]
    split <;> omega
theorem msk_bit (p : Nat → Bool) : ∀ (n j : Nat), (msk p n).testBit j = (decide (j < n) && p j)
  | 0, j => by simp [msk]
  | n + 1, j => by
    rw [msk]
    have hl := msk_lt p n
    have ih := msk_bit p n j
    by_cases hp : p n = true
    · rw [if_pos hp, Nat.add_comm]
      rcases Nat.lt_trichotomy j n with h | h | h
      · rw [Nat.testBit_two_pow_add_gt h, ih]
        simp [h, Nat.lt_succ_of_lt h]
      · subst h
        rw [Nat.testBit_two_pow_add_eq, Nat.testBit_lt_two_pow hl]
        simp [hp]
      · have h2 : 2 ^ n + msk p n < 2 ^ j := by
          have : 2 ^ (n + 1) ≤ 2 ^ j := Nat.pow_le_pow_right (by decide) h
          rw [Nat.pow_succ] at this
          omega
        rw [Nat.testBit_lt_two_pow h2]
        have : ¬ j < n + 1 := by omega
        simp [this]
    · rw [if_neg hp, Nat.add_zero, ih]
      by_cases h : j < n
      · simp [h, Nat.lt_succ_of_lt h]
      · by_cases h2 : j = n
        · subst h2
          simp [hp]
        · have : ¬ j < n + 1 := by omega
          simp [h, this]
theorem msk_cong {p q : Nat → Bool} : ∀ {n : Nat}, (∀ j, j < n → p j = q j) → msk p n = msk q n
  | 0, _ => rfl
  | n + 1, h => by
    rw [msk, msk, msk_cong (fun j hj => h j (Nat.lt_succ_of_lt hj)), h n (Nat.lt_succ_self n)]
theorem eq_of_bits {a b : Nat} (h : ∀ j, a.testBit j = b.testBit j) : a = b := Nat.eq_of_testBit_eq h
theorem msk_12 (p : Nat → Bool) {n : Nat} (h : n ≤ 12) : msk p n < 4096 := Nat.lt_of_lt_of_le (msk_lt p n) (by
  have : 2 ^ n ≤ 2 ^ 12 := Nat.pow_le_pow_right (by decide) h
  simpa using this)
theorem sh_1 : ∀ j, j < 31 → (1 : Int32) <<< (nI j &&& 31) = nI (2 ^ j) := by decide +kernel
theorem sh_m : ∀ j, j < 32 → nI j &&& 31 = nI j := by decide +kernel
theorem sh_c : ∀ j, j < 32 → ((nI j &&& 31).toBitVec.smod 32).toNat = j := by decide +kernel
/-- a bit of a small number, as the code asks for it -/
theorem bit_code {x j : Nat} (hx : x < 2 ^ 31) (hj : j < 31) : ((nI x >>> (nI j &&& 31)) &&& 1 = 1) = (x.testBit j = true) := by
  rw [pk_shrN hx (nI j &&& 31) j (sh_c j (by omega))]
  have hd : x / 2 ^ j < 2 ^ 31 := Nat.lt_of_le_of_lt (Nat.div_le_self _ _) hx
  rw [show (1 : Int32) = nI 1 from rfl, fa_and]
  rw [Nat.and_one_is_mod, Nat.testBit_eq_decide_div_mod_eq]
  rw [eqI (by omega) (by omega)]
  simp
theorem bit_val {x j : Nat} (hx : x < 2 ^ 31) (hj : j < 31) : (nI x >>> (nI j &&& 31)) &&& 1 = nI (if x.testBit j then 1 else 0) := by
  rw [pk_shrN hx (nI j &&& 31) j (sh_c j (by omega)), show (1 : Int32) = nI 1 from rfl, fa_and, Nat.and_one_is_mod, Nat.testBit_eq_decide_div_mod_eq]
  rcases Nat.mod_two_eq_zero_or_one (x / 2 ^ j) with h | h <;> simp [h]
theorem or_bit {x j : Nat} (h : x < 2 ^ j) : x ||| 2 ^ j = x + 2 ^ j := by
  apply eq_of_bits
  intro i
  rw [Nat.testBit_or, Nat.testBit_two_pow, Nat.add_comm]
  rcases Nat.lt_trichotomy i j with hi | hi | hi
  · rw [Nat.testBit_two_pow_add_gt hi]
    have : ¬ j = i := by omega
    simp [this]
  · subst hi
    rw [Nat.testBit_two_pow_add_eq, Nat.testBit_lt_two_pow h]
    simp
  · have h2 : 2 ^ j + x < 2 ^ i := by
      have : 2 ^ (j + 1) ≤ 2 ^ i := Nat.pow_le_pow_right (by decide) hi
      rw [Nat.pow_succ] at this
      omega
    have h3 : x < 2 ^ i := by omega
    have : ¬ j = i := by omega
    rw [Nat.testBit_lt_two_pow h2, Nat.testBit_lt_two_pow h3]
    simp [this]
/-- the next bit put into a mask -/
theorem or_msk (p : Nat → Bool) {n : Nat} (hn : n < 31) (hp : p n = true) : nI (msk p n) ||| ((1 : Int32) <<< (nI n &&& 31)) = nI (msk p (n + 1)) := by
  rw [sh_1 n hn, fa_or, or_bit (msk_lt p n), msk, if_pos hp]
theorem nor_msk (p : Nat → Bool) {n : Nat} (hp : ¬ p n = true) : msk p (n + 1) = msk p n := by
  rw [msk, if_neg hp]; rfl
/-- a bit set, a bit cleared -/
theorem set_bit {x j : Nat} (hj : j < 31) : nI x ||| ((1 : Int32) <<< (nI j &&& 31)) = nI (x ||| 2 ^ j) := by rw [sh_1 j hj, fa_or]
theorem xor_m1 : ∀ j, j < 13 → (nI (2 ^ j)) ^^^ (-1) = nI (4294967295 - 2 ^ j) := by decide +kernel
theorem clr_tst : ∀ j, j < 13 → ∀ i, i < 13 → (4294967295 - 2 ^ j).testBit i = decide (¬ i = j) := by decide +kernel
theorem clr_bit {x j : Nat} (hx : x < 2 ^ 13) (hj : j < 13) : nI x &&& (((1 : Int32) <<< (nI j &&& 31)) ^^^ (-1)) = nI (x &&& (4294967295 - 2 ^ j)) := by
  rw [sh_1 j (by omega), xor_m1 j hj, fa_and]
-- numbers of bits
theorem bc_small2 : ∀ a, a < 64 → ∀ b, b < 64 → f_JI_bitCount (nI (64 * a + b)) = nI (fb_ct (fun j => (64 * a + b).testBit j) 12) := by decide +kernel
theorem bc_small (x : Nat) (h : x < 4096) : f_JI_bitCount (nI x) = nI (fb_ct (fun j => x.testBit j) 12) := by
  have e := bc_small2 (x / 64) (by omega) (x % 64) (by omega)
  rw [show 64 * (x / 64) + x % 64 = x by omega] at e
  exact e
