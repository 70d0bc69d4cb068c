/-! PURE: the committee's state T (0 k 0: the row's numbers 0..10; 1 m j: members; 2 i j: items; 3, 4, 5 i m: holder, vote, told choice; 6 k j: movements), and how the reference's row and the class's committee hold it. -/
abbrev kT : Type := Nat → Nat → Nat → Int32
def ts (T : kT) (c a b : Nat) (v : Int32) : kT := fun c' a' b' => if c' = c ∧ a' = a ∧ b' = b then v else T c' a' b'
def ps (T : kT) (m : Nat) : Bool := decide (T 1 m 2 = 1)
def Com (h : kH) (c : Nat) (T : kT) (nm ni nv : Nat) : Prop :=
  (h c 0 = T 0 6 0 ∧ h c 1 = T 0 7 0 ∧ h c 2 = T 0 8 0 ∧ h c 3 = nI (msk (ps T) nm) ∧ h c 4 = T 0 9 0 ∧ h (c + 6) 0 = T 0 10 0) ∧ (∀ k, k < 6 → h (c + 1) k = T 0 k 0) ∧
  (∀ m, m < nm → h (c + 2) m = T 1 m 0 ∧ h (c + 3) m = T 1 m 1 ∧ h (c + 4) m = T 1 m 3) ∧
  (∀ i, i < ni → h (c + 10 + 5 * i) 0 = T 2 i 0 ∧ h (c + 10 + 5 * i) 1 = T 2 i 1 ∧ h (c + 10 + 5 * i) 2 = T 2 i 2 ∧ h (c + 10 + 5 * i) 3 = T 2 i 11 ∧ h (c + 10 + 5 * i) 4 = T 2 i 9 ∧ h (c + 10 + 5 * i) 5 = T 2 i 10 ∧
    (∀ k, k < 6 → h (c + 10 + 5 * i + 1) k = T 2 i (3 + k)) ∧ ∀ m, m < 12 → h (c + 10 + 5 * i + 2) m = T 4 i m ∧ h (c + 10 + 5 * i + 3) m = T 5 i m ∧ h (c + 10 + 5 * i + 4) m = T 3 i m) ∧
  (∀ k, k < nv → h (c + 7) k = T 6 k 0 ∧ h (c + 8) k = T 6 k 1 ∧ h (c + 9) k = T 6 k 2)
/-- none (-6), or one of n -/
def no (v : Int32) (n : Nat) : Prop := v = -6 ∨ ∃ j, j < n ∧ v = nI j
def IvB (bt : Nat) (T : kT) (nm ni nv : Nat) : Prop :=
  (nm ≤ 12 ∧ ni ≤ 12 ∧ nv ≤ 20) ∧ (T 0 7 0 = nI nm ∧ T 0 8 0 = nI ni ∧ T 0 10 0 = nI nv) ∧ (∃ t, t ≤ bt ∧ T 0 6 0 = nI t ∧ ∀ k, k < nv → ∃ a, t < a ∧ a ≤ 9600 ∧ T 6 k 0 = nI a) ∧
  ((∃ a, a ≤ 100 ∧ T 0 0 0 = nI a) ∧ (∃ a, a ≤ 100 ∧ T 0 1 0 = nI a) ∧ (∃ a, a ≤ 600 ∧ T 0 2 0 = nI a) ∧ (∃ a, a ≤ 6 ∧ T 0 3 0 = nI a) ∧ (T 0 4 0 = 0 ∨ T 0 4 0 = 1) ∧ (T 0 5 0 = 0 ∨ T 0 5 0 = 1)) ∧
  (no (T 0 9 0) nm ∧ (0 < nm → ¬ T 0 9 0 = -6)) ∧
  (∀ m, m < 12 → (T 1 m 2 = 0 ∨ (T 1 m 2 = 1 ∧ m < nm)) ∧ no (T 1 m 3) nm ∧ (nm ≤ m → T 1 m 3 = -6) ∧ (m < nm → (∃ w, 1 ≤ w ∧ w ≤ 9 ∧ T 1 m 0 = nI w) ∧ ∃ q, q ≤ 3 ∧ T 1 m 1 = nI q) ∧ T 1 m 4 = nI (fb_ct (fun i => decide (T 2 i 9 = nI m)) ni)) ∧
  (∀ i, i < 12 → (i < ni → (∃ a, a ≤ 2 ∧ T 2 i 0 = nI a) ∧ ∃ a, a ≤ 15 ∧ T 2 i 1 = nI a) ∧ (∃ a, a ≤ 4 ∧ T 2 i 2 = nI a) ∧ no (T 2 i 9) nm ∧ (∃ a, a < 4096 ∧ T 2 i 11 = nI a) ∧
    (ni ≤ i → T 2 i 2 = 0 ∧ T 2 i 9 = -6 ∧ T 2 i 10 = 0 ∧ T 2 i 11 = 0 ∧ ∀ k, k < 6 → T 2 i (3 + k) = 0) ∧
    ∀ m, m < 12 → no (T 3 i m) nm ∧ no (T 4 i m) 3 ∧ no (T 5 i m) 3 ∧ (ni ≤ i → T 3 i m = -6 ∧ T 4 i m = -6 ∧ T 5 i m = -6)) ∧
  (∀ k, k < nv → (∃ j, j < nm ∧ T 6 k 1 = nI j) ∧ (T 6 k 2 = 0 ∨ T 6 k 2 = 1)) ∧ (∀ i, i < 12 → T 2 i 9 = -6 ∨ T 2 i 2 = 3 ∨ T 2 i 2 = 4)
abbrev Iv (T : kT) (nm ni nv : Nat) : Prop := IvB 9000 T nm ni nv
theorem no.neg {v : Int32} {n : Nat} (h : no v n) (hn : n < 2 ^ 31) : (v < 0) = (v = -6) := by
  rcases h with rfl | ⟨j, hj, rfl⟩
  · exact propext ⟨fun _ => rfl, fun _ => n6_lt⟩
  · exact propext ⟨fun q => absurd q (pos_nI (by omega)), fun q => absurd q (n6_ne (by omega))⟩
theorem no.nneg {v : Int32} {n : Nat} (h : no v n) (hn : n < 2 ^ 31) : (0 ≤ v) = (¬ v = -6) := by
  rcases h with rfl | ⟨j, hj, rfl⟩
  · exact propext ⟨fun q => absurd q (by decide), fun q => absurd rfl q⟩
  · exact propext ⟨fun _ => n6_ne (by omega), fun _ => nI_pos' (by omega)⟩
theorem no.of {v : Int32} {n : Nat} (h : no v n) (hn : ¬ v = -6) : ∃ j, j < n ∧ v = nI j := h.elim (fun e => absurd e hn) id
theorem no.mono {v : Int32} {n n' : Nat} (h : no v n) (hn : n ≤ n') : no v n' := h.imp id (fun ⟨j, a, b⟩ => ⟨j, by omega, b⟩)
-- indices of the row
theorem e1 (m k : Nat) : (20 + 6 * nI m) + nI k = nI (20 + 6 * m + k) := by rw [show (20 : Int32) = nI 20 from rfl, show (6 : Int32) = nI 6 from rfl, pk_mul, nI_add, nI_add]
theorem e1_0 (m : Nat) : (20 : Int32) + 6 * nI m = nI (20 + 6 * m) := by rw [show (20 : Int32) = nI 20 from rfl, show (6 : Int32) = nI 6 from rfl, pk_mul, nI_add]
theorem e2 (i k : Nat) : (100 + 12 * nI i) + nI k = nI (100 + 12 * i + k) := by rw [show (100 : Int32) = nI 100 from rfl, show (12 : Int32) = nI 12 from rfl, pk_mul, nI_add, nI_add]
theorem e2_0 (i : Nat) : (100 : Int32) + 12 * nI i = nI (100 + 12 * i) := by rw [show (100 : Int32) = nI 100 from rfl, show (12 : Int32) = nI 12 from rfl, pk_mul, nI_add]
theorem e3_0 (i m : Nat) : (250 : Int32) + 3 * (12 * nI i + nI m) = nI (250 + 3 * (12 * i + m)) := by rw [show (250 : Int32) = nI 250 from rfl, show (3 : Int32) = nI 3 from rfl, show (12 : Int32) = nI 12 from rfl, pk_mul, nI_add, pk_mul, nI_add]
theorem e3 (i m k : Nat) : (250 + 3 * (12 * nI i + nI m)) + nI k = nI (250 + 3 * (12 * i + m) + k) := by rw [e3_0, nI_add]
theorem e6_0 (k : Nat) : (690 : Int32) + 3 * nI k = nI (690 + 3 * k) := by rw [show (690 : Int32) = nI 690 from rfl, show (3 : Int32) = nI 3 from rfl, pk_mul, nI_add]
/-- 'k < n' of two literals or small numbers goes by itself -/
theorem kGx {α : Type} {x : Int32} {j n : Nat} {k : Option α} (e : x = nI j) (h : j < n) (hn : n < 2 ^ 31) : kG x n k = k := by rw [e]; exact kG_nI h hn
theorem kxx {x : Int32} {j : Nat} (e : x = nI j) (h : j < 2 ^ 31) : kx x = j := by rw [e]; exact kx_nI h
section M
variable {h : kH} {T : kT} {nm ni nv : Nat}
def sRec (T : kT) (i m : Nat) : Bool := f_M_has (T 2 i 1) (T 1 m 1) || f_M_has (T 2 i 11) (nI m)
def sCan (T : kT) (i m : Nat) : Bool := ps T m && !sRec T i m
/-- the state of an item that may still change -/
def sAhead (T : kT) (i : Nat) : Bool := decide (T 2 i 2 = 0) || decide (T 2 i 2 = 1)
/-- the holder that counts for an item -/
def sHol (T : kT) (i m : Nat) : Int32 := if T 3 i m = -6 then T 1 m 3 else T 3 i m
theorem sHol_no {bt : Nat} (I : IvB bt T nm ni nv) {i m : Nat} (hi : i < 12) (hm : m < 12) : no (sHol T i m) nm := by
  unfold sHol
  split
  · exact (I.2.2.2.2.2.1 m hm).2.1
  · exact ((I.2.2.2.2.2.2.1 i hi).2.2.2.2.2 m hm).1
end M
section C
variable {h : kH} {c : Nat} {T : kT} {nm ni nv : Nat}
theorem C_hasMember_bad (C : Com h c T nm ni nv) {bt : Nat} (I : IvB bt T nm ni nv) {x : Int32} (hx : x < 0 ∨ nI nm ≤ x) : f_C_hasMember h c x = false := by
  unfold f_C_hasMember
  rw [C.1.2.1, I.2.1.1]
  by_cases q : x < 0
  · rw [if_pos q]
  · rw [if_neg q, if_pos (hx.resolve_left q)]
theorem C_hasMember_ok (C : Com h c T nm ni nv) {bt : Nat} (I : IvB bt T nm ni nv) {m : Nat} (hm : m < nm) : f_C_hasMember h c (nI m) = true := by
  unfold f_C_hasMember
  have := I.1
  rw [C.1.2.1, I.2.1.1, if_neg (pos_nI (by omega)), if_neg (nI_ge hm (by omega))]
theorem C_hasItem_bad (C : Com h c T nm ni nv) {bt : Nat} (I : IvB bt T nm ni nv) {x : Int32} (hx : x < 0 ∨ nI ni ≤ x) : f_C_hasItem h c x = false := by
  unfold f_C_hasItem
  rw [C.1.2.2.1, I.2.1.2.1]
  by_cases q : x < 0
  · rw [if_pos q]
  · rw [if_neg q, if_pos (hx.resolve_left q)]
theorem C_hasItem_ok (C : Com h c T nm ni nv) {bt : Nat} (I : IvB bt T nm ni nv) {i : Nat} (hi : i < ni) : f_C_hasItem h c (nI i) = true := by
  unfold f_C_hasItem
  have := I.1
  rw [C.1.2.2.1, I.2.1.2.1, if_neg (pos_nI (by omega)), if_neg (nI_ge hi (by omega))]
theorem C_isPresent (C : Com h c T nm ni nv) {bt : Nat} (I : IvB bt T nm ni nv) {m : Nat} (hm : m < nm) : f_C_isPresent h c (nI m) = ps T m := by
  unfold f_C_isPresent
  have h1 := I.1
  have h2 := msk_12 (ps T) h1.1
  rw [C.1.2.2.2.1]
  simp only [bit_code (show msk (ps T) nm < 2 ^ 31 by omega) (show m < 31 by omega), msk_bit]
  simp [hm]
theorem C_isRecused (C : Com h c T nm ni nv) {bt : Nat} (I : IvB bt T nm ni nv) {i m : Nat} (hi : i < ni) (hm : m < nm) : f_C_isRecused h c (nI m) (c + 10 + 5 * i) = some (sRec T i m) := by
  unfold f_C_isRecused
  have h1 := I.1
  obtain ⟨_, q1, _, q3, _⟩ := C.2.2.2.1 i hi
  rw [kG_nI (by omega) (by omega), kx_nI (by omega), q1, q3, (C.2.2.1 m hm).2.1]
  unfold sRec f_M_has
  by_cases a : (T 2 i 1 >>> (T 1 m 1 &&& 31)) &&& 1 = 1
  · simp [a]
  · by_cases b : (T 2 i 11 >>> (nI m &&& 31)) &&& 1 = 1 <;> simp [a, b]
theorem C_canVote (C : Com h c T nm ni nv) {bt : Nat} (I : IvB bt T nm ni nv) {i m : Nat} (hi : i < ni) (hm : m < nm) : f_C_canVote h c (nI m) (c + 10 + 5 * i) = some (sCan T i m) := by
  unfold f_C_canVote
  rw [C_isPresent C I hm, C_isRecused C I hi hm]
  unfold kBi sCan
  cases ps T m <;> cases sRec T i m <;> rfl
theorem C_isPending (C : Com h c T nm ni nv) {i : Nat} (hi : i < ni) : f_I_isPending h (c + 10 + 5 * i) = sAhead T i := by
  unfold f_I_isPending sAhead
  rw [(C.2.2.2.1 i hi).2.2.1]
  by_cases a : T 2 i 2 = 0
  · simp [a]
  · by_cases b : T 2 i 2 = 1 <;> simp [a, b]
theorem C_holderFor (C : Com h c T nm ni nv) {bt : Nat} (I : IvB bt T nm ni nv) {i m : Nat} (hi : i < ni) (hm : m < nm) : f_C_holderFor h c (nI m) (c + 10 + 5 * i) = some (sHol T i m) := by
  unfold f_C_holderFor
  have h1 := I.1
  obtain ⟨_, _, _, _, _, _, _, q⟩ := C.2.2.2.1 i hi
  rw [kG_nI (by omega) (by omega), kG_nI (by omega) (by omega), kG_nI (by omega) (by omega), kx_nI (by omega), (q m (by omega)).2.2, (C.2.2.1 m hm).2.2]
  unfold sHol
  split <;> rfl
end C
