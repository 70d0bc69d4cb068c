/-! PURE: who speaks for whom, on both sides. -/
theorem M_has {x j : Nat} (hx : x < 2 ^ 31) (hj : j < 31) : f_M_has (nI x) (nI j) = x.testBit j := by
  unfold f_M_has
  simp only [bit_code hx hj]
  cases x.testBit j <;> rfl
theorem Com.cong {h h' : kH} {c : Nat} {T : kT} {nm ni nv : Nat} (C : Com h c T nm ni nv) (hn : ni ≤ 12) (e : ∀ a, c ≤ a → a < c + 70 → h' a = h a) : Com h' c T nm ni nv := by
  obtain ⟨⟨a1, a2, a3, a4, a5, a6⟩, b, d, f, g⟩ := C
  have e0 := e c (by omega) (by omega)
  refine ⟨⟨by rw [e0]; exact a1, by rw [e0]; exact a2, by rw [e0]; exact a3, by rw [e0]; exact a4, by rw [e0]; exact a5, by rw [e _ (by omega) (by omega)]; exact a6⟩, fun k hk => by rw [e _ (by omega) (by omega)]; exact b k hk, fun m hm => ?_, fun i hi => ?_, fun k hk => ?_⟩
  · rw [e (c + 2) (by omega) (by omega), e (c + 3) (by omega) (by omega), e (c + 4) (by omega) (by omega)]
    exact d m hm
  · rw [e (c + 10 + 5 * i) (by omega) (by omega), e (c + 10 + 5 * i + 1) (by omega) (by omega), e (c + 10 + 5 * i + 2) (by omega) (by omega), e (c + 10 + 5 * i + 3) (by omega) (by omega), e (c + 10 + 5 * i + 4) (by omega) (by omega)]
    exact f i hi
  · rw [e (c + 7) (by omega) (by omega), e (c + 8) (by omega) (by omega), e (c + 9) (by omega) (by omega)]
    exact g k hk
/-- the end of the way, k steps allowed -/
def sEnd (T : kT) (i : Nat) : Nat → Nat → Int32
  | 0, _ => -6
  | k + 1, m => if sHol T i m = -6 then -6 else if ps T (kx (sHol T i m)) = true then (if sRec T i (kx (sHol T i m)) = true then -6 else sHol T i m) else sEnd T i k (kx (sHol T i m))
def sSteps (T : kT) : Nat := if T 0 4 0 = 0 then 1 else 12
theorem sEnd_no {T : kT} {nm ni nv : Nat} {bt : Nat} (I : IvB bt T nm ni nv) {i : Nat} (hi : i < 12) : ∀ (k m : Nat), m < nm → no (sEnd T i k m) nm := by
  have hn := I.1
  intro k
  induction k with
  | zero => intro m _; exact Or.inl rfl
  | succ k ih =>
    intro m hm
    rw [sEnd]
    rcases sHol_no I hi (show m < 12 by omega) with e | ⟨j, hj, e⟩
    · rw [if_pos e]; exact Or.inl rfl
    · rw [e, if_neg (n6_ne (by omega)), kx_nI (by omega)]
      split
      · split
        · exact Or.inl rfl
        · exact Or.inr ⟨j, hj, rfl⟩
      · exact ih j hj
theorem sEnd_ps {T : kT} {nm ni nv : Nat} {bt : Nat} (I : IvB bt T nm ni nv) {i : Nat} (hi : i < 12) : ∀ (k m j : Nat), m < nm → sEnd T i k m = nI j → j < nm → ps T j = true := by
  have hn := I.1
  intro k
  induction k with
  | zero => intro m j _ e hj; exact absurd e.symm (n6_ne (by omega))
  | succ k ih =>
    intro m j hm e hj
    rw [sEnd] at e
    rcases sHol_no I hi (show m < 12 by omega) with q | ⟨l, hl, q⟩
    · rw [if_pos q] at e
      exact absurd e.symm (n6_ne (by omega))
    · rw [q, if_neg (n6_ne (by omega)), kx_nI (by omega)] at e
      by_cases z : ps T l = true
      · rw [if_pos z] at e
        by_cases y : sRec T i l = true
        · rw [if_pos y] at e
          exact absurd e.symm (n6_ne (by omega))
        · rw [if_neg y, eqI (by omega) (by omega)] at e
          rw [← e]; exact z
      · rw [if_neg z] at e
        exact ih l j hl e hj
theorem C_end_loop {h : kH} {c : Nat} {T : kT} {nm ni nv : Nat} (C : Com h c T nm ni nv) {bt : Nat} (I : IvB bt T nm ni nv) {i : Nat} (hi : i < ni) {s : Nat} (hs : s ≤ 12) : ∀ (k a f m : Nat), a + k = s → k < f → m < nm → b_H_endOfWay_23 h c (c + 10 + 5 * i) (nI s) f (nI m) (nI a) = some (sEnd T i k m) := by
  have hn := I.1
  intro k
  induction k with
  | zero =>
    intro a f m ha hf hm
    obtain ⟨f, rfl⟩ : ∃ g, f = g + 1 := ⟨f - 1, by omega⟩
    obtain rfl : a = s := ha
    rw [b_H_endOfWay_23]
    exact if_pos (nI_le (Nat.le_refl _) (by omega))
  | succ k ih =>
    intro a f m ha hf hm
    obtain ⟨f, rfl⟩ : ∃ g, f = g + 1 := ⟨f - 1, by omega⟩
    rw [b_H_endOfWay_23]
    dsimp only
    rw [if_neg (nI_ge (by omega) (by omega)), C_holderFor C I hi hm, sEnd]
    unfold kBi
    dsimp only
    rcases sHol_no I (show i < 12 by omega) (show m < 12 by omega) with q | ⟨l, hl, q⟩
    · rw [if_pos q, if_pos q]
    · rw [q, if_neg (n6_ne (by omega)), if_neg (n6_ne (by omega)), kx_nI (by omega), C_isPresent C I hl, C_isRecused C I hi hl, nI_1]
      dsimp only
      by_cases z : ps T l = true
      · rw [if_pos z, if_pos z]
        by_cases y : sRec T i l = true
        · rw [if_pos y, if_pos y]
        · rw [if_neg y, if_neg y]
      · rw [if_neg z, if_neg z]
        exact ih (a + 1) f l (by omega) (by omega) hl
theorem C_endOfWay {h : kH} {c s : Nat} {T : kT} {nm ni nv : Nat} (C : Com h c T nm ni nv) {bt : Nat} (I : IvB bt T nm ni nv) {i m : Nat} (hi : i < ni) (hm : m < nm) : f_H_endOfWay h s c (c + 10 + 5 * i) (nI m) = some (sEnd T i (sSteps T) m) := by
  unfold f_H_endOfWay sSteps
  rw [g6_4, x_4, C.2.1 4 (by decide)]
  by_cases q : T 0 4 0 = 0
  · rw [if_pos q, if_pos q]
    exact C_end_loop C I hi (s := 1) (by omega) 1 0 kFuel m rfl (kF_lt (by omega)) hm
  · rw [if_neg q, if_neg q]
    exact C_end_loop C I hi (s := 12) (by omega) 12 0 kFuel m rfl (kF_lt (by omega)) hm
theorem sEnd_closed {T : kT} {i : Nat} {A : Nat → Prop} (hA : ∀ j, A j → j < 12 ∧ ps T j = false ∧ ∃ l, sHol T i j = nI l ∧ A l) : ∀ (k j : Nat), A j → sEnd T i k j = -6 := by
  intro k
  induction k with
  | zero => intro j _; rfl
  | succ k ih =>
    intro j hj
    obtain ⟨h1, h2, l, h3, h4⟩ := hA j hj
    have hl := hA l h4
    rw [sEnd, h3, if_neg (n6_ne (by omega)), kx_nI (by omega), if_neg (by rw [hl.2.1]; decide)]
    exact ih l h4
theorem tb_or (M j a : Nat) : (M ||| 2 ^ j).testBit a = (M.testBit a || decide (a = j)) := by
  rw [Nat.testBit_or, Nat.testBit_two_pow]
  congr 1
  exact decide_eq_decide.mpr ⟨fun h => h.symm, fun h => h.symm⟩
theorem ct_or {M j : Nat} (hj : j < 12) (h : M.testBit j = false) : fb_ct (fun a => (M ||| 2 ^ j).testBit a) 12 = fb_ct (fun a => M.testBit a) 12 + 1 := by
  have e := fb_ct_upd (fun a => M.testBit a) true hj
  rw [if_neg (by rw [h]; decide), if_pos rfl, Nat.add_zero] at e
  rw [← e]
  apply fb_ct_cong
  intro a _
  rw [tb_or]
  by_cases q : a = j <;> simp [q]
theorem or_lt {M j : Nat} (hM : M < 4096) (hj : j < 12) : M ||| 2 ^ j < 4096 := Nat.or_lt_two_pow (n := 12) hM (Nat.pow_lt_pow_right (by decide) hj)
section M
variable {h : kH} {T : kT} {nm ni nv : Nat}
theorem ct_two : ∀ m, m < 12 → fb_ct (fun a => (2 ^ m).testBit a) 12 = 1 := by decide +kernel
theorem tb_two (m j : Nat) : (2 ^ m).testBit j = decide (m = j) := Nat.testBit_two_pow
end M
-- the voices
def sCnt (T : kT) (v : Nat → Int32) (k e : Nat) : Nat := fb_ct (fun m => !ps T m && decide (v m = nI e)) k
def sStep (T : kT) (i : Nat) (v : Nat → Int32) (k : Nat) : Int32 := if sRec T i k = true then -6 else if ps T k = true then nI k else if sEnd T i (sSteps T) k = -6 then -6 else if nI (sCnt T v k (kx (sEnd T i (sSteps T) k))) < T 0 3 0 then sEnd T i (sSteps T) k else -6
def sVo (T : kT) (i : Nat) : Nat → Nat → Int32
  | 0, _ => -6
  | k + 1, m => if m = k then sStep T i (sVo T i k) k else sVo T i k m
theorem sVo_big (T : kT) (i : Nat) : ∀ (k m : Nat), k ≤ m → sVo T i k m = -6
  | 0, _, _ => rfl
  | k + 1, m, h => by rw [sVo, if_neg (by omega), sVo_big T i k m (by omega)]
theorem sVo_eq (T : kT) (i k : Nat) : sVo T i (k + 1) k = sStep T i (sVo T i k) k := by rw [sVo, if_pos rfl]
theorem sVo_lt (T : kT) (i : Nat) {k m : Nat} (h : m < k) : sVo T i (k + 1) m = sVo T i k m := by rw [sVo, if_neg (by omega)]
theorem sCnt_cong {T : kT} {v v' : Nat → Int32} {k e : Nat} (h : ∀ m, m < k → v m = v' m) : sCnt T v k e = sCnt T v' k e := fb_ct_cong fun m hm => by rw [h m hm]
theorem sCnt_succ (T : kT) (i k e : Nat) : sCnt T (sVo T i (k + 1)) (k + 1) e = sCnt T (sVo T i k) k e + (if (!ps T k && decide (sStep T i (sVo T i k) k = nI e)) = true then 1 else 0) := by
  have e1 : sCnt T (sVo T i (k + 1)) k e = sCnt T (sVo T i k) k e := sCnt_cong fun m hm => sVo_lt T i hm
  rw [← e1]
  unfold sCnt
  rw [fb_ct_succ, sVo_eq]
theorem sStep_no {T : kT} {nm ni nv : Nat} {bt : Nat} (I : IvB bt T nm ni nv) {i k : Nat} {v : Nat → Int32} (hi : i < 12) (hk : k < nm) : no (sStep T i v k) nm := by
  unfold sStep
  split
  · exact Or.inl rfl
  · split
    · exact Or.inr ⟨k, hk, rfl⟩
    · split
      · exact Or.inl rfl
      · split
        · exact sEnd_no I hi _ k hk
        · exact Or.inl rfl
theorem sVo_no {T : kT} {nm ni nv : Nat} {bt : Nat} (I : IvB bt T nm ni nv) {i : Nat} (hi : i < 12) : ∀ (k m : Nat), k ≤ nm → no (sVo T i k m) nm := by
  intro k
  induction k with
  | zero => intro m _; exact Or.inl rfl
  | succ k ih =>
    intro m hk
    rw [sVo]
    split
    · exact sStep_no I hi (by omega)
    · exact ih m (by omega)
