/-! PURE: the ways, the six sums, the weight that is there, the quorum, the outcome, on both sides. -/
def sWay (T : kT) (i nm m : Nat) : Int32 :=
  if sRec T i m = true then 5 else if T 4 i m = -6 then (if ps T m = true then 3 else if sV T i nm m = -6 then 4 else if T 5 i m = -6 then (if T 4 i (kx (sV T i nm m)) = -6 then 3 else T 4 i (kx (sV T i nm m))) else T 5 i m) else T 4 i m
theorem sV_no {T : kT} {nm ni nv : Nat} {bt : Nat} (I : IvB bt T nm ni nv) {i : Nat} (hi : i < 12) (m : Nat) : no (sV T i nm m) nm := sVo_no I hi nm m (Nat.le_refl _)
theorem sWay_6 {T : kT} {nm ni nv : Nat} {bt : Nat} (I : IvB bt T nm ni nv) {i m : Nat} (hi : i < 12) (hm : m < 12) : ∃ a, a < 6 ∧ sWay T i nm m = nI a := by
  have hn := I.1
  unfold sWay
  have key : ∀ j, j < 12 → ¬ T 4 i j = -6 → ∃ a, a < 6 ∧ T 4 i j = nI a := fun j hj q => by
    obtain ⟨b, b1, b2⟩ := ((I.2.2.2.2.2.2.1 i hi).2.2.2.2.2 j hj).2.1.of q
    exact ⟨b, by omega, b2⟩
  split
  · exact ⟨5, by decide, rfl⟩
  · by_cases q : T 4 i m = -6
    · rw [if_pos q]
      split
      · exact ⟨3, by decide, rfl⟩
      · by_cases w : sV T i nm m = -6
        · rw [if_pos w]; exact ⟨4, by decide, rfl⟩
        · rw [if_neg w]
          by_cases z : T 5 i m = -6
          · rw [if_pos z]
            obtain ⟨l, l1, l2⟩ := (sV_no I hi m).of w
            rw [l2, kx_nI (by omega)]
            split
            · exact ⟨3, by decide, rfl⟩
            · next y => exact key l (by omega) y
          · rw [if_neg z]
            obtain ⟨b, b1, b2⟩ := ((I.2.2.2.2.2.2.1 i hi).2.2.2.2.2 m hm).2.2.1.of z
            exact ⟨b, by omega, b2⟩
    · rw [if_neg q]
      exact key m hm q
def sTal (T : kT) (i nm k w : Nat) : Int32 := sumI (fun m => if sWay T i nm m = nI w then T 1 m 0 else 0) k
def sThr (T : kT) (i nm k : Nat) : Int32 := sumI (fun m => if ps T m = true then T 1 m 0 else if sV T i nm m = -6 then 0 else T 1 m 0) k
def sAll (T : kT) (nm : Nat) : Int32 := sumI (fun m => T 1 m 0) nm
def sQuo (T : kT) (nm : Nat) (x : Int32) : Bool := !decide (100 * x < sAll T nm * (if T 0 6 0 < T 0 2 0 then T 0 0 0 else T 0 1 0))
def sOut (T : kT) (i : Nat) (y a z : Int32) : Int32 :=
  if T 2 i 0 = 0 then (if y ≤ a then (if y = a then (if T 0 5 0 = 1 then 2 else 4) else 4) else 3)
  else if T 2 i 0 = 1 then (if y ≤ 0 then 4 else if 3 * y < 2 * (y + a) then 4 else 3)
  else if y ≤ 0 then 4 else if z = 0 then (if a = 0 then 3 else 4) else 4
theorem kBi_s {α β : Type} (a : α) (k : α → Option β) : kBi (some a) k = k a := rfl
theorem kBd_s {α β γ : Type} (a : α) (b : β) (k : α → β → Option γ) : kBd (some (a, b)) k = k a b := rfl
theorem kLet_s {α β : Type} (a : α) (k : α → β) : kLet a k = k a := rfl
theorem le_rfl32 (y : Int32) : y ≤ y := by rw [fa_le]; omega
section C
variable {c s : Nat} {T : kT} {nm ni nv : Nat}
theorem C_wayOf {h : kH} (C : Com h c T nm ni nv) {bt : Nat} (I : IvB bt T nm ni nv) {i m : Nat} (hi : i < ni) (hm : m < nm) (H : Hrd h s T i nm) : f_H_wayOf h s c (c + 10 + 5 * i) (nI m) = some (sWay T i nm m) := by
  have hn := I.1
  unfold f_H_wayOf sWay
  rw [C_isRecused C I hi hm]
  dsimp only [kBi]
  obtain ⟨_, _, _, _, _, _, _, q0⟩ := C.2.2.2.1 i hi
  obtain ⟨q1, q2, _⟩ := q0 m (by omega)
  by_cases r : sRec T i m = true
  · rw [if_pos r, if_pos r]
  · rw [if_neg r, if_neg r, kG_nI (by omega) (by omega), kG_nI (by omega) (by omega), kG_nI (by omega) (by omega), kG_nI (by omega) (by omega), kG_nI (by omega) (by omega), kx_nI (by omega), q1, q2, H.1 m (by omega), C_isPresent C I hm]
    by_cases a : T 4 i m = -6
    · rw [if_pos a, if_pos a]
      by_cases b : ps T m = true
      · rw [if_pos b, if_pos b]
      · rw [if_neg b, if_neg b]
        by_cases d : sV T i nm m = -6
        · rw [if_pos d, if_pos d]
        · rw [if_neg d, if_neg d]
          by_cases e : T 5 i m = -6
          · rw [if_pos e, if_pos e]
            obtain ⟨l, l1, l2⟩ := (sV_no I (show i < 12 by omega) m).of d
            rw [l2, kG_nI (by omega) (by omega), kG_nI (by omega) (by omega), kx_nI (by omega), (q0 l (by omega)).1]
            split <;> rfl
          · rw [if_neg e, if_neg e]
    · rw [if_neg a, if_neg a]
theorem Hrd.cong {h h' : kH} {i : Nat} (H : Hrd h s T i nm) (e1 : h' (s + 1) = h (s + 1)) (e2 : h' (s + 2) = h (s + 2)) : Hrd h' s T i nm := ⟨fun m hm => by rw [e1]; exact H.1 m hm, fun m hm => by rw [e2]; exact H.2 m hm⟩
theorem sTal_s (T : kT) (i nm k w : Nat) : sTal T i nm (k + 1) w = sTal T i nm k w + (if sWay T i nm k = nI w then T 1 k 0 else 0) := rfl
theorem C_tally_loop {bt : Nat} (I : IvB bt T nm ni nv) {i : Nat} (hi : i < ni) (hsc : s + 3 < c ∨ c + 70 ≤ s) : ∀ (d k f : Nat) (h : kH), k + d = nm → d < f → Com h c T nm ni nv → Hrd h s T i nm → (∀ w, w < 6 → h (s + 3) w = sTal T i nm k w) →
    ∃ h', b_H_tally_10 s c (c + 10 + 5 * i) f h (nI k) = some h' ∧ (∀ a, a ≠ s + 3 → h' a = h a) ∧ ∀ w, w < 6 → h' (s + 3) w = sTal T i nm nm w := by
  have hn := I.1
  intro d
  induction d with
  | zero =>
    intro k f h hk hf C H h1
    obtain ⟨f, rfl⟩ : ∃ g, f = g + 1 := ⟨f - 1, by omega⟩
    obtain rfl : k = nm := hk
    rw [b_H_tally_10, C.1.2.1, I.2.1.1]
    exact ⟨h, if_pos (nI_le (Nat.le_refl _) (by omega)), fun a _ => rfl, h1⟩
  | succ d ih =>
    intro k f h hk hf C H h1
    obtain ⟨f, rfl⟩ : ∃ g, f = g + 1 := ⟨f - 1, by omega⟩
    have hkm : k < nm := by omega
    obtain ⟨a, a1, a2⟩ := sWay_6 I (show i < 12 by omega) (show k < 12 by omega)
    rw [b_H_tally_10, C.1.2.1, I.2.1.1]
    dsimp only
    rw [if_neg (nI_ge hkm (by omega)), C_wayOf C I hi hkm H, a2, nI_1]
    dsimp only [kBi]
    rw [kG_nI (by omega) (by omega), kG_nI (by omega) (by omega), kG_nI (by omega) (by omega), kx_nI (by omega), kx_nI (by omega), h1 a a1, (C.2.2.1 k hkm).1]
    dsimp only [kLet]
    obtain ⟨h', e1, e2, e3⟩ := ih (k + 1) f (hset h (s + 3) a (sTal T i nm k a + T 1 k 0)) (by omega) (by omega) (C.cong hn.2.1 fun b b1 b2 => hs_of _ _ (by omega)) (H.cong (hs_of _ _ (by omega)) (hs_of _ _ (by omega))) (fun w hw => by
      rw [sTal_s, a2]
      by_cases z : a = w
      · subst z
        rw [hs_eq, if_pos rfl]
      · rw [hs_ne _ _ (fun v => z v.2.symm), if_neg (by rw [eqI (by omega) (by omega)]; exact z), Int32.add_zero]
        exact h1 w hw)
    exact ⟨h', e1, fun b hb => (e2 b hb).trans (hs_of _ _ hb), e3⟩
theorem C_tally {h : kH} (C : Com h c T nm ni nv) {bt : Nat} (I : IvB bt T nm ni nv) {i : Nat} (hi : i < ni) (hsc : s + 3 < c ∨ c + 70 ≤ s) (H : Hrd h s T i nm) : ∃ h', f_H_tally h s c (c + 10 + 5 * i) = some h' ∧ (∀ a, a ≠ s + 3 → h' a = h a) ∧ ∀ w, w < 6 → h' (s + 3) w = sTal T i nm nm w := by
  have hn := I.1
  unfold f_H_tally
  dsimp only [kLet]
  obtain ⟨h', e1, e2, e3⟩ := C_tally_loop (s := s) I hi hsc nm 0 kFuel (hfill h (s + 3) 6 0) (by omega) (kF_lt (by omega)) (C.cong hn.2.1 fun b b1 b2 => hf_of _ _ (by omega)) (H.cong (hf_of _ _ (by omega)) (hf_of _ _ (by omega))) (fun w hw => hf_in _ _ hw)
  exact ⟨h', e1, fun b hb => (e2 b hb).trans (hf_of _ _ hb), e3⟩
theorem C_there_loop {h : kH} (C : Com h c T nm ni nv) {bt : Nat} (I : IvB bt T nm ni nv) {i : Nat} (hi : i < ni) (H : Hrd h s T i nm) : ∀ (d k f : Nat), k + d = nm → d < f → b_H_weightThere_4 h s c f (sThr T i nm k) (nI k) = some (sThr T i nm nm) := by
  have hn := I.1
  intro d
  induction d with
  | zero =>
    intro k f hk hf
    obtain ⟨f, rfl⟩ : ∃ g, f = g + 1 := ⟨f - 1, by omega⟩
    obtain rfl : k = nm := hk
    rw [b_H_weightThere_4, C.1.2.1, I.2.1.1]
    exact if_pos (nI_le (Nat.le_refl _) (by omega))
  | succ d ih =>
    intro k f hk hf
    obtain ⟨f, rfl⟩ : ∃ g, f = g + 1 := ⟨f - 1, by omega⟩
    have hkm : k < nm := by omega
    rw [b_H_weightThere_4, C.1.2.1, I.2.1.1]
    dsimp only
    unfold b_H_weightThere_31
    have e := ih (k + 1) f (by omega) (by omega)
    have es : sThr T i nm (k + 1) = sThr T i nm k + (if ps T k = true then T 1 k 0 else if sV T i nm k = -6 then 0 else T 1 k 0) := rfl
    rw [es] at e
    rw [if_neg (nI_ge hkm (by omega)), C_isPresent C I hkm, kG_nI (by omega) (by omega), kG_nI (by omega) (by omega), kx_nI (by omega), H.1 k (by omega), (C.2.2.1 k hkm).1, nI_1]
    dsimp only [kLet]
    by_cases q : ps T k = true
    · rw [if_pos q]
      rw [if_pos q] at e
      exact e
    · rw [if_neg q]
      rw [if_neg q] at e
      by_cases z : sV T i nm k = -6
      · rw [if_pos z]
        rw [if_pos z, Int32.add_zero] at e
        exact e
      · rw [if_neg z]
        rw [if_neg z] at e
        exact e
theorem C_weightThere {h : kH} (C : Com h c T nm ni nv) {bt : Nat} (I : IvB bt T nm ni nv) {i : Nat} (hi : i < ni) (H : Hrd h s T i nm) : f_H_weightThere h s c = some (sThr T i nm nm) :=
  C_there_loop C I hi H nm 0 kFuel (by omega) (kF_lt (by have := I.1; omega))
theorem C_isQuorum {h : kH} (C : Com h c T nm ni nv) {bt : Nat} (I : IvB bt T nm ni nv) (x : Int32) : f_C_isQuorum h c x = some (sQuo T nm x) := by
  unfold f_C_isQuorum b_C_isQuorum_28 sQuo sAll
  rw [g6_2, g6_0, g6_1, x_2, x_0, x_1, C_weightOfAll C I, C.1.1, C.2.1 2 (by decide), C.2.1 0 (by decide), C.2.1 1 (by decide)]
  dsimp only [kBi]
  by_cases a : T 0 6 0 < T 0 2 0
  · rw [if_pos a, if_pos a]
    split <;> simp_all
  · rw [if_neg a, if_neg a]
    split <;> simp_all
theorem C_outcome {h : kH} (C : Com h c T nm ni nv) {i : Nat} (hi : i < ni) (x : Int32) : f_H_outcome h s c (c + 10 + 5 * i) x = some (sOut T i (h (s + 3) 1 + x) (h (s + 3) 2) (h (s + 3) 0)) := by
  unfold f_H_outcome b_H_outcome_67 sOut
  dsimp only [kLet]
  rw [g6_1, g6_2, g6_5, g6_0, x_1, x_2, x_5, x_0, C.2.1 5 (by decide), (C.2.2.2.1 i hi).1]
  by_cases a : T 2 i 0 = 0
  · rw [if_pos a, if_pos a]
    by_cases b : h (s + 3) 1 + x = h (s + 3) 2
    · rw [b]
      have l := le_rfl32 (h (s + 3) 2)
      rw [if_pos rfl, if_pos l, if_pos rfl, if_pos l]
      split <;> rfl
    · rw [if_neg b]
      split <;> rfl
  · rw [if_neg a, if_neg a]
    split
    · split
      · rfl
      · split <;> rfl
    · split
      · rfl
      · split
        · split <;> rfl
        · rfl
end C
