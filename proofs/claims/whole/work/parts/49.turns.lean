/-! PURE: the reference's row kept and come back; what the quorum hangs on. -/
theorem M_keep_loop : ∀ (d k f : Nat) (h : kH), k + d = 760 → d < f → b_M_keep_2 f h (nI k) = some fun a j => if a = 788 ∧ k ≤ j ∧ j < 760 then h 787 j else h a j := by
  intro d
  induction d with
  | zero =>
    intro k f h hk hf
    obtain ⟨f, rfl⟩ : ∃ g, f = g + 1 := ⟨f - 1, by omega⟩
    obtain rfl : k = 760 := hk
    rw [b_M_keep_2]
    dsimp only
    rw [if_pos (show (760 : Int32) ≤ nI 760 from by decide)]
    refine congrArg some (funext fun a => funext fun j => ?_)
    rw [if_neg (by omega)]
  | succ d ih =>
    intro k f h hk hf
    obtain ⟨f, rfl⟩ : ∃ g, f = g + 1 := ⟨f - 1, by omega⟩
    rw [b_M_keep_2]
    dsimp only
    rw [if_neg (show ¬ (760 : Int32) ≤ nI k from by rw [show (760 : Int32) = nI 760 from rfl, leI (by omega) (by omega)]; omega), kG_nI (by omega) (by omega), kG_nI (by omega) (by omega), kx_nI (by omega), nI_1, kLet_s, ih (k + 1) f _ (by omega) (by omega)]
    refine congrArg some (funext fun a => funext fun j => ?_)
    by_cases z : a = 788 ∧ k ≤ j ∧ j < 760
    · rw [if_pos z]
      by_cases y : j = k
      · rw [if_neg (by omega), z.1, y, hs_eq]
      · rw [if_pos (by omega), hs_o _ _ (by decide)]
    · rw [if_neg z, if_neg (by omega), hs_ne _ _ (by omega)]
theorem M_keep (h : kH) : ∃ h', f_M_keep h = some h' ∧ (∀ a, a ≠ 788 → h' a = h a) ∧ ∀ j, j < 760 → h' 788 j = h 787 j := by
  refine ⟨_, M_keep_loop 760 0 kFuel h rfl (kF_lt (by omega)), fun a q => ?_, fun j hj => if_pos (by omega)⟩
  funext j
  exact if_neg (by omega)
theorem M_come_loop : ∀ (d k f : Nat) (h : kH), k + d = 760 → d < f → b_M_comeBack_2 f h (nI k) = some fun a j => if a = 787 ∧ k ≤ j ∧ j < 760 then h 788 j else h a j := by
  intro d
  induction d with
  | zero =>
    intro k f h hk hf
    obtain ⟨f, rfl⟩ : ∃ g, f = g + 1 := ⟨f - 1, by omega⟩
    obtain rfl : k = 760 := hk
    rw [b_M_comeBack_2]
    dsimp only
    rw [if_pos (show (760 : Int32) ≤ nI 760 from by decide)]
    refine congrArg some (funext fun a => funext fun j => ?_)
    rw [if_neg (by omega)]
  | succ d ih =>
    intro k f h hk hf
    obtain ⟨f, rfl⟩ : ∃ g, f = g + 1 := ⟨f - 1, by omega⟩
    rw [b_M_comeBack_2]
    dsimp only
    rw [if_neg (show ¬ (760 : Int32) ≤ nI k from by rw [show (760 : Int32) = nI 760 from rfl, leI (by omega) (by omega)]; omega), kG_nI (by omega) (by omega), kG_nI (by omega) (by omega), kx_nI (by omega), nI_1, kLet_s, ih (k + 1) f _ (by omega) (by omega)]
    refine congrArg some (funext fun a => funext fun j => ?_)
    by_cases z : a = 787 ∧ k ≤ j ∧ j < 760
    · rw [if_pos z]
      by_cases y : j = k
      · rw [if_neg (by omega), z.1, y, hs_eq]
      · rw [if_pos (by omega), hs_o _ _ (by decide)]
    · rw [if_neg z, if_neg (by omega), hs_ne _ _ (by omega)]
theorem M_comeBack (h : kH) : ∃ h', f_M_comeBack h = some h' ∧ (∀ a, a ≠ 787 → h' a = h a) ∧ ∀ j, j < 760 → h' 787 j = h 788 j := by
  refine ⟨_, M_come_loop 760 0 kFuel h rfl (kF_lt (by omega)), fun a q => ?_, fun j hj => if_pos (by omega)⟩
  funext j
  exact if_neg (by omega)
/-- is there a quorum for item i at minute t with these present? -/
def qAt (T : kT) (i nm t : Nat) (P : Nat → Bool) : Bool := sQuo (tQ T P t []) nm (sThr (tQ T P t []) i nm nm)
theorem Same.queue (T : kT) (P : Nat → Bool) (t t' : Nat) (L L' : kQ) (i m : Nat) : sRec (tQ T P t L) i m = sRec (tQ T P t' L') i m := by
  have e2 : ∀ (t : Nat) (L : kQ), tQ T P t L 2 = T 2 := fun t L => tQ_a (by decide) (by decide) (by decide)
  have e1 : ∀ (t : Nat) (L : kQ), tQ T P t L 1 m 1 = T 1 m 1 := fun t L => tQ_1 (by decide)
  unfold sRec
  rw [e2, e2, e1, e1]
theorem q_hol (T : kT) (P : Nat → Bool) (t t' : Nat) (L L' : kQ) (i m : Nat) : sHol (tQ T P t L) i m = sHol (tQ T P t' L') i m := by
  have e2 : ∀ (t : Nat) (L : kQ), tQ T P t L 3 = T 3 := fun t L => tQ_a (by decide) (by decide) (by decide)
  have e1 : ∀ (t : Nat) (L : kQ), tQ T P t L 1 m 3 = T 1 m 3 := fun t L => tQ_1 (by decide)
  unfold sHol
  rw [e2, e2, e1, e1]
theorem q_end (T : kT) (P : Nat → Bool) (t t' : Nat) (L L' : kQ) (i : Nat) : ∀ (k m : Nat), sEnd (tQ T P t L) i k m = sEnd (tQ T P t' L') i k m
  | 0, _ => rfl
  | k + 1, m => by
    rw [sEnd, sEnd, q_hol T P t t' L L', tQ_ps, tQ_ps, Same.queue T P t t' L L', q_end T P t t' L L' i k]
theorem q_step (T : kT) (P : Nat → Bool) (t t' : Nat) (L L' : kQ) (i : Nat) (v : Nat → Int32) (k : Nat) : sStep (tQ T P t L) i v k = sStep (tQ T P t' L') i v k := by
  have es : sSteps (tQ T P t L) = sSteps (tQ T P t' L') := by
    unfold sSteps
    rw [tQ_0 (by decide) (by decide), tQ_0 (by decide) (by decide)]
  unfold sStep sCnt
  rw [Same.queue T P t t' L L', tQ_ps, tQ_ps, es, q_end T P t t' L L', tQ_0 (b := 3) (by decide) (by decide), tQ_0 (b := 3) (by decide) (by decide)]
theorem q_vo (T : kT) (P : Nat → Bool) (t t' : Nat) (L L' : kQ) (i : Nat) : ∀ (k m : Nat), sVo (tQ T P t L) i k m = sVo (tQ T P t' L') i k m
  | 0, _ => rfl
  | k + 1, m => by
    have e : sVo (tQ T P t L) i k = sVo (tQ T P t' L') i k := funext (q_vo T P t t' L L' i k)
    rw [sVo, sVo, e, q_step T P t t' L L']
theorem q_thr (T : kT) (P : Nat → Bool) (t t' : Nat) (L L' : kQ) (i nm k : Nat) : sThr (tQ T P t L) i nm k = sThr (tQ T P t' L') i nm k := by
  have e : sV (tQ T P t L) i nm = sV (tQ T P t' L') i nm := funext (q_vo T P t t' L L' i nm)
  have e1 : ∀ (t : Nat) (L : kQ) (m : Nat), tQ T P t L 1 m 0 = T 1 m 0 := fun t L m => tQ_1 (by decide)
  unfold sThr
  rw [tQ_ps, tQ_ps, e]
  simp only [e1]
