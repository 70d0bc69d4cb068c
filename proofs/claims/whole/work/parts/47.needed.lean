/-! PURE: needed, the reference's side; a turn. -/
/-- what the reference may change in a question that works on its row -/
def Mo (h h' : kH) : Prop := ∀ a, a ≠ 787 → a ≠ 793 → a ≠ 794 → a ≠ 795 → h' a = h a
theorem Mo.trans {h h' h'' : kH} (a : Mo h h') (b : Mo h' h'') : Mo h h'' := fun x a1 a2 a3 a4 => (b x a1 a2 a3 a4).trans (a x a1 a2 a3 a4)
section
variable {T : kT} {nm ni nv i : Nat}
theorem M_back (I : Iv T nm ni nv) (hi : i < 12) {x : Nat} (hx4 : x < 4096) (hx : ∀ m, x.testBit m = true → m < nm ∧ cand T i m = true) (b : Bool) : ∀ (d k f : Nat) (g : kH), k + d = nm → d < f → Row (g 787) (tV T i (fun c => decide (k ≤ c) && x.testBit c)) nv →
    ∃ g', b_M_isCarriedBy_65 (nI i) (nI x) (kB2 b) f g (nI k) = some (b, g') ∧ Mo g g' ∧ Row (g' 787) T nv := by
  have hn := I.n
  intro d
  induction d with
  | zero =>
    intro k f g hk hf R
    obtain ⟨f, rfl⟩ : ∃ g, f = g + 1 := ⟨f - 1, by omega⟩
    obtain rfl : k = nm := hk
    have e : tV T i (fun c => decide (k ≤ c) && x.testBit c) = T := by
      funext a b' c
      unfold tV
      rw [if_neg]
      rintro ⟨_, _, z⟩
      simp only [Bool.and_eq_true, decide_eq_true_eq] at z
      have := (hx c z.2).1
      omega
    rw [e] at R
    rw [b_M_isCarriedBy_65]
    dsimp only
    rw [g760_7, x_7, R.1 7 (by decide), I.2.1.1, if_pos (nI_le (Nat.le_refl _) (by omega)), kRz_b, kBi_s]
    exact ⟨g, rfl, fun _ _ _ _ _ => rfl, R⟩
  | succ d ih =>
    intro k f g hk hf R
    obtain ⟨f, rfl⟩ : ∃ g, f = g + 1 := ⟨f - 1, by omega⟩
    have hkm : k < nm := by omega
    rw [b_M_isCarriedBy_65]
    dsimp only
    rw [g760_7, x_7, R.1 7 (by decide), tV_o T i _ (show 0 ≠ 4 by decide), I.2.1.1, if_neg (nI_ge hkm (by omega)), M_has (by omega) (by omega), nI_1]
    by_cases z : x.testBit k = true
    · have R1 : Row (hset g 787 (250 + 3 * (12 * i + k) + 1) (-6) 787) (tV T i (fun c => decide (k + 1 ≤ c) && x.testBit c)) nv := by
        rw [hs_ru]
        have := R.set3 (i := i) (m := k) (j := 1) hi (by omega) (by decide) (-6)
        have e : ts (tV T i (fun c => decide (k ≤ c) && x.testBit c)) (3 + 1) i k (-6) = tV T i (fun c => decide (k + 1 ≤ c) && x.testBit c) := by
          funext a b' c
          unfold ts tV
          by_cases q : a = 3 + 1 ∧ b' = i ∧ c = k
          · rw [if_pos q, if_neg (by rintro ⟨_, _, w⟩; simp only [Bool.and_eq_true, decide_eq_true_eq] at w; omega), q.1, q.2.1, q.2.2]
            exact ((cand_of (hx k z).2).2.2).symm
          · rw [if_neg q]
            by_cases p : a = 4 ∧ b' = i ∧ (decide (k ≤ c) && x.testBit c) = true
            · have p' : (decide (k + 1 ≤ c) && x.testBit c) = true := by
                have := p.2.2
                simp only [Bool.and_eq_true, decide_eq_true_eq] at this ⊢
                refine ⟨?_, this.2⟩
                have : ¬ c = k := fun w => q ⟨p.1, p.2.1, w⟩
                omega
              rw [if_pos p, if_pos ⟨p.1, p.2.1, p'⟩]
            · rw [if_neg p, if_neg]
              rintro ⟨w1, w2, w3⟩
              refine p ⟨w1, w2, ?_⟩
              simp only [Bool.and_eq_true, decide_eq_true_eq] at w3 ⊢
              exact ⟨by omega, w3.2⟩
        rw [e] at this
        exact this
      obtain ⟨g', r1, r2, r3⟩ := ih (k + 1) f _ (by omega) (by omega) R1
      rw [if_pos z, show (1 : Int32) = nI 1 from rfl, e3, kG_nI (by omega) (by decide), kx_nI (by omega), kLet_s]
      exact ⟨g', r1, fun a a1 a2 a3 a4 => (r2 a a1 a2 a3 a4).trans (hs_of _ _ a1), r3⟩
    · have e : tV T i (fun c => decide (k ≤ c) && x.testBit c) = tV T i (fun c => decide (k + 1 ≤ c) && x.testBit c) := by
        congr 1
        funext c
        by_cases q : c = k
        · rw [q]; simp [z]
        · have : decide (k ≤ c) = decide (k + 1 ≤ c) := decide_eq_decide.mpr (by omega)
          rw [this]
      rw [e] at R
      rw [if_neg z]
      exact ih (k + 1) f g (by omega) (by omega) R
theorem M_carried_loop (I : Iv T nm ni nv) (hi : i < ni) {x : Nat} (hx4 : x < 4096) (hx : ∀ m, x.testBit m = true → m < nm ∧ cand T i m = true) : ∀ (d k f : Nat) (g : kH), k + d = nm → d < f → Row (g 787) (tV T i (fun c => decide (c < k) && x.testBit c)) nv →
    ∃ g', b_M_isCarriedBy_2 (nI i) (nI x) f g (nI k) = some (carries T i nm (fun j => x.testBit j), g') ∧ Mo g g' ∧ Row (g' 787) T nv := by
  have hn := I.n
  have hi2 : i < 12 := by omega
  intro d
  induction d with
  | zero =>
    intro k f g hk hf R
    obtain ⟨f, rfl⟩ : ∃ g, f = g + 1 := ⟨f - 1, by omega⟩
    obtain rfl : k = nm := hk
    have e : (fun c => decide (c < k) && x.testBit c) = fun c => x.testBit c := by
      funext c
      cases z : x.testBit c
      · simp
      · simp [(hx c z).1]
    have e' : (fun c => decide (0 ≤ c) && x.testBit c) = fun c => x.testBit c := by
      funext c
      simp
    rw [e] at R
    have I' : Iv (tV T i (fun c => x.testBit c)) k ni nv := I.votes hi
    obtain ⟨g1, m1, m2, m3, m4⟩ := M_outcome R I' hi2
    have R1 := m2.row R
    have so : sOut (tV T i (fun c => x.testBit c)) i (sTal (tV T i (fun c => x.testBit c)) i k k 1) (sTal (tV T i (fun c => x.testBit c)) i k k 2) (sTal (tV T i (fun c => x.testBit c)) i k k 0) = sO (tV T i (fun c => x.testBit c)) i k := rfl
    obtain ⟨g', r1, r2, r3⟩ := M_back I hi2 hx4 hx (carries T i k (fun j => x.testBit j)) k 0 kFuel g1 (by omega) (kF_lt (by omega)) (by rw [e']; exact R1)
    rw [b_M_isCarriedBy_2]
    dsimp only
    rw [g760_7, x_7, R.1 7 (by decide), tV_o T i _ (show 0 ≠ 4 by decide), I.2.1.1, if_pos (nI_le (Nat.le_refl _) (by omega)), m1, kBd_s, so]
    refine ⟨g', ?_, fun a a1 a2 a3 a4 => (r2 a a1 a2 a3 a4).trans (m2 a a2 a3 a4), r3⟩
    by_cases w : sO (tV T i (fun c => x.testBit c)) i k = 3
    · have ec : carries T i k (fun j => x.testBit j) = true := decide_eq_true w
      rw [ec] at r1 ⊢
      rw [if_pos w]
      exact r1
    · have ec : carries T i k (fun j => x.testBit j) = false := decide_eq_false w
      rw [ec] at r1 ⊢
      rw [if_neg w]
      exact r1
  | succ d ih =>
    intro k f g hk hf R
    obtain ⟨f, rfl⟩ : ∃ g, f = g + 1 := ⟨f - 1, by omega⟩
    have hkm : k < nm := by omega
    rw [b_M_isCarriedBy_2]
    dsimp only
    rw [g760_7, x_7, R.1 7 (by decide), tV_o T i _ (show 0 ≠ 4 by decide), I.2.1.1, if_neg (nI_ge hkm (by omega)), M_has (by omega) (by omega), nI_1]
    by_cases z : x.testBit k = true
    · have R1 : Row (hset g 787 (250 + 3 * (12 * i + k) + 1) 1 787) (tV T i (fun c => decide (c < k + 1) && x.testBit c)) nv := by
        rw [hs_ru]
        have := R.set3 (i := i) (m := k) (j := 1) hi2 (by omega) (by decide) 1
        have e : ts (tV T i (fun c => decide (c < k) && x.testBit c)) (3 + 1) i k 1 = tV T i (fun c => decide (c < k + 1) && x.testBit c) := by
          funext a b' c
          unfold ts tV
          by_cases q : a = 3 + 1 ∧ b' = i ∧ c = k
          · rw [if_pos q, if_pos ⟨q.1, q.2.1, by rw [q.2.2]; simp [z]⟩]
          · rw [if_neg q]
            by_cases p : a = 4 ∧ b' = i ∧ (decide (c < k) && x.testBit c) = true
            · have p' : (decide (c < k + 1) && x.testBit c) = true := by
                have := p.2.2
                simp only [Bool.and_eq_true, decide_eq_true_eq] at this ⊢
                exact ⟨by omega, this.2⟩
              rw [if_pos p, if_pos ⟨p.1, p.2.1, p'⟩]
            · rw [if_neg p, if_neg]
              rintro ⟨w1, w2, w3⟩
              refine p ⟨w1, w2, ?_⟩
              simp only [Bool.and_eq_true, decide_eq_true_eq] at w3 ⊢
              have : ¬ c = k := fun w => q ⟨w1, w2, w⟩
              exact ⟨by omega, w3.2⟩
        rw [e] at this
        exact this
      obtain ⟨g', r1, r2, r3⟩ := ih (k + 1) f _ (by omega) (by omega) R1
      rw [if_pos z]
      rw [show ((250 : Int32) + 3 * (12 * nI i + nI k)) + 1 = nI (250 + 3 * (12 * i + k) + 1) from e3 i k 1, kG_nI (by omega) (by decide), kx_nI (by omega), kLet_s]
      exact ⟨g', r1, fun a a1 a2 a3 a4 => (r2 a a1 a2 a3 a4).trans (hs_of _ _ a1), r3⟩
    · have e : tV T i (fun c => decide (c < k) && x.testBit c) = tV T i (fun c => decide (c < k + 1) && x.testBit c) := by
        congr 1
        funext c
        by_cases q : c = k
        · rw [q]; simp [z]
        · have : decide (c < k) = decide (c < k + 1) := decide_eq_decide.mpr (by omega)
          rw [this]
      rw [e] at R
      rw [if_neg z]
      exact ih (k + 1) f g (by omega) (by omega) R
/-- the answer out of the best set -/
def nAns (T : kT) (i nm : Nat) (y : Int32) : Int32 := if bst T i nm 4096 = -6 then -6 else if y = 1 then bst T i nm 4096 else nI (ct (kx (bst T i nm 4096)))
theorem M_best (I : Iv T nm ni nv) (hi : i < ni) (y : Int32) : ∀ (d x f : Nat) (g : kH), x + d = 4096 → d < f → Row (g 787) T nv → ∃ g', b_M_needed_95 (nI i) y (nI (msk (cand T i) nm)) f g (bst T i nm x) (nI x) = some (nAns T i nm y, g') ∧ Mo g g' ∧ Row (g' 787) T nv := by
  have hn := I.n
  intro d
  induction d with
  | zero =>
    intro x f g hx hf R
    obtain ⟨f, rfl⟩ : ∃ g, f = g + 1 := ⟨f - 1, by omega⟩
    obtain rfl : x = 4096 := hx
    refine ⟨g, ?_, fun _ _ _ _ _ => rfl, R⟩
    rw [b_M_needed_95]
    dsimp only
    rw [if_pos (show (4096 : Int32) ≤ nI 4096 from by decide)]
    unfold nAns
    rcases bst_no T i nm 4096 with e | ⟨z, hz, e⟩
    · rw [e, if_pos n6_lt, if_pos rfl]
    · rw [e, if_neg (pos_nI (by omega)), if_neg (n6_ne (by omega)), M_bits hz, kBi_s, kx_nI (by omega)]
      by_cases w : y = 1
      · rw [if_pos w, if_pos w]
      · rw [if_neg w, if_neg w]
        rfl
  | succ d ih =>
    intro x f g hx hf R
    obtain ⟨f, rfl⟩ : ∃ g, f = g + 1 := ⟨f - 1, by omega⟩
    have hx4 : x < 4096 := by omega
    have keep : ¬ (sub' x (msk (cand T i) nm) = true ∧ (bst T i nm x = -6 ∨ ct x < ct (kx (bst T i nm x))) ∧ carries T i nm (fun j => x.testBit j) = true) → ∀ g1, Mo g g1 → Row (g1 787) T nv → ∃ g', b_M_needed_95 (nI i) y (nI (msk (cand T i) nm)) f g1 (bst T i nm x) (nI x + 1) = some (nAns T i nm y, g') ∧ Mo g g' ∧ Row (g' 787) T nv := by
      intro q g1 o1 R1
      have e : bst T i nm (x + 1) = bst T i nm x := if_neg q
      obtain ⟨g', r1, r2, r3⟩ := ih (x + 1) f g1 (by omega) (by omega) R1
      rw [e, ← nI_1] at r1
      exact ⟨g', r1, o1.trans r2, r3⟩
    have try' : sub' x (msk (cand T i) nm) = true → (bst T i nm x = -6 ∨ ct x < ct (kx (bst T i nm x))) → ∃ g', b_M_needed_130 (fun h' x4' x5' => b_M_needed_95 (nI i) y (nI (msk (cand T i) nm)) f h' x4' x5') g (nI i) y (nI (msk (cand T i) nm)) (bst T i nm x) (nI x) = some (nAns T i nm y, g') ∧ Mo g g' ∧ Row (g' 787) T nv := by
      intro s z
      have hx' := sub_x hn.1 hx4 s
      have e0 : tV T i (fun c => decide (c < 0) && x.testBit c) = T := by
        funext a b' c
        unfold tV
        rw [if_neg (by simp)]
      obtain ⟨g1, c1, c2, c3⟩ := M_carried_loop I hi hx4 hx' nm 0 kFuel g (by omega) (kF_lt (by omega)) (by rw [e0]; exact R)
      have c1' : f_M_isCarriedBy g (nI i) (nI x) = some (carries T i nm (fun j => x.testBit j), g1) := c1
      unfold b_M_needed_130 b_M_needed_135
      rw [if_pos rfl, c1', kBd_s]
      by_cases w : carries T i nm (fun j => x.testBit j) = true
      · rw [if_pos w]
        have e : bst T i nm (x + 1) = nI x := if_pos ⟨s, z, w⟩
        obtain ⟨g', r1, r2, r3⟩ := ih (x + 1) f g1 (by omega) (by omega) c3
        rw [e, ← nI_1] at r1
        exact ⟨g', r1, c2.trans r2, r3⟩
      · rw [if_neg w]
        exact keep (fun v => w v.2.2) g1 c2 c3
    rw [b_M_needed_95]
    dsimp only
    rw [if_neg (show ¬ (4096 : Int32) ≤ nI x by rw [show (4096 : Int32) = nI 4096 from rfl, leI (by omega) (by omega)]; omega)]
    unfold b_M_needed_134
    have skip : ∀ (q : ¬ (sub' x (msk (cand T i) nm) = true ∧ (bst T i nm x = -6 ∨ ct x < ct (kx (bst T i nm x))) ∧ carries T i nm (fun j => x.testBit j) = true)), ∃ g', b_M_needed_135 (fun h' x4' x5' => b_M_needed_95 (nI i) y (nI (msk (cand T i) nm)) f h' x4' x5') g (nI i) y (nI (msk (cand T i) nm)) (bst T i nm x) (nI x) false = some (nAns T i nm y, g') ∧ Mo g g' ∧ Row (g' 787) T nv := by
      intro q
      unfold b_M_needed_135
      rw [if_neg (by decide)]
      exact keep q g (fun _ _ _ _ _ => rfl) R
    by_cases s : sub' x (msk (cand T i) nm) = true
    · rw [if_pos (of_decide_eq_true s)]
      rcases bst_no T i nm x with e | ⟨b, hb, e⟩
      · rw [if_pos (by rw [e]; exact n6_lt)]
        exact try' s (Or.inl e)
      · have ek : kx (bst T i nm x) = b := by rw [e, kx_nI (by omega)]
        have n6 : ¬ bst T i nm x = -6 := by rw [e]; exact n6_ne (by omega)
        have lc : (nI (fb_ct (fun j => b.testBit j) 12) ≤ nI (fb_ct (fun j => x.testBit j) 12)) = (ct b ≤ ct x) := leI (by have := ct_le b; unfold ct at this; omega) (by have := ct_le x; unfold ct at this; omega)
        rw [if_neg (by rw [e]; exact pos_nI (by omega)), M_bits hx4, kBi_s, show f_M_bits (bst T i nm x) = some (nI (fb_ct (fun j => b.testBit j) 12)) from by rw [e]; exact M_bits (by omega), kBi_s]
        by_cases z : ct b ≤ ct x
        · rw [if_pos (by rw [lc]; exact z)]
          refine skip fun v => ?_
          rcases v.2.1 with w | w
          · exact n6 w
          · rw [ek] at w; omega
        · rw [if_neg (by rw [lc]; exact z)]
          exact try' s (Or.inr (by rw [ek]; omega))
    · rw [if_neg (fun w => s (decide_eq_true w))]
      exact skip fun v => s v.1
theorem M_mask (I : Iv T nm ni nv) (hi : i < ni) (y : Int32) {g : kH} (R : Row (g 787) T nv) : ∀ (d k f : Nat), k + d = nm → d < f → b_M_needed_38 (nI i) y f g (nI (msk (cand T i) k)) (nI k) = b_M_needed_95 (nI i) y (nI (msk (cand T i) nm)) kFuel g (-6) 0 := by
  have hn := I.n
  have hi2 : i < 12 := by omega
  intro d
  induction d with
  | zero =>
    intro k f hk hf
    obtain ⟨f, rfl⟩ : ∃ g, f = g + 1 := ⟨f - 1, by omega⟩
    obtain rfl : k = nm := hk
    rw [b_M_needed_38]
    dsimp only
    rw [g760_7, x_7, R.1 7 (by decide), I.2.1.1, if_pos (nI_le (Nat.le_refl _) (by omega))]
  | succ d ih =>
    intro k f hk hf
    obtain ⟨f, rfl⟩ : ∃ g, f = g + 1 := ⟨f - 1, by omega⟩
    have hkm : k < nm := by omega
    have hk2 : k < 12 := by omega
    have i1 := ih (k + 1) f (by omega) (by omega)
    have z0 : ∀ y : Nat, nI y ||| 0 = nI y := fun y => by rw [show (0 : Int32) = nI 0 from rfl, fa_or, Nat.or_zero]
    rw [b_M_needed_38]
    dsimp only
    rw [g760_7, x_7, R.1 7 (by decide), I.2.1.1, if_neg (nI_ge hkm (by omega)), M_canVote R hi2 hk2, kBi_s, M_pair1 R hi2 hk2, kBi_s, z0, nI_1]
    by_cases c : sCan T i k = true
    · rw [if_pos c]
      by_cases v : T 4 i k = -6
      · have cc : cand T i k = true := by unfold cand; rw [c, v]; rfl
        rw [if_neg (by rw [v]; decide), kLet_s, or_msk (cand T i) (by omega) cc]
        exact i1
      · obtain ⟨j, hj, e⟩ := ((I.i2 hi2 k hk2).2.1).of v
        rw [if_pos (by rw [e]; exact nI_pos' (by omega))]
        rw [nor_msk (cand T i) (by unfold cand; simp [v])] at i1
        exact i1
    · rw [if_neg c]
      rw [nor_msk (cand T i) (by unfold cand; simp [c])] at i1
      exact i1
end
theorem bo_needed (x y : Int32) : Both (fun h => f_P_needed h x y) (fun h => f_M_needed h x y) := by
  refine Both.asr fun h T nm ni nv u sp g => ?_
  obtain ⟨I, C, R, -⟩ := g
  have hn := I.n
  have ar : ∀ h : kH, Asr h h := fun h => Asr.of fun _ _ => rfl
  rcases ixc x (n := ni) (by omega) with q | ⟨i, hi, rfl⟩
  · refine ⟨-1, h, h, ?_, Asd.rfl', ?_, ar h, R⟩
    · unfold f_P_needed; rw [C_hasItem_bad C I q, if_neg (by decide)]
    · unfold f_M_needed; rw [M_isItem_bad R I q, kBi_s, if_neg (by decide)]
  have hi2 : i < 12 := by omega
  have hM : msk (cand T i) nm < 4096 := msk_12 _ hn.1
  by_cases hy : y = 0 ∨ y = 1
  · have cP : f_P_needed h (nI i) y = b_P_needed_25 h (nI i) y := by
      unfold f_P_needed
      rw [C_hasItem_ok C I hi, if_pos rfl]
      rcases hy with e | e
      · rw [if_pos e]
      · rw [if_neg (by rw [e]; decide), if_pos e]
    by_cases a : sAhead T i = true
    · obtain ⟨g1, c1, c2, c3⟩ := C_copyFrom (o := 71) C I (by omega)
      obtain ⟨g2, l1, l2, l3⟩ := C_listen (s := 141) c3 I hi (Or.inr (by decide))
      have C2 : Com g2 71 T nm ni nv := c3.cong hn.2.1 fun b b1 b2 => l2 b (by omega) (by omega)
      obtain ⟨g3, t1, t2, t3⟩ := C_tally (s := 141) C2 I hi (Or.inr (by decide)) l3
      have C3 : Com g3 71 T nm ni nv := C2.cong hn.2.1 fun b b1 b2 => t2 b (by omega)
      have H3 : Hrd g3 141 T i nm := l3.cong (t2 _ (by decide)) (t2 _ (by decide))
      obtain ⟨g4, r1, r2, r3, r4, r5⟩ := C_gains I hi nm 0 kFuel g3 (by omega) (kF_lt (by omega)) C3 H3 (fun m hm _ => absurd hm (Nat.not_lt_zero _))
      have fw := C_few r2 I hi r3 r4 (msk (cand T i) nm + 1) 0 kFuel (by omega) (kF_lt (by omega))
      have fw' : f_P_fewestToCarry g4 (71 + 10 + 5 * i) (nI (msk (cand T i) nm)) = some (bst T i nm (msk (cand T i) nm + 1)) := fw
      have be := bst_end (T := T) (i := i) hn.1 (4095 - msk (cand T i) nm) (by omega)
      rw [show msk (cand T i) nm + 1 + (4095 - msk (cand T i) nm) = 4096 by omega] at be
      rw [← be] at fw'
      have o : ∀ b, (b < 71 ∨ (145 ≤ b ∧ b ≠ 644)) → g4 b = h b := fun b hb => by rw [r5 b (by omega) (by omega) (by omega), t2 b (by omega), l2 b (by omega) (by omega), c2 b (by omega)]
      have R4 : Row (g4 787) T nv := by rw [o 787 (by omega)]; exact R
      obtain ⟨g5, m1, m2, m3⟩ := M_best I hi y 4096 0 kFuel g4 (by omega) (kF_lt (by omega)) R4
      have hy1 : f_M_in y 0 1 = true := in01.mpr hy
      refine ⟨nAns T i nm y, g4, g5, ?_, Asd.of fun b hb => o b (by omega), ?_, Asr.of fun b hb => m2 b (by omega) (by omega) (by omega) (by omega), m3⟩
      · rw [cP]
        unfold b_P_needed_25 f_P_findGains
        rw [kG_nI hi2 (by decide), kx_nI (by omega), C_isPending C hi, if_pos a, c1, kBi_s, kG_nI hi2 (by decide), l1, kBi_s, t1, kBi_s, g6_1, x_1, show g3 144 1 = nI (sTN T i nm 1) from (t3 1 (by decide)).trans (sTal_N I 1).1]
        have r1' : b_P_findGains_39 (71 + 10 + 5 * i) (nI (sTN T i nm 1)) kFuel g3 0 0 = some (nI (msk (cand T i) nm), g4) := r1
        rw [r1', kBd_s, fw', kBi_s]
        unfold nAns
        by_cases z : bst T i nm 4096 = -6
        · rw [if_pos z, if_pos z, z]
        · obtain ⟨b, hb, e⟩ := (bst_no T i nm 4096).of z
          rw [if_neg z, if_neg z]
          by_cases w : y = 1
          · rw [if_pos w, if_pos w]
          · rw [if_neg w, if_neg w, e, bc_small b hb, kx_nI (by omega)]
            rfl
      · unfold f_M_needed
        rw [M_isItem_ok R4 I hi, kBi_s, if_pos rfl, hy1, if_pos rfl, M_isAhead R4 I hi2, kBi_s, if_pos a]
        exact (M_mask I hi y R4 nm 0 kFuel (by omega) (kF_lt (by omega))).trans m1
    · refine ⟨-5, h, h, ?_, Asd.rfl', ?_, ar h, R⟩
      · rw [cP]
        unfold b_P_needed_25
        rw [kG_nI hi2 (by decide), kx_nI (by omega), C_isPending C hi, if_neg a]
      · unfold f_M_needed
        rw [M_isItem_ok R I hi, kBi_s, if_pos rfl, show f_M_in y 0 1 = true from in01.mpr hy, if_pos rfl, M_isAhead R I hi2, kBi_s, if_neg a]
  · refine ⟨-2, h, h, ?_, Asd.rfl', ?_, ar h, R⟩
    · unfold f_P_needed
      rw [C_hasItem_ok C I hi, if_pos rfl, if_neg (fun e => hy (Or.inl e)), if_neg (fun e => hy (Or.inr e))]
    · unfold f_M_needed
      rw [M_isItem_ok R I hi, kBi_s, if_pos rfl, if_neg (fun e => hy (in01.mp e))]
