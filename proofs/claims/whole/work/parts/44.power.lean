/-! PURE: power: the class counts sets by their weight, the reference looks at every set. -/
def sumN (f : Nat → Nat) : Nat → Nat
  | 0 => 0
  | n + 1 => sumN f n + f n
theorem sumN_cong {f g : Nat → Nat} : ∀ {n : Nat}, (∀ k, k < n → f k = g k) → sumN f n = sumN g n
  | 0, _ => rfl
  | n + 1, h => by rw [sumN, sumN, sumN_cong fun k hk => h k (by omega), h n (by omega)]
theorem sumN_add (f g : Nat → Nat) : ∀ n, sumN (fun k => f k + g k) n = sumN f n + sumN g n
  | 0 => rfl
  | n + 1 => by rw [sumN, sumN, sumN, sumN_add f g n]; omega
theorem sumN_one (a c : Nat) : ∀ n, sumN (fun k => if k = a then c else 0) n = if a < n then c else 0
  | 0 => by rw [if_neg (by omega)]; rfl
  | n + 1 => by
    rw [sumN, sumN_one a c n]
    by_cases q : n = a
    · rw [if_pos q, if_neg (by omega), if_pos (by omega), Nat.zero_add]
    · rw [if_neg q, Nat.add_zero]
      by_cases z : a < n
      · rw [if_pos z, if_pos (by omega)]
      · rw [if_neg z, if_neg (by omega)]
theorem ct_add (p : Nat → Bool) (a : Nat) : ∀ b, fb_ct p (a + b) = fb_ct p a + fb_ct (fun j => p (a + j)) b
  | 0 => rfl
  | b + 1 => by rw [← Nat.add_assoc, fb_ct_succ, ct_add p a b, fb_ct_succ]; omega
/-- counted by their weight, or all at once -/
theorem ct_by (q : Nat → Bool) (W : Nat → Nat) (P : Nat → Bool) (N : Nat) : ∀ n, (∀ x, x < n → W x < N) → sumN (fun w => if P w = true then fb_ct (fun x => q x && decide (W x = w)) n else 0) N = fb_ct (fun x => q x && P (W x)) n
  | 0, _ => by
    have : ∀ N, sumN (fun w => if P w = true then fb_ct (fun x => q x && decide (W x = w)) 0 else 0) N = 0 := by
      intro N
      induction N with
      | zero => rfl
      | succ N ih =>
        rw [sumN, ih]
        split <;> rfl
    exact this N
  | n + 1, h => by
    rw [fb_ct_succ, ← ct_by q W P N n fun x hx => h x (by omega)]
    have e : ∀ w, w < N → (if P w = true then fb_ct (fun x => q x && decide (W x = w)) (n + 1) else 0) = (if P w = true then fb_ct (fun x => q x && decide (W x = w)) n else 0) + (if w = W n then (if (q n && P (W n)) = true then 1 else 0) else 0) := by
      intro w _
      rw [fb_ct_succ]
      by_cases z : w = W n
      · subst z
        cases q n <;> cases P (W n) <;> simp
      · have z' : ¬ W n = w := fun e => z e.symm
        rw [if_neg z, Nat.add_zero]
        simp [z']
    rw [sumN_cong e, sumN_add, sumN_one, if_pos (h n (by omega))]
/-- the weight of a set of the first n -/
def wS (wt : Nat → Nat) : Nat → Nat → Nat
  | 0, _ => 0
  | n + 1, x => wS wt n x + if x.testBit n then wt n else 0
theorem wS_le {wt : Nat → Nat} {n : Nat} (h : ∀ j, j < n → wt j ≤ 9) (x : Nat) : wS wt n x ≤ 9 * n := by
  induction n with
  | zero => exact Nat.zero_le _
  | succ n ih =>
    rw [wS]
    have := ih fun j hj => h j (by omega)
    have := h n (by omega)
    split <;> omega
theorem wS_lo (wt : Nat → Nat) (k y : Nat) : ∀ n, n ≤ k → wS wt n (2 ^ k + y) = wS wt n y
  | 0, _ => rfl
  | n + 1, h => by rw [wS, wS, wS_lo wt k y n (by omega), Nat.testBit_two_pow_add_gt (by omega)]
/-- sets of the first k without m, of weight w -/
def cN (wt : Nat → Nat) (m k w : Nat) : Nat := fb_ct (fun x => !x.testBit m && decide (wS wt k x = w)) (2 ^ k)
theorem cN_0 (wt : Nat → Nat) (m w : Nat) : cN wt m 0 w = if w = 0 then 1 else 0 := by
  unfold cN
  rw [Nat.pow_zero, fb_ct_succ]
  have e : fb_ct (fun x => !x.testBit m && decide (wS wt 0 x = w)) 0 = 0 := rfl
  rw [e, Nat.zero_testBit]
  by_cases q : w = 0
  · subst q; rfl
  · have : ¬ wS wt 0 0 = w := fun e => q e.symm
    simp [q, this]
theorem cN_skip (wt : Nat → Nat) (m w : Nat) : cN wt m (m + 1) w = cN wt m m w := by
  unfold cN
  rw [Nat.pow_succ, Nat.mul_two, ct_add]
  have e1 : fb_ct (fun j => !(2 ^ m + j).testBit m && decide (wS wt (m + 1) (2 ^ m + j) = w)) (2 ^ m) = 0 := by
    have : ∀ n, n ≤ 2 ^ m → fb_ct (fun j => !(2 ^ m + j).testBit m && decide (wS wt (m + 1) (2 ^ m + j) = w)) n = 0 := by
      intro n
      induction n with
      | zero => intro _; rfl
      | succ n ih =>
        intro h
        rw [fb_ct_succ, ih (by omega), Nat.testBit_two_pow_add_eq, Nat.testBit_lt_two_pow (show n < 2 ^ m by omega)]
        rfl
    exact this _ (Nat.le_refl _)
  rw [e1, Nat.add_zero]
  apply fb_ct_cong
  intro x hx
  rw [wS, Nat.testBit_lt_two_pow hx]
  rfl
theorem cN_step (wt : Nat → Nat) {m k : Nat} (w : Nat) (h : k ≠ m) : cN wt m (k + 1) w = cN wt m k w + if wt k ≤ w then cN wt m k (w - wt k) else 0 := by
  unfold cN
  rw [Nat.pow_succ, Nat.mul_two, ct_add]
  congr 1
  · apply fb_ct_cong
    intro x hx
    rw [wS, Nat.testBit_lt_two_pow hx]
    rfl
  · have bm : ∀ j, j < 2 ^ k → (2 ^ k + j).testBit m = j.testBit m := by
      intro j hj
      rcases Nat.lt_or_ge m k with q | q
      · exact Nat.testBit_two_pow_add_gt q j
      · have h1 : 2 ^ (k + 1) ≤ 2 ^ m := Nat.pow_le_pow_right (by decide) (by omega)
        rw [Nat.pow_succ] at h1
        rw [Nat.testBit_lt_two_pow (by omega), Nat.testBit_lt_two_pow (by omega)]
    by_cases q : wt k ≤ w
    · rw [if_pos q]
      apply fb_ct_cong
      intro j hj
      rw [bm j hj, wS, wS_lo wt k j k (Nat.le_refl _), Nat.testBit_two_pow_add_eq, Nat.testBit_lt_two_pow hj]
      congr 1
      exact decide_eq_decide.mpr (by simp; omega)
    · rw [if_neg q]
      have : ∀ n, n ≤ 2 ^ k → fb_ct (fun j => !(2 ^ k + j).testBit m && decide (wS wt (k + 1) (2 ^ k + j) = w)) n = 0 := by
        intro n
        induction n with
        | zero => intro _; rfl
        | succ n ih =>
          intro h
          rw [fb_ct_succ, ih (by omega), wS, Nat.testBit_two_pow_add_eq, Nat.testBit_lt_two_pow (show n < 2 ^ k by omega)]
          have : ¬ wS wt k (2 ^ k + n) + wt k = w := by omega
          simp [this]
      exact this _ (Nat.le_refl _)
def wt (T : kT) (j : Nat) : Nat := kx (T 1 j 0)
section
variable {T : kT} {nm ni nv : Nat}
theorem wt_n (I : Iv T nm ni nv) {j : Nat} (hj : j < nm) : T 1 j 0 = nI (wt T j) ∧ 1 ≤ wt T j ∧ wt T j ≤ 9 := by
  have hn := I.n
  obtain ⟨⟨w, w1, w2, w3⟩, _⟩ := (I.m (show j < 12 by omega)).2.2.2.1 hj
  have : wt T j = w := by unfold wt; rw [w3, kx_nI (by omega)]
  rw [this]
  exact ⟨w3, w1, w2⟩
theorem all_n (I : Iv T nm ni nv) : ∀ k, k ≤ nm → sAll T k = nI (sumN (wt T) k) ∧ sumN (wt T) k ≤ 9 * k := by
  intro k
  induction k with
  | zero => intro _; exact ⟨rfl, Nat.le_refl _⟩
  | succ k ih =>
    intro hk
    obtain ⟨a, b⟩ := ih (by omega)
    obtain ⟨c, _, d⟩ := wt_n I (show k < nm by omega)
    refine ⟨?_, by rw [sumN]; omega⟩
    have e : sAll T (k + 1) = sAll T k + T 1 k 0 := rfl
    rw [e, a, c, nI_add]
    rfl
/-- the sets whom m's weight lifts over the half -/
def sPow (T : kT) (nm m : Nat) (w : Nat) : Bool := !decide (sumN (wt T) nm < 2 * w) && !decide (2 * (w + wt T m) ≤ sumN (wt T) nm)
theorem C_sets_in {m k : Nat} (I : Iv T nm ni nv) (hk : k < nm) (hkm : k ≠ m) (rec : kH → Int32 → Option kH) : ∀ (d x f : Nat) (h : kH), x + 1 = wt T k + d → x < 109 → d < f → (∀ w, w < 109 → h 645 w = nI (if x < w then cN (wt T) m (k + 1) w else cN (wt T) m k w)) →
    ∃ h', b_P_countSetsWithout_52 rec (nI m) (nI k) (nI (wt T k)) f h (nI (x + 1) - 1) = rec h' (nI (k + 1)) ∧ (∀ a, a ≠ 645 → h' a = h a) ∧ ∀ w, w < 109 → h' 645 w = nI (cN (wt T) m (k + 1) w) := by
  obtain ⟨-, w1, w9⟩ := wt_n I hk
  intro d
  induction d with
  | zero =>
    intro x f h hx hx9 hf hh
    obtain ⟨f, rfl⟩ : ∃ g, f = g + 1 := ⟨f - 1, by omega⟩
    rw [b_P_countSetsWithout_52]
    dsimp only
    rw [nI_s1, if_pos (by rw [ltI (by omega) (by omega)]; omega), nI_1]
    refine ⟨h, rfl, fun _ _ => rfl, fun w hw => ?_⟩
    rw [hh w hw]
    by_cases q : x < w
    · rw [if_pos q]
    · rw [if_neg q, cN_step _ _ hkm, if_neg (by omega), Nat.add_zero]
  | succ d ih =>
    intro x f h hx hx9 hf hh
    obtain ⟨f, rfl⟩ : ∃ g, f = g + 1 := ⟨f - 1, by omega⟩
    have em : nI x + (-1) = nI x - 1 := by rw [Int32.sub_eq_add_neg]
    rw [b_P_countSetsWithout_52]
    dsimp only
    rw [nI_s1, if_neg (by rw [ltI (by omega) (by omega)]; omega), kG_nI hx9 (by decide), sub_n (by omega) (by omega), kG_nI (by omega) (by decide), kG_nI hx9 (by decide), kx_nI (by omega), kx_nI (by omega), hh x hx9, hh (x - wt T k) (by omega), if_neg (by omega), if_neg (by omega), nI_add, kLet_s, em]
    obtain ⟨y, rfl⟩ : ∃ y, x = y + 1 := ⟨x - 1, by omega⟩
    obtain ⟨h', r1, r2, r3⟩ := ih y f (hset h 645 (y + 1) (nI (cN (wt T) m k (y + 1) + cN (wt T) m k (y + 1 - wt T k)))) (by omega) (by omega) (by omega) (fun w hw => by
      by_cases q : w = y + 1
      · rw [q, hs_eq, if_pos (by omega), cN_step _ _ hkm, if_pos (by omega)]
      · rw [hs_ne _ _ (by omega), hh w hw]
        by_cases z : y + 1 < w
        · rw [if_pos z, if_pos (by omega)]
        · rw [if_neg z, if_neg (by omega)])
    exact ⟨h', r1, fun a q => (r2 a q).trans (hs_of _ _ q), r3⟩
theorem C_sets {m : Nat} (I : Iv T nm ni nv) (hm : m < nm) : ∀ (d k f : Nat) (h : kH), k + d = nm → d < f → Com h 1 T nm ni nv → (∀ w, w < 109 → h 645 w = nI (cN (wt T) m k w)) →
    ∃ h', b_P_countSetsWithout_17 (nI m) f h (nI k) = some h' ∧ (∀ a, a ≠ 645 → h' a = h a) ∧ ∀ w, w < 109 → h' 645 w = nI (cN (wt T) m nm w) := by
  have hn := I.n
  intro d
  induction d with
  | zero =>
    intro k f h hk hf C hh
    obtain ⟨f, rfl⟩ : ∃ g, f = g + 1 := ⟨f - 1, by omega⟩
    obtain rfl : k = nm := hk
    rw [b_P_countSetsWithout_17, C.1.2.1, I.2.1.1]
    exact ⟨h, if_pos (nI_le (Nat.le_refl _) (by omega)), fun _ _ => rfl, hh⟩
  | succ d ih =>
    intro k f h hk hf C hh
    obtain ⟨f, rfl⟩ : ∃ g, f = g + 1 := ⟨f - 1, by omega⟩
    have hkn : k < nm := by omega
    rw [b_P_countSetsWithout_17, C.1.2.1, I.2.1.1]
    dsimp only
    rw [if_neg (nI_ge hkn (by omega))]
    by_cases q : k = m
    · rw [if_pos (by rw [q]), nI_1]
      exact ih (k + 1) f h (by omega) (by omega) C (fun w hw => by rw [hh w hw, q, cN_skip])
    · obtain ⟨w0, w1, w9⟩ := wt_n I hkn
      rw [if_neg (by rw [eqI (by omega) (by omega)]; exact q), kG_nI (by omega) (by decide), kx_nI (by omega), show h 3 k = nI (wt T k) from (C.d k hkn).1.trans w0]
      obtain ⟨g, r1, r2, r3⟩ := C_sets_in (m := m) I hkn q (fun h' x2' => b_P_countSetsWithout_17 (nI m) f h' x2') (109 - wt T k) 108 kFuel h (by omega) (by omega) (kF_lt (by omega)) (fun w hw => by rw [if_neg (by omega)]; exact hh w hw)
      rw [show Int32.ofNat 109 - 1 = nI (108 + 1) - 1 from rfl, r1]
      obtain ⟨h', s1, s2, s3⟩ := ih (k + 1) f g (by omega) (by omega) (C.cong hn.2.1 fun a a1 a2 => r2 a (by omega)) r3
      exact ⟨h', s1, fun a p => (s2 a p).trans (r2 a p), s3⟩
theorem C_pow_sum {m : Nat} (I : Iv T nm ni nv) (hm : m < nm) {h : kH} (hh : ∀ w, w < 109 → h 645 w = nI (cN (wt T) m nm w)) : ∀ (d x f : Nat), x + d = 109 → d < f → b_P_power_42 (nI (sumN (wt T) nm)) (nI (wt T m)) f h (nI (sumN (fun w => if sPow T nm m w = true then cN (wt T) m nm w else 0) x)) (nI x) = some (nI (sumN (fun w => if sPow T nm m w = true then cN (wt T) m nm w else 0) 109), h) := by
  have hn := I.n
  have ha := (all_n I nm (Nat.le_refl _)).2
  obtain ⟨-, w1, w9⟩ := wt_n I hm
  intro d
  induction d with
  | zero =>
    intro x f hx hf
    obtain ⟨f, rfl⟩ : ∃ g, f = g + 1 := ⟨f - 1, by omega⟩
    obtain rfl : x = 109 := hx
    rw [b_P_power_42]
    dsimp only
    exact if_pos (nI_le (Nat.le_refl _) (by omega))
  | succ d ih =>
    intro x f hx hf
    obtain ⟨f, rfl⟩ : ∃ g, f = g + 1 := ⟨f - 1, by omega⟩
    have i1 := ih (x + 1) f (by omega) (by omega)
    rw [sumN] at i1
    rw [b_P_power_42]
    dsimp only
    have c1 : (nI (sumN (wt T) nm) < nI (2 * x)) = (sumN (wt T) nm < 2 * x) := ltI (by omega) (by omega)
    have c2 : (nI (2 * (x + wt T m)) ≤ nI (sumN (wt T) nm)) = (2 * (x + wt T m) ≤ sumN (wt T) nm) := leI (by omega) (by omega)
    rw [show Int32.ofNat 109 = nI 109 from rfl, if_neg (nI_ge (show x < 109 by omega) (by decide)), nI_add, show (2 : Int32) = nI 2 from rfl, pk_mul, pk_mul, nI_1, kG_nI (by omega) (by decide), kx_nI (by omega), hh x (by omega), nI_add]
    unfold sPow at i1
    by_cases p : sumN (wt T) nm < 2 * x
    · rw [if_pos (by rw [c1]; exact p)]
      rw [if_neg (by simp [p]), Nat.add_zero] at i1
      exact i1
    · rw [if_neg (by rw [c1]; exact p)]
      by_cases q : 2 * (x + wt T m) ≤ sumN (wt T) nm
      · rw [if_pos (by rw [c2]; exact q)]
        rw [if_neg (by simp [q]), Nat.add_zero] at i1
        exact i1
      · rw [if_neg (by rw [c2]; exact q)]
        rw [if_pos (by simp [p, q])] at i1
        exact i1
-- the reference's
def mP (T : kT) (nm m x : Nat) : Bool := !x.testBit m && sPow T nm m (wS (wt T) nm x)
theorem M_pow_in {h : kH} {m x : Nat} (R : Row (h 787) T nv) (I : Iv T nm ni nv) (hm : m < nm) (hx : x < 4096) (rec : Int32 → Int32 → Option Int32) (c : Nat) : ∀ (d k f : Nat), k + d = nm → d < f → b_M_power_40 rec h (nI m) (nI (sumN (wt T) nm)) (nI c) (nI x) f (nI (wS (wt T) k x)) (nI k) = rec (nI (c + if mP T nm m x then 1 else 0)) (nI (x + 1)) := by
  have hn := I.n
  have ha := (all_n I nm (Nat.le_refl _)).2
  obtain ⟨w0, w1, w9⟩ := wt_n I hm
  intro d
  induction d with
  | zero =>
    intro k f hk hf
    obtain ⟨f, rfl⟩ : ∃ g, f = g + 1 := ⟨f - 1, by omega⟩
    obtain rfl : k = nm := hk
    have hw := wS_le (wt := wt T) (n := k) (fun j hj => (wt_n I hj).2.2) x
    have z0 : nI c + 0 = nI c := Int32.add_zero _
    rw [b_M_power_40]
    dsimp only
    rw [g760_7, x_7, R.1 7 (by decide), I.2.1.1, if_pos (nI_le (Nat.le_refl _) (by omega)), M_has (by omega) (by omega), M_of0 R (by omega), kBi_s, w0, nI_add, show (2 : Int32) = nI 2 from rfl, pk_mul, pk_mul, z0, nI_1, nI_1]
    have c1 : (nI (sumN (wt T) k) < nI (2 * wS (wt T) k x)) = (sumN (wt T) k < 2 * wS (wt T) k x) := ltI (by omega) (by omega)
    have c2 : (nI (2 * (wS (wt T) k x + wt T m)) ≤ nI (sumN (wt T) k)) = (2 * (wS (wt T) k x + wt T m) ≤ sumN (wt T) k) := leI (by omega) (by omega)
    unfold mP sPow
    by_cases b : x.testBit m = true
    · rw [if_pos b]
      simp [b]
    · rw [if_neg b]
      by_cases p : sumN (wt T) k < 2 * wS (wt T) k x
      · rw [if_pos (by rw [c1]; exact p)]
        simp [p]
      · rw [if_neg (by rw [c1]; exact p)]
        by_cases q : 2 * (wS (wt T) k x + wt T m) ≤ sumN (wt T) k
        · rw [if_pos (by rw [c2]; exact q)]
          simp [q]
        · rw [if_neg (by rw [c2]; exact q)]
          simp [b, p, q]
  | succ d ih =>
    intro k f hk hf
    obtain ⟨f, rfl⟩ : ∃ g, f = g + 1 := ⟨f - 1, by omega⟩
    have hkn : k < nm := by omega
    have i1 := ih (k + 1) f (by omega) (by omega)
    rw [wS] at i1
    rw [b_M_power_40]
    dsimp only
    rw [g760_7, x_7, R.1 7 (by decide), I.2.1.1, if_neg (nI_ge hkn (by omega)), M_has (by omega) (by omega), M_of0 R (by omega), kBi_s, (wt_n I hkn).1, nI_add, nI_1]
    by_cases b : x.testBit k = true
    · rw [if_pos b]
      rw [if_pos b] at i1
      exact i1
    · rw [if_neg b, Int32.add_zero]
      rw [if_neg b, Nat.add_zero] at i1
      exact i1
theorem M_pow {h : kH} {m : Nat} (R : Row (h 787) T nv) (I : Iv T nm ni nv) (hm : m < nm) : ∀ (d x f : Nat), x + d = 2 ^ nm → d < f → b_M_power_20 h (nI m) (nI (sumN (wt T) nm)) f (nI (fb_ct (mP T nm m) x)) (nI x) = some (nI (fb_ct (mP T nm m) (2 ^ nm))) := by
  have hn := I.n
  have h2 : 2 ^ nm ≤ 4096 := by
    have : 2 ^ nm ≤ 2 ^ 12 := Nat.pow_le_pow_right (by decide) hn.1
    simpa using this
  intro d
  induction d with
  | zero =>
    intro x f hx hf
    obtain ⟨f, rfl⟩ : ∃ g, f = g + 1 := ⟨f - 1, by omega⟩
    obtain rfl : x = 2 ^ nm := hx
    rw [b_M_power_20]
    dsimp only
    rw [g760_7, x_7, R.1 7 (by decide), I.2.1.1, sh_1 nm (by omega), if_pos (nI_le (Nat.le_refl _) (by omega))]
  | succ d ih =>
    intro x f hx hf
    obtain ⟨f, rfl⟩ : ∃ g, f = g + 1 := ⟨f - 1, by omega⟩
    have i1 := ih (x + 1) f (by omega) (by omega)
    rw [fb_ct_succ] at i1
    rw [b_M_power_20]
    dsimp only
    rw [g760_7, x_7, R.1 7 (by decide), I.2.1.1, sh_1 nm (by omega), if_neg (nI_ge (by omega) (by omega))]
    exact (M_pow_in R I hm (by omega) (fun x3' x4' => b_M_power_20 h (nI m) (nI (sumN (wt T) nm)) f x3' x4') _ nm 0 kFuel (by omega) (kF_lt (by omega))).trans i1
end
theorem g109_0 {α : Type} (k : Option α) : kG 0 109 k = k := kG_nI (j := 0) (by decide) (by decide)
/-- questions of which the reference's side changes nothing -/
def Both1 (FP : kH → Option (Int32 × kH)) (FM : kH → Option Int32) : Prop := ∀ h, G h → ∃ v h1, FP h = some (v, h1) ∧ FM h1 = some v ∧ G h1
theorem b1_power (x : Int32) : Both1 (fun h => f_P_power h x) (fun h => f_M_power h x) := by
  intro h g
  obtain ⟨T, nm, ni, nv, u, sp, k⟩ := id g
  obtain ⟨I, C, R, -⟩ := id k
  have hn := I.n
  dsimp only
  rcases ixc x (n := nm) (by omega) with q | ⟨m, hm, rfl⟩
  · refine ⟨-1, h, ?_, ?_, g⟩
    · unfold f_P_power; rw [C_hasMember_bad C I q, if_neg (by decide)]
    · unfold f_M_power; rw [M_isMember_bad R I q, kBi_s, if_neg (by decide)]
  · have h0 : ∀ w, w < 109 → hset (hfill h 645 109 0) 645 0 1 645 w = nI (cN (wt T) m 0 w) := by
      intro w hw
      rw [cN_0]
      by_cases z : w = 0
      · rw [z, hs_eq, if_pos rfl]; rfl
      · rw [hs_ne _ _ (by omega), hf_in _ _ hw, if_neg z]; rfl
    have o0 : ∀ a, a ≠ 645 → hset (hfill h 645 109 0) 645 0 1 a = h a := fun a q => by rw [hs_of _ _ q, hf_of _ _ q]
    obtain ⟨g1, r1, r2, r3⟩ := C_sets I hm nm 0 kFuel (hset (hfill h 645 109 0) 645 0 1) (by omega) (kF_lt (by omega)) (C.cong hn.2.1 fun a a1 a2 => o0 a (by omega)) h0
    have o1 : ∀ a, a ≠ 645 → g1 a = h a := fun a q => (r2 a q).trans (o0 a q)
    have C1 : Com g1 1 T nm ni nv := C.cong hn.2.1 fun a a1 a2 => o1 a (by omega)
    have R1 : Row (g1 787) T nv := by rw [o1 787 (by decide)]; exact R
    obtain ⟨al, _⟩ := all_n I nm (Nat.le_refl _)
    have al' : sumI (fun m => T 1 m 0) nm = nI (sumN (wt T) nm) := al
    have hb : ∀ x, x < 2 ^ nm → wS (wt T) nm x < 109 := fun x _ => by
      have := wS_le (wt := wt T) (n := nm) (fun j hj => (wt_n I hj).2.2) x
      omega
    have e := ct_by (fun x => !x.testBit m) (wS (wt T) nm) (sPow T nm m) 109 (2 ^ nm) hb
    have h2 : 2 ^ nm ≤ 4096 := by
      have : 2 ^ nm ≤ 2 ^ 12 := Nat.pow_le_pow_right (by decide) hn.1
      simpa using this
    refine ⟨nI (fb_ct (mP T nm m) (2 ^ nm)), g1, ?_, ?_, T, nm, ni, nv, u, sp, k.aside (Asd.of fun a q => o1 a (by omega))⟩
    · have r1' : b_P_countSetsWithout_17 (nI m) kFuel (hset (hfill h 645 109 0) 645 0 1) 0 = some g1 := r1
      unfold f_P_power f_P_countSetsWithout
      rw [C_hasMember_ok C I hm, if_pos rfl, kLet_s, g109_0, x_0, kLet_s, r1', kBi_s, C_weightOfAll C1 I, kBi_s, kG_nI (by omega) (by decide), kx_nI (by omega), al', show g1 3 m = nI (wt T m) from (C1.d m hm).1.trans (wt_n I hm).1]
      have s := C_pow_sum I hm r3 109 0 kFuel rfl (kF_lt (by omega))
      have e' : sumN (fun w => if sPow T nm m w = true then cN (wt T) m nm w else 0) 109 = fb_ct (mP T nm m) (2 ^ nm) := e
      rw [e'] at s
      exact s
    · unfold f_M_power
      rw [M_isMember_ok R1 I hm, kBi_s, if_pos rfl, M_allWeight R1 I, kBi_s, al']
      exact M_pow R1 I hm (2 ^ nm) 0 kFuel (by omega) (kF_lt (by omega))
