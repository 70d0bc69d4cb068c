/-! PURE: an order is read from the text, by the class. -/
def sg (c : Nat → Nat) (l p : Nat) : Nat := if p < l then c p else 0
/-- n digits more at most: the next place, the number -/
def rdN (c : Nat → Nat) (l : Nat) : Nat → Nat → Nat → Nat × Nat
  | 0, p, v => (p, v)
  | n + 1, p, v => if 0 < v ∧ 48 ≤ sg c l p ∧ sg c l p ≤ 57 then rdN c l n (p + 1) (10 * v + sg c l p - 48) else (p, v)
abbrev isg (s : Nat) : Prop := s = 43 ∨ s = 45 ∨ s = 99 ∨ s = 109 ∨ s = 111 ∨ s = 118 ∨ s = 120
/-- an order read at p: whether there is one, the next place, its sign and its numbers -/
def Rd (c : Nat → Nat) (l p : Nat) (ok : Bool) (q s a b : Nat) : Prop :=
  s = sg c l p ∧ ((ok = false ∧ q = p ∧ ¬ isg s) ∨
  (ok = false ∧ q = p + 1 ∧ (s = 43 ∨ s = 45 ∨ s = 118) ∧ ¬ (65 ≤ sg c l (p + 1) ∧ sg c l (p + 1) ≤ 76)) ∨
  (ok = true ∧ q = p + 2 ∧ (s = 43 ∨ s = 45) ∧ (65 ≤ sg c l (p + 1) ∧ sg c l (p + 1) ≤ 76) ∧ a = sg c l (p + 1) - 65) ∨
  (ok = false ∧ q = p + 1 ∧ (s = 109 ∨ s = 111) ∧ ¬ (48 ≤ sg c l (p + 1) ∧ sg c l (p + 1) ≤ 57)) ∨
  (ok = true ∧ q = (rdN c l 2 (p + 2) (sg c l (p + 1) - 48)).1 ∧ (s = 109 ∨ s = 111) ∧ (48 ≤ sg c l (p + 1) ∧ sg c l (p + 1) ≤ 57) ∧ a = (rdN c l 2 (p + 2) (sg c l (p + 1) - 48)).2) ∨
  (ok = false ∧ q = p + 2 ∧ s = 118 ∧ (65 ≤ sg c l (p + 1) ∧ sg c l (p + 1) ≤ 76) ∧ ¬ (48 ≤ sg c l (p + 2) ∧ sg c l (p + 2) ≤ 50)) ∨
  (ok = true ∧ q = p + 3 ∧ s = 118 ∧ (65 ≤ sg c l (p + 1) ∧ sg c l (p + 1) ≤ 76) ∧ (48 ≤ sg c l (p + 2) ∧ sg c l (p + 2) ≤ 50) ∧ a = sg c l (p + 1) - 65 ∧ b = sg c l (p + 2) - 48) ∨
  (ok = false ∧ q = p + 1 ∧ s = 120 ∧ ¬ (49 ≤ sg c l (p + 1) ∧ sg c l (p + 1) ≤ 50)) ∨
  (ok = true ∧ q = p + 2 ∧ s = 120 ∧ (49 ≤ sg c l (p + 1) ∧ sg c l (p + 1) ≤ 50) ∧ a = sg c l (p + 1) - 48) ∨
  (ok = true ∧ q = p + 1 ∧ s = 99))
theorem nq {s v : Nat} {w : Int32} (z : s = v) (e : nI v = w) : nI s = w := by rw [z]; exact e
theorem nn {s v : Nat} {w : Int32} (z : s = v) (e : ¬ nI v = w) : ¬ nI s = w := by rw [z]; exact e
/-- the text c of length l, as the class holds it, read up to p -/
def Tx (h : kH) (c : Nat → Nat) (l p : Nat) : Prop := h 637 1 = nI l ∧ h 637 2 = nI p ∧ ∀ k, k < l → h 638 k = nI (c k)
/-- the class's reading of order k changes no more than this, and comes to q -/
def Ef (h h' : kH) (k q : Nat) : Prop := (∀ a, a ≠ 637 → a ≠ 639 → a ≠ 640 → a ≠ 641 → h' a = h a) ∧ (∀ j, j ≠ 2 → h' 637 j = h 637 j) ∧ h' 637 2 = nI q ∧ ∀ a j, a = 639 ∨ a = 640 ∨ a = 641 → j ≠ k → h' a j = h a j
theorem Ef.trans {h h' h'' : kH} {k q q' : Nat} (x : Ef h h' k q) (y : Ef h' h'' k q') : Ef h h'' k q' := ⟨fun a a1 a2 a3 a4 => (y.1 a a1 a2 a3 a4).trans (x.1 a a1 a2 a3 a4), fun j hj => (y.2.1 j hj).trans (x.2.1 j hj), y.2.2.1, fun a j ha hj => (y.2.2.2 a j ha hj).trans (x.2.2.2 a j ha hj)⟩
theorem Tx.ef {h h' : kH} {c : Nat → Nat} {l p k q : Nat} (X : Tx h c l p) (e : Ef h h' k q) : Tx h' c l q := ⟨(e.2.1 1 (by decide)).trans X.1, e.2.2.1, fun k hk => by rw [e.1 638 (by decide) (by decide) (by decide) (by decide)]; exact X.2.2 k hk⟩
/-- one number written, and the place -/
theorem Ef.one {h : kH} {k q a : Nat} (ha : a = 639 ∨ a = 640 ∨ a = 641) (v : Int32) : Ef h (hset (hset h a k v) 637 2 (nI q)) k q := by
  refine ⟨fun b b1 b2 b3 b4 => ?_, fun j hj => ?_, hs_eq _ _ _ _, fun b j hb hj => ?_⟩
  · rw [hs_of _ _ b1, hs_of _ _ (by omega)]
  · rw [hs_ne _ _ (by omega), hs_o _ _ (by omega)]
  · rw [hs_o _ _ (by omega), hs_ne _ _ (by omega)]
theorem sg_128 {c : Nat → Nat} {l : Nat} (hc : ∀ k, k < l → c k ≤ 126) (p : Nat) : sg c l p < 127 := by
  unfold sg
  split
  · next w => have := hc p w; omega
  · decide
theorem rc_n : ∀ n, n < 127 → kRc (nI n) = some (nI n) := by decide +kernel
section
variable {h : kH} {c : Nat → Nat} {l p k : Nat}
theorem C_ahead (X : Tx h c l p) (hc : ∀ k, k < l → c k ≤ 126) (hl : l ≤ 80) (hp : p ≤ 90) : f_D_ahead h 637 = some (nI (sg c l p)) := by
  obtain ⟨x1, x2, x3⟩ := X
  unfold f_D_ahead
  rw [x1, x2]
  by_cases q : p < l
  · have e : sg c l p = c p := if_pos q
    rw [if_neg (nI_ge q (by omega)), kG_nI (by omega) (by decide), kx_nI (by omega), show 637 + 1 = 638 from rfl, x3 p q, e]
    exact rc_n _ (by have := hc p q; omega)
  · have e : sg c l p = 0 := if_neg q
    rw [if_pos (nI_le (by omega) (by omega)), e]
    exact rc_n 0 (by decide)
theorem C_member (X : Tx h c l p) (hc : ∀ k, k < l → c k ≤ 126) (hl : l ≤ 80) (hp : p ≤ 90) (hk : k < 80) (g : 65 ≤ sg c l p ∧ sg c l p ≤ 76) : ∃ h', f_D_readMember h 637 (nI k) = some (true, h') ∧ Ef h h' k (p + 1) ∧ h' 640 k = nI (sg c l p - 65) ∧ h' 639 = h 639 ∧ h' 641 = h 641 := by
  have b := sg_128 hc p
  refine ⟨hset (hset h 640 k (nI (sg c l p - 65))) 637 2 (nI (p + 1)), ?_, Ef.one (by decide) _, ?_, ?_, ?_⟩
  · unfold f_D_readMember
    rw [C_ahead X hc hl hp, kBi_s, if_neg (show ¬ nI (sg c l p) < 65 from by rw [show (65 : Int32) = nI 65 from rfl, ltI (by omega) (by omega)]; omega), if_pos (show nI (sg c l p) ≤ 76 from by rw [show (76 : Int32) = nI 76 from rfl, leI (by omega) (by omega)]; omega), kG_nI hk (by decide), kLet_s, kx_nI (by omega), show 637 + 3 = 640 from rfl, show (65 : Int32) = nI 65 from rfl, sub_n g.1 (by omega), hs_o _ _ (by decide), X.2.1, nI_1, kLet_s]
  · rw [hs_o _ _ (by decide), hs_eq]
  · rw [hs_of _ _ (by decide), hs_of _ _ (by decide)]
  · rw [hs_of _ _ (by decide), hs_of _ _ (by decide)]
theorem C_member_no (X : Tx h c l p) (hc : ∀ k, k < l → c k ≤ 126) (hl : l ≤ 80) (hp : p ≤ 90) (g : ¬ (65 ≤ sg c l p ∧ sg c l p ≤ 76)) : f_D_readMember h 637 (nI k) = some (false, h) := by
  have b := sg_128 hc p
  unfold f_D_readMember
  rw [C_ahead X hc hl hp, kBi_s]
  by_cases a : nI (sg c l p) < 65
  · rw [if_pos a]
  · rw [if_neg a, if_neg]
    rw [show (65 : Int32) = nI 65 from rfl, ltI (by omega) (by omega)] at a
    rw [show (76 : Int32) = nI 76 from rfl, leI (by omega) (by omega)]
    omega
theorem C_choice (X : Tx h c l p) (hc : ∀ k, k < l → c k ≤ 126) (hl : l ≤ 80) (hp : p ≤ 90) (hk : k < 80) {w : Nat} (hw : 48 ≤ w ∧ w ≤ 49) (g : w ≤ sg c l p ∧ sg c l p ≤ 50) : ∃ h', f_D_readChoice h 637 (nI k) (nI w) = some (true, h') ∧ Ef h h' k (p + 1) ∧ h' 641 k = nI (sg c l p - 48) ∧ h' 639 = h 639 ∧ h' 640 = h 640 := by
  have b := sg_128 hc p
  refine ⟨hset (hset h 641 k (nI (sg c l p - 48))) 637 2 (nI (p + 1)), ?_, Ef.one (by decide) _, ?_, ?_, ?_⟩
  · unfold f_D_readChoice
    rw [C_ahead X hc hl hp, kBi_s, if_neg (show ¬ nI (sg c l p) < nI w from by rw [ltI (by omega) (by omega)]; omega), if_pos (show nI (sg c l p) ≤ 50 from by rw [show (50 : Int32) = nI 50 from rfl, leI (by omega) (by omega)]; omega), kG_nI hk (by decide), kLet_s, kx_nI (by omega), show 637 + 4 = 641 from rfl, show (48 : Int32) = nI 48 from rfl, sub_n (by omega) (by omega), hs_o _ _ (by decide), X.2.1, nI_1, kLet_s]
  · rw [hs_o _ _ (by decide), hs_eq]
  · rw [hs_of _ _ (by decide), hs_of _ _ (by decide)]
  · rw [hs_of _ _ (by decide), hs_of _ _ (by decide)]
theorem C_choice_no (X : Tx h c l p) (hc : ∀ k, k < l → c k ≤ 126) (hl : l ≤ 80) (hp : p ≤ 90) {w : Nat} (hw : 48 ≤ w ∧ w ≤ 49) (g : ¬ (w ≤ sg c l p ∧ sg c l p ≤ 50)) : f_D_readChoice h 637 (nI k) (nI w) = some (false, h) := by
  have b := sg_128 hc p
  unfold f_D_readChoice
  rw [C_ahead X hc hl hp, kBi_s]
  by_cases a : nI (sg c l p) < nI w
  · rw [if_pos a]
  · rw [if_neg a, if_neg]
    rw [ltI (by omega) (by omega)] at a
    rw [show (50 : Int32) = nI 50 from rfl, leI (by omega) (by omega)]
    omega
theorem C_digit {s : Nat} (b : s < 127) : f_D_isDigit (nI s) = decide (48 ≤ s ∧ s ≤ 57) := by
  have key : ∀ s, s < 127 → f_D_isDigit (nI s) = decide (48 ≤ s ∧ s ≤ 57) := by decide +kernel
  exact key s b
end
theorem C_num_end {h : kH} {k p v : Nat} (hk : k < 80) (hp : h 637 2 = nI p) : ∃ h', b_D_readNumber_80 h 637 (nI k) (nI v) = some (true, h') ∧ Ef h h' k p ∧ h' 641 k = nI v ∧ h' 639 = h 639 ∧ h' 640 = h 640 := by
  refine ⟨hset h 641 k (nI v), ?_, ⟨fun a a1 a2 a3 a4 => hs_of _ _ a4, fun j hj => hs_o _ _ (by decide) j, (hs_o _ _ (by decide) 2).trans hp, fun a j ha hj => hs_ne _ _ (by omega)⟩, hs_eq _ _ _ _, hs_of _ _ (by decide), hs_of _ _ (by decide)⟩
  unfold b_D_readNumber_80
  rw [kG_nI hk (by decide), kLet_s, kx_nI (by omega)]
theorem C_num_loop {c : Nat → Nat} {l k : Nat} (hc : ∀ k, k < l → c k ≤ 126) (hl : l ≤ 80) (hk : k < 80) : ∀ (n d f p v : Nat) (h : kH), n + d = 3 → n < f → v < 10 ^ d → p + n ≤ 90 → Tx h c l p →
    ∃ h', b_D_readNumber_32 637 (nI k) f h (nI v) (nI d) = some (true, h') ∧ Ef h h' k (rdN c l n p v).1 ∧ h' 641 k = nI (rdN c l n p v).2 ∧ h' 639 = h 639 ∧ h' 640 = h 640 := by
  intro n
  induction n with
  | zero =>
    intro d f p v h hd hf hv hp X
    obtain ⟨f, rfl⟩ : ∃ g, f = g + 1 := ⟨f - 1, by omega⟩
    obtain rfl : d = 3 := by omega
    rw [b_D_readNumber_32]
    dsimp only
    rw [if_pos (show (3 : Int32) ≤ nI 3 from by decide)]
    exact C_num_end hk X.2.1
  | succ n ih =>
    intro d f p v h hd hf hv hp X
    obtain ⟨f, rfl⟩ : ∃ g, f = g + 1 := ⟨f - 1, by omega⟩
    have b := sg_128 hc p
    have hv2 : v < 100 := by
      have : d = 0 ∨ d = 1 ∨ d = 2 := by omega
      rcases this with rfl | rfl | rfl <;> omega
    have z0 : (nI v ≤ 0) = (v ≤ 0) := leI (a := v) (b := 0) (by omega) (by decide)
    rw [b_D_readNumber_32]
    dsimp only
    rw [if_neg (show ¬ (3 : Int32) ≤ nI d from by rw [show (3 : Int32) = nI 3 from rfl, leI (by omega) (by omega)]; omega), C_ahead X hc hl (by omega), kBi_s, kBi_s, C_digit b]
    by_cases z : 0 < v ∧ 48 ≤ sg c l p ∧ sg c l p ≤ 57
    · have e : rdN c l (n + 1) p v = rdN c l n (p + 1) (10 * v + sg c l p - 48) := if_pos z
      have X1 : Tx (hset h 637 2 (nI (p + 1))) c l (p + 1) := ⟨by rw [hs_ne _ _ (by omega)]; exact X.1, hs_eq _ _ _ _, fun j hj => by rw [hs_o _ _ (by decide)]; exact X.2.2 j hj⟩
      have ev : 10 * nI v + nI (sg c l p) - 48 = nI (10 * v + sg c l p - 48) := by
        rw [show (10 : Int32) = nI 10 from rfl, show (48 : Int32) = nI 48 from rfl, pk_mul, nI_add, sub_n (by omega) (by omega)]
      obtain ⟨h', r1, r2, r3, r4, r5⟩ := ih (d + 1) f (p + 1) (10 * v + sg c l p - 48) (hset h 637 2 (nI (p + 1))) (by omega) (by omega) (by rw [Nat.pow_succ]; omega) (by omega) X1
      rw [e, if_neg (by rw [z0]; omega), if_pos (by simp [z.2]), X.2.1, nI_1, kLet_s, ev, nI_1]
      refine ⟨h', r1, ⟨fun a a1 a2 a3 a4 => (r2.1 a a1 a2 a3 a4).trans (hs_of _ _ a1), fun j hj => (r2.2.1 j hj).trans (hs_ne _ _ (by omega)), r2.2.2.1, fun a j ha hj => (r2.2.2.2 a j ha hj).trans (hs_o _ _ (by omega) j)⟩, r3, r4.trans (hs_of _ _ (by decide)), r5.trans (hs_of _ _ (by decide))⟩
    · have e : rdN c l (n + 1) p v = (p, v) := if_neg z
      rw [e]
      by_cases w : v ≤ 0
      · rw [if_pos (by rw [z0]; exact w)]
        exact C_num_end hk X.2.1
      · rw [if_neg (by rw [z0]; exact w), if_neg (show ¬ decide (48 ≤ sg c l p ∧ sg c l p ≤ 57) = true from fun u => z ⟨by omega, of_decide_eq_true u⟩)]
        exact C_num_end hk X.2.1
theorem C_number {h : kH} {c : Nat → Nat} {l p k : Nat} (X : Tx h c l p) (hc : ∀ k, k < l → c k ≤ 126) (hl : l ≤ 80) (hp : p ≤ 85) (hk : k < 80) (g : 48 ≤ sg c l p ∧ sg c l p ≤ 57) : ∃ h', f_D_readNumber h 637 (nI k) = some (true, h') ∧ Ef h h' k (rdN c l 2 (p + 1) (sg c l p - 48)).1 ∧ h' 641 k = nI (rdN c l 2 (p + 1) (sg c l p - 48)).2 ∧ h' 639 = h 639 ∧ h' 640 = h 640 := by
  have b := sg_128 hc p
  have X1 : Tx (hset h 637 2 (nI (p + 1))) c l (p + 1) := ⟨by rw [hs_ne _ _ (by omega)]; exact X.1, hs_eq _ _ _ _, fun j hj => by rw [hs_o _ _ (by decide)]; exact X.2.2 j hj⟩
  obtain ⟨h', r1, r2, r3, r4, r5⟩ := C_num_loop hc hl hk 2 1 kFuel (p + 1) (sg c l p - 48) (hset h 637 2 (nI (p + 1))) rfl (kF_lt (by decide)) (by omega) (by omega) X1
  refine ⟨h', ?_, ⟨fun a a1 a2 a3 a4 => (r2.1 a a1 a2 a3 a4).trans (hs_of _ _ a1), fun j hj => (r2.2.1 j hj).trans (hs_ne _ _ (by omega)), r2.2.2.1, fun a j ha hj => (r2.2.2.2 a j ha hj).trans (hs_o _ _ (by omega) j)⟩, r3, r4.trans (hs_of _ _ (by decide)), r5.trans (hs_of _ _ (by decide))⟩
  unfold f_D_readNumber
  rw [C_ahead X hc hl (by omega), kBi_s, C_digit b, if_pos (by simp [g]), kBi_s, X.2.1, nI_1, kLet_s, show (48 : Int32) = nI 48 from rfl, sub_n g.1 (by omega)]
  exact r1
theorem C_number_no {h : kH} {c : Nat → Nat} {l p k : Nat} (X : Tx h c l p) (hc : ∀ k, k < l → c k ≤ 126) (hl : l ≤ 80) (hp : p ≤ 85) (g : ¬ (48 ≤ sg c l p ∧ sg c l p ≤ 57)) : f_D_readNumber h 637 (nI k) = some (false, h) := by
  unfold f_D_readNumber
  rw [C_ahead X hc hl (by omega), kBi_s, C_digit (sg_128 hc p), if_neg (by simpa using g)]
