/-! PURE: an order is read from the text, by the reference. -/
/-- the text c of length l, as the reference holds it, read up to p -/
def Ty (h : kH) (c : Nat → Nat) (l p : Nat) : Prop := h 786 7 = nI l ∧ h 786 14 = nI p ∧ ∀ k, k < l → h 792 k = nI (c k)
/-- the place and the flag moved, no more -/
def St (h h' : kH) (q : Nat) (w : Int32) : Prop := (∀ a, a ≠ 786 → h' a = h a) ∧ (∀ j, j ≠ 14 → j ≠ 15 → h' 786 j = h 786 j) ∧ h' 786 14 = nI q ∧ h' 786 15 = w
theorem Ty.st {h h' : kH} {c : Nat → Nat} {l p q : Nat} {w : Int32} (X : Ty h c l p) (s : St h h' q w) : Ty h' c l q := ⟨(s.2.1 7 (by decide) (by decide)).trans X.1, s.2.2.1, fun k hk => by rw [s.1 792 (by decide)]; exact X.2.2 k hk⟩
theorem St.trans {h h' h'' : kH} {q q' : Nat} {w w' : Int32} (x : St h h' q w) (y : St h' h'' q' w') : St h h'' q' w' := ⟨fun a a1 => (y.1 a a1).trans (x.1 a a1), fun j j1 j2 => (y.2.1 j j1 j2).trans (x.2.1 j j1 j2), y.2.2⟩
section
variable {h : kH} {c : Nat → Nat} {l p k : Nat}
theorem M_sign (X : Ty h c l p) (hl : l ≤ 80) (hp : p ≤ 90) : f_M_sign h = some (nI (sg c l p)) := by
  obtain ⟨x1, x2, x3⟩ := X
  unfold f_M_sign
  rw [x1, x2]
  by_cases q : p < l
  · have e : sg c l p = c p := if_pos q
    rw [if_neg (nI_ge q (by omega)), kG_nI (by omega) (by decide), kx_nI (by omega), x3 p q, e]
  · have e : sg c l p = 0 := if_neg q
    rw [if_pos (nI_le (by omega) (by omega)), e]
    rfl
theorem M_one_ok (X : Ty h c l p) (hc : ∀ k, k < l → c k ≤ 126) (hl : l ≤ 80) (hp : p ≤ 90) (h0 : h 786 15 = 0) {f lo hi : Nat} {x1 x2 x3 : Int32} (e1 : x1 = nI f) (e2 : x2 = nI lo) (e3 : x3 = nI hi) (g : f + lo ≤ sg c l p ∧ sg c l p ≤ f + hi) (hb : lo ≤ 20 ∧ hi ≤ 20 ∧ f ≤ 100) : ∃ h', f_M_one h x1 x2 x3 = some (nI (sg c l p - f), h') ∧ St h h' (p + 1) 0 := by
  subst e1; subst e2; subst e3
  have b := sg_128 hc p
  have z : hset h 786 15 (kB2 false) 786 15 = 0 := hs_eq _ _ _ _
  refine ⟨hset (hset h 786 15 (kB2 false)) 786 14 (nI (p + 1)), ?_, fun a a1 => by rw [hs_of _ _ a1, hs_of _ _ a1], fun j j1 j2 => by rw [hs_ne _ _ (by omega), hs_ne _ _ (by omega)], hs_eq _ _ _ _, by rw [hs_ne _ _ (by omega)]; exact z⟩
  unfold f_M_one
  rw [M_sign X hl hp, kBi_s, if_pos h0, sub_n (by omega) (by omega), in_nI (show lo ≤ sg c l p - f by omega) (show sg c l p - f ≤ hi by omega) (by omega), if_pos rfl]
  unfold b_M_one_31
  rw [kLet_s, if_pos z, hs_ne _ _ (by omega), X.2.1, nI_1, kLet_s]
theorem M_one_bad (X : Ty h c l p) (hc : ∀ k, k < l → c k ≤ 126) (hl : l ≤ 80) (hp : p ≤ 90) (h0 : h 786 15 = 0) {f lo hi : Nat} {x1 x2 x3 : Int32} (e1 : x1 = nI f) (e2 : x2 = nI lo) (e3 : x3 = nI hi) (g : ¬ (f + lo ≤ sg c l p ∧ sg c l p ≤ f + hi)) (hb : lo ≤ 20 ∧ hi ≤ 20 ∧ f ≤ 100) : ∃ x h', f_M_one h x1 x2 x3 = some (x, h') ∧ St h h' p 1 := by
  subst e1; subst e2; subst e3
  have b := sg_128 hc p
  have z : ¬ hset h 786 15 (kB2 true) 786 15 = 0 := by rw [hs_eq]; decide
  refine ⟨nI (sg c l p) - nI f, hset (hset h 786 15 (kB2 true)) 786 14 (nI p), ?_, fun a a1 => by rw [hs_of _ _ a1, hs_of _ _ a1], fun j j1 j2 => by rw [hs_ne _ _ (by omega), hs_ne _ _ (by omega)], hs_eq _ _ _ _, by rw [hs_ne _ _ (by omega), hs_eq]; rfl⟩
  have i : f_M_in (nI (sg c l p) - nI f) (nI lo) (nI hi) = false := by
    apply in_f
    rw [fa_lt, fa_lt, pk_sub_toInt (by omega) (by omega)]
    by_cases w : f + lo ≤ sg c l p
    · right
      rw [nI_toInt (by omega)]
      omega
    · left
      rw [nI_toInt (by omega)]
      omega
  unfold f_M_one
  rw [M_sign X hl hp, kBi_s, if_pos h0, i, if_neg (by decide)]
  unfold b_M_one_26 b_M_one_31
  rw [kLet_s, if_neg z, hs_ne _ _ (by omega), X.2.1, Int32.add_zero, kLet_s]
end
theorem M_num_loop {c : Nat → Nat} {l : Nat} (hc : ∀ k, k < l → c k ≤ 126) (hl : l ≤ 80) : ∀ (n d f p v : Nat) (h : kH), n + d = 3 → n < f → v < 10 ^ d → (0 < v → 10 ^ d ≤ 10 * v) → p + n ≤ 90 → Ty h c l p → h 786 15 = 0 →
    ∃ h', b_M_number_10 f h (nI v) = some (nI (rdN c l n p v).2, h') ∧ St h h' (rdN c l n p v).1 0 := by
  intro n
  induction n with
  | zero =>
    intro d f p v h hd hf hv hu hp X h0
    obtain ⟨f, rfl⟩ : ∃ g, f = g + 1 := ⟨f - 1, by omega⟩
    obtain rfl : d = 3 := by omega
    have b := sg_128 hc p
    have z0 : (nI v ≤ 0) = (v ≤ 0) := leI (a := v) (b := 0) (by omega) (by decide)
    refine ⟨h, ?_, fun _ _ => rfl, fun _ _ _ => rfl, X.2.1, h0⟩
    rw [b_M_number_10]
    dsimp only
    rw [if_pos h0]
    by_cases z : v ≤ 0
    · rw [if_pos (by rw [z0]; exact z)]
      rfl
    · rw [if_neg (by rw [z0]; exact z), M_sign X hl (by omega), kBi_s, kBi_s, kBi_s]
      have hu' := hu (by omega)
      by_cases y : 48 ≤ sg c l p ∧ sg c l p ≤ 57
      · have ev : 10 * nI v + nI (sg c l p) - 48 = nI (10 * v + sg c l p - 48) := by
          rw [show (10 : Int32) = nI 10 from rfl, show (48 : Int32) = nI 48 from rfl, pk_mul, nI_add, sub_n (by omega) (by omega)]
        rw [show f_M_in (nI (sg c l p)) 48 57 = true from in_nI y.1 y.2 (by decide), if_pos rfl, ev, if_pos (show (999 : Int32) < nI (10 * v + sg c l p - 48) from by rw [show (999 : Int32) = nI 999 from rfl, ltI (by omega) (by omega)]; omega)]
        rfl
      · have i : f_M_in (nI (sg c l p)) 48 57 = false := by
          apply in_f
          rw [show (48 : Int32) = nI 48 from rfl, show (57 : Int32) = nI 57 from rfl, ltI (by omega) (by omega), ltI (by omega) (by omega)]
          omega
        rw [i, if_neg (by decide)]
        rfl
  | succ n ih =>
    intro d f p v h hd hf hv hu hp X h0
    obtain ⟨f, rfl⟩ : ∃ g, f = g + 1 := ⟨f - 1, by omega⟩
    have b := sg_128 hc p
    have hv2 : v < 100 := by
      have : d = 0 ∨ d = 1 ∨ d = 2 := by omega
      rcases this with rfl | rfl | rfl <;> omega
    have z0 : (nI v ≤ 0) = (v ≤ 0) := leI (a := v) (b := 0) (by omega) (by decide)
    rw [b_M_number_10]
    dsimp only
    rw [if_pos h0]
    by_cases w : v ≤ 0
    · have e : rdN c l (n + 1) p v = (p, v) := if_neg (by omega)
      rw [if_pos (by rw [z0]; exact w), e]
      exact ⟨h, rfl, fun _ _ => rfl, fun _ _ _ => rfl, X.2.1, h0⟩
    · rw [if_neg (by rw [z0]; exact w), M_sign X hl (by omega), kBi_s, kBi_s, kBi_s]
      by_cases y : 48 ≤ sg c l p ∧ sg c l p ≤ 57
      · have e : rdN c l (n + 1) p v = rdN c l n (p + 1) (10 * v + sg c l p - 48) := if_pos ⟨by omega, y⟩
        have ev : 10 * nI v + nI (sg c l p) - 48 = nI (10 * v + sg c l p - 48) := by
          rw [show (10 : Int32) = nI 10 from rfl, show (48 : Int32) = nI 48 from rfl, pk_mul, nI_add, sub_n (by omega) (by omega)]
        have S1 : St h (hset h 786 14 (nI (p + 1))) (p + 1) 0 := ⟨fun a a1 => hs_of _ _ a1, fun j j1 _ => hs_ne _ _ (by omega), hs_eq _ _ _ _, (hs_ne _ _ (by omega)).trans h0⟩
        have hu' := hu (by omega)
        obtain ⟨h', r1, r2⟩ := ih (d + 1) f (p + 1) (10 * v + sg c l p - 48) _ (by omega) (by omega) (by rw [Nat.pow_succ]; omega) (fun _ => by rw [Nat.pow_succ]; omega) (by omega) (X.st S1) S1.2.2.2
        rw [show f_M_in (nI (sg c l p)) 48 57 = true from in_nI y.1 y.2 (by decide), if_pos rfl, ev, if_neg (show ¬ (999 : Int32) < nI (10 * v + sg c l p - 48) from by rw [show (999 : Int32) = nI 999 from rfl, ltI (by omega) (by omega)]; omega), X.2.1, nI_1, kLet_s, e]
        exact ⟨h', r1, S1.trans r2⟩
      · have e : rdN c l (n + 1) p v = (p, v) := if_neg (fun u => y u.2)
        have i : f_M_in (nI (sg c l p)) 48 57 = false := by
          apply in_f
          rw [show (48 : Int32) = nI 48 from rfl, show (57 : Int32) = nI 57 from rfl, ltI (by omega) (by omega), ltI (by omega) (by omega)]
          omega
        rw [i, if_neg (by decide), e]
        exact ⟨h, rfl, fun _ _ => rfl, fun _ _ _ => rfl, X.2.1, h0⟩
theorem M_number {h : kH} {c : Nat → Nat} {l p : Nat} (X : Ty h c l p) (hc : ∀ k, k < l → c k ≤ 126) (hl : l ≤ 80) (hp : p ≤ 85) (h0 : h 786 15 = 0) (g : 48 ≤ sg c l p ∧ sg c l p ≤ 57) : ∃ h', f_M_number h = some (nI (rdN c l 2 (p + 1) (sg c l p - 48)).2, h') ∧ St h h' (rdN c l 2 (p + 1) (sg c l p - 48)).1 0 := by
  obtain ⟨h1, a1, a2⟩ := M_one_ok X hc hl (by omega) h0 (f := 48) (lo := 0) (hi := 9) (x1 := 48) (x2 := 0) (x3 := 9) rfl rfl rfl (by omega) (by omega)
  obtain ⟨h', r1, r2⟩ := M_num_loop hc hl 2 1 kFuel (p + 1) (sg c l p - 48) h1 rfl (kF_lt (by decide)) (by omega) (fun _ => by omega) (by omega) (X.st a2) a2.2.2.2
  refine ⟨h', ?_, a2.trans r2⟩
  unfold f_M_number
  rw [a1, kBd_s]
  exact r1
theorem M_number_bad {h : kH} {c : Nat → Nat} {l p : Nat} (X : Ty h c l p) (hc : ∀ k, k < l → c k ≤ 126) (hl : l ≤ 80) (hp : p ≤ 85) (h0 : h 786 15 = 0) (g : ¬ (48 ≤ sg c l p ∧ sg c l p ≤ 57)) : ∃ x h', f_M_number h = some (x, h') ∧ St h h' p 1 := by
  obtain ⟨x, h1, a1, a2⟩ := M_one_bad X hc hl (by omega) h0 (f := 48) (lo := 0) (hi := 9) (x1 := 48) (x2 := 0) (x3 := 9) rfl rfl rfl (by omega) (by omega)
  refine ⟨x, h1, ?_, a2⟩
  obtain ⟨F, hF⟩ : ∃ F, kFuel = F + 1 := ⟨19999, rfl⟩
  unfold f_M_number
  rw [a1, kBd_s, hF, b_M_number_10]
  dsimp only
  rw [if_neg (by rw [a2.2.2.2]; decide)]
