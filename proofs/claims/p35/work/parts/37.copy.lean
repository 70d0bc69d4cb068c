/-! PURE: a committee is copied; the class's history notes and settles. -/
theorem hc_o (h : kH) (a0 : Nat) {a b : Nat} (sp dp n : Nat) (q : b ≠ a) : hcpy h a0 a sp dp n b = h b := by
  funext j
  unfold hcpy
  rw [if_neg q]
theorem hc_in (h : kH) (a0 a : Nat) {n j : Nat} (q : j < n) : hcpy h a0 a 0 0 n a j = h a0 j := by
  unfold hcpy va_cpy
  rw [if_pos rfl, if_pos (by omega), Nat.zero_add, Nat.sub_zero]
theorem cg6 {α : Type} (k : Option α) : kCg 0 0 6 6 6 k = k := if_neg (by decide)
theorem cg12 {α : Type} (k : Option α) : kCg 0 0 12 12 12 k = k := if_neg (by decide)
theorem cg20 {α : Type} (k : Option α) : kCg 0 0 20 20 20 k = k := if_neg (by decide)
/-- item o holds what item p held in h -/
def ItEq (h h' : kH) (o p : Nat) : Prop := (∀ k, k < 6 → h' o k = h p k) ∧ (∀ k, k < 6 → h' (o + 1) k = h (p + 1) k) ∧ ∀ m, m < 12 → h' (o + 2) m = h (p + 2) m ∧ h' (o + 3) m = h (p + 3) m ∧ h' (o + 4) m = h (p + 4) m
theorem I_copyFrom (h : kH) {o p : Nat} (d : o + 5 ≤ p ∨ p + 5 ≤ o) : ∃ h', f_I_copyFrom h o p = some h' ∧ (∀ a, (a < o ∨ o + 5 ≤ a) → h' a = h a) ∧ ItEq h h' o p := by
  unfold f_I_copyFrom
  rw [kLet_s, kLet_s, kLet_s, kLet_s, kLet_s, kLet_s, cg6, x_0, x_6, x_12, kLet_s, cg12, kLet_s, cg12, kLet_s, cg12, kLet_s]
  refine ⟨_, rfl, fun a ha => ?_, fun k hk => ?_, fun k hk => ?_, fun m hm => ⟨?_, ?_, ?_⟩⟩
  · rw [hc_o _ _ _ _ _ (by omega), hc_o _ _ _ _ _ (by omega), hc_o _ _ _ _ _ (by omega), hc_o _ _ _ _ _ (by omega), hs_of _ _ (by omega), hs_of _ _ (by omega), hs_of _ _ (by omega), hs_of _ _ (by omega), hs_of _ _ (by omega), hs_of _ _ (by omega)]
  · rw [hc_o _ _ _ _ _ (by omega), hc_o _ _ _ _ _ (by omega), hc_o _ _ _ _ _ (by omega), hc_o _ _ _ _ _ (by omega)]
    have hp : p ≠ o := by omega
    simp only [hs_o _ _ hp]
    have : k = 0 ∨ k = 1 ∨ k = 2 ∨ k = 3 ∨ k = 4 ∨ k = 5 := by omega
    rcases this with rfl | rfl | rfl | rfl | rfl | rfl
    · rw [hs_ne _ _ (by omega), hs_ne _ _ (by omega), hs_ne _ _ (by omega), hs_ne _ _ (by omega), hs_ne _ _ (by omega), hs_eq]
    · rw [hs_ne _ _ (by omega), hs_ne _ _ (by omega), hs_ne _ _ (by omega), hs_ne _ _ (by omega), hs_eq]
    · rw [hs_ne _ _ (by omega), hs_ne _ _ (by omega), hs_ne _ _ (by omega), hs_eq]
    · rw [hs_ne _ _ (by omega), hs_ne _ _ (by omega), hs_eq]
    · rw [hs_ne _ _ (by omega), hs_eq]
    · rw [hs_eq]
  · rw [hc_o _ _ _ _ _ (by omega), hc_o _ _ _ _ _ (by omega), hc_o _ _ _ _ _ (by omega), hc_in _ _ _ hk, hs_of _ _ (by omega), hs_of _ _ (by omega), hs_of _ _ (by omega), hs_of _ _ (by omega), hs_of _ _ (by omega), hs_of _ _ (by omega)]
  · rw [hc_o _ _ _ _ _ (by omega), hc_o _ _ _ _ _ (by omega), hc_in _ _ _ hm, hc_o _ _ _ _ _ (by omega), hs_of _ _ (by omega), hs_of _ _ (by omega), hs_of _ _ (by omega), hs_of _ _ (by omega), hs_of _ _ (by omega), hs_of _ _ (by omega)]
  · rw [hc_o _ _ _ _ _ (by omega), hc_in _ _ _ hm, hc_o _ _ _ _ _ (by omega), hc_o _ _ _ _ _ (by omega), hs_of _ _ (by omega), hs_of _ _ (by omega), hs_of _ _ (by omega), hs_of _ _ (by omega), hs_of _ _ (by omega), hs_of _ _ (by omega)]
  · rw [hc_in _ _ _ hm, hc_o _ _ _ _ _ (by omega), hc_o _ _ _ _ _ (by omega), hc_o _ _ _ _ _ (by omega), hs_of _ _ (by omega), hs_of _ _ (by omega), hs_of _ _ (by omega), hs_of _ _ (by omega), hs_of _ _ (by omega), hs_of _ _ (by omega)]
theorem V_copyFrom (h : kH) {o p : Nat} (d : o + 4 ≤ p ∨ p + 4 ≤ o) : ∃ h', f_V_copyFrom h o p = some h' ∧ (∀ a, (a < o ∨ o + 4 ≤ a) → h' a = h a) ∧ h' o 0 = h p 0 ∧ ∀ k, k < 20 → h' (o + 1) k = h (p + 1) k ∧ h' (o + 2) k = h (p + 2) k ∧ h' (o + 3) k = h (p + 3) k := by
  unfold f_V_copyFrom
  rw [kLet_s, cg20, x_0, x_20, kLet_s, cg20, kLet_s, cg20, kLet_s]
  refine ⟨_, rfl, fun a ha => ?_, ?_, fun m hm => ⟨?_, ?_, ?_⟩⟩
  · rw [hc_o _ _ _ _ _ (by omega), hc_o _ _ _ _ _ (by omega), hc_o _ _ _ _ _ (by omega), hs_of _ _ (by omega)]
  · rw [hc_o _ _ _ _ _ (by omega), hc_o _ _ _ _ _ (by omega), hc_o _ _ _ _ _ (by omega), hs_eq]
  · rw [hc_o _ _ _ _ _ (by omega), hc_o _ _ _ _ _ (by omega), hc_in _ _ _ hm, hs_of _ _ (by omega)]
  · rw [hc_o _ _ _ _ _ (by omega), hc_in _ _ _ hm, hc_o _ _ _ _ _ (by omega), hs_of _ _ (by omega)]
  · rw [hc_in _ _ _ hm, hc_o _ _ _ _ _ (by omega), hc_o _ _ _ _ _ (by omega), hs_of _ _ (by omega)]
theorem C_copy_loop {h : kH} {o p ni : Nat} (d : o + 70 ≤ p ∨ p + 70 ≤ o) (hn : ni ≤ 12) : ∀ (k i f : Nat) (g : kH), i + k = ni → k < f → g o 2 = nI ni → (∀ a, (a < o ∨ o + 70 ≤ a) → g a = h a) → (∀ j, j < i → ItEq h g (o + 10 + 5 * j) (p + 10 + 5 * j)) →
    ∃ h', b_C_copyFrom_102 o p f g (nI i) = some h' ∧ (∀ a, (a < o ∨ o + 70 ≤ a) → h' a = h a) ∧ (∀ a, o ≤ a → a < o + 6 → h' a = g a) ∧ (∀ j, j < ni → ItEq h h' (o + 10 + 5 * j) (p + 10 + 5 * j)) ∧ h' (o + 6) 0 = h (p + 6) 0 ∧ ∀ k, k < 20 → h' (o + 7) k = h (p + 7) k ∧ h' (o + 8) k = h (p + 8) k ∧ h' (o + 9) k = h (p + 9) k := by
  intro k
  induction k with
  | zero =>
    intro i f g hi hf h2 ho hI
    obtain ⟨f, rfl⟩ : ∃ g, f = g + 1 := ⟨f - 1, by omega⟩
    obtain rfl : i = ni := hi
    obtain ⟨v, v1, v2, v3, v4⟩ := V_copyFrom g (o := o + 6) (p := p + 6) (by omega)
    rw [b_C_copyFrom_102]
    dsimp only
    rw [h2, if_pos (nI_le (Nat.le_refl _) (by omega)), v1, kBi_s]
    refine ⟨v, rfl, fun a ha => (v2 a (by omega)).trans (ho a ha), fun a a1 a2 => v2 a (by omega), fun j hj => ?_, ?_, fun q hq => ?_⟩
    · obtain ⟨x1, x2, x3⟩ := hI j hj
      refine ⟨fun q hq => ?_, fun q hq => ?_, fun m hm => ?_⟩
      · rw [v2 _ (by omega)]; exact x1 q hq
      · rw [v2 _ (by omega)]; exact x2 q hq
      · rw [v2 _ (by omega), v2 _ (by omega), v2 _ (by omega)]; exact x3 m hm
    · rw [v3, ho _ (by omega)]
    · obtain ⟨y1, y2, y3⟩ := v4 q hq
      rw [ho _ (by omega)] at y1 y2 y3
      exact ⟨y1, y2, y3⟩
  | succ k ih =>
    intro i f g hi hf h2 ho hI
    obtain ⟨f, rfl⟩ : ∃ g, f = g + 1 := ⟨f - 1, by omega⟩
    rw [b_C_copyFrom_102]
    dsimp only
    obtain ⟨v, v1, v2, v3⟩ := I_copyFrom g (o := o + 10 + 5 * i) (p := p + 10 + 5 * i) (by omega)
    rw [h2, if_neg (nI_ge (by omega) (by omega)), kG_nI (by omega) (by decide), kG_nI (by omega) (by decide), kx_nI (by omega), v1, kBi_s, nI_1]
    obtain ⟨h', r1, r2, r3, r4, r5, r6⟩ := ih (i + 1) f v (by omega) (by omega) (by rw [v2 _ (by omega)]; exact h2) (fun a ha => (v2 a (by omega)).trans (ho a ha)) (fun j hj => by
      by_cases z : j = i
      · rw [z]
        obtain ⟨x1, x2, x3⟩ := v3
        refine ⟨fun q hq => ?_, fun q hq => ?_, fun m hm => ?_⟩
        · rw [x1 q hq, ho _ (by omega)]
        · rw [x2 q hq, ho _ (by omega)]
        · have := x3 m hm
          rw [ho (p + 10 + 5 * i + 2) (by omega), ho (p + 10 + 5 * i + 3) (by omega), ho (p + 10 + 5 * i + 4) (by omega)] at this
          exact this
      · obtain ⟨x1, x2, x3⟩ := hI j (by omega)
        refine ⟨fun q hq => ?_, fun q hq => ?_, fun m hm => ?_⟩
        · rw [v2 _ (by omega)]; exact x1 q hq
        · rw [v2 _ (by omega)]; exact x2 q hq
        · rw [v2 _ (by omega), v2 _ (by omega), v2 _ (by omega)]; exact x3 m hm)
    exact ⟨h', r1, r2, fun a a1 a2 => (r3 a a1 a2).trans (v2 a (by omega)), r4, r5, r6⟩
theorem C_copyFrom {h : kH} {o p : Nat} {T : kT} {nm ni nv : Nat} (C : Com h p T nm ni nv) (I : Iv T nm ni nv) (d : o + 70 ≤ p ∨ p + 70 ≤ o) : ∃ h', f_C_copyFrom h o p = some h' ∧ (∀ a, (a < o ∨ o + 70 ≤ a) → h' a = h a) ∧ Com h' o T nm ni nv := by
  have hn := I.n
  obtain ⟨a1, a2, a3, a4, a5, a6⟩ := C.a
  unfold f_C_copyFrom
  rw [kLet_s, kLet_s, kLet_s, kLet_s, kLet_s, cg6, x_0, x_6, x_12, kLet_s, cg12, kLet_s, cg12, kLet_s, cg12, kLet_s]
  have hp : p ≠ o := by omega
  simp only [hs_o _ _ hp]
  generalize hs : hset (hset (hset (hset (hset h o 0 (h p 0)) o 1 (h p 1)) o 2 (h p 2)) o 3 (h p 3)) o 4 (h p 4) = g
  have go : ∀ a, a ≠ o → g a = h a := fun a q => by rw [← hs, hs_of _ _ q, hs_of _ _ q, hs_of _ _ q, hs_of _ _ q, hs_of _ _ q]
  have g0 : ∀ k, k < 5 → g o k = h p k := by
    intro k hk
    rw [← hs]
    have : k = 0 ∨ k = 1 ∨ k = 2 ∨ k = 3 ∨ k = 4 := by omega
    rcases this with rfl | rfl | rfl | rfl | rfl
    · rw [hs_ne _ _ (by omega), hs_ne _ _ (by omega), hs_ne _ _ (by omega), hs_ne _ _ (by omega), hs_eq]
    · rw [hs_ne _ _ (by omega), hs_ne _ _ (by omega), hs_ne _ _ (by omega), hs_eq]
    · rw [hs_ne _ _ (by omega), hs_ne _ _ (by omega), hs_eq]
    · rw [hs_ne _ _ (by omega), hs_eq]
    · rw [hs_eq]
  generalize hs2 : hcpy (hcpy (hcpy (hcpy g (p + 1) (o + 1) 0 0 6) (p + 2) (o + 2) 0 0 12) (p + 3) (o + 3) 0 0 12) (p + 4) (o + 4) 0 0 12 = g2
  have g2o : ∀ a, (a < o + 1 ∨ o + 5 ≤ a) → g2 a = g a := fun a q => by rw [← hs2, hc_o _ _ _ _ _ (by omega), hc_o _ _ _ _ _ (by omega), hc_o _ _ _ _ _ (by omega), hc_o _ _ _ _ _ (by omega)]
  have g21 : ∀ k, k < 6 → g2 (o + 1) k = h (p + 1) k := fun k hk => by rw [← hs2, hc_o _ _ _ _ _ (by omega), hc_o _ _ _ _ _ (by omega), hc_o _ _ _ _ _ (by omega), hc_in _ _ _ hk, go _ (by omega)]
  have g22 : ∀ k, k < 12 → g2 (o + 2) k = h (p + 2) k := fun k hk => by rw [← hs2, hc_o _ _ _ _ _ (by omega), hc_o _ _ _ _ _ (by omega), hc_in _ _ _ hk, hc_o _ _ _ _ _ (by omega), go _ (by omega)]
  have g23 : ∀ k, k < 12 → g2 (o + 3) k = h (p + 3) k := fun k hk => by rw [← hs2, hc_o _ _ _ _ _ (by omega), hc_in _ _ _ hk, hc_o _ _ _ _ _ (by omega), hc_o _ _ _ _ _ (by omega), go _ (by omega)]
  have g24 : ∀ k, k < 12 → g2 (o + 4) k = h (p + 4) k := fun k hk => by rw [← hs2, hc_in _ _ _ hk, hc_o _ _ _ _ _ (by omega), hc_o _ _ _ _ _ (by omega), hc_o _ _ _ _ _ (by omega), go _ (by omega)]
  have e2 : g2 o 2 = nI ni := by rw [g2o _ (by omega), g0 2 (by decide), a3]; exact I.c.2.1
  obtain ⟨h', r1, r2, r3, r4, r5, r6⟩ := C_copy_loop (h := h) d hn.2.1 ni 0 kFuel g2 (by omega) (kF_lt (by omega)) e2 (fun a ha => (g2o a (by omega)).trans (go a (by omega))) (fun j hj => by omega)
  refine ⟨h', r1, r2, Com.of ?_ (fun k hk => ?_) (fun m hm => ?_) (fun i hi => ?_) (fun k hk => ?_)⟩
  · have e : h' o = g2 o := r3 o (by omega) (by omega)
    unfold cA
    rw [e, g2o o (by omega), g0 0 (by decide), g0 1 (by decide), g0 2 (by decide), g0 3 (by decide), g0 4 (by decide), r5]
    exact ⟨a1, a2, a3, a4, a5, a6⟩
  · rw [r3 _ (by omega) (by omega), g21 k hk]
    exact C.b k hk
  · rw [r3 _ (by omega) (by omega), r3 _ (by omega) (by omega), r3 _ (by omega) (by omega), g22 m (by omega), g23 m (by omega), g24 m (by omega)]
    exact C.d m hm
  · obtain ⟨x1, x2, x3⟩ := r4 i hi
    obtain ⟨y1, y2, y3, y4, y5, y6, y7, y8⟩ := C.f i hi
    unfold cI
    rw [x1 0 (by decide), x1 1 (by decide), x1 2 (by decide), x1 3 (by decide), x1 4 (by decide), x1 5 (by decide)]
    refine ⟨y1, y2, y3, y4, y5, y6, fun k hk => by rw [x2 k hk]; exact y7 k hk, fun m hm => ?_⟩
    obtain ⟨z1, z2, z3⟩ := x3 m hm
    rw [z1, z2, z3]
    exact y8 m hm
  · obtain ⟨z1, z2, z3⟩ := r6 k (by omega)
    rw [z1, z2, z3]
    exact C.g k hk
-- the history
theorem min_6 {u : Nat} (hu : u ≤ 6) : f_JM_min (nI u + 1) 6 = nI (min (u + 1) 6) := by
  have : u = 0 ∨ u = 1 ∨ u = 2 ∨ u = 3 ∨ u = 4 ∨ u = 5 ∨ u = 6 := by omega
  rcases this with rfl | rfl | rfl | rfl | rfl | rfl | rfl <;> decide
theorem Y_settle_ok {h : kH} {v : Int32} {u sp : Nat} (hv : f_P_isError v = false) (h1 : h 145 1 = nI sp) (h2 : h 145 2 = nI u) (hs : sp < 7) (hu : u ≤ 6) : ∃ h', f_Y_settle h 145 v = some (v, h') ∧ (∀ a, a ≠ 145 → h' a = h a) ∧ h' 145 1 = nI ((sp + 1) % 7) ∧ h' 145 2 = nI (min (u + 1) 6) := by
  have e6 : (nI sp = 6) = (sp = 6) := eqI (a := sp) (b := 6) (by omega) (by decide)
  unfold f_Y_settle b_Y_settle_27
  rw [hv, if_neg (by decide), h1]
  by_cases z : sp = 6
  · rw [if_pos (by rw [e6]; exact z), kLet_s, hs_ne _ _ (by omega), h2, min_6 hu, kLet_s]
    refine ⟨_, rfl, fun a q => by rw [hs_of _ _ q, hs_of _ _ q], ?_, hs_eq _ _ _ _⟩
    rw [hs_ne _ _ (by omega), hs_eq, z]
    rfl
  · rw [if_neg (by rw [e6]; exact z), kLet_s, hs_ne _ _ (by omega), h2, min_6 hu, kLet_s]
    refine ⟨_, rfl, fun a q => by rw [hs_of _ _ q, hs_of _ _ q], ?_, hs_eq _ _ _ _⟩
    rw [hs_ne _ _ (by omega), hs_eq, nI_1, Nat.mod_eq_of_lt (by omega)]
theorem Y_settle_err {h : kH} {v : Int32} (hv : f_P_isError v = true) : f_Y_settle h 145 v = some (v, h) := by
  unfold f_Y_settle
  rw [hv, if_pos rfl]
