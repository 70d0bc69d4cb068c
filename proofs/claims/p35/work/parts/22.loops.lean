/-! PURE: the plain loops of both sides: sums, counts, the first of a kind. -/
def sumI (f : Nat → Int32) : Nat → Int32
  | 0 => 0
  | n + 1 => sumI f n + f n
/-- r is the first of n with p, or none (-6) -/
def Fst (p : Nat → Bool) (n : Nat) (r : Int32) : Prop := (r = -6 ∧ ∀ j, j < n → p j = false) ∨ ∃ k, k < n ∧ p k = true ∧ (∀ j, j < k → p j = false) ∧ r = nI k
theorem Fst.one {p : Nat → Bool} {n : Nat} {r r' : Int32} (h : Fst p n r) (h' : Fst p n r') : r = r' := by
  rcases h with ⟨rfl, a⟩ | ⟨k, k1, k2, k3, rfl⟩ <;> rcases h' with ⟨rfl, b⟩ | ⟨l, l1, l2, l3, rfl⟩
  · rfl
  · rw [a l l1] at l2; cases l2
  · rw [b k k1] at k2; cases k2
  · rcases Nat.lt_trichotomy k l with q | q | q
    · rw [l3 k q] at k2; cases k2
    · rw [q]
    · rw [k3 l q] at l2; cases l2
theorem Fst.no {p : Nat → Bool} {n : Nat} {r : Int32} (h : Fst p n r) : no r n := by
  rcases h with ⟨rfl, -⟩ | ⟨k, k1, -, -, rfl⟩
  · exact Or.inl rfl
  · exact Or.inr ⟨k, k1, rfl⟩
def FstF (p : Nat → Bool) (i n : Nat) (r : Int32) : Prop := (r = -6 ∧ ∀ j, i ≤ j → j < n → p j = false) ∨ ∃ k, i ≤ k ∧ k < n ∧ p k = true ∧ (∀ j, i ≤ j → j < k → p j = false) ∧ r = nI k
theorem FstF.fst {p : Nat → Bool} {n : Nat} {r : Int32} (h : FstF p 0 n r) : Fst p n r := by
  rcases h with ⟨rfl, a⟩ | ⟨k, -, k1, k2, k3, rfl⟩
  · exact Or.inl ⟨rfl, fun j hj => a j (Nat.zero_le _) hj⟩
  · exact Or.inr ⟨k, k1, k2, fun j hj => k3 j (Nat.zero_le _) hj, rfl⟩
theorem FstF.hit {p : Nat → Bool} {i n : Nat} (hi : i < n) (hp : p i = true) : FstF p i n (nI i) := Or.inr ⟨i, Nat.le_refl _, hi, hp, fun j a b => by omega, rfl⟩
theorem FstF.miss {p : Nat → Bool} {i n : Nat} {r : Int32} (hp : p i = false) (h : FstF p (i + 1) n r) : FstF p i n r := by
  have key : ∀ j, i ≤ j → j = i ∨ i + 1 ≤ j := fun j h => by omega
  rcases h with ⟨rfl, a⟩ | ⟨k, k0, k1, k2, k3, rfl⟩
  · exact Or.inl ⟨rfl, fun j h1 h2 => (key j h1).elim (fun e => by rw [e]; exact hp) (fun q => a j q h2)⟩
  · exact Or.inr ⟨k, by omega, k1, k2, fun j h1 h2 => (key j h1).elim (fun e => by rw [e]; exact hp) (fun q => k3 j q h2), rfl⟩
theorem kF_lt {n : Nat} (h : n < 20000) : n < kFuel := h
theorem nI_m1 (n : Nat) : nI (n + 1) + (-1) = nI n := pk_m1 n
theorem neg1_lt : nI 0 - 1 < 0 := by decide
theorem nI_s1 (n : Nat) : nI (n + 1) - 1 = nI n := nI_pred n
theorem nI_0m1 : nI 0 + (-1) = nI 0 - 1 := by decide
section C
variable {h : kH} {c : Nat} {T : kT} {nm ni nv : Nat}
theorem C_weight_loop (C : Com h c T nm ni nv) {bt : Nat} (I : IvB bt T nm ni nv) : ∀ (k i f : Nat), i + k = nm → k < f → b_C_weightOfAll_4 h c f (sumI (fun m => T 1 m 0) i) (nI i) = some (sumI (fun m => T 1 m 0) nm) := by
  have hn := I.1
  intro k
  induction k with
  | zero =>
    intro i f hi hf
    obtain ⟨f, rfl⟩ : ∃ g, f = g + 1 := ⟨f - 1, by omega⟩
    obtain rfl : i = nm := hi
    rw [b_C_weightOfAll_4, C.1.2.1, I.2.1.1]
    exact if_pos (nI_le (Nat.le_refl _) (by omega))
  | succ k ih =>
    intro i f hi hf
    obtain ⟨f, rfl⟩ : ∃ g, f = g + 1 := ⟨f - 1, by omega⟩
    rw [b_C_weightOfAll_4, C.1.2.1, I.2.1.1]
    dsimp only
    rw [if_neg (nI_ge (by omega) (by omega)), kG_nI (by omega) (by omega), kx_nI (by omega), (C.2.2.1 i (by omega)).1, nI_1]
    exact ih (i + 1) f (by omega) (by omega)
theorem C_weightOfAll (C : Com h c T nm ni nv) {bt : Nat} (I : IvB bt T nm ni nv) : f_C_weightOfAll h c = some (sumI (fun m => T 1 m 0) nm) :=
  C_weight_loop C I nm 0 kFuel (by omega) (kF_lt (by have := I.1; omega))
theorem C_first_loop (C : Com h c T nm ni nv) {bt : Nat} (I : IvB bt T nm ni nv) (s : Int32) : ∀ (k i f : Nat), i + k = ni → k < f → ∃ r, b_C_firstIn_2 h c s f (nI i) = some r ∧ FstF (fun i => decide (T 2 i 2 = s)) i ni r := by
  have hn := I.1
  intro k
  induction k with
  | zero =>
    intro i f hi hf
    obtain ⟨f, rfl⟩ : ∃ g, f = g + 1 := ⟨f - 1, by omega⟩
    obtain rfl : i = ni := hi
    rw [b_C_firstIn_2, C.1.2.2.1, I.2.1.2.1]
    exact ⟨-6, if_pos (nI_le (Nat.le_refl _) (by omega)), Or.inl ⟨rfl, fun j a b => by omega⟩⟩
  | succ k ih =>
    intro i f hi hf
    obtain ⟨f, rfl⟩ : ∃ g, f = g + 1 := ⟨f - 1, by omega⟩
    rw [b_C_firstIn_2, C.1.2.2.1, I.2.1.2.1]
    dsimp only
    rw [if_neg (nI_ge (by omega) (by omega)), kG_nI (by omega) (by omega), kx_nI (by omega), (C.2.2.2.1 i (by omega)).2.2.1]
    by_cases q : T 2 i 2 = s
    · rw [if_pos q]
      exact ⟨nI i, rfl, FstF.hit (by omega) (by simp [q])⟩
    · rw [if_neg q, nI_1]
      obtain ⟨r, h1, h2⟩ := ih (i + 1) f (by omega) (by omega)
      exact ⟨r, h1, FstF.miss (by simp [q]) h2⟩
theorem C_firstIn (C : Com h c T nm ni nv) {bt : Nat} (I : IvB bt T nm ni nv) (s : Int32) : ∃ r, f_C_firstIn h c s = some r ∧ Fst (fun i => decide (T 2 i 2 = s)) ni r := by
  obtain ⟨r, h1, h2⟩ := C_first_loop C I s ni 0 kFuel (by omega) (kF_lt (by have := I.1; omega))
  exact ⟨r, h1, h2.fst⟩
theorem C_items_loop (C : Com h c T nm ni nv) {bt : Nat} (I : IvB bt T nm ni nv) (s : Int32) : ∀ (k i f : Nat), i + k = ni → k < f → b_C_itemsIn_4 h c s f (nI (fb_ct (fun i => decide (T 2 i 2 = s)) i)) (nI i) = some (nI (fb_ct (fun i => decide (T 2 i 2 = s)) ni)) := by
  have hn := I.1
  intro k
  induction k with
  | zero =>
    intro i f hi hf
    obtain ⟨f, rfl⟩ : ∃ g, f = g + 1 := ⟨f - 1, by omega⟩
    obtain rfl : i = ni := hi
    rw [b_C_itemsIn_4, C.1.2.2.1, I.2.1.2.1]
    exact if_pos (nI_le (Nat.le_refl _) (by omega))
  | succ k ih =>
    intro i f hi hf
    obtain ⟨f, rfl⟩ : ∃ g, f = g + 1 := ⟨f - 1, by omega⟩
    rw [b_C_itemsIn_4, C.1.2.2.1, I.2.1.2.1]
    dsimp only
    rw [if_neg (nI_ge (by omega) (by omega)), kG_nI (by omega) (by omega), kx_nI (by omega), (C.2.2.2.1 i (by omega)).2.2.1]
    have e := ih (i + 1) f (by omega) (by omega)
    rw [fb_ct_succ] at e
    by_cases q : T 2 i 2 = s
    · rw [if_pos q, nI_1, nI_1]
      rw [if_pos (by simp [q])] at e
      exact e
    · rw [if_neg q, nI_1]
      rw [if_neg (by simp [q]), Nat.add_zero] at e
      exact e
theorem C_itemsIn (C : Com h c T nm ni nv) {bt : Nat} (I : IvB bt T nm ni nv) (s : Int32) : f_C_itemsIn h c s = some (nI (fb_ct (fun i => decide (T 2 i 2 = s)) ni)) :=
  C_items_loop C I s ni 0 kFuel (by omega) (kF_lt (by have := I.1; omega))
theorem C_votes_loop (C : Com h c T nm ni nv) {bt : Nat} (I : IvB bt T nm ni nv) {m : Nat} (hm : m < nm) : ∀ (k i f : Nat), i + k = ni → k < f → b_C_votesOf_4 h c (nI m) f (nI (fb_ct (fun i => !decide (T 4 i m = -6)) i)) (nI i) = some (nI (fb_ct (fun i => !decide (T 4 i m = -6)) ni)) := by
  have hn := I.1
  intro k
  induction k with
  | zero =>
    intro i f hi hf
    obtain ⟨f, rfl⟩ : ∃ g, f = g + 1 := ⟨f - 1, by omega⟩
    obtain rfl : i = ni := hi
    rw [b_C_votesOf_4, C.1.2.2.1, I.2.1.2.1]
    exact if_pos (nI_le (Nat.le_refl _) (by omega))
  | succ k ih =>
    intro i f hi hf
    obtain ⟨f, rfl⟩ : ∃ g, f = g + 1 := ⟨f - 1, by omega⟩
    rw [b_C_votesOf_4, C.1.2.2.1, I.2.1.2.1]
    dsimp only
    have e := ih (i + 1) f (by omega) (by omega)
    rw [fb_ct_succ] at e
    obtain ⟨_, _, _, _, _, _, _, q0⟩ := C.2.2.2.1 i (by omega)
    rw [if_neg (nI_ge (by omega) (by omega)), kG_nI (by omega) (by omega), kG_nI (by omega) (by omega), kx_nI (by omega), kx_nI (by omega), (q0 m (by omega)).1]
    by_cases q : T 4 i m = -6
    · rw [if_pos q, nI_1]
      rw [if_neg (by simp [q]), Nat.add_zero] at e
      exact e
    · rw [if_neg q, nI_1, nI_1]
      rw [if_pos (by simp [q])] at e
      exact e
theorem C_votesOf (C : Com h c T nm ni nv) {bt : Nat} (I : IvB bt T nm ni nv) {m : Nat} (hm : m < nm) : f_C_votesOf h c (nI m) = some (nI (fb_ct (fun i => !decide (T 4 i m = -6)) ni)) :=
  C_votes_loop C I hm ni 0 kFuel (by omega) (kF_lt (by have := I.1; omega))
theorem C_ties_loop (C : Com h c T nm ni nv) {bt : Nat} (I : IvB bt T nm ni nv) (s : Int32) : ∀ (k i f : Nat), i + k = ni → k < f → b_C_tiesBrokenBy_4 h c s f (nI (fb_ct (fun i => decide (T 2 i 9 = s)) i)) (nI i) = some (nI (fb_ct (fun i => decide (T 2 i 9 = s)) ni)) := by
  have hn := I.1
  intro k
  induction k with
  | zero =>
    intro i f hi hf
    obtain ⟨f, rfl⟩ : ∃ g, f = g + 1 := ⟨f - 1, by omega⟩
    obtain rfl : i = ni := hi
    rw [b_C_tiesBrokenBy_4, C.1.2.2.1, I.2.1.2.1]
    exact if_pos (nI_le (Nat.le_refl _) (by omega))
  | succ k ih =>
    intro i f hi hf
    obtain ⟨f, rfl⟩ : ∃ g, f = g + 1 := ⟨f - 1, by omega⟩
    rw [b_C_tiesBrokenBy_4, C.1.2.2.1, I.2.1.2.1]
    dsimp only
    rw [if_neg (nI_ge (by omega) (by omega)), kG_nI (by omega) (by omega), kx_nI (by omega), (C.2.2.2.1 i (by omega)).2.2.2.2.1]
    have e := ih (i + 1) f (by omega) (by omega)
    rw [fb_ct_succ] at e
    by_cases q : T 2 i 9 = s
    · rw [if_pos q, nI_1, nI_1]
      rw [if_pos (by simp [q])] at e
      exact e
    · rw [if_neg q, nI_1]
      rw [if_neg (by simp [q]), Nat.add_zero] at e
      exact e
theorem C_tiesBrokenBy (C : Com h c T nm ni nv) {bt : Nat} (I : IvB bt T nm ni nv) {m : Nat} (hm : m < nm) : f_C_tiesBrokenBy h c (nI m) = some (T 1 m 4) := by
  have e := C_ties_loop C I (nI m) ni 0 kFuel (by omega) (kF_lt (by have := I.1; omega))
  rw [← (I.2.2.2.2.2.1 m (by have := I.1; omega)).2.2.2.2] at e
  exact e
theorem C_chair_loop (C : Com h c T nm ni nv) {bt : Nat} (I : IvB bt T nm ni nv) : ∀ (k i f : Nat), i + k = nm → k < f → ∃ r, b_C_chairOfTheMoment_27 h c f (nI i) = some r ∧ FstF (ps T) i nm r := by
  have hn := I.1
  intro k
  induction k with
  | zero =>
    intro i f hi hf
    obtain ⟨f, rfl⟩ : ∃ g, f = g + 1 := ⟨f - 1, by omega⟩
    obtain rfl : i = nm := hi
    rw [b_C_chairOfTheMoment_27, C.1.2.1, I.2.1.1]
    exact ⟨-6, if_pos (nI_le (Nat.le_refl _) (by omega)), Or.inl ⟨rfl, fun j a b => by omega⟩⟩
  | succ k ih =>
    intro i f hi hf
    obtain ⟨f, rfl⟩ : ∃ g, f = g + 1 := ⟨f - 1, by omega⟩
    rw [b_C_chairOfTheMoment_27, C.1.2.1, I.2.1.1]
    dsimp only
    rw [if_neg (nI_ge (by omega) (by omega)), C_isPresent C I (by omega)]
    by_cases q : ps T i = true
    · rw [if_pos q]
      exact ⟨nI i, rfl, FstF.hit (by omega) q⟩
    · rw [if_neg q, nI_1]
      obtain ⟨r, h1, h2⟩ := ih (i + 1) f (by omega) (by omega)
      exact ⟨r, h1, FstF.miss (by simpa using q) h2⟩
/-- who has the chair now -/
def ChairIs (T : kT) (nm : Nat) (r : Int32) : Prop := (∃ j, j < nm ∧ T 0 9 0 = nI j ∧ ps T j = true ∧ r = nI j) ∨ ((T 0 9 0 = -6 ∨ ∃ j, j < nm ∧ T 0 9 0 = nI j ∧ ps T j = false) ∧ Fst (ps T) nm r)
theorem ChairIs.one {bt : Nat} (I : IvB bt T nm ni nv) {r r' : Int32} (a : ChairIs T nm r) (b : ChairIs T nm r') : r = r' := by
  have hn := I.1
  have key : ∀ j k, j < nm → k < nm → nI j = nI k → j = k := fun j k hj hk e => by rwa [eqI (by omega) (by omega)] at e
  rcases a with ⟨j, j1, j2, j3, rfl⟩ | ⟨a1, a2⟩ <;> rcases b with ⟨k, k1, k2, k3, rfl⟩ | ⟨b1, b2⟩
  · rw [← j2, ← k2]
  · rcases b1 with e | ⟨k, k1, k2, k3⟩
    · exact absurd (j2.symm.trans e) (n6_ne (by omega))
    · obtain rfl := key j k j1 k1 (j2.symm.trans k2)
      rw [j3] at k3; cases k3
  · rcases a1 with e | ⟨j, j1, j2, j3⟩
    · exact absurd (k2.symm.trans e) (n6_ne (by omega))
    · obtain rfl := key j k j1 k1 (j2.symm.trans k2)
      rw [k3] at j3; cases j3
  · exact a2.one b2
theorem ChairIs.no {r : Int32} (a : ChairIs T nm r) : no r nm := by
  rcases a with ⟨j, j1, -, -, rfl⟩ | ⟨-, a⟩
  · exact Or.inr ⟨j, j1, rfl⟩
  · exact a.no
theorem C_chair (C : Com h c T nm ni nv) {bt : Nat} (I : IvB bt T nm ni nv) : ∃ r, f_C_chairOfTheMoment h c = some r ∧ ChairIs T nm r := by
  have hn := I.1
  obtain ⟨r, h1, h2⟩ := C_chair_loop C I nm 0 kFuel (by omega) (kF_lt (by have := I.1; omega))
  unfold f_C_chairOfTheMoment
  rw [C.1.2.2.2.2.1]
  by_cases q : T 0 9 0 = -6
  · rw [if_pos q]
    exact ⟨r, h1, Or.inr ⟨Or.inl q, h2.fst⟩⟩
  · rw [if_neg q]
    obtain ⟨j, hj, ej⟩ := I.2.2.2.2.1.1.of q
    rw [ej, C_isPresent C I hj]
    by_cases z : ps T j = true
    · rw [if_pos z]
      exact ⟨_, rfl, Or.inl ⟨j, hj, ej, z, rfl⟩⟩
    · rw [if_neg z]
      exact ⟨r, h1, Or.inr ⟨Or.inr ⟨j, hj, ej, by simpa using z⟩, h2.fst⟩⟩
end C
