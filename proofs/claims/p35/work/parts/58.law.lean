/-! PURE: the whole law answers true. -/
section
variable {nm : Nat}
theorem items_all {T : kT} {nm ni nv : Nat} (I : Iv T nm ni nv) : ∀ n, n ≤ 12 → fb_ct (fun i => decide (T 2 i 2 = nI 0)) n + fb_ct (fun i => decide (T 2 i 2 = nI 1)) n + fb_ct (fun i => decide (T 2 i 2 = nI 2)) n + fb_ct (fun i => decide (T 2 i 2 = nI 3)) n + fb_ct (fun i => decide (T 2 i 2 = nI 4)) n = n := by
  intro n
  induction n with
  | zero => intro _; rfl
  | succ n ih =>
    intro hn
    have := ih (by omega)
    obtain ⟨a, a1, a2⟩ := (I.i1 (show n < 12 by omega)).2.1
    simp only [fb_ct_succ, a2]
    have : a = 0 ∨ a = 1 ∨ a = 2 ∨ a = 3 ∨ a = 4 := by omega
    rcases this with rfl | rfl | rfl | rfl | rfl
    all_goals
      simp only [eqI (show 0 < 2 ^ 31 by decide) (show 0 < 2 ^ 31 by decide), eqI (show 0 < 2 ^ 31 by decide) (show 1 < 2 ^ 31 by decide), eqI (show 0 < 2 ^ 31 by decide) (show 2 < 2 ^ 31 by decide), eqI (show 0 < 2 ^ 31 by decide) (show 3 < 2 ^ 31 by decide), eqI (show 0 < 2 ^ 31 by decide) (show 4 < 2 ^ 31 by decide), eqI (show 1 < 2 ^ 31 by decide) (show 0 < 2 ^ 31 by decide), eqI (show 1 < 2 ^ 31 by decide) (show 1 < 2 ^ 31 by decide), eqI (show 1 < 2 ^ 31 by decide) (show 2 < 2 ^ 31 by decide), eqI (show 1 < 2 ^ 31 by decide) (show 3 < 2 ^ 31 by decide), eqI (show 1 < 2 ^ 31 by decide) (show 4 < 2 ^ 31 by decide), eqI (show 2 < 2 ^ 31 by decide) (show 0 < 2 ^ 31 by decide), eqI (show 2 < 2 ^ 31 by decide) (show 1 < 2 ^ 31 by decide), eqI (show 2 < 2 ^ 31 by decide) (show 2 < 2 ^ 31 by decide), eqI (show 2 < 2 ^ 31 by decide) (show 3 < 2 ^ 31 by decide), eqI (show 2 < 2 ^ 31 by decide) (show 4 < 2 ^ 31 by decide), eqI (show 3 < 2 ^ 31 by decide) (show 0 < 2 ^ 31 by decide), eqI (show 3 < 2 ^ 31 by decide) (show 1 < 2 ^ 31 by decide), eqI (show 3 < 2 ^ 31 by decide) (show 2 < 2 ^ 31 by decide), eqI (show 3 < 2 ^ 31 by decide) (show 3 < 2 ^ 31 by decide), eqI (show 3 < 2 ^ 31 by decide) (show 4 < 2 ^ 31 by decide), eqI (show 4 < 2 ^ 31 by decide) (show 0 < 2 ^ 31 by decide), eqI (show 4 < 2 ^ 31 by decide) (show 1 < 2 ^ 31 by decide), eqI (show 4 < 2 ^ 31 by decide) (show 2 < 2 ^ 31 by decide), eqI (show 4 < 2 ^ 31 by decide) (show 3 < 2 ^ 31 by decide), eqI (show 4 < 2 ^ 31 by decide) (show 4 < 2 ^ 31 by decide)]
      simp
      omega
theorem law_in {L : Nat} {xs : Nat → Int32} {rec238 : List Nat → kH → Int32 → Option (Bool × List Nat × kH)} {T : kT} {nv t : Nat} {x3 : Int32} (cont : ∀ K h, J h T nm nv t → ∃ K' h', rec238 K h (x3 + 1) = some (true, K', h')) : ∀ (d i n : Nat) (K : List Nat) (h : kH), i + d = 4 → d < n → J h T nm nv t → ∃ K' h', b_L_law_263 L xs rec238 x3 n K h (nI i) = some (true, K', h') := by
  intro d
  induction d with
  | zero =>
    intro i n K h hi hn j
    obtain ⟨n, rfl⟩ : ∃ g, n = g + 1 := ⟨n - 1, by omega⟩
    obtain rfl : i = 4 := hi
    rw [b_L_law_263]
    dsimp only
    rw [q_c2 j.1, kBi_s, if_pos (show nI 4 ≤ nI 4 from by decide)]
    exact cont K h j
  | succ d ih =>
    intro i n K h hi hn j
    obtain ⟨n, rfl⟩ : ∃ g, n = g + 1 := ⟨n - 1, by omega⟩
    rw [b_L_law_263]
    dsimp only
    obtain ⟨K', h', e1, e2⟩ := L_item j.1 K (show i < 4 by omega)
    rw [q_c2 j.1, kBi_s, if_neg (nI_ge (by omega) (by decide)), e1]
    show ∃ K'' h'', (if true = true then b_L_law_263 L xs rec238 x3 n K' h' (nI i + 1) else some (false, K', h')) = some (true, K'', h'')
    rw [if_pos rfl, nI_1]
    exact ih (i + 1) n K' h' (by omega) (by omega) ⟨e2, j.2⟩
theorem law_out {L : Nat} {xs : Nat → Int32} (hL : L ≤ 260) : ∀ (d k n : Nat) (K : List Nat) (h : kH) (T : kT) (nv t : Nat), k + d = 56 → d < n → J h T nm nv t → t ≤ 60 * k → ∃ K' h', b_L_law_238 L xs n K h (nI k) = some (true, K', h') := by
  intro d
  induction d with
  | zero =>
    intro k n K h T nv t hk hn j ht
    obtain ⟨n, rfl⟩ : ∃ g, n = g + 1 := ⟨n - 1, by omega⟩
    obtain rfl : k = 56 := hk
    have S := j.1
    have h8 : f_P_count h 8 = _ := q_items S (k := 0) (by decide)
    have h9 : f_P_count h 9 = _ := q_items S (k := 1) (by decide)
    have h10 : f_P_count h 10 = _ := q_items S (k := 2) (by decide)
    have h11 : f_P_count h 11 = _ := q_items S (k := 3) (by decide)
    have h12 : f_P_count h 12 = _ := q_items S (k := 4) (by decide)
    have a := items_all S.1 4 (by decide)
    rw [b_L_law_238]
    dsimp only
    rw [if_pos (show (56 : Int32) ≤ nI 56 from by decide), h8, kBi_s, h9, kBi_s, h10, kBi_s, h11, kBi_s, h12, kBi_s, q_c2 S, kBi_s, nI_add, nI_add, nI_add, nI_add, a, if_pos rfl]
    exact ⟨K, h, rfl⟩
  | succ d ih =>
    intro k n K h T nv t hk hn j ht
    obtain ⟨n, rfl⟩ : ∃ g, n = g + 1 := ⟨n - 1, by omega⟩
    have e5 : (44 : Int32) + 5 * nI k = nI (44 + 5 * k) := by rw [show (44 : Int32) = nI 44 from rfl, show (5 : Int32) = nI 5 from rfl, pk_mul, nI_add]
    obtain ⟨K', h', T', nv', t', r1, r2, r3⟩ := A_act (xs := xs) (K := K) hL (p := 44 + 5 * k) (by omega) j (by omega)
    rw [b_L_law_238]
    dsimp only
    rw [if_neg (show ¬ (56 : Int32) ≤ nI k from by rw [show (56 : Int32) = nI 56 from rfl, leI (by omega) (by omega)]; omega), e5, r1]
    show ∃ K'' h'', (if true = true then b_L_law_263 L xs (fun K' h' x3' => b_L_law_238 L xs n K' h' x3') (nI k) 6 K' h' 0 else some (false, K', h')) = some (true, K'', h'')
    rw [if_pos rfl]
    exact law_in (nm := nm) (T := T') (nv := nv') (t := t') (fun K h j => by
      rw [nI_1]
      exact ih (k + 1) n K h T' nv' t' (by omega) (by omega) j (by omega)) 4 0 6 K' h' rfl (by decide) r3
/-- while all is being laid -/
def Z0 (h : kH) (T : kT) (nm ni : Nat) : Prop := St h T nm ni 0 ∧ T 0 6 0 = nI 0 ∧ ∀ i, ¬ T 2 i 2 = 1
theorem law_items {L : Nat} {xs : Nat → Int32} {K : List Nat} (hL : L ≤ 260) (h0 : 0 < nm) (h1 : nm < 1000) : ∀ (d k n : Nat) (h : kH) (T : kT), k + d = 4 → d < n → Z0 h T nm k → ∃ K' h', b_L_law_168 L xs K (nI nm) n h (nI k) = some (true, K', h') := by
  intro d
  induction d with
  | zero =>
    intro k n h T hk hn z
    obtain ⟨n, rfl⟩ : ∃ g, n = g + 1 := ⟨n - 1, by omega⟩
    obtain rfl : k = 4 := hk
    obtain ⟨S, z1, z2⟩ := z
    obtain ⟨c, hc, ec⟩ := L_cell (xs := xs) hL (k := 43) (n := nm) (by decide) h0 h1
    have ec : f_L_cell L xs 43 (nI nm) = some (nI c) := ec
    obtain ⟨h', r1, r2, r3⟩ := S.turn (FP := fun h => f_P_chair h (nI c)) (op_chair S.1 hc) fun _ => rfl
    have r1 : f_P_chair h (nI c) = some (_, h') := r1
    rw [b_L_law_168]
    dsimp only
    rw [if_pos (show (4 : Int32) ≤ nI 4 from by decide), ec, kBi_s, r1, kBd_s]
    refine law_out (nm := nm) hL 56 0 60 K h' _ 0 0 rfl (by decide) ⟨r2, h0, ?_, fun a b _ _ e _ => ?_, fun k hk => absurd hk (Nat.not_lt_zero _)⟩ (by decide)
    · rw [ts_ne _ _ (by omega)]
      exact z1
    · rw [ts_o _ _ (by decide)] at e
      exact absurd e (z2 a)
  | succ d ih =>
    intro k n h T hk hn z
    obtain ⟨n, rfl⟩ : ∃ g, n = g + 1 := ⟨n - 1, by omega⟩
    obtain ⟨S, z1, z2⟩ := z
    obtain ⟨a, ha, ea⟩ := L_cell (xs := xs) hL (k := 31 + k) (n := 3) (by omega) (by decide) (by decide)
    obtain ⟨b, hb, eb⟩ := L_cell (xs := xs) hL (k := 35 + k) (n := 3) (by omega) (by decide) (by decide)
    obtain ⟨c, hc, ec⟩ := L_cell (xs := xs) hL (k := 39 + k) (n := 16) (by omega) (by decide) (by decide)
    have ea : f_L_cell L xs (nI (31 + k)) 3 = some (nI a) := ea
    have eb : f_L_cell L xs (nI (35 + k)) 3 = some (nI b) := eb
    have ec : f_L_cell L xs (nI (39 + k)) 16 = some (nI c) := ec
    have go : ∀ q, q ≤ 15 → ∃ K' h', b_L_law_209 L xs (fun h' x3' => b_L_law_168 L xs K (nI nm) n h' x3') K h (nI nm) (nI k) (nI a) (nI q) = some (true, K', h') := by
      intro q hq
      obtain ⟨h', r1, r2, r3⟩ := S.turn (FP := fun h => f_P_item h (nI a) (nI q)) (op_item S.1 (by omega) (by omega) hq) fun _ => rfl
      have r1 : f_P_item h (nI a) (nI q) = some (nI k, h') := r1
      unfold b_L_law_209
      rw [r1, kBd_s, if_pos rfl, nI_1]
      refine ih (k + 1) n h' _ (by omega) (by omega) ⟨r2, ?_, fun i => ?_⟩
      · rw [tIt_0 _ _ _ _ (by decide)]
        exact z1
      · rw [tIt_2 _ _ _ _ _ _ (Or.inr (by decide))]
        exact z2 i
    rw [b_L_law_168]
    dsimp only
    rw [if_neg (show ¬ (4 : Int32) ≤ nI k from by rw [show (4 : Int32) = nI 4 from rfl, leI (by omega) (by omega)]; omega), show (31 : Int32) = nI 31 from rfl, show (35 : Int32) = nI 35 from rfl, show (39 : Int32) = nI 39 from rfl, nI_add, nI_add, nI_add, ea, kBi_s, eb, kBi_s, ec, kBi_s]
    by_cases q : nI b = 0
    · rw [if_pos q]
      exact go c (by omega)
    · rw [if_neg q]
      exact go 0 (by decide)
theorem law_members {L : Nat} {xs : Nat → Int32} {K : List Nat} (hL : L ≤ 260) (h0 : 0 < nm) (h1 : nm ≤ 12) : ∀ (d k n : Nat) (h : kH) (T : kT), k + d = nm → d < n → Z0 h T k 0 → ∃ K' h', b_L_law_113 L xs K (nI nm) n h (nI k) = some (true, K', h') := by
  intro d
  induction d with
  | zero =>
    intro k n h T hk hn z
    obtain ⟨n, rfl⟩ : ∃ g, n = g + 1 := ⟨n - 1, by omega⟩
    obtain rfl : k = nm := hk
    rw [b_L_law_113]
    dsimp only
    rw [if_pos (nI_le (Nat.le_refl _) (by omega))]
    exact law_items hL h0 (by omega) 4 0 kFuel h T rfl (kF_lt (by decide)) z
  | succ d ih =>
    intro k n h T hk hn z
    obtain ⟨n, rfl⟩ : ∃ g, n = g + 1 := ⟨n - 1, by omega⟩
    obtain ⟨S, z1, z2⟩ := z
    obtain ⟨a, ha, ea⟩ := L_cell (xs := xs) hL (k := 7 + k) (n := 9) (by omega) (by decide) (by decide)
    obtain ⟨b, hb, eb⟩ := L_cell (xs := xs) hL (k := 19 + k) (n := 4) (by omega) (by decide) (by decide)
    have ea : f_L_cell L xs (nI (7 + k)) 9 = some (nI a) := ea
    have eb : f_L_cell L xs (nI (19 + k)) 4 = some (nI b) := eb
    obtain ⟨h', r1, r2, r3⟩ := S.turn (FP := fun h => f_P_member h (nI (1 + a)) (nI b)) (op_member S.1 (by omega) ⟨by omega, by omega⟩ (by omega)) fun _ => rfl
    have r1 : f_P_member h (nI (1 + a)) (nI b) = some (nI k, h') := r1
    have e6 : tMem T k (1 + a) b 1 k 3 = -6 := by
      have e := (S.1.m (show k < 12 by omega)).2.2.1 (Nat.le_refl _)
      simp [tMem, ts, e]
    rw [b_L_law_113]
    dsimp only
    rw [if_neg (nI_ge (by omega) (by omega)), show (7 : Int32) = nI 7 from rfl, show (19 : Int32) = nI 19 from rfl, nI_add, nI_add, ea, kBi_s, eb, kBi_s, show (1 : Int32) + nI a = nI (1 + a) from by rw [show (1 : Int32) = nI 1 from rfl, nI_add], r1, kBd_s, if_pos rfl, q_of3 r2 (by omega), kBi_s, if_pos e6, nI_1]
    refine ih (k + 1) n h' _ (by omega) (by omega) ⟨r2, ?_, fun i => ?_⟩
    · have : tMem T k (1 + a) b 0 6 0 = T 0 6 0 := by simp [tMem, ts]
      rw [this]
      exact z1
    · rw [tMem_o _ _ _ _ (by decide) (by decide)]
      exact z2 i
theorem Z0.set {h : kH} {T : kT} {nm ni j y : Nat} (z : Z0 h T nm ni) (hj : j < 6) (hy : y ≤ sHi j) : ∃ v T' h', f_P_set h (nI j) (nI y) = some (v, h') ∧ Z0 h' T' nm ni := by
  obtain ⟨S, z1, z2⟩ := z
  obtain ⟨h', r1, r2, r3⟩ := S.turn (FP := fun h => f_P_set h (nI j) (nI y)) (op_set S.1 hj hy) fun _ => rfl
  exact ⟨_, _, h', r1, r2, (ts_ne _ _ (by omega)).trans z1, fun i => by rw [ts_o _ _ (by decide)]; exact z2 i⟩
theorem law_true {L : Nat} {xs : Nat → Int32} {K : List Nat} {h : kH} {T : kT} (hL : L ≤ 260) (z : Z0 h T 0 0) : ∃ K' h', b_L_law_8 L xs K h = some (true, K', h') := by
  have c : ∀ k n, k < 10 → 0 < n → n < 1000 → ∃ c, c < n ∧ f_L_cell L xs (nI k) (nI n) = some (nI c) := fun k n hk h0 hn => L_cell hL (by omega) h0 hn
  obtain ⟨c0, b0, e0⟩ := c 0 70 (by decide) (by decide) (by decide)
  obtain ⟨c1, b1, e1⟩ := c 1 50 (by decide) (by decide) (by decide)
  obtain ⟨c2, b2, e2⟩ := c 2 200 (by decide) (by decide) (by decide)
  obtain ⟨c3, b3, e3⟩ := c 3 5 (by decide) (by decide) (by decide)
  obtain ⟨c4, b4, e4⟩ := c 4 4 (by decide) (by decide) (by decide)
  obtain ⟨c5, b5, e5⟩ := c 5 4 (by decide) (by decide) (by decide)
  obtain ⟨c6, b6, e6⟩ := c 6 6 (by decide) (by decide) (by decide)
  have e0 : f_L_cell L xs 0 70 = some (nI c0) := e0
  have e1 : f_L_cell L xs 1 50 = some (nI c1) := e1
  have e2 : f_L_cell L xs 2 200 = some (nI c2) := e2
  have e3 : f_L_cell L xs 3 5 = some (nI c3) := e3
  have e4 : f_L_cell L xs 4 4 = some (nI c4) := e4
  have e5 : f_L_cell L xs 5 4 = some (nI c5) := e5
  have e6 : f_L_cell L xs 6 6 = some (nI c6) := e6
  have last : ∀ (g : kH) (U : kT), Z0 g U 0 0 → ∀ b, ∃ K' h', b_L_law_96 L xs K g 5 b = some (true, K', h') := by
    intro g U z b
    have : ∃ v U' g', f_P_set g 5 (kB2 b) = some (v, g') ∧ Z0 g' U' 0 0 := by
      cases b
      · exact z.set (j := 5) (y := 0) (by decide) (by decide)
      · exact z.set (j := 5) (y := 1) (by decide) (by decide)
    obtain ⟨v, U', g', r1, r2⟩ := this
    unfold b_L_law_96
    rw [r1, kBd_s, e6, kBi_s, show (3 : Int32) + nI c6 = nI (3 + c6) from by rw [show (3 : Int32) = nI 3 from rfl, nI_add]]
    exact law_members (nm := 3 + c6) hL (by omega) (by omega) (3 + c6) 0 kFuel g' U' (by omega) (kF_lt (by omega)) r2
  have chain : ∀ (g : kH) (U : kT), Z0 g U 0 0 → ∀ b, ∃ K' h', b_L_law_76 L xs K g 4 b = some (true, K', h') := by
    intro g U z b
    have : ∃ v U' g', f_P_set g 4 (kB2 b) = some (v, g') ∧ Z0 g' U' 0 0 := by
      cases b
      · exact z.set (j := 4) (y := 0) (by decide) (by decide)
      · exact z.set (j := 4) (y := 1) (by decide) (by decide)
    obtain ⟨v, U', g', r1, r2⟩ := this
    unfold b_L_law_76
    rw [r1, kBd_s, e5, kBi_s]
    by_cases q : nI c5 = 0
    · rw [if_pos q]
      exact last g' U' r2 false
    · rw [if_neg q]
      exact last g' U' r2 true
  obtain ⟨v0, T0', h1, r0, z0⟩ := z.set (j := 0) (y := c0) (by decide) (show c0 ≤ 100 by omega)
  obtain ⟨v1, T1', h2, r1, z1⟩ := z0.set (j := 1) (y := c1) (by decide) (show c1 ≤ 100 by omega)
  obtain ⟨v2, T2', h3, r2, z2⟩ := z1.set (j := 2) (y := c2) (by decide) (show c2 ≤ 600 by omega)
  obtain ⟨v3, T3', h4, r3, z3⟩ := z2.set (j := 3) (y := c3) (by decide) (show c3 ≤ 6 by omega)
  have r0 : f_P_set h 0 (nI c0) = some (v0, h1) := r0
  have r1 : f_P_set h1 1 (nI c1) = some (v1, h2) := r1
  have r2 : f_P_set h2 2 (nI c2) = some (v2, h3) := r2
  have r3 : f_P_set h3 3 (nI c3) = some (v3, h4) := r3
  unfold b_L_law_8
  rw [e0, kBi_s, r0, kBd_s, e1, kBi_s, r1, kBd_s, e2, kBi_s, r2, kBd_s, e3, kBi_s, r3, kBd_s, e4, kBi_s]
  by_cases q : nI c4 = 0
  · rw [if_pos q]
    exact chain h4 T3' z3 false
  · rw [if_neg q]
    exact chain h4 T3' z3 true
end
