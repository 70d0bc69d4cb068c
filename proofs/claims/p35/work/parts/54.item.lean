/-! PURE: the law's own sums, outcome, quorum, and all that it holds of an item. -/
section
variable {T : kT} {nm ni nv : Nat}
theorem tal_n (I : Iv T nm ni nv) (i w : Nat) : ∀ k, k ≤ nm → ∃ n, n ≤ 9 * k ∧ sTal T i nm k w = nI n := by
  have hn := I.n
  intro k
  induction k with
  | zero => intro _; exact ⟨0, by omega, rfl⟩
  | succ k ih =>
    intro hk
    obtain ⟨n, n1, n2⟩ := ih (by omega)
    obtain ⟨⟨v, v1, v2, v3⟩, _⟩ := (I.m (show k < 12 by omega)).2.2.2.1 (by omega)
    rw [sTal_s, n2, v3]
    split
    · exact ⟨n + v, by omega, nI_add _ _⟩
    · exact ⟨n, by omega, Int32.add_zero _⟩
theorem add4 (a b c d : Int32) : (a + b) + (c + d) = (a + c) + (b + d) := by
  rw [Int32.add_assoc a b, Int32.add_assoc a c, ← Int32.add_assoc b c d, Int32.add_comm b c, Int32.add_assoc c b d]
theorem sumI_add (f g : Nat → Int32) : ∀ n, sumI (fun w => f w + g w) n = sumI f n + sumI g n
  | 0 => rfl
  | n + 1 => by
    rw [sumI, sumI, sumI, sumI_add f g n]
    exact add4 _ _ _ _
theorem sumI_cong {f g : Nat → Int32} : ∀ {n : Nat}, (∀ w, w < n → f w = g w) → sumI f n = sumI g n
  | 0, _ => rfl
  | n + 1, h => by rw [sumI, sumI, sumI_cong fun w hw => h w (Nat.lt_succ_of_lt hw), h n (Nat.lt_succ_self n)]
theorem sumI_one (c : Int32) {a : Nat} (ha : a < 6) : sumI (fun w => if nI a = nI w then c else 0) 6 = c := by
  have e : ∀ w, w < 6 → (nI a = nI w) = (a = w) := fun w hw => eqI (by omega) (by omega)
  rw [sumI_cong (g := fun w => if a = w then c else 0) fun w hw => by simp only [e w hw]]
  have : a = 0 ∨ a = 1 ∨ a = 2 ∨ a = 3 ∨ a = 4 ∨ a = 5 := by omega
  rcases this with rfl | rfl | rfl | rfl | rfl | rfl <;> simp [sumI]
/-- the six sums are the whole -/
theorem tal_all (I : Iv T nm ni nv) {i : Nat} (hi : i < 12) : ∀ k, k ≤ nm → sumI (fun w => sTal T i nm k w) 6 = sumI (fun m => T 1 m 0) k := by
  have hn := I.n
  intro k
  induction k with
  | zero => intro _; rfl
  | succ k ih =>
    intro hk
    obtain ⟨a, a1, a2⟩ := sWay_6 I hi (show k < 12 by omega)
    have e : ∀ w, w < 6 → sTal T i nm (k + 1) w = sTal T i nm k w + (if nI a = nI w then T 1 k 0 else 0) := fun w _ => by rw [sTal_s, a2]
    rw [sumI_cong e, sumI_add, ih (by omega), sumI_one _ a1]
    rfl
theorem sub0 (x : Int32) : x - 0 = x := by rw [Int32.sub_eq_add_neg]; simp
theorem L_sums_loop {i a b : Nat} (hi : i < ni) (ha : 786 ≤ a) (hb : 786 ≤ b) (ab : a ≠ b) : ∀ (d k f : Nat) (h : kH), k + d = nm → d < f → St h T nm ni nv → (∀ m, m < nm → h a m = sV T i nm m) → (∀ w, w < 6 → h b w = sTal T i nm k w) →
    ∃ h', b_L_sums_3 (nI i) a b f h (nI k) = some h' ∧ St h' T nm ni nv ∧ (∀ x, 786 ≤ x → x ≠ b → h' x = h x) ∧ ∀ w, w < 6 → h' b w = sTal T i nm nm w := by
  intro d
  induction d with
  | zero =>
    intro k f h hk hf S h1 h2
    have hn := S.1.n
    obtain ⟨f, rfl⟩ : ∃ g, f = g + 1 := ⟨f - 1, by omega⟩
    obtain rfl : k = nm := hk
    rw [b_L_sums_3]
    dsimp only
    rw [q_c1 S, kBi_s, if_pos (nI_le (Nat.le_refl _) (by omega))]
    exact ⟨h, rfl, S, fun _ _ _ => rfl, h2⟩
  | succ d ih =>
    intro k f h hk hf S h1 h2
    have hn := S.1.n
    obtain ⟨f, rfl⟩ : ∃ g, f = g + 1 := ⟨f - 1, by omega⟩
    have hkm : k < nm := by omega
    have hi2 : i < 12 := by omega
    have hp := S.1.i2 hi2
    rw [b_L_sums_3]
    dsimp only
    -- behind the way
    have fin : ∀ g, CFe h g → ∃ h', b_L_sums_136 (fun h' x4' => b_L_sums_3 (nI i) a b f h' x4') g (nI i) a b (nI k) (sWay T i nm k) = some h' ∧ St h' T nm ni nv ∧ (∀ x, 786 ≤ x → x ≠ b → h' x = h x) ∧ ∀ w, w < 6 → h' b w = sTal T i nm nm w := by
      intro g cg
      have Sg := S.ask cg
      obtain ⟨w, w1, w2⟩ := sWay_6 S.1 hi2 (show k < 12 by omega)
      unfold b_L_sums_136
      have S1 : St (hset g b w (h b w + T 1 k 0)) T nm ni nv := Sg.set hb _
      obtain ⟨g1, e1, e2⟩ := q_at3 S1 hi hkm
      rw [w2, kG_nI (by omega) (by decide), q_of0 Sg hkm, kBi_s, kG_nI (by omega) (by decide), kx_nI (by omega), cg.fr b hb, kLet_s, g6_0, e1, kBd_s, w2, if_pos rfl, g6_0, kLet_s, nI_1, show kx 0 = 0 from x_0, sub0]
      have o : ∀ x, hset g1 b 0 (hset g b w (h b w + T 1 k 0) b 0) b x = hset g b w (h b w + T 1 k 0) b x := by
        intro x
        by_cases q : x = 0
        · rw [q, hs_eq]
        · rw [hs_ne _ _ (fun z => q z.2), e2.fr b hb]
      obtain ⟨h', r1, r2, r3, r4⟩ := ih (k + 1) f (hset g1 b 0 (hset g b w (h b w + T 1 k 0) b 0)) (by omega) (by omega) ((S1.ask e2).set hb _) (fun m hm => by rw [hs_of _ _ ab, e2.fr a ha, hs_of _ _ ab, cg.fr a ha]; exact h1 m hm) (fun v hv => by
        rw [o, sTal_s, w2]
        by_cases z : w = v
        · subst z
          rw [hs_eq, if_pos rfl, h2 w hv]
        · rw [hs_ne _ _ (fun y => z y.2.symm), if_neg (by rw [eqI (by omega) (by omega)]; exact z), Int32.add_zero, cg.fr b hb]
          exact h2 v hv)
      exact ⟨h', r1, r2, fun x x1 x2 => by rw [r3 x x1 x2, hs_of _ _ x2, e2.fr x x1, hs_of _ _ x2, cg.fr x x1], r4⟩
    have fin' : ∀ g, CFe h g → ∀ y, sWay T i nm k = y → ∃ h', b_L_sums_136 (fun h' x4' => b_L_sums_3 (nI i) a b f h' x4') g (nI i) a b (nI k) y = some h' ∧ St h' T nm ni nv ∧ (∀ x, 786 ≤ x → x ≠ b → h' x = h x) ∧ ∀ w, w < 6 → h' b w = sTal T i nm nm w := fun g cg y hy => by
      rw [← hy]
      exact fin g cg
    obtain ⟨g1, e1, c1⟩ := q_at1 S hi hkm
    obtain ⟨g2, e2, c2⟩ := q_at5 (S.ask c1) hi hkm
    have cc := c1.trans c2
    have S2 := S.ask cc
    rw [q_c1 S, kBi_s, if_neg (nI_ge hkm (by omega)), e1, kBd_s, e2, kBd_s]
    simp only [ps_if, (hp k (by omega)).2.1.neg (show 3 < 2 ^ 31 by decide)]
    by_cases r : sRec T i k = true
    · rw [if_pos r]
      exact fin' g2 cc 5 (by unfold sWay; rw [if_pos r])
    rw [if_neg r]
    by_cases o : T 4 i k = -6
    · rw [if_pos o, q_of2 S2 hkm, kBi_s]
      simp only [ps_if]
      by_cases p : ps T k = true
      · rw [if_pos p]
        exact fin' g2 cc 3 (by unfold sWay; rw [if_neg r, if_pos o, if_pos p])
      rw [if_neg p, kG_nI (by omega) (by decide), kx_nI (by omega), cc.fr a ha, h1 k hkm]
      simp only [(sV_no S.1 hi2 k).nneg (show nm < 2 ^ 31 by omega)]
      by_cases v : sV T i nm k = -6
      · rw [if_neg (fun z => z v)]
        exact fin' g2 cc 4 (by unfold sWay; rw [if_neg r, if_pos o, if_neg p, if_pos v])
      rw [if_pos v]
      obtain ⟨g3, e3, c3⟩ := q_at2 S2 hi hkm
      have c13 := cc.trans c3
      have S3 := S.ask c13
      rw [e3, kBd_s]
      simp only [(hp k (by omega)).2.2.1.neg (show 3 < 2 ^ 31 by decide)]
      by_cases t : T 5 i k = -6
      · rw [if_pos t, kG_nI (by omega) (by decide), c13.fr a ha, h1 k hkm]
        obtain ⟨l, l1, l2⟩ := (sV_no S.1 hi2 k).of v
        rw [l2]
        obtain ⟨g4, e4, c4⟩ := q_at1 S3 hi l1
        have c14 := c13.trans c4
        have S4 := S.ask c14
        rw [e4, kBd_s]
        simp only [(hp l (by omega)).2.1.nneg (show 3 < 2 ^ 31 by decide)]
        by_cases u : T 4 i l = -6
        · rw [if_neg (fun z => z u)]
          unfold b_L_sums_134
          exact fin' g4 c14 3 (by unfold sWay; rw [if_neg r, if_pos o, if_neg p, if_neg v, if_pos t, l2, kx_nI (by omega), if_pos u])
        · obtain ⟨g5, e5, c5⟩ := q_at1 S4 hi l1
          rw [if_pos u, kG_nI (by omega) (by decide), c14.fr a ha, h1 k hkm, l2, e5, kBd_s]
          unfold b_L_sums_134
          exact fin' g5 (c14.trans c5) (T 4 i l) (by unfold sWay; rw [if_neg r, if_pos o, if_neg p, if_neg v, if_pos t, l2, kx_nI (by omega), if_neg u])
      · obtain ⟨g4, e4, c4⟩ := q_at2 S3 hi hkm
        rw [if_neg t, e4, kBd_s]
        exact fin' g4 (c13.trans c4) (T 5 i k) (by unfold sWay; rw [if_neg r, if_pos o, if_neg p, if_neg v, if_neg t])
    · rw [if_neg o]
      exact fin' g2 cc (T 4 i k) (by unfold sWay; rw [if_neg r, if_neg o])
theorem L_sums {h : kH} (S : St h T nm ni nv) {i a b : Nat} (hi : i < ni) (ha : 786 ≤ a) (hb : 786 ≤ b) (ab : a ≠ b) (h1 : ∀ m, m < nm → h a m = sV T i nm m) (h2 : ∀ w, w < 6 → h b w = 0) : ∃ h', f_L_sums h (nI i) a b = some h' ∧ St h' T nm ni nv ∧ (∀ x, 786 ≤ x → x ≠ b → h' x = h x) ∧ ∀ w, w < 6 → h' b w = sTal T i nm nm w :=
  L_sums_loop hi ha hb ab nm 0 kFuel h (by omega) (kF_lt (by have := S.1.n; omega)) S h1 h2
theorem L_there_loop {h : kH} (S : St h T nm ni nv) {i a : Nat} (hi : i < ni) (h1 : ∀ m, m < nm → h a m = sV T i nm m) : ∀ (d k f : Nat), k + d = nm → d < f → b_L_there_4 h a f (sThr T i nm k) (nI k) = some (sThr T i nm nm) := by
  have hn := S.1.n
  intro d
  induction d with
  | zero =>
    intro k f hk hf
    obtain ⟨f, rfl⟩ : ∃ g, f = g + 1 := ⟨f - 1, by omega⟩
    obtain rfl : k = nm := hk
    rw [b_L_there_4]
    dsimp only
    rw [q_c1 S, kBi_s, if_pos (nI_le (Nat.le_refl _) (by omega))]
  | succ d ih =>
    intro k f hk hf
    obtain ⟨f, rfl⟩ : ∃ g, f = g + 1 := ⟨f - 1, by omega⟩
    have hkm : k < nm := by omega
    have e := ih (k + 1) f (by omega) (by omega)
    have es : sThr T i nm (k + 1) = sThr T i nm k + (if ps T k = true then T 1 k 0 else if sV T i nm k = -6 then 0 else T 1 k 0) := rfl
    rw [es] at e
    rw [b_L_there_4]
    dsimp only
    unfold b_L_there_30
    rw [q_c1 S, kBi_s, if_neg (nI_ge hkm (by omega)), q_of2 S hkm, kBi_s, q_of0 S hkm, kBi_s, kG_nI (by omega) (by decide), kx_nI (by omega), h1 k hkm, nI_1]
    simp only [ps_if, (sV_no S.1 (show i < 12 by omega) k).neg (show nm < 2 ^ 31 by omega)]
    by_cases q : ps T k = true
    · rw [if_pos q]
      rw [if_pos q] at e
      exact e
    · rw [if_neg q]
      rw [if_neg q] at e
      by_cases z : sV T i nm k = -6
      · rw [if_pos z]
        rw [if_pos z] at e
        exact e
      · rw [if_neg z]
        rw [if_neg z] at e
        exact e
theorem L_there {h : kH} (S : St h T nm ni nv) {i a : Nat} (hi : i < ni) (h1 : ∀ m, m < nm → h a m = sV T i nm m) : f_L_there h a = some (sThr T i nm nm) :=
  L_there_loop S hi h1 nm 0 kFuel (by omega) (kF_lt (by have := S.1.n; omega))
theorem L_isQuorum {h : kH} (S : St h T nm ni nv) (x : Int32) : f_L_isQuorum h x = some (sQuo T nm x) := by
  unfold f_L_isQuorum b_L_isQuorum_32 sQuo
  rw [q_c7 S, kBi_s, q_c0 S, kBi_s, q_c18 S, kBi_s, q_c16 S, kBi_s, q_c17 S, kBi_s]
  by_cases a : T 0 6 0 < T 0 2 0
  · rw [if_pos a, if_pos a]
    split <;> simp_all
  · rw [if_neg a, if_neg a]
    split <;> simp_all
theorem L_outcome {h : kH} (S : St h T nm ni nv) {i b : Nat} (hi : i < ni) (h2 : ∀ w, w < 6 → h b w = sTal T i nm nm w) : f_L_outcome h (nI i) b = some (sBec T i nm, h) := by
  have hn := S.1.n
  obtain ⟨y, y1, y2⟩ := tal_n S.1 i 1 nm (Nat.le_refl _)
  obtain ⟨a, a1, a2⟩ := tal_n S.1 i 2 nm (Nat.le_refl _)
  obtain ⟨z, z1, z2⟩ := tal_n S.1 i 0 nm (Nat.le_refl _)
  unfold f_L_outcome sBec sOut
  rw [g6_1, g6_2, q_it0 S hi, kBd_s, q_c21 S, kBi_s, g6_0, show kx 1 = 1 from x_1, show kx 2 = 2 from x_2, show kx 0 = 0 from x_0, h2 1 (by decide), h2 2 (by decide), h2 0 (by decide), y2, a2, z2]
  have e0 : (nI y ≤ 0) = (nI y = 0) := by
    rw [show (0 : Int32) = nI 0 from rfl, leI (by omega) (by omega), eqI (by omega) (by omega)]
    exact propext ⟨fun q => by omega, fun q => by omega⟩
  by_cases k0 : T 2 i 0 = 0
  · rw [if_pos k0, if_pos k0]
    simp only [leI (show y < 2 ^ 31 by omega) (show a < 2 ^ 31 by omega), ltI (show y < 2 ^ 31 by omega) (show a < 2 ^ 31 by omega), eqI (show y < 2 ^ 31 by omega) (show a < 2 ^ 31 by omega)]
    by_cases p : y ≤ a
    · rw [if_pos p, if_pos p]
      by_cases q : y < a
      · rw [if_pos q, if_neg (by omega)]
      · have ya : y = a := by omega
        rw [if_neg q, if_pos ya]
        rcases S.1.s.2.2.2.2.2 with e | e
        · rw [e]; rfl
        · rw [e]; rfl
    · rw [if_neg p, if_neg p]
  · rw [if_neg k0, if_neg k0]
    simp only [e0]
    by_cases p : nI y = 0
    · rw [if_pos p, if_pos p, if_pos p]
      split <;> rfl
    · rw [if_neg p, if_neg p, if_neg p]
      by_cases k1 : T 2 i 0 = 1
      · rw [if_pos k1, if_pos k1]
        have l1 : (nI y < 2 * nI a) = (y < 2 * a) := by rw [show (2 : Int32) = nI 2 from rfl, pk_mul, ltI (by omega) (by omega)]
        have l2 : (3 * nI y < 2 * (nI y + nI a)) = (3 * y < 2 * (y + a)) := by rw [show (2 : Int32) = nI 2 from rfl, show (3 : Int32) = nI 3 from rfl, nI_add, pk_mul, pk_mul, ltI (by omega) (by omega)]
        simp only [l1, l2]
        by_cases v : y < 2 * a
        · rw [if_pos v, if_pos (by omega)]
        · rw [if_neg v, if_neg (by omega)]
      · rw [if_neg k1, if_neg k1]
        have l1 : (nI z + nI a = 0) = (z + a = 0) := by rw [nI_add, show (0 : Int32) = nI 0 from rfl, eqI (by omega) (by omega)]
        have l2 : (nI z = 0) = (z = 0) := by rw [show (0 : Int32) = nI 0 from rfl, eqI (by omega) (by omega)]
        have l3 : (nI a = 0) = (a = 0) := by rw [show (0 : Int32) = nI 0 from rfl, eqI (by omega) (by omega)]
        simp only [l1, l2, l3]
        by_cases v : z = 0
        · by_cases w : a = 0
          · rw [if_pos (by omega), if_pos v, if_pos w]
          · rw [if_neg (by omega), if_pos v, if_neg w]
        · rw [if_neg (by omega), if_neg v]
theorem st_2 (I : Iv T nm ni nv) {i : Nat} (hi : i < ni) : (2 ≤ T 2 i 2) = (sAhead T i = false) := by
  have hn := I.n
  obtain ⟨a, a1, a2⟩ := (I.i1 (show i < 12 by omega)).2.1
  unfold sAhead
  rw [a2]
  have : a = 0 ∨ a = 1 ∨ a = 2 ∨ a = 3 ∨ a = 4 := by omega
  rcases this with rfl | rfl | rfl | rfl | rfl <;> decide
theorem L_item_loop {i a b : Nat} {K : List Nat} (hi : i < ni) (ha : 786 ≤ a) (hb : 786 ≤ b) (ab : a ≠ b) : ∀ (d k f : Nat) (h : kH), k + d = 6 → d < f → St h T nm ni nv → (∀ m, m < nm → h a m = sV T i nm m) → (∀ w, w < 6 → h b w = sTal T i nm nm w) →
    ∃ h', b_L_isItem_34 K (nI i) a b f h (sumI (fun w => sTal T i nm nm w) k) (nI k) = some (true, K, h') ∧ CFe h h' := by
  intro d
  induction d with
  | zero =>
    intro k f h hk hf S h1 h2
    have hn := S.1.n
    obtain ⟨f, rfl⟩ : ∃ g, f = g + 1 := ⟨f - 1, by omega⟩
    obtain rfl : k = 6 := hk
    rw [b_L_isItem_34]
    dsimp only
    obtain ⟨g1, e1, c1⟩ := q_it11 S hi
    have S1 := S.ask c1
    have h1' : ∀ m, m < nm → g1 a m = sV T i nm m := fun m hm => by rw [c1.fr a ha]; exact h1 m hm
    rw [if_pos (show (6 : Int32) ≤ nI 6 from by decide), q_c7 S, kBi_s, tal_all S.1 (show i < 12 by omega) nm (Nat.le_refl _), if_pos (show sumI (fun m => T 1 m 0) nm = sAll T nm from rfl), e1, kBd_s, L_there S1 hi h1', kBi_s, L_isQuorum S1, kBi_s]
    obtain ⟨g2, e2, c2⟩ := q_would S1 hi
    have S2 := S1.ask c2
    have c12 := c1.trans c2
    have fin : ∃ h', b_L_isItem_119 K g1 (nI i) b (kB2 (sQuo T nm (sThr T i nm nm))) (sQuo T nm (sThr T i nm nm)) = some (true, K, h') ∧ CFe h h' := by
      unfold b_L_isItem_119
      rw [if_pos rfl, e2, kBd_s, q_it2 S2 hi, kBd_s]
      simp only [st_2 S.1 hi]
      unfold b_L_isItem_150
      by_cases q : sAhead T i = true
      · rw [if_neg (by rw [q]; decide), if_pos q, L_outcome S2 hi (fun w hw => by rw [c12.fr b hb]; exact h2 w hw), kBd_s, if_pos rfl]
        exact ⟨g2, rfl, c12⟩
      · rw [if_pos (by simpa using q), if_neg q, if_pos rfl]
        exact ⟨g2, rfl, c12⟩
    cases q : sQuo T nm (sThr T i nm nm) with
    | true =>
      rw [q] at fin
      rw [if_pos rfl]
      exact fin
    | false =>
      rw [q] at fin
      rw [if_neg (by decide)]
      exact fin
  | succ d ih =>
    intro k f h hk hf S h1 h2
    have hn := S.1.n
    obtain ⟨f, rfl⟩ : ∃ g, f = g + 1 := ⟨f - 1, by omega⟩
    have hk6 : k < 6 := by omega
    rw [b_L_isItem_34]
    dsimp only
    rw [if_neg (show ¬ (6 : Int32) ≤ nI k from by rw [show (6 : Int32) = nI 6 from rfl, leI (by omega) (by omega)]; omega), kG_nI hk6 (by decide), q_it2 S hi, kBd_s, kx_nI (by omega), h2 k hk6, nI_1]
    simp only [st_2 S.1 hi]
    have nx : ∀ g, CFe h g → ∃ h', b_L_isItem_34 K (nI i) a b f g (sumI (fun w => sTal T i nm nm w) k + sTal T i nm nm k) (nI (k + 1)) = some (true, K, h') ∧ CFe h h' := fun g cg => by
      obtain ⟨h', r1, r2⟩ := ih (k + 1) f g (by omega) (by omega) (S.ask cg) (fun m hm => by rw [cg.fr a ha]; exact h1 m hm) (fun w hw => by rw [cg.fr b hb]; exact h2 w hw)
      exact ⟨h', r1, cg.trans r2⟩
    by_cases q : sAhead T i = true
    · obtain ⟨g1, e1, c1⟩ := q_sum S hi hk6
      rw [if_neg (by rw [q]; decide), show (3 : Int32) = nI 3 from rfl, nI_add, e1, kBd_s, kG_nI hk6 (by decide), c1.fr b hb, h2 k hk6, if_pos q, if_pos rfl]
      exact nx g1 c1
    · rw [if_pos (by simpa using q)]
      exact nx h CFe.rfl'
theorem L_item {h : kH} (S : St h T nm ni nv) (K : List Nat) {i : Nat} (hi : i < ni) : ∃ K' h', f_L_isItem K h (nI i) = some (true, K', h') ∧ St h' T nm ni nv := by
  have e9 : 786 + (K ++ [9]).length = 786 + K.length + 1 := by rw [List.length_append]; rfl
  have e8 : 786 + (K ++ [9] ++ [8]).length = 786 + K.length + 2 := by rw [List.length_append, List.length_append]; rfl
  unfold f_L_isItem
  rw [e9, kLet_s, kLet_s]
  obtain ⟨h3, v1, v2, v3, v4⟩ := L_voices (((S.fill (a := 786 + K.length) (n := 12) (by omega) 0)).fill (a := 786 + K.length + 1) (n := 6) (by omega) 0) hi (K ++ [9] ++ [8]) (a := 786 + K.length) (by omega) (by rw [e8]; omega)
  obtain ⟨h5, s1, s2, s3, s4⟩ := L_sums v2 hi (a := 786 + K.length) (b := 786 + K.length + 1) (by omega) (by omega) (by omega) v4 (fun w hw => by rw [v3 _ (by omega) (by rw [e8]; omega) (by omega), hf_in _ _ hw])
  rw [v1, kBd_s, if_pos rfl, s1, kBi_s]
  obtain ⟨h6, t1, t2⟩ := L_item_loop (K := K ++ [9] ++ [8] ++ [9] ++ [9]) hi (a := 786 + K.length) (b := 786 + K.length + 1) (by omega) (by omega) (by omega) 6 0 kFuel h5 rfl (kF_lt (by omega)) s2 (fun m hm => by rw [s3 _ (by omega) (by omega)]; exact v4 m hm) s4
  exact ⟨_, h6, t1, s2.ask t2⟩
end
