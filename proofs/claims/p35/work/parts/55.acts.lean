/-! PURE: the law's acts: a cell of the script; who comes and goes; holders; told choices; recusals by hand. -/
theorem nI_all (x : Int32) : ∃ p, x = nI p := ⟨x.toBitVec.toNat, by
  apply Int32.toBitVec_inj.1
  show x.toBitVec = BitVec.ofNat 32 x.toBitVec.toNat
  rw [BitVec.ofNat_toNat, BitVec.setWidth_eq]⟩
theorem low22 (x : Int32) : ∃ p, p < 4194304 ∧ x &&& 4194303 = nI p := by
  obtain ⟨p, rfl⟩ := nI_all x
  refine ⟨p &&& 4194303, ?_, fa_and p 4194303⟩
  have : p &&& 4194303 ≤ 4194303 := Nat.and_le_right
  omega
theorem L_cell {L : Nat} {xs : Nat → Int32} (hL : L ≤ 260) {k n : Nat} (hk : k < 1000) (h0 : 0 < n) (hn : n < 1000) : ∃ c, c < n ∧ f_L_cell L xs (nI k) (nI n) = some (nI c) := by
  have ne : ¬ nI n = 0 := by rw [show (0 : Int32) = nI 0 from rfl, eqI (by omega) (by omega)]; omega
  have rem : ∀ p, p < 4194304 → kRem (nI p) (nI n) = nI (p % n) := fun p hp => pk_rem (by omega) h0 (by omega)
  unfold f_L_cell
  by_cases q : L = 0
  · subst q
    rw [if_pos (by decide)]
    unfold kNz
    rw [if_neg ne, show (37 : Int32) = nI 37 from rfl, show (5 : Int32) = nI 5 from rfl, pk_mul, nI_add, rem _ (by omega)]
    exact ⟨_, Nat.mod_lt _ h0, rfl⟩
  · have nL : ¬ Int32.ofNat L = 0 := by
      show ¬ nI L = nI 0
      rw [eqI (by omega) (by omega)]
      exact q
    have r1 : kRem (nI k) (Int32.ofNat L) = nI (k % L) := pk_rem (d := L) (by omega) (by omega) (by omega)
    rw [if_neg nL]
    unfold kNz
    rw [if_neg nL, if_neg ne, r1, kG_nI (Nat.mod_lt _ (by omega)) (by omega)]
    obtain ⟨p, p1, p2⟩ := low22 (xs (kx (nI (k % L))) >>> (kRem (nI k) 7 &&& 31))
    rw [p2, rem p p1]
    exact ⟨_, Nat.mod_lt _ h0, rfl⟩
section
variable {T : kT} {nm ni nv : Nat}
/-- one item is open at most -/
def One (T : kT) (n : Nat) : Prop := ∀ i j, i < n → j < n → T 2 i 2 = 1 → T 2 j 2 = 1 → i = j
/-- time and what waits for it stay as they are, and one item is open at most, as before -/
def Kp (ni : Nat) (T T' : kT) : Prop := T' 0 6 0 = T 0 6 0 ∧ T' 6 = T 6 ∧ (One T ni → One T' ni)
theorem Kp.rfl' {n : Nat} {T : kT} : Kp n T T := ⟨rfl, rfl, fun h => h⟩
/-- the law's act is as it must be, and leaves all well -/
def Acted (T : kT) (nm ni nv : Nat) (r : Option (Bool × kH)) : Prop := ∃ h' T', r = some (true, h') ∧ St h' T' nm ni nv ∧ Kp ni T T'
theorem kp_ts (T : kT) {a b c : Nat} (v : Int32) (h6 : a ≠ 6) (h0 : ¬ (a = 0 ∧ b = 6)) (h2 : ¬ (a = 2 ∧ c = 2) := by omega) : Kp ni T (ts T a b c v) := ⟨ts_ne _ _ (by omega), ts_o _ _ (by omega), fun O i j hi hj e1 e2 => O i j hi hj (by rw [ts_ne _ _ (by omega)] at e1; exact e1) (by rw [ts_ne _ _ (by omega)] at e2; exact e2)⟩
theorem chair_n (I : Iv T nm ni nv) (hm : 0 < nm) : ∃ c, c < nm ∧ T 0 9 0 = nI c := I.h.1.of (I.h.2 hm)
theorem ones_loop (x : Nat) (hx : x < 2 ^ 31) : ∀ (k i f : Nat), i + k = 12 → k < f → b_L_ones_4 (nI x) f (nI (fb_ct (fun j => x.testBit j) i)) (nI i) = some (nI (fb_ct (fun j => x.testBit j) 12)) := by
  intro k
  induction k with
  | zero =>
    intro i f hi hf
    obtain ⟨f, rfl⟩ : ∃ g, f = g + 1 := ⟨f - 1, by omega⟩
    obtain rfl : i = 12 := hi
    rw [b_L_ones_4]
    exact if_pos (show (12 : Int32) ≤ nI 12 from by decide)
  | succ k ih =>
    intro i f hi hf
    obtain ⟨f, rfl⟩ : ∃ g, f = g + 1 := ⟨f - 1, by omega⟩
    rw [b_L_ones_4]
    dsimp only
    rw [if_neg (show ¬ (12 : Int32) ≤ nI i from by rw [show (12 : Int32) = nI 12 from rfl, leI (by omega) (by omega)]; omega), kLet_s, bit_val hx (by omega), nI_add, nI_1]
    have e : fb_ct (fun j => x.testBit j) i + (if x.testBit i = true then 1 else 0) = fb_ct (fun j => x.testBit j) (i + 1) := (fb_ct_succ _ i).symm
    rw [e]
    exact ih (i + 1) f (by omega) (by omega)
theorem L_ones {x : Nat} (hx : x < 2 ^ 31) : f_L_ones (nI x) = some (nI (fb_ct (fun j => x.testBit j) 12)) := ones_loop x hx 12 0 kFuel rfl (kF_lt (by omega))
/-- the lowest of the twelve, looked for from above, as long as the chair isn't there -/
theorem turned_loop {h : kH} (S : St h T nm ni nv) {c x : Nat} (hc : c < nm) (e9 : T 0 9 0 = nI c) (hx : x < 4096) (x4 x6 : Int32) : ∀ (i f : Nat) (r : Int32), i ≤ 12 → i < f → (x.testBit c = false → FstF (fun j => x.testBit j) i 12 r) → (x.testBit c = true → r = nI c) → ∃ r', b_L_isTurned_96 x4 (nI x) x6 f h r (nI i - 1) = b_L_isTurned_139 h x4 (nI x) x6 r' ∧ (x.testBit c = false → Fst (fun j => x.testBit j) 12 r') ∧ (x.testBit c = true → r' = nI c) := by
  have hn := S.1.n
  intro i
  induction i with
  | zero =>
    intro f r hi hf hr hr2
    obtain ⟨f, rfl⟩ : ∃ g, f = g + 1 := ⟨f - 1, by omega⟩
    rw [b_L_isTurned_96]
    exact ⟨r, if_pos neg1_lt, fun q => (hr q).fst, hr2⟩
  | succ i ih =>
    intro f r hi hf hr hr2
    obtain ⟨f, rfl⟩ : ∃ g, f = g + 1 := ⟨f - 1, by omega⟩
    rw [b_L_isTurned_96]
    dsimp only
    have em : nI i + (-1) = nI i - 1 := by rw [Int32.sub_eq_add_neg]
    rw [nI_s1, if_neg (pos_nI (by omega)), q_c5 S, kBi_s, e9, L_has (by omega) (by omega), L_has (by omega) (by omega), em]
    by_cases q : x.testBit c = true
    · rw [if_pos q]
      exact ⟨r, rfl, (fun z => by rw [q] at z; cases z), hr2⟩
    · have q' : x.testBit c = false := by simpa using q
      rw [if_neg q]
      by_cases w : x.testBit i = true
      · rw [if_pos w]
        exact ih f (nI i) (by omega) (by omega) (fun _ => FstF.hit (by omega) w) (fun z => absurd z q)
      · rw [if_neg w]
        exact ih f r (by omega) (by omega) (fun z => FstF.miss (by simpa using w) (hr z)) hr2
theorem fst_msk {p : Nat → Bool} {n : Nat} (hn : n ≤ 12) {r : Int32} (F : Fst (fun j => (msk p n).testBit j) 12 r) : Fst p n r := by
  have e : ∀ j, j < n → (msk p n).testBit j = p j := fun j hj => by rw [msk_bit]; simp [hj]
  have o : ∀ j, ¬ j < n → (msk p n).testBit j = false := fun j hj => by rw [msk_bit]; simp [hj]
  rcases F with ⟨rfl, a⟩ | ⟨k, k1, k2, k3, rfl⟩
  · exact Or.inl ⟨rfl, fun j hj => by rw [← e j hj]; exact a j (by omega)⟩
  · have hk : k < n := by
      by_cases z : k < n
      · exact z
      · have k2' : (msk p n).testBit k = true := k2
        rw [o k z] at k2'
        cases k2'
    exact Or.inr ⟨k, hk, by rw [← e k hk]; exact k2, fun j hj => by rw [← e j (by omega)]; exact k3 j hj, rfl⟩
theorem turned_end {h : kH} {T' : kT} (S : St h T' nm ni nv) (hm : 0 < nm) (x4 ans want : Int32) (hw : (if x4 = 0 then ans = -5 else ans = nI (fb_ct (fun j => (msk (ps T') nm).testBit j) 12))) : b_L_isTurned_65 h x4 (nI (msk (ps T') nm)) ans = some (true, h) := by
  have hn := S.1.n
  have l4 := msk_12 (ps T') hn.1
  obtain ⟨c, hc, e9⟩ := chair_n S.1 hm
  have bit : (msk (ps T') nm).testBit c = ps T' c := by rw [msk_bit]; simp [hc]
  obtain ⟨r, r1, r2⟩ := q_c6 S
  -- the end of it, with the right chair
  have fin : ∀ x7, ChairIs T' nm x7 → b_L_isTurned_139 h x4 (nI (msk (ps T') nm)) ans x7 = some (true, h) := by
    intro x7 K
    obtain rfl := r2.one S.1 K
    unfold b_L_isTurned_139 b_L_isTurned_156
    by_cases q : x4 = 0
    · rw [if_pos q] at hw
      rw [if_pos q, if_pos hw, q_c3 S, kBi_s, if_pos rfl, r1, kBi_s, if_pos rfl]
    · rw [if_neg q] at hw
      rw [if_neg q, L_ones (by omega), kBi_s, if_pos hw, q_c3 S, kBi_s, if_pos rfl, r1, kBi_s, if_pos rfl]
  unfold b_L_isTurned_65
  rw [q_c5 S, kBi_s, kBi_s, e9, L_has (by omega) (by omega), show (11 : Int32) = nI 12 - 1 from by decide]
  by_cases q : ps T' c = true
  · rw [bit, if_pos q]
    obtain ⟨r', a1, a2, a3⟩ := turned_loop S hc e9 l4 x4 ans 12 kFuel (nI c) (Nat.le_refl _) (kF_lt (by omega)) (fun z => by rw [bit, q] at z; cases z) (fun _ => rfl)
    rw [a1]
    refine fin r' ?_
    rw [a3 (by rw [bit]; exact q)]
    exact Or.inl ⟨c, hc, e9, q, rfl⟩
  · have q' : ps T' c = false := by simpa using q
    rw [bit, if_neg q]
    obtain ⟨r', a1, a2, a3⟩ := turned_loop S hc e9 l4 x4 ans 12 kFuel (-6) (Nat.le_refl _) (kF_lt (by omega)) (fun _ => Or.inl ⟨rfl, fun j j1 j2 => by omega⟩) (fun z => by rw [bit, q'] at z; cases z)
    rw [a1]
    exact fin r' (Or.inr ⟨Or.inr ⟨c, hc, e9, q'⟩, fst_msk hn.1 (a2 (by rw [bit]; exact q'))⟩)
theorem A_turned {h : kH} (S : St h T nm ni nv) {m : Nat} (hm : m < nm) (come : Bool) : Acted T nm ni nv (f_L_isTurned h (nI m) (kB2 come)) := by
  have hn := S.1.n
  have l4 := msk_12 (ps T) hn.1
  have bit : f_L_has (nI (msk (ps T) nm)) (nI m) = ps T m := by
    rw [L_has (by omega) (by omega), msk_bit]
    simp [hm]
  have e1 : f_L_isTurned h (nI m) (kB2 come) = b_L_isTurned_21 h (nI m) (kB2 come) (nI (msk (ps T) nm)) (ps T m) come := by
    unfold f_L_isTurned
    rw [q_c3 S, kBi_s, bit]
    cases come
    · exact if_neg (by decide)
    · exact if_pos (by decide)
  rw [e1]
  unfold b_L_isTurned_21 b_L_isTurned_29
  by_cases q : ps T m = come
  · have O := op_turn_no S.1 hm q
    have e2 : (if kB2 (ps T m) = kB2 come then b_L_isTurned_45 h (nI m) (kB2 come) (kB2 false) (nI (msk (ps T) nm)) else b_L_isTurned_45 h (nI m) (kB2 come) (kB2 true) (nI (msk (ps T) nm) ^^^ 1 <<< (nI m &&& 31))) = b_L_isTurned_45 h (nI m) (kB2 come) 0 (nI (msk (ps T) nm)) := by
      rw [q, if_pos rfl, show kB2 false = 0 from rfl]
    rw [if_neg (show ¬ (false = true) by decide), if_pos (show true = true from rfl), e2]
    unfold b_L_isTurned_45
    cases come with
    | true =>
      obtain ⟨h', r1, r2, r3⟩ := S.turn (FP := fun h => f_P_come h (nI m)) O fun _ => rfl
      have r1 : f_P_come h (nI m) = some (-5, h') := r1
      rw [if_pos (by decide), r1, kBd_s, turned_end r2 (by omega) 0 (-5) 0 (by rw [if_pos rfl])]
      exact ⟨h', T, rfl, r2, Kp.rfl'⟩
    | false =>
      obtain ⟨h', r1, r2, r3⟩ := S.turn (FP := fun h => f_P_go h (nI m)) O fun _ => rfl
      have r1 : f_P_go h (nI m) = some (-5, h') := r1
      rw [if_neg (by decide), r1, kBd_s, turned_end r2 (by omega) 0 (-5) 0 (by rw [if_pos rfl])]
      exact ⟨h', T, rfl, r2, Kp.rfl'⟩
  · have O := op_turn S.1 hm q
    have mx : nI (msk (ps T) nm) ^^^ 1 <<< (nI m &&& 31) = nI (msk (ps (ts T 1 m 2 (kB2 come))) nm) := by
      rw [sh_1 m (by omega), fb_xorI]
      congr 1
      apply eq_of_bits
      intro j
      rw [Nat.testBit_xor, msk_bit, msk_bit, Nat.testBit_two_pow]
      have e : ps (ts T 1 m 2 (kB2 come)) j = if j = m then come else ps T j := by
        unfold ps
        by_cases z : j = m
        · rw [z, ts_eq, if_pos rfl]
          cases come <;> decide
        · rw [ts_ne _ _ (by omega), if_neg z]
      rw [e]
      by_cases z : j = m
      · subst z
        rw [if_pos rfl]
        simp only [hm, decide_true, Bool.true_and]
        cases come <;> cases hp : ps T j <;> simp_all
      · rw [if_neg z]
        have : ¬ m = j := fun y => z y.symm
        simp [this]
    have e2 : (if kB2 (ps T m) = kB2 come then b_L_isTurned_45 h (nI m) (kB2 come) (kB2 false) (nI (msk (ps T) nm)) else b_L_isTurned_45 h (nI m) (kB2 come) (kB2 true) (nI (msk (ps T) nm) ^^^ 1 <<< (nI m &&& 31))) = b_L_isTurned_45 h (nI m) (kB2 come) 1 (nI (msk (ps (ts T 1 m 2 (kB2 come))) nm)) := by
      rw [if_neg (fun z => q (by revert z; cases ps T m <;> cases come <;> decide)), mx, show kB2 true = 1 from rfl]
    rw [if_neg (show ¬ (false = true) by decide), if_pos (show true = true from rfl), e2]
    unfold b_L_isTurned_45
    cases come with
    | true =>
      obtain ⟨h', r1, r2, r3⟩ := S.turn (FP := fun h => f_P_come h (nI m)) O fun _ => rfl
      have r1 : f_P_come h (nI m) = some (_, h') := r1
      rw [if_pos (by decide), r1, kBd_s, turned_end r2 (by omega) 1 _ 0 (by rw [if_neg (by decide)])]
      exact ⟨h', _, rfl, r2, kp_ts T _ (by decide) (by omega)⟩
    | false =>
      obtain ⟨h', r1, r2, r3⟩ := S.turn (FP := fun h => f_P_go h (nI m)) O fun _ => rfl
      have r1 : f_P_go h (nI m) = some (_, h') := r1
      rw [if_neg (by decide), r1, kBd_s, turned_end r2 (by omega) 1 _ 0 (by rw [if_neg (by decide)])]
      exact ⟨h', _, rfl, r2, kp_ts T _ (by decide) (by omega)⟩
theorem A_named {h : kH} (S : St h T nm ni nv) {m : Nat} {y z : Int32} (hm : m < nm) (hy : y = -6 ∨ ∃ i, i < ni ∧ y = nI i) (hz : no z nm) : Acted T nm ni nv (f_L_isNamed h (nI m) y z) := by
  have hn := S.1.n
  unfold f_L_isNamed
  by_cases q : z = nI m
  · subst q
    have bad : ∀ g, St g T nm ni nv → ∀ s0, Acted T nm ni nv (b_L_isNamed_20 g (nI m) y (nI m) s0) := by
      intro g Sg s0
      obtain ⟨h', r1, r2, r3⟩ := Sg.turn (FP := fun h => f_P_proxy h (nI m) y (nI m)) (op_proxy_bad Sg.1 hm hy) fun _ => rfl
      have r1 : f_P_proxy g (nI m) y (nI m) = some (-1, h') := r1
      unfold b_L_isNamed_20
      rw [r1, kBd_s, if_pos rfl, if_pos rfl]
      exact ⟨h', T, rfl, r2, Kp.rfl'⟩
    rcases hy with rfl | ⟨i, hi, rfl⟩
    · rw [if_neg (by decide), q_of3 S hm, kBi_s]
      exact bad h S _
    · obtain ⟨g, g1, g2⟩ := q_at4 S hi hm
      rw [if_pos (nI_pos' (by omega)), g1, kBd_s]
      exact bad g (S.ask g2) _
  · rcases hy with rfl | ⟨i, hi, rfl⟩
    · obtain ⟨h', r1, r2, r3⟩ := S.turn (FP := fun h => f_P_proxy h (nI m) (-6) z) (op_proxy_all S.1 hm hz q) fun _ => rfl
      have r1 : f_P_proxy h (nI m) (-6) z = some (T 1 m 3, h') := r1
      rw [if_neg (by decide), q_of3 S hm, kBi_s]
      unfold b_L_isNamed_20 b_L_isNamed_75
      rw [r1, kBd_s, if_neg q, if_pos rfl, if_neg (by decide), q_of3 r2 hm, kBi_s, ts_eq, if_pos rfl]
      exact ⟨h', _, rfl, r2, kp_ts T _ (by decide) (by omega)⟩
    · obtain ⟨g, g1, g2⟩ := q_at4 S hi hm
      obtain ⟨h', r1, r2, r3⟩ := (S.ask g2).turn (FP := fun h => f_P_proxy h (nI m) (nI i) z) (op_proxy_one S.1 hm hi hz q) fun _ => rfl
      have r1 : f_P_proxy g (nI m) (nI i) z = some (T 3 i m, h') := r1
      obtain ⟨g', e1, e2⟩ := q_at4 r2 hi hm
      rw [if_pos (nI_pos' (by omega)), g1, kBd_s]
      unfold b_L_isNamed_20 b_L_isNamed_75
      rw [r1, kBd_s, if_neg q, if_pos rfl, if_pos (nI_pos' (by omega)), e1, kBd_s, ts_eq, if_pos rfl]
      exact ⟨g', _, rfl, r2.ask e2, kp_ts T _ (by decide) (by omega)⟩
theorem A_told {h : kH} (S : St h T nm ni nv) {i m : Nat} {z : Int32} (hm : m < nm) (hi : i < ni) (hz : no z 3) : Acted T nm ni nv (f_L_isTold h (nI m) (nI i) z) := by
  have hn := S.1.n
  unfold f_L_isTold
  rw [q_it2 S hi, kBd_s]
  simp only [st_2 S.1 hi]
  obtain ⟨g, g1, g2⟩ := q_at2 S hi hm
  have Sg := S.ask g2
  unfold b_L_isTold_15
  by_cases a : sAhead T i = true
  · obtain ⟨h', r1, r2, r3⟩ := Sg.turn (FP := fun h => f_P_tell h (nI m) (nI i) z) (op_tell S.1 hm hi hz a) fun _ => rfl
    have r1 : f_P_tell g (nI m) (nI i) z = some (T 5 i m, h') := r1
    obtain ⟨g', e1, e2⟩ := q_at2 r2 hi hm
    rw [if_neg (by rw [a]; decide), g1, kBd_s, r1, kBd_s, if_pos rfl]
    unfold b_L_isTold_45 b_L_isTold_66
    rw [if_pos rfl, e1, kBd_s, if_neg (by decide), ts_eq, if_pos rfl]
    exact ⟨g', _, rfl, r2.ask e2, kp_ts T _ (by decide) (by omega)⟩
  · obtain ⟨h', r1, r2, r3⟩ := Sg.turn (FP := fun h => f_P_tell h (nI m) (nI i) z) (op_tell_no S.1 hm hi hz a) fun _ => rfl
    have r1 : f_P_tell g (nI m) (nI i) z = some (-5, h') := r1
    obtain ⟨g', e1, e2⟩ := q_at2 r2 hi hm
    rw [if_pos (by simpa using a), g1, kBd_s, r1, kBd_s, if_neg (by decide)]
    unfold b_L_isTold_45 b_L_isTold_66
    rw [if_pos rfl, e1, kBd_s, if_pos (show kB2 false = 0 from rfl), if_pos rfl]
    exact ⟨g', T, rfl, r2.ask e2, Kp.rfl'⟩
theorem A_recused {h : kH} (S : St h T nm ni nv) {i m : Nat} {z : Int32} (hm : m < nm) (hi : i < ni) (hz : z = 0 ∨ z = 1) : Acted T nm ni nv (f_L_isRecused h (nI m) (nI i) z) := by
  have hn := S.1.n
  unfold f_L_isRecused
  rw [q_it2 S hi, kBd_s]
  simp only [st_2 S.1 hi]
  obtain ⟨g, g1, g2⟩ := q_at5 S hi hm
  have Sg := S.ask g2
  have look : ∀ s0, b_L_isRecused_15 h (nI m) (nI i) z s0 = b_L_isRecused_49 g (nI m) (nI i) z (kB2 s0) (if sRec T i m = true then 1 else 0) (if f_M_has (T 2 i 1) (T 1 m 1) = true then 1 else z) := by
    intro s0
    unfold b_L_isRecused_15
    rw [g1, kBd_s, q_it1 Sg hi, kBd_s, q_of1 Sg hm, kBi_s, L_has_eq]
    split <;> rfl
  rw [look, look]
  unfold b_L_isRecused_49
  by_cases a : sAhead T i = true
  · obtain ⟨b, b1, b2, O⟩ := op_recuse S.1 hm hi hz a
    obtain ⟨h', r1, r2, r3⟩ := Sg.turn (FP := fun h => f_P_recuse h (nI m) (nI i) z) O fun _ => rfl
    have r1 : f_P_recuse g (nI m) (nI i) z = some (_, h') := r1
    obtain ⟨g', e1, e2⟩ := q_at5 r2 hi hm
    have er : sRec (ts T 2 i 11 (nI b)) i m = (f_M_has (T 2 i 1) (T 1 m 1) || decide (z = 1)) := by
      unfold sRec
      rw [ts_ne _ (c' := 1) _ (by omega), ts_eq, ts_o _ _ (show 1 ≠ 2 by decide), M_has (by omega) (by omega), b2]
    have ev : kB2 (sRec (ts T 2 i 11 (nI b)) i m) = if f_M_has (T 2 i 1) (T 1 m 1) = true then 1 else z := by
      rw [er]
      cases f_M_has (T 2 i 1) (T 1 m 1) with
      | true => rfl
      | false => rcases hz with e | e <;> rw [e] <;> decide
    have ew : (if sRec (ts T 2 i 11 (nI b)) i m = true then (1 : Int32) else 0) = if f_M_has (T 2 i 1) (T 1 m 1) = true then 1 else z := by
      rw [← ev]
      cases sRec (ts T 2 i 11 (nI b)) i m <;> rfl
    rw [if_neg (by rw [a]; decide), r1, kBd_s, if_neg (by decide)]
    unfold b_L_isRecused_70 b_L_isRecused_92
    rw [if_pos ev, e1, kBd_s, if_neg (by decide), if_pos ew]
    exact ⟨g', _, rfl, r2.ask e2, kp_ts T _ (by decide) (by omega)⟩
  · obtain ⟨h', r1, r2, r3⟩ := Sg.turn (FP := fun h => f_P_recuse h (nI m) (nI i) z) (op_recuse_no S.1 hm hi hz a) fun _ => rfl
    have r1 : f_P_recuse g (nI m) (nI i) z = some (-5, h') := r1
    obtain ⟨g', e1, e2⟩ := q_at5 r2 hi hm
    rw [if_pos (by simpa using a), r1, kBd_s, if_pos (show kB2 false = 0 from rfl)]
    unfold b_L_isRecused_70 b_L_isRecused_92
    rw [if_pos rfl, e1, kBd_s, if_pos (show kB2 false = 0 from rfl), if_pos rfl]
    exact ⟨g', T, rfl, r2.ask e2, Kp.rfl'⟩
end
