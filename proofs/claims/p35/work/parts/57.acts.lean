/-! PURE: the law's last acts, an act of any kind, and the whole law. -/
section
variable {T : kT} {nm ni nv : Nat}
/-- as FstF, with -1 for none -/
def FstN (p : Nat → Bool) (i n : Nat) (r : Int32) : Prop := (r = -1 ∧ ∀ j, i ≤ j → j < n → p j = false) ∨ ∃ k, i ≤ k ∧ k < n ∧ p k = true ∧ (∀ j, i ≤ j → j < k → p j = false) ∧ r = nI k
theorem FstN.hit {p : Nat → Bool} {i n : Nat} (hi : i < n) (hp : p i = true) : FstN p i n (nI i) := Or.inr ⟨i, Nat.le_refl _, hi, hp, fun j a b => by omega, rfl⟩
theorem FstN.miss {p : Nat → Bool} {i n : Nat} {r : Int32} (hp : p i = false) (h : FstN p (i + 1) n r) : FstN p i n r := by
  have key : ∀ j, i ≤ j → j = i ∨ i + 1 ≤ j := fun j h => by omega
  rcases h with ⟨rfl, a⟩ | ⟨k, k0, k1, k2, k3, rfl⟩
  · exact Or.inl ⟨rfl, fun j h1 h2 => (key j h1).elim (fun e => by rw [e]; exact hp) (fun q => a j q h2)⟩
  · exact Or.inr ⟨k, by omega, k1, k2, fun j h1 h2 => (key j h1).elim (fun e => by rw [e]; exact hp) (fun q => k3 j q h2), rfl⟩
theorem cast_end {h : kH} (S : St h T nm ni nv) {w : Nat} (w1 : 1 ≤ w) (w2 : w ≤ 2) {r x : Int32} (hx : FstN (fun i => decide (T 2 i 2 = 2)) 0 ni x) (K : ChairIs T nm r) (can : Bool) (hcan : can = true ↔ ∃ i c, i < ni ∧ c < nm ∧ x = nI i ∧ r = nI c ∧ sRec T i c = false) : Acted T nm ni nv (b_L_isCast_66 h (nI w) x r can) := by
  have hn := S.1.n
  -- the item, as the class finds it
  have item : ∀ i, i < ni → Fst (fun i => decide (T 2 i 2 = 2)) ni (nI i) → x = nI i := by
    intro i hi F
    rcases hx with ⟨rfl, a⟩ | ⟨k, k0, k1, k2, k3, rfl⟩
    · have := fst_st (by omega) hn.2.1 F
      have q := a i (Nat.zero_le _) hi
      exact absurd this (of_decide_eq_false q)
    · have F2 : Fst (fun i => decide (T 2 i 2 = 2)) ni (nI k) := Or.inr ⟨k, k1, k2, fun j hj => k3 j (Nat.zero_le _) hj, rfl⟩
      exact F2.one F
  unfold b_L_isCast_66 b_L_isCast_82
  cases can with
  | true =>
    obtain ⟨i, c, hi, hc, rfl, rfl, hr⟩ := hcan.mp rfl
    have F : Fst (fun i => decide (T 2 i 2 = 2)) ni (nI i) := by
      rcases hx with ⟨e, a⟩ | ⟨k, k0, k1, k2, k3, e⟩
      · exact absurd e (fun z => by
          have := congrArg Int32.toInt z
          rw [nI_toInt (by omega)] at this
          have h1 : (-1 : Int32).toInt = -1 := by decide
          omega)
      · rw [e]
        exact Or.inr ⟨k, k1, k2, fun j hj => k3 j (Nat.zero_le _) hj, rfl⟩
    obtain ⟨h', o1, o2, o3⟩ := S.turn (FP := fun h => f_P_cast h (nI w)) (op_cast S.1 w1 w2 hi hc F K hr) fun _ => rfl
    have o1 : f_P_cast h (nI w) = some (nI (2 + w), h') := o1
    have ew : (2 : Int32) + nI w = nI (2 + w) := by rw [show (2 : Int32) = nI 2 from rfl, nI_add]
    have e2 : tCas T i c w 2 i 2 = nI (2 + w) := by
      unfold tCas
      rw [ts_o _ _ (by decide), ts_ne _ _ (by omega), ts_eq]
    have e9 : tCas T i c w 2 i 9 = nI c := by
      unfold tCas
      rw [ts_o _ _ (by decide), ts_eq]
    have e4 : tCas T i c w 1 c 4 = T 1 c 4 + 1 := by
      unfold tCas
      rw [ts_eq]
    rw [if_pos (nI_pos' (by omega)), q_of5 S hc, kBi_s, o1, kBd_s, if_neg (show ¬ kB2 true = 0 by decide), ew, if_pos rfl, q_it2 o2 hi, kBd_s, if_pos e2, q_it9 o2 hi, kBd_s, if_pos e9, q_of5 o2 hc, kBi_s, if_pos e4]
    refine ⟨h', _, rfl, o2, ?_, ?_, fun O a b ha hb a1 b1 => ?_⟩
    · unfold tCas
      rw [ts_o _ _ (by decide), ts_o _ _ (by decide), ts_o _ _ (by decide)]
    · unfold tCas
      rw [ts_o _ _ (by decide), ts_o _ _ (by decide), ts_o _ _ (by decide)]
    · have st : ∀ j, tCas T i c w 2 j 2 = 1 → T 2 j 2 = 1 := by
        intro j hj
        by_cases q : j = i
        · rw [q, e2, show (1 : Int32) = nI 1 from rfl, eqI (by omega) (by omega)] at hj
          omega
        · unfold tCas at hj
          rw [ts_o _ _ (by decide), ts_ne _ _ (by omega), ts_ne _ _ (by omega)] at hj
          exact hj
      exact O a b ha hb (st a a1) (st b b1)
  | false =>
    obtain ⟨h', o1, o2, o3⟩ := S.turn (FP := fun h => f_P_cast h (nI w)) (op_cast_no S.1 w1 w2 (fun i c hi hc F K' => by
      cases q : sRec T i c with
      | true => rfl
      | false =>
        have := hcan.mpr ⟨i, c, hi, hc, item i hi F, K.one S.1 K', q⟩
        cases this)) fun _ => rfl
    have o1 : f_P_cast h (nI w) = some (-5, h') := o1
    have fin : ∀ s0 : Int32, Acted T nm ni nv (kBd (f_P_cast h (nI w)) fun v5 h4 => if kB2 false = 0 then (if v5 = (-5) then (if x < 0 then (some (true, h4)) else (kBd (f_P_ofItem h4 x 2) fun v12 h11 => if v12 = 2 then (some (true, h11)) else (some (false, h11)))) else (some (false, h4))) else (if v5 = (2 + nI w) then (kBd (f_P_ofItem h4 x 2) fun v7 h6 => if v7 = (2 + nI w) then (kBd (f_P_ofItem h6 x 9) fun v9 h8 => if v9 = r then (kBi (f_P_ofMember h8 r 5) fun v10 => if v10 = (s0 + 1) then (some (true, h8)) else (some (false, h8))) else (some (false, h8))) else (some (false, h6))) else (some (false, h4)))) := by
      intro s0
      rw [o1, kBd_s, if_pos (show kB2 false = 0 from rfl), if_pos rfl]
      rcases hx with ⟨rfl, a⟩ | ⟨k, k0, k1, k2, k3, rfl⟩
      · rw [if_pos (by decide)]
        exact ⟨h', T, rfl, o2, Kp.rfl'⟩
      · rw [if_neg (pos_nI (by omega)), q_it2 o2 k1, kBd_s, if_pos (of_decide_eq_true k2)]
        exact ⟨h', T, rfl, o2, Kp.rfl'⟩
    by_cases q : 0 ≤ r
    · rcases K.no with e | ⟨c, hc, rfl⟩
      · rw [e] at q
        exact absurd q (by decide)
      · rw [if_pos q, q_of5 S hc, kBi_s]
        exact fin _
    · rw [if_neg q]
      exact fin _
theorem cast_loop {w : Nat} (w1 : 1 ≤ w) (w2 : w ≤ 2) : ∀ (i f : Nat) (h : kH) (x : Int32), St h T nm ni nv → i ≤ ni → i < f → FstN (fun i => decide (T 2 i 2 = 2)) i ni x → Acted T nm ni nv (b_L_isCast_10 (nI w) f h x (nI i - 1)) := by
  intro i
  induction i with
  | zero =>
    intro f h x S hi hf hx
    have hn := S.1.n
    obtain ⟨f, rfl⟩ : ∃ g, f = g + 1 := ⟨f - 1, by omega⟩
    obtain ⟨r, r1, K⟩ := q_c6 S
    rw [b_L_isCast_10]
    dsimp only
    rw [if_pos neg1_lt, r1, kBi_s]
    by_cases q : x < 0
    · rw [if_pos q]
      unfold b_L_isCast_65
      exact cast_end S w1 w2 hx K false ⟨fun z => (by cases z), fun ⟨i, c, hi, _, e, _⟩ => by
        rw [e] at q
        exact absurd q (pos_nI (by omega))⟩
    · rw [if_neg q]
      by_cases p : r < 0
      · rw [if_pos p]
        unfold b_L_isCast_65
        exact cast_end S w1 w2 hx K false ⟨fun z => (by cases z), fun ⟨i, c, _, hc, _, e, _⟩ => by
          rw [e] at p
          exact absurd p (pos_nI (by omega))⟩
      · rw [if_neg p]
        rcases K.no with e | ⟨c, hc, rfl⟩
        · rw [e] at p
          exact absurd n6_lt p
        · obtain ⟨k, hk, rfl⟩ : ∃ k, k < ni ∧ x = nI k := by
            rcases hx with ⟨rfl, _⟩ | ⟨k, _, k1, _, _, rfl⟩
            · exact absurd (by decide) q
            · exact ⟨k, k1, rfl⟩
          obtain ⟨g, g1, g2⟩ := q_at5 S hk hc
          rw [g1, kBd_s]
          simp only [ps_if0]
          by_cases z : sRec T k c = false
          · rw [if_pos z]
            exact cast_end (S.ask g2) w1 w2 hx K true ⟨fun _ => ⟨k, c, hk, hc, rfl, rfl, z⟩, fun _ => rfl⟩
          · rw [if_neg z]
            unfold b_L_isCast_65
            refine cast_end (S.ask g2) w1 w2 hx K false ⟨fun z => (by cases z), fun ⟨i, c', hi, hc', e1, e2, e3⟩ => ?_⟩
            rw [eqI (by omega) (by omega)] at e1 e2
            rw [← e1, ← e2] at e3
            exact absurd e3 z
  | succ i ih =>
    intro f h x S hi hf hx
    have hn := S.1.n
    obtain ⟨f, rfl⟩ : ∃ g, f = g + 1 := ⟨f - 1, by omega⟩
    rw [b_L_isCast_10]
    dsimp only
    have em : nI i + (-1) = nI i - 1 := by rw [Int32.sub_eq_add_neg]
    rw [nI_s1, if_neg (pos_nI (by omega)), q_it2 S (show i < ni by omega), kBd_s, em]
    by_cases q : T 2 i 2 = 2
    · rw [if_pos q]
      exact ih f h (nI i) S (by omega) (by omega) (FstN.hit (by omega) (by simp [q]))
    · rw [if_neg q]
      exact ih f h x S (by omega) (by omega) (FstN.miss (by simp [q]) hx)
theorem A_cast {h : kH} (S : St h T nm ni nv) {w : Nat} (w1 : 1 ≤ w) (w2 : w ≤ 2) : Acted T nm ni nv (f_L_isCast h (nI w)) := by
  have hn := S.1.n
  unfold f_L_isCast
  rw [q_c2 S, kBi_s]
  exact cast_loop w1 w2 ni kFuel h (-1) S (Nat.le_refl _) (kF_lt (by omega)) (Or.inl ⟨rfl, fun j a b => by omega⟩)
/-- what holds between two acts, at the minute t -/
def J (h : kH) (T : kT) (nm nv t : Nat) : Prop := St h T nm 4 nv ∧ 0 < nm ∧ T 0 6 0 = nI t ∧ One T 4 ∧ ∀ k, k < nv → ∃ a, a ≤ t + 5 ∧ T 6 k 0 = nI a
theorem J.kp {h h' : kH} {T' : kT} {t : Nat} (j : J h T nm nv t) (S : St h' T' nm 4 nv) (K : Kp 4 T T') : J h' T' nm nv t := by
  obtain ⟨_, j1, j2, j3, j4⟩ := j
  exact ⟨S, j1, K.1.trans j2, K.2.2 j3, fun k hk => by rw [K.2.1]; exact j4 k hk⟩
def Done (nm t : Nat) (r : Option (Bool × List Nat × kH)) : Prop := ∃ K' h' T' nv' t', r = some (true, K', h') ∧ t' ≤ t + 60 ∧ J h' T' nm nv' t'
theorem J.act {h : kH} {t : Nat} {K : List Nat} {r : Option (Bool × kH)} (j : J h T nm nv t) (A : Acted T nm 4 nv r) : Done nm t (kBd r fun v g => some (v, K, g)) := by
  obtain ⟨h', T', e, S, k⟩ := A
  rw [e, kBd_s]
  exact ⟨K, h', T', nv, t, rfl, by omega, j.kp S k⟩
theorem J.actK {h : kH} {t : Nat} {r : Option (Bool × List Nat × kH)} (j : J h T nm nv t) (A : ActedK T nm 4 nv r) : Done nm t (kBt r fun v K g => some (v, K, g)) := by
  obtain ⟨K', h', T', e, S, k⟩ := A
  rw [e]
  exact ⟨K', h', T', nv, t, rfl, by omega, j.kp S k⟩
theorem A_passed {h : kH} {t w : Nat} {K : List Nat} (j : J h T nm nv t) (ht : t ≤ 8000) (hw : 1 ≤ w ∧ w ≤ 60) : Done nm t (kBd (f_L_isPassed h (nI w)) fun v g => some (v, K, g)) := by
  obtain ⟨S, j1, j2, j3, j4⟩ := j
  have hn := S.1.n
  obtain ⟨T', nv', O, o1, o2, o3, o4, o5⟩ := op_pass S.1 j2 (show 1 ≤ w ∧ w ≤ 600 by omega) (by omega) (bd := t + 5) (by omega) j4
  obtain ⟨h', r1, r2, r3⟩ := S.turn (FP := fun h => f_P_pass h (nI w)) O fun _ => rfl
  have r1 : f_P_pass h (nI w) = some (nI (t + w), h') := r1
  have b73 : b_L_isPassed_73 h' (nI w) = some (true, h') := by
    unfold b_L_isPassed_73
    by_cases q : w < 5
    · rw [if_pos (by rw [show (5 : Int32) = nI 5 from rfl, ltI (by omega) (by omega)]; exact q)]
    · have z : nv' = 0 := by
        by_cases y : nv' = 0
        · exact y
        · obtain ⟨a, a1, a2, _⟩ := o4 0 (by omega)
          omega
      rw [if_neg (by rw [show (5 : Int32) = nI 5 from rfl, ltI (by omega) (by omega)]; exact q), q_c13 r2, kBi_s, z, if_pos (show nI 0 = 0 from rfl)]
  have e : f_L_isPassed h (nI w) = some (true, h') := by
    unfold f_L_isPassed
    rw [q_c0 S, kBi_s, q_c3 S, kBi_s, q_c13 S, kBi_s, r1, kBd_s, j2, nI_add, if_pos rfl, q_c0 r2, kBi_s, o1, if_pos rfl, q_c13 r2, kBi_s, kBi_s, if_neg (by rw [ltI (by omega) (by omega)]; omega)]
    by_cases q : nv' < nv
    · rw [if_pos (by rw [ltI (by omega) (by omega)]; exact q)]
      exact b73
    · rw [if_neg (by rw [ltI (by omega) (by omega)]; exact q), q_c3 r2, kBi_s, if_pos]
      · exact b73
      · congr 1
        exact msk_cong fun m hm => o3 (by omega) m (by omega)
  rw [e, kBd_s]
  refine ⟨K, h', T', nv', t + w, rfl, by omega, r2, j1, o1, fun a b ha hb e1 e2 => j3 a b ha hb (by rw [← o5]; exact e1) (by rw [← o5]; exact e2), fun k hk => ?_⟩
  obtain ⟨a, a1, a2, a3⟩ := o4 k hk
  exact ⟨a, by omega, a3⟩
theorem A_later {L : Nat} {xs : Nat → Int32} {h : kH} {t m c d : Nat} {K : List Nat} (j : J h T nm nv t) (ht : t ≤ 8000) (hm : m < nm) (hc : c < 5) (hd : d < 2) : Done nm t (kBd (f_P_later h ((nI t + 1) + nI c) (nI m) (nI d)) fun v54 h53 => if nI nv = 20 then (b_L_isAct_330 L xs K h53 v54 (-4)) else (b_L_isAct_330 L xs K h53 v54 (nI nv + 1))) := by
  have j0 := j
  obtain ⟨S, j1, j2, j3, j4⟩ := j
  have hn := S.1.n
  have q20 : (nI nv = 20) = (nv = 20) := eqI (a := nv) (b := 20) (by omega) (by decide)
  have ea : nI t + 1 + nI c = nI (t + 1 + c) := by rw [nI_1, nI_add]
  rw [ea]
  unfold b_L_isAct_330
  by_cases f : nv = 20
  · obtain ⟨h', r1, r2, r3⟩ := S.turn (FP := fun h => f_P_later h (nI (t + 1 + c)) (nI m) (nI d)) (op_later_no S.1 (by omega) j2 ⟨by omega, by omega⟩ hm (by omega) f) fun _ => rfl
    have r1 : f_P_later h (nI (t + 1 + c)) (nI m) (nI d) = some (-4, h') := r1
    rw [r1, kBd_s, if_pos (by rw [q20]; exact f), if_pos rfl]
    exact ⟨K, h', T, nv, t, rfl, by omega, j0.kp r2 Kp.rfl'⟩
  · obtain ⟨h', r1, r2, r3⟩ := S.turn (FP := fun h => f_P_later h (nI (t + 1 + c)) (nI m) (nI d)) (op_later S.1 (by omega) j2 ⟨by omega, by omega⟩ hm (by omega) (by omega)) fun _ => rfl
    have r1 : f_P_later h (nI (t + 1 + c)) (nI m) (nI d) = some (nI (nv + 1), h') := r1
    rw [r1, kBd_s, if_neg (by rw [q20]; exact f), nI_1, if_pos rfl]
    refine ⟨K, h', _, nv + 1, t, rfl, by omega, r2, j1, ?_, fun a b ha hb e1 e2 => j3 a b ha hb ?_ ?_, fun k hk => ?_⟩
    · rw [tMv_0 _ _ _ _ _ (by decide)]
      exact j2
    · rw [tMv_o _ _ _ _ _ (by decide) (by decide)] at e1
      exact e1
    · rw [tMv_o _ _ _ _ _ (by decide) (by decide)] at e2
      exact e2
    · by_cases y : k = nv
      · rw [y, tMv_60]
        exact ⟨t + 1 + c, by omega, rfl⟩
      · rw [tMv_6 _ _ _ _ _ y]
        exact j4 k (by omega)
theorem A_act {L : Nat} {xs : Nat → Int32} {h : kH} {t p : Nat} {K : List Nat} (hL : L ≤ 260) (hp : p < 900) (j : J h T nm nv t) (ht : t ≤ 8000) : Done nm t (f_L_isAct L xs K h (nI p)) := by
  have j0 := j
  obtain ⟨S, j1, j2, j3, j4⟩ := j
  have hn := S.1.n
  have c : ∀ d n, d < 5 → 0 < n → n < 1000 → ∃ c, c < n ∧ f_L_cell L xs (nI p + nI d) (nI n) = some (nI c) := fun d n hd h0 hn => by
    rw [nI_add]
    exact L_cell hL (by omega) h0 hn
  obtain ⟨m, hm, em⟩ := c 1 nm (by decide) j1 (by omega)
  obtain ⟨i, hi, ei⟩ := c 2 4 (by decide) (by decide) (by decide)
  obtain ⟨v, hv, ev⟩ := L_cell (xs := xs) hL (k := p) (n := 16) (by omega) (by decide) (by decide)
  obtain ⟨a2, ha2, ea2⟩ := c 3 2 (by decide) (by decide) (by decide)
  obtain ⟨a3, ha3, ea3⟩ := c 3 3 (by decide) (by decide) (by decide)
  obtain ⟨a4, ha4, ea4⟩ := c 3 4 (by decide) (by decide) (by decide)
  obtain ⟨a5, ha5, ea5⟩ := c 3 5 (by decide) (by decide) (by decide)
  obtain ⟨a60, ha60, ea60⟩ := c 3 60 (by decide) (by decide) (by decide)
  obtain ⟨b2, hb2, eb2⟩ := c 4 2 (by decide) (by decide) (by decide)
  obtain ⟨b6, hb6, eb6⟩ := c 4 6 (by decide) (by decide) (by decide)
  obtain ⟨bm, hbm, ebm⟩ := c 4 nm (by decide) j1 (by omega)
  have em : f_L_cell L xs (nI p + 1) (nI nm) = some (nI m) := em
  have ei : f_L_cell L xs (nI p + 2) (nI 4) = some (nI i) := ei
  have ev : f_L_cell L xs (nI p) 16 = some (nI v) := ev
  have ea2 : f_L_cell L xs (nI p + 3) 2 = some (nI a2) := ea2
  have ea3 : f_L_cell L xs (nI p + 3) 3 = some (nI a3) := ea3
  have ea4 : f_L_cell L xs (nI p + 3) 4 = some (nI a4) := ea4
  have ea5 : f_L_cell L xs (nI p + 3) 5 = some (nI a5) := ea5
  have ea60 : f_L_cell L xs (nI p + 3) 60 = some (nI a60) := ea60
  have eb2 : f_L_cell L xs (nI p + 4) 2 = some (nI b2) := eb2
  have eb6 : f_L_cell L xs (nI p + 4) 6 = some (nI b6) := eb6
  have ebm : f_L_cell L xs (nI p + 4) (nI nm) = some (nI bm) := ebm
  have turned : ∀ come, Done nm t (b_L_isAct_126 L xs K h (nI m) come) := fun come => j0.act (A_turned S hm come)
  have named : ∀ y, (y = -6 ∨ ∃ i, i < 4 ∧ y = nI i) → Done nm t (b_L_isAct_150 L xs K h (nI p) (nI m) y) := by
    intro y hy
    unfold b_L_isAct_150 b_L_isAct_179
    rw [eb6, kBi_s, q_c1 S, kBi_s, ebm, kBi_s]
    by_cases q : nI b6 = 0
    · rw [if_pos q]
      exact j0.act (A_named S hm hy (Or.inl rfl))
    · rw [if_neg q]
      exact j0.act (A_named S hm hy (Or.inr ⟨bm, hbm, rfl⟩))
  have voted : Done nm t (kBd (f_L_isVoted h (nI m) (nI a3)) fun v g => some (v, K, g)) := j0.act (A_voted S hm (by omega))
  unfold f_L_isAct
  simp only [q_c1 S, em, q_c2 S, show f_L_cell L xs (nI p + 2) (nI 4) = some (nI i) from ei, ev, ea2, ea3, ea4, ea5, ea60, eb2, q_c0 S, q_c13 S, j2, kBi_s]
  have hv16 : v = 0 ∨ v = 1 ∨ v = 2 ∨ v = 3 ∨ v = 4 ∨ v = 5 ∨ v = 6 ∨ v = 7 ∨ v = 8 ∨ v = 9 ∨ v = 10 ∨ v = 11 ∨ v = 12 ∨ v = 13 ∨ v = 14 ∨ v = 15 := by omega
  rcases hv16 with rfl | rfl | rfl | rfl | rfl | rfl | rfl | rfl | rfl | rfl | rfl | rfl | rfl | rfl | rfl | rfl
  · rw [if_pos (show nI 0 = 0 from rfl)]
    by_cases q : nI a3 = 0
    · rw [if_pos q]
      exact turned false
    · rw [if_neg q]
      exact turned true
  · rw [if_neg (show ¬ nI 1 = 0 by decide), if_pos (show nI 1 = 1 from rfl)]
    by_cases q : nI a3 = 0
    · rw [if_pos q]
      exact turned false
    · rw [if_neg q]
      exact turned true
  · rw [if_neg (show ¬ nI 2 = 0 by decide), if_neg (show ¬ nI 2 = 1 by decide), if_pos (show nI 2 = 2 from rfl)]
    by_cases q : nI a2 = 0
    · rw [if_pos q]
      exact named (-6) (Or.inl rfl)
    · rw [if_neg q]
      exact named (nI i) (Or.inr ⟨i, hi, rfl⟩)
  · rw [if_neg (show ¬ nI 3 = 0 by decide), if_neg (show ¬ nI 3 = 1 by decide), if_neg (show ¬ nI 3 = 2 by decide), if_pos (show nI 3 = 3 from rfl)]
    by_cases q : nI a2 = 0
    · rw [if_pos q]
      exact named (-6) (Or.inl rfl)
    · rw [if_neg q]
      exact named (nI i) (Or.inr ⟨i, hi, rfl⟩)
  · rw [if_neg (show ¬ nI 4 = 0 by decide), if_neg (show ¬ nI 4 = 1 by decide), if_neg (show ¬ nI 4 = 2 by decide), if_neg (show ¬ nI 4 = 3 by decide), if_pos (show nI 4 = 4 from rfl)]
    unfold b_L_isAct_212
    by_cases q : nI a4 = 3
    · rw [if_pos q]
      exact j0.act (A_told S hm hi (Or.inl rfl))
    · rw [if_neg q]
      exact j0.act (A_told S hm hi (Or.inr ⟨a3, ha3, rfl⟩))
  · rw [if_neg (show ¬ nI 5 = 0 by decide), if_neg (show ¬ nI 5 = 1 by decide), if_neg (show ¬ nI 5 = 2 by decide), if_neg (show ¬ nI 5 = 3 by decide), if_neg (show ¬ nI 5 = 4 by decide), if_pos (show nI 5 = 5 from rfl)]
    have z : nI a2 = 0 ∨ nI a2 = 1 := by
      have : a2 = 0 ∨ a2 = 1 := by omega
      rcases this with rfl | rfl
      · exact Or.inl rfl
      · exact Or.inr rfl
    exact j0.act (A_recused S hm hi z)
  · rw [if_neg (show ¬ nI 6 = 0 by decide), if_neg (show ¬ nI 6 = 1 by decide), if_neg (show ¬ nI 6 = 2 by decide), if_neg (show ¬ nI 6 = 3 by decide), if_neg (show ¬ nI 6 = 4 by decide), if_neg (show ¬ nI 6 = 5 by decide), if_pos (show nI 6 = 6 from rfl)]
    exact j0.actK (A_opened S K hi)
  · rw [if_neg (show ¬ nI 7 = 0 by decide), if_neg (show ¬ nI 7 = 1 by decide), if_neg (show ¬ nI 7 = 2 by decide), if_neg (show ¬ nI 7 = 3 by decide), if_neg (show ¬ nI 7 = 4 by decide), if_neg (show ¬ nI 7 = 5 by decide), if_neg (show ¬ nI 7 = 6 by decide), if_pos (show nI 7 = 7 from rfl)]
    exact j0.actK (A_opened S K hi)
  · rw [if_neg (show ¬ nI 8 = 0 by decide), if_neg (show ¬ nI 8 = 1 by decide), if_neg (show ¬ nI 8 = 2 by decide), if_neg (show ¬ nI 8 = 3 by decide), if_neg (show ¬ nI 8 = 4 by decide), if_neg (show ¬ nI 8 = 5 by decide), if_neg (show ¬ nI 8 = 6 by decide), if_neg (show ¬ nI 8 = 7 by decide), if_pos (show nI 8 = 8 from rfl)]
    exact voted
  · rw [if_neg (show ¬ nI 9 = 0 by decide), if_neg (show ¬ nI 9 = 1 by decide), if_neg (show ¬ nI 9 = 2 by decide), if_neg (show ¬ nI 9 = 3 by decide), if_neg (show ¬ nI 9 = 4 by decide), if_neg (show ¬ nI 9 = 5 by decide), if_neg (show ¬ nI 9 = 6 by decide), if_neg (show ¬ nI 9 = 7 by decide), if_neg (show ¬ nI 9 = 8 by decide), if_pos (show nI 9 = 9 from rfl)]
    exact voted
  · rw [if_neg (show ¬ nI 10 = 0 by decide), if_neg (show ¬ nI 10 = 1 by decide), if_neg (show ¬ nI 10 = 2 by decide), if_neg (show ¬ nI 10 = 3 by decide), if_neg (show ¬ nI 10 = 4 by decide), if_neg (show ¬ nI 10 = 5 by decide), if_neg (show ¬ nI 10 = 6 by decide), if_neg (show ¬ nI 10 = 7 by decide), if_neg (show ¬ nI 10 = 8 by decide), if_neg (show ¬ nI 10 = 9 by decide), if_pos (show nI 10 = 10 from rfl)]
    exact voted
  · rw [if_neg (show ¬ nI 11 = 0 by decide), if_neg (show ¬ nI 11 = 1 by decide), if_neg (show ¬ nI 11 = 2 by decide), if_neg (show ¬ nI 11 = 3 by decide), if_neg (show ¬ nI 11 = 4 by decide), if_neg (show ¬ nI 11 = 5 by decide), if_neg (show ¬ nI 11 = 6 by decide), if_neg (show ¬ nI 11 = 7 by decide), if_neg (show ¬ nI 11 = 8 by decide), if_neg (show ¬ nI 11 = 9 by decide), if_neg (show ¬ nI 11 = 10 by decide), if_pos (show nI 11 = 11 from rfl)]
    exact voted
  · rw [if_neg (show ¬ nI 12 = 0 by decide), if_neg (show ¬ nI 12 = 1 by decide), if_neg (show ¬ nI 12 = 2 by decide), if_neg (show ¬ nI 12 = 3 by decide), if_neg (show ¬ nI 12 = 4 by decide), if_neg (show ¬ nI 12 = 5 by decide), if_neg (show ¬ nI 12 = 6 by decide), if_neg (show ¬ nI 12 = 7 by decide), if_neg (show ¬ nI 12 = 8 by decide), if_neg (show ¬ nI 12 = 9 by decide), if_neg (show ¬ nI 12 = 10 by decide), if_neg (show ¬ nI 12 = 11 by decide), if_pos (show nI 12 = 12 from rfl)]
    exact j0.actK (A_closed S K j3)
  · rw [if_neg (show ¬ nI 13 = 0 by decide), if_neg (show ¬ nI 13 = 1 by decide), if_neg (show ¬ nI 13 = 2 by decide), if_neg (show ¬ nI 13 = 3 by decide), if_neg (show ¬ nI 13 = 4 by decide), if_neg (show ¬ nI 13 = 5 by decide), if_neg (show ¬ nI 13 = 6 by decide), if_neg (show ¬ nI 13 = 7 by decide), if_neg (show ¬ nI 13 = 8 by decide), if_neg (show ¬ nI 13 = 9 by decide), if_neg (show ¬ nI 13 = 10 by decide), if_neg (show ¬ nI 13 = 11 by decide), if_neg (show ¬ nI 13 = 12 by decide), if_pos (show nI 13 = 13 from rfl)]
    rw [show (1 : Int32) + nI a2 = nI (1 + a2) from by rw [show (1 : Int32) = nI 1 from rfl, nI_add]]
    exact j0.act (A_cast S (by omega) (by omega))
  · rw [if_neg (show ¬ nI 14 = 0 by decide), if_neg (show ¬ nI 14 = 1 by decide), if_neg (show ¬ nI 14 = 2 by decide), if_neg (show ¬ nI 14 = 3 by decide), if_neg (show ¬ nI 14 = 4 by decide), if_neg (show ¬ nI 14 = 5 by decide), if_neg (show ¬ nI 14 = 6 by decide), if_neg (show ¬ nI 14 = 7 by decide), if_neg (show ¬ nI 14 = 8 by decide), if_neg (show ¬ nI 14 = 9 by decide), if_neg (show ¬ nI 14 = 10 by decide), if_neg (show ¬ nI 14 = 11 by decide), if_neg (show ¬ nI 14 = 12 by decide), if_neg (show ¬ nI 14 = 13 by decide), if_pos (show nI 14 = 14 from rfl)]
    exact A_later j0 ht hm ha5 hb2
  · rw [if_neg (show ¬ nI 15 = 0 by decide), if_neg (show ¬ nI 15 = 1 by decide), if_neg (show ¬ nI 15 = 2 by decide), if_neg (show ¬ nI 15 = 3 by decide), if_neg (show ¬ nI 15 = 4 by decide), if_neg (show ¬ nI 15 = 5 by decide), if_neg (show ¬ nI 15 = 6 by decide), if_neg (show ¬ nI 15 = 7 by decide), if_neg (show ¬ nI 15 = 8 by decide), if_neg (show ¬ nI 15 = 9 by decide), if_neg (show ¬ nI 15 = 10 by decide), if_neg (show ¬ nI 15 = 11 by decide), if_neg (show ¬ nI 15 = 12 by decide), if_neg (show ¬ nI 15 = 13 by decide), if_neg (show ¬ nI 15 = 14 by decide)]
    rw [show (1 : Int32) + nI a60 = nI (1 + a60) from by rw [show (1 : Int32) = nI 1 from rfl, nI_add]]
    exact A_passed j0 ht ⟨by omega, by omega⟩
end
