/-! PURE: an item, a movement is added. -/
def tIt (T : kT) (ni k q : Nat) : kT := ts (ts (ts T 2 ni 0 (nI k)) 2 ni 1 (nI q)) 0 8 0 (nI (ni + 1))
theorem tIt_o (T : kT) (ni k q : Nat) {a : Nat} (h0 : a ≠ 0) (h1 : a ≠ 2) : tIt T ni k q a = T a := by
  unfold tIt
  rw [ts_o _ _ h0, ts_o _ _ h1, ts_o _ _ h1]
theorem tIt_2 (T : kT) (ni k q i j : Nat) (h : i ≠ ni ∨ 2 ≤ j) : tIt T ni k q 2 i j = T 2 i j := by
  unfold tIt
  rw [ts_ne _ _ (by omega), ts_ne _ _ (by omega), ts_ne _ _ (by omega)]
theorem tIt_20 (T : kT) (ni k q : Nat) : tIt T ni k q 2 ni 0 = nI k := by
  unfold tIt
  rw [ts_ne _ _ (by omega), ts_ne _ _ (by omega), ts_eq]
theorem tIt_21 (T : kT) (ni k q : Nat) : tIt T ni k q 2 ni 1 = nI q := by
  unfold tIt
  rw [ts_ne _ _ (by omega), ts_eq]
theorem tIt_0 (T : kT) (ni k q : Nat) {j l : Nat} (h : j ≠ 8) : tIt T ni k q 0 j l = T 0 j l := by
  unfold tIt
  rw [ts_ne _ _ (by omega), ts_ne _ _ (by omega), ts_ne _ _ (by omega)]
theorem Iv.item {T : kT} {nm ni nv k q : Nat} (I : Iv T nm ni nv) (hn : ni < 12) (hk : k ≤ 2) (hq : q ≤ 15) : Iv (tIt T ni k q) nm (ni + 1) nv := by
  refine Iv.of ⟨I.n.1, by omega, I.n.2.2⟩ ⟨?_, ?_, ?_⟩ (I.t.cong (tIt_0 _ _ _ _ (by decide)) (tIt_o _ _ _ _ (by decide) (by decide))) ?_ ?_ (fun m hm => ?_) (fun i hi => ?_) (fun i hi => ?_) (fun j hj => (I.v hj).cong (tIt_o _ _ _ _ (by decide) (by decide))) (fun i hi => ?_)
  · rw [tIt_0 _ _ _ _ (by decide)]; exact I.c.1
  · exact ts_eq _ _ _ _ _
  · rw [tIt_0 _ _ _ _ (by decide)]; exact I.c.2.2
  · unfold iS
    rw [tIt_0 _ _ _ _ (by decide), tIt_0 _ _ _ _ (by decide), tIt_0 _ _ _ _ (by decide), tIt_0 _ _ _ _ (by decide), tIt_0 _ _ _ _ (by decide), tIt_0 _ _ _ _ (by decide)]
    exact I.s
  · unfold iH
    rw [tIt_0 _ _ _ _ (by decide)]
    exact I.h
  · obtain ⟨b1, b2, b3, b4, b5⟩ := I.m hm
    unfold iM
    rw [tIt_o _ _ _ _ (show 1 ≠ 0 by decide) (by decide)]
    refine ⟨b1, b2, b3, b4, ?_⟩
    rw [fb_ct_succ, tIt_2 _ _ _ _ _ _ (Or.inr (by decide)), ((I.i1 hn).2.2.2.2 (Nat.le_refl _)).2.1, b5]
    have z : ¬ (decide ((-6 : Int32) = nI m) = true) := by
      intro y
      exact n6_ne (by omega) (of_decide_eq_true y).symm
    rw [if_neg z, Nat.add_zero]
    congr 1
    apply fb_ct_cong
    intro i hi
    rw [tIt_2 _ _ _ _ _ _ (Or.inr (by decide))]
  · obtain ⟨a1, a2, a3, a4, a5⟩ := I.i1 hi
    unfold iI1
    rw [tIt_2 _ _ _ _ _ _ (Or.inr (show 2 ≤ 2 by decide)), tIt_2 _ _ _ _ _ _ (Or.inr (show 2 ≤ 9 by decide)), tIt_2 _ _ _ _ _ _ (Or.inr (show 2 ≤ 10 by decide)), tIt_2 _ _ _ _ _ _ (Or.inr (show 2 ≤ 11 by decide))]
    refine ⟨fun z => ?_, a2, a3, a4, fun z => ?_⟩
    · by_cases y : i = ni
      · rw [y, tIt_20, tIt_21]
        exact ⟨⟨k, hk, rfl⟩, q, hq, rfl⟩
      · rw [tIt_2 _ _ _ _ _ _ (Or.inl y), tIt_2 _ _ _ _ _ _ (Or.inl y)]
        exact a1 (by omega)
    · obtain ⟨c1, c2, c3, c4, c5⟩ := a5 (by omega)
      exact ⟨c1, c2, c3, c4, fun j hj => by rw [tIt_2 _ _ _ _ _ _ (Or.inr (by omega))]; exact c5 j hj⟩
  · intro m hm
    obtain ⟨a1, a2, a3, a4⟩ := I.i2 hi m hm
    rw [tIt_o _ _ _ _ (by decide) (by decide), tIt_o _ _ _ _ (by decide) (by decide), tIt_o _ _ _ _ (by decide) (by decide)]
    exact ⟨a1, a2, a3, fun z => a4 (by omega)⟩
  · unfold iB
    rw [tIt_2 _ _ _ _ _ _ (Or.inr (show 2 ≤ 9 by decide)), tIt_2 _ _ _ _ _ _ (Or.inr (show 2 ≤ 2 by decide))]
    exact I.b hi
theorem I_begin (h : kH) (o : Nat) (x y : Int32) : ∃ h', f_I_begin h o x y = some h' ∧ (∀ a, a ≠ o → a ≠ o + 1 → a ≠ o + 2 → a ≠ o + 3 → a ≠ o + 4 → h' a = h a) ∧ h' o 0 = x ∧ h' o 1 = y ∧ h' o 2 = 0 ∧ h' o 3 = 0 ∧ h' o 4 = -6 ∧ h' o 5 = 0 ∧ (∀ k, k < 6 → h' (o + 1) k = 0) ∧ ∀ m, m < 12 → h' (o + 2) m = -6 ∧ h' (o + 3) m = -6 ∧ h' (o + 4) m = -6 := by
  unfold f_I_begin
  dsimp only [kLet]
  refine ⟨_, rfl, fun a a0 a1 a2 a3 a4 => ?_, ?_, ?_, ?_, ?_, ?_, ?_, fun k hk => ?_, fun m hm => ⟨?_, ?_, ?_⟩⟩
  · rw [hf_of _ _ a4, hf_of _ _ a3, hf_of _ _ a2, hf_of _ _ a1, hs_of _ _ a0, hs_of _ _ a0, hs_of _ _ a0, hs_of _ _ a0, hs_of _ _ a0, hs_of _ _ a0]
  · rw [hf_o _ _ (by omega), hf_o _ _ (by omega), hf_o _ _ (by omega), hf_o _ _ (by omega), hs_ne _ _ (by omega), hs_ne _ _ (by omega), hs_ne _ _ (by omega), hs_ne _ _ (by omega), hs_ne _ _ (by omega), hs_eq]
  · rw [hf_o _ _ (by omega), hf_o _ _ (by omega), hf_o _ _ (by omega), hf_o _ _ (by omega), hs_ne _ _ (by omega), hs_ne _ _ (by omega), hs_ne _ _ (by omega), hs_ne _ _ (by omega), hs_eq]
  · rw [hf_o _ _ (by omega), hf_o _ _ (by omega), hf_o _ _ (by omega), hf_o _ _ (by omega), hs_ne _ _ (by omega), hs_ne _ _ (by omega), hs_ne _ _ (by omega), hs_eq]
  · rw [hf_o _ _ (by omega), hf_o _ _ (by omega), hf_o _ _ (by omega), hf_o _ _ (by omega), hs_ne _ _ (by omega), hs_ne _ _ (by omega), hs_eq]
  · rw [hf_o _ _ (by omega), hf_o _ _ (by omega), hf_o _ _ (by omega), hf_o _ _ (by omega), hs_ne _ _ (by omega), hs_eq]
  · rw [hf_o _ _ (by omega), hf_o _ _ (by omega), hf_o _ _ (by omega), hf_o _ _ (by omega), hs_eq]
  · rw [hf_o _ _ (by omega), hf_o _ _ (by omega), hf_o _ _ (by omega), hf_in _ _ hk]
  · rw [hf_o _ _ (by omega), hf_o _ _ (by omega), hf_in _ _ hm]
  · rw [hf_o _ _ (by omega), hf_in _ _ hm]
  · rw [hf_in _ _ hm]
theorem C_it {h h' : kH} {T : kT} {nm ni nv k q : Nat} (C : Com h 1 T nm ni nv) (I : Iv T nm ni nv) (hn : ni < 12) (o : ∀ a, a ≠ 1 → a < 71 → (a < 11 + 5 * ni ∨ 16 + 5 * ni ≤ a) → h' a = h a) (s : ∀ j, j ≠ 2 → h' 1 j = h 1 j) (s2 : h' 1 2 = nI (ni + 1))
    (x : h' (11 + 5 * ni) 0 = nI k ∧ h' (11 + 5 * ni) 1 = nI q ∧ h' (11 + 5 * ni) 2 = 0 ∧ h' (11 + 5 * ni) 3 = 0 ∧ h' (11 + 5 * ni) 4 = -6 ∧ h' (11 + 5 * ni) 5 = 0 ∧ (∀ k, k < 6 → h' (11 + 5 * ni + 1) k = 0) ∧ ∀ m, m < 12 → h' (11 + 5 * ni + 2) m = -6 ∧ h' (11 + 5 * ni + 3) m = -6 ∧ h' (11 + 5 * ni + 4) m = -6) : Com h' 1 (tIt T ni k q) nm (ni + 1) nv := by
  have pe : ps (tIt T ni k q) = ps T := ps_cong (tIt_o _ _ _ _ (by decide) (by decide))
  refine Com.of ?_ (C.b.cong (o _ (by omega) (by omega) (by omega)) fun j hj => tIt_0 _ _ _ _ (by omega)) (C.d.cong (o _ (by omega) (by omega) (by omega)) (o _ (by omega) (by omega) (by omega)) (o _ (by omega) (by omega) (by omega)) fun m _ => ?_) (fun i hi => ?_) (C.g.cong (o _ (by omega) (by omega) (by omega)) (o _ (by omega) (by omega) (by omega)) (o _ (by omega) (by omega) (by omega)) (tIt_o _ _ _ _ (by decide) (by decide)))
  · obtain ⟨a1, a2, a3, a4, a5, a6⟩ := C.a
    unfold cA
    rw [s 0 (by decide), s 1 (by decide), s 3 (by decide), s 4 (by decide), s2, o (1 + 6) (by omega) (by omega) (by omega), pe, tIt_0 _ _ _ _ (show 6 ≠ 8 by decide), tIt_0 _ _ _ _ (show 7 ≠ 8 by decide), tIt_0 _ _ _ _ (show 9 ≠ 8 by decide), tIt_0 _ _ _ _ (show 10 ≠ 8 by decide)]
    exact ⟨a1, a2, (ts_eq _ _ _ _ _).symm, a4, a5, a6⟩
  · rw [tIt_o _ _ _ _ (by decide) (by decide)]
    exact ⟨rfl, rfl, rfl⟩
  · by_cases y : i = ni
    · obtain ⟨x0, x1, x2, x3, x4, x5, x6, x7⟩ := x
      obtain ⟨c1, c2, c3, c4, c5⟩ := (I.i1 hn).2.2.2.2 (Nat.le_refl _)
      rw [y]
      unfold cI
      rw [show 1 + 10 + 5 * ni = 11 + 5 * ni by omega, x0, x1, x2, x3, x4, x5, tIt_20, tIt_21, tIt_2 _ _ _ _ _ _ (Or.inr (show 2 ≤ 2 by decide)), tIt_2 _ _ _ _ _ _ (Or.inr (show 2 ≤ 9 by decide)), tIt_2 _ _ _ _ _ _ (Or.inr (show 2 ≤ 10 by decide)), tIt_2 _ _ _ _ _ _ (Or.inr (show 2 ≤ 11 by decide)), c1, c2, c3, c4]
      refine ⟨rfl, rfl, rfl, rfl, rfl, rfl, fun j hj => ?_, fun m hm => ?_⟩
      · rw [x6 j hj, tIt_2 _ _ _ _ _ _ (Or.inr (by omega)), c5 j hj]
      · obtain ⟨d1, d2, d3⟩ := (I.i2 hn m hm).2.2.2 (Nat.le_refl _)
        obtain ⟨y1, y2, y3⟩ := x7 m hm
        rw [y1, y2, y3, tIt_o _ _ _ _ (by decide) (by decide), tIt_o _ _ _ _ (by decide) (by decide), tIt_o _ _ _ _ (by decide) (by decide), d1, d2, d3]
        exact ⟨rfl, rfl, rfl⟩
    · exact cI.cong (C.f i (by omega)) (fun d hd => o _ (by omega) (by omega) (by omega)) (fun j => tIt_2 _ _ _ _ _ _ (Or.inl y)) (fun j => by rw [tIt_o _ _ _ _ (by decide) (by decide)]) (fun j => by rw [tIt_o _ _ _ _ (by decide) (by decide)]) (fun j => by rw [tIt_o _ _ _ _ (by decide) (by decide)])
theorem tw_item (x y : Int32) : Tw (fun h => f_C_addItem h 1 x y) (fun h => f_M_item h x y) := by
  intro T nm ni nv I
  have hn := I.n
  rcases in_cases (x := x) (a := 0) (b := 2) (by decide) (by decide) with (a : x < 0 ∨ 2 < x) | ⟨w, hw1, hw2, rfl⟩
  · refine Or.inl ⟨-2, StpE.same er_2 (fun h _ => ?_) (fun h R => ?_)⟩
    · unfold f_C_addItem
      by_cases b : x < 0
      · rw [if_pos b]
      · rw [if_neg b, if_pos (a.resolve_left b)]
    · unfold f_M_item
      rw [in_f a, if_neg (by decide)]
  · have c1 : ¬ nI w < 0 := pos_nI (by omega)
    have c2 : ¬ (2 : Int32) < nI w := by rw [show (2 : Int32) = nI 2 from rfl, ltI (by omega) (by omega)]; omega
    have c3 : f_M_in (nI w) 0 2 = true := in_t c1 c2
    rcases in_cases (x := y) (a := 0) (b := 15) (by decide) (by decide) with (a : y < 0 ∨ 15 < y) | ⟨q, hq1, hq2, rfl⟩
    · refine Or.inl ⟨-2, StpE.same er_2 (fun h _ => ?_) (fun h R => ?_)⟩
      · unfold f_C_addItem
        rw [if_neg c1, if_neg c2]
        by_cases b : y < 0
        · rw [if_pos b]
        · rw [if_neg b, if_neg (fun z => nlt_le.mpr z (a.resolve_left b))]
      · unfold f_M_item
        rw [c3, if_pos rfl, in_f a, if_neg (by decide)]
    · have d1 : ¬ nI q < 0 := pos_nI (by omega)
      have d2 : nI q ≤ 15 := by rw [show (15 : Int32) = nI 15 from rfl, leI (by omega) (by omega)]; omega
      have d3 : f_M_in (nI q) 0 15 = true := in_t d1 (nlt_le.mpr d2)
      by_cases f : ni = 12
      · refine Or.inl ⟨-4, StpE.same er_4 (fun h C => ?_) (fun h R => ?_)⟩
        · unfold f_C_addItem
          rw [if_neg c1, if_neg c2, if_neg d1, if_pos d2, C.a.2.2.1, I.c.2.1, if_neg (by rw [n12 hn.2.1]; omega)]
        · unfold f_M_item
          rw [c3, if_pos rfl, d3, if_pos rfl, g760_8, x_8, R.1 8 (by decide), I.c.2.1, if_pos (by rw [e12 hn.2.1]; exact f)]
      · have hm : ni < 12 := by omega
        refine Or.inr ⟨nI ni, tIt T ni w q, nm, ni + 1, nv, StpO.of (er_n (by omega)) (I.item hm hw2 hq2) (fun h C => ?_) (fun h R H => ?_)⟩
        · have e1 : h 1 2 = nI ni := C.a.2.2.1.trans I.c.2.1
          obtain ⟨g, g1, g2, g3⟩ := I_begin h (1 + 10 + 5 * ni) (nI w) (nI q)
          rw [show 1 + 10 + 5 * ni = 11 + 5 * ni by omega] at g1 g2 g3
          have e2 : g 1 2 = nI ni := by rw [g2 1 (by omega) (by omega) (by omega) (by omega) (by omega)]; exact e1
          unfold f_C_addItem
          rw [if_neg c1, if_neg c2, if_neg d1, if_pos d2, e1, if_pos (by rw [n12 hn.2.1]; exact hm), kG_nI hm (by decide), kx_nI (by omega), show 1 + 10 + 5 * ni = 11 + 5 * ni by omega, g1, kBi_s, e2, kLet_s, nI_1]
          refine ⟨_, rfl, fun a p _ _ _ => ?_, C_it C I hm (fun a p1 p2 p3 => ?_) (fun j j1 => ?_) (hs_eq _ _ _ _) ?_⟩
          · rw [hs_of _ _ (by omega)]
            exact g2 a (by omega) (by omega) (by omega) (by omega) (by omega)
          · rw [hs_of _ _ (by omega)]
            exact g2 a (by omega) (by omega) (by omega) (by omega) (by omega)
          · rw [hs_ne _ _ (by omega), g2 1 (by omega) (by omega) (by omega) (by omega) (by omega)]
          · rw [hs_of _ _ (by omega), hs_of _ _ (by omega), hs_of _ _ (by omega), hs_of _ _ (by omega), hs_of _ _ (by omega)]
            exact g3
        · have e1 : h 787 8 = nI ni := (R.1 8 (by decide)).trans I.c.2.1
          have R1 := ((recd_row R).set2 (i := ni) (j := 0) hm (by decide) (nI w)).set2 (i := ni) (j := 1) hm (by decide) (nI q)
          have R2 := R1.set0 (k := 8) (by decide) (nI (ni + 1))
          unfold f_M_item
          rw [c3, if_pos rfl, d3, if_pos rfl, g760_8, x_8, e1, if_neg (by rw [e12 hn.2.1]; exact f), M_record H, kBi_s, g760_8, recd_787, e1, e2_0, kLet_s, kG_nI (by omega) (by omega), kx_nI (by omega), kLet_s, nI_1, kG_nI (by omega) (by omega), kx_nI (by omega), kLet_s, g760_8, g760_8, kLet_s, g760_8]
          simp only [hs_ru, ru_ne _ _ (show 8 ≠ 100 + 12 * ni + 1 by omega), ru_ne _ _ (show 8 ≠ 100 + 12 * ni by omega), recd_787, e1, ru_eq, nI_1, nI_s1]
          refine ⟨_, rfl, MFs.one fun a p => by rw [hs_of _ _ p, hs_of _ _ p, hs_of _ _ p], ?_⟩
          rw [hs_ru, hs_ru, hs_ru]
          exact R2
-- movements
def tMv (T : kT) (nv a m d : Nat) : kT := ts (ts (ts (ts T 6 nv 0 (nI a)) 6 nv 1 (nI m)) 6 nv 2 (nI d)) 0 10 0 (nI (nv + 1))
theorem tMv_o (T : kT) (nv a m d : Nat) {b : Nat} (h0 : b ≠ 0) (h1 : b ≠ 6) : tMv T nv a m d b = T b := by
  unfold tMv
  rw [ts_o _ _ h0, ts_o _ _ h1, ts_o _ _ h1, ts_o _ _ h1]
theorem tMv_0 (T : kT) (nv a m d : Nat) {j l : Nat} (h : j ≠ 10) : tMv T nv a m d 0 j l = T 0 j l := by
  unfold tMv
  rw [ts_ne _ _ (by omega), ts_ne _ _ (by omega), ts_ne _ _ (by omega), ts_ne _ _ (by omega)]
theorem tMv_6 (T : kT) (nv a m d : Nat) {j l : Nat} (h : j ≠ nv) : tMv T nv a m d 6 j l = T 6 j l := by
  unfold tMv
  rw [ts_ne _ _ (by omega), ts_ne _ _ (by omega), ts_ne _ _ (by omega), ts_ne _ _ (by omega)]
theorem tMv_60 (T : kT) (nv a m d : Nat) : tMv T nv a m d 6 nv 0 = nI a := by
  unfold tMv
  rw [ts_ne _ _ (by omega), ts_ne _ _ (by omega), ts_ne _ _ (by omega), ts_eq]
theorem tMv_61 (T : kT) (nv a m d : Nat) : tMv T nv a m d 6 nv 1 = nI m := by
  unfold tMv
  rw [ts_ne _ _ (by omega), ts_ne _ _ (by omega), ts_eq]
theorem tMv_62 (T : kT) (nv a m d : Nat) : tMv T nv a m d 6 nv 2 = nI d := by
  unfold tMv
  rw [ts_ne _ _ (by omega), ts_eq]
theorem Iv.move {T : kT} {nm ni nv a m d t : Nat} (I : Iv T nm ni nv) (hn : nv < 20) (ht : T 0 6 0 = nI t ∧ t ≤ 9000) (ha : t < a ∧ a ≤ t + 600) (hm : m < nm) (hd : d ≤ 1) : Iv (tMv T nv a m d) nm ni (nv + 1) := by
  have e1 := tMv_o T nv a m d (b := 1) (by decide) (by decide)
  have e2 := tMv_o T nv a m d (b := 2) (by decide) (by decide)
  refine Iv.of ⟨I.n.1, I.n.2.1, by omega⟩ ⟨?_, ?_, ?_⟩ ?_ ?_ ?_ (fun j hj => (I.m hj).cong e1 fun i => by rw [e2]) (fun i hi => (I.i1 hi).cong (by rw [e2])) (fun i hi => (I.i2 hi).cong (by rw [tMv_o _ _ _ _ _ (by decide) (by decide)]) (by rw [tMv_o _ _ _ _ _ (by decide) (by decide)]) (by rw [tMv_o _ _ _ _ _ (by decide) (by decide)])) (fun k hk => ?_) (fun i hi => (I.b hi).cong (by rw [e2]))
  · rw [tMv_0 _ _ _ _ _ (by decide)]; exact I.c.1
  · rw [tMv_0 _ _ _ _ _ (by decide)]; exact I.c.2.1
  · exact ts_eq _ _ _ _ _
  · refine ⟨t, ht.2, by rw [tMv_0 _ _ _ _ _ (by decide)]; exact ht.1, fun k hk => ?_⟩
    by_cases y : k = nv
    · rw [y, tMv_60]
      exact ⟨a, ha.1, by omega, rfl⟩
    · rw [tMv_6 _ _ _ _ _ y]
      obtain ⟨t', t1, t2, t3⟩ := I.t
      have : t' = t := by
        rw [ht.1, eqI (by omega) (by omega)] at t2
        exact t2.symm
      rw [← this]
      exact t3 k (by omega)
  · unfold iS
    rw [tMv_0 _ _ _ _ _ (by decide), tMv_0 _ _ _ _ _ (by decide), tMv_0 _ _ _ _ _ (by decide), tMv_0 _ _ _ _ _ (by decide), tMv_0 _ _ _ _ _ (by decide), tMv_0 _ _ _ _ _ (by decide)]
    exact I.s
  · unfold iH
    rw [tMv_0 _ _ _ _ _ (by decide)]
    exact I.h
  · unfold iV
    by_cases y : k = nv
    · rw [y, tMv_61, tMv_62]
      have : d = 0 ∨ d = 1 := by omega
      exact ⟨⟨m, hm, rfl⟩, this.imp (fun e => by rw [e]; rfl) (fun e => by rw [e]; rfl)⟩
    · rw [tMv_6 _ _ _ _ _ y, tMv_6 _ _ _ _ _ y]
      exact I.v (by omega)
theorem C_mv {h h' : kH} {T : kT} {nm ni nv a m d : Nat} (C : Com h 1 T nm ni nv) (o : ∀ b, b ≠ 7 → b ≠ 8 → b ≠ 9 → b ≠ 10 → h' b = h b) (s : h' 7 0 = nI (nv + 1)) (w0 : h' 8 = ru (h 8) nv (nI a)) (w1 : h' 9 = ru (h 9) nv (nI m)) (w2 : h' 10 = ru (h 10) nv (nI d)) : Com h' 1 (tMv T nv a m d) nm ni (nv + 1) := by
  have e1 := tMv_o T nv a m d (b := 1) (by decide) (by decide)
  refine Com.of ?_ (C.b.cong (o _ (by omega) (by omega) (by omega) (by omega)) fun j hj => tMv_0 _ _ _ _ _ (by omega)) (C.d.cong (o _ (by omega) (by omega) (by omega) (by omega)) (o _ (by omega) (by omega) (by omega) (by omega)) (o _ (by omega) (by omega) (by omega) (by omega)) fun j _ => by rw [e1]; exact ⟨rfl, rfl, rfl⟩) (C.f.cong (fun i d _ _ => o _ (by omega) (by omega) (by omega) (by omega)) (tMv_o _ _ _ _ _ (by decide) (by decide)) (tMv_o _ _ _ _ _ (by decide) (by decide)) (tMv_o _ _ _ _ _ (by decide) (by decide)) (tMv_o _ _ _ _ _ (by decide) (by decide))) (fun k hk => ?_)
  · obtain ⟨a1, a2, a3, a4, a5, a6⟩ := C.a
    unfold cA
    rw [o 1 (by omega) (by omega) (by omega) (by omega), ps_cong e1, tMv_0 _ _ _ _ _ (show 6 ≠ 10 by decide), tMv_0 _ _ _ _ _ (show 7 ≠ 10 by decide), tMv_0 _ _ _ _ _ (show 8 ≠ 10 by decide), tMv_0 _ _ _ _ _ (show 9 ≠ 10 by decide)]
    exact ⟨a1, a2, a3, a4, a5, s.trans (ts_eq _ _ _ _ _).symm⟩
  · rw [show (1 : Nat) + 7 = 8 from rfl, show (1 : Nat) + 8 = 9 from rfl, show (1 : Nat) + 9 = 10 from rfl, w0, w1, w2]
    by_cases y : k = nv
    · rw [y, ru_eq, ru_eq, ru_eq, tMv_60, tMv_61, tMv_62]
      exact ⟨rfl, rfl, rfl⟩
    · rw [ru_ne _ _ y, ru_ne _ _ y, ru_ne _ _ y, tMv_6 _ _ _ _ _ y, tMv_6 _ _ _ _ _ y, tMv_6 _ _ _ _ _ y]
      exact C.g k (by omega)
theorem tw_later (x y z : Int32) : Tw (fun h => f_C_addMovement h 1 x y z) (fun h => f_M_later h x y z) := by
  intro T nm ni nv I
  have hn := I.n
  obtain ⟨t, t1, t2, _⟩ := I.t
  rcases ixc y (n := nm) (by omega) with q | ⟨m, hm, rfl⟩
  · refine Or.inl ⟨-1, StpE.same er_1 (fun h C => ?_) (fun h R => ?_)⟩
    · unfold f_C_addMovement; rw [C_hasMember_bad C I q, if_neg (by decide)]
    · unfold f_M_later; rw [M_isMember_bad R I q, kBi_s, if_neg (by decide)]
  · have k6 : (600 : Int32) = nI 600 := rfl
    rcases in_cases (x := x) (a := t + 1) (b := t + 600) (by omega) (by omega) with a | ⟨a, ha1, ha2, rfl⟩
    · refine Or.inl ⟨-2, StpE.same er_2 (fun h C => ?_) (fun h R => ?_)⟩
      · unfold f_C_addMovement
        rw [C_hasMember_ok C I hm, if_pos rfl, C.a.1, t2, k6, nI_add]
        by_cases b : x ≤ nI t
        · rw [if_pos b]
        · rw [if_neg b, if_pos]
          refine a.resolve_left fun w => b ?_
          rw [fa_lt, nI_toInt (by omega)] at w
          rw [fa_le, nI_toInt (by omega)]
          omega
      · unfold f_M_later
        rw [M_isMember_ok R I hm, kBi_s, if_pos rfl, g760_6, g760_6, x_6, R.1 6 (by decide), t2, k6, nI_add, nI_1, in_f a, if_neg (by decide)]
    · have c1 : ¬ nI a ≤ nI t := by rw [leI (by omega) (by omega)]; omega
      have c2 : ¬ nI (t + 600) < nI a := by rw [ltI (by omega) (by omega)]; omega
      have c3 : f_M_in (nI a) (nI (t + 1)) (nI (t + 600)) = true := in_nI ha1 ha2 (by omega)
      rcases in_cases (x := z) (a := 0) (b := 1) (by decide) (by decide) with (w : z < 0 ∨ 1 < z) | ⟨d, _, hd, rfl⟩
      · refine Or.inl ⟨-2, StpE.same er_2 (fun h C => ?_) (fun h R => ?_)⟩
        · unfold f_C_addMovement
          rw [C_hasMember_ok C I hm, if_pos rfl, C.a.1, t2, k6, nI_add, if_neg c1, if_neg c2]
          by_cases b : z < 0
          · rw [if_pos b]
          · rw [if_neg b, if_neg (fun v => nlt_le.mpr v (w.resolve_left b))]
        · unfold f_M_later
          rw [M_isMember_ok R I hm, kBi_s, if_pos rfl, g760_6, g760_6, x_6, R.1 6 (by decide), t2, k6, nI_add, nI_1, c3, if_pos rfl, in_f w, if_neg (by decide)]
      · have d1 : ¬ nI d < 0 := pos_nI (by omega)
        have d2 : nI d ≤ 1 := by rw [show (1 : Int32) = nI 1 from rfl, leI (by omega) (by omega)]; omega
        have d3 : f_M_in (nI d) 0 1 = true := in_t d1 (nlt_le.mpr d2)
        have l20 : (nI nv < 20) = (nv < 20) := ltI (a := nv) (b := 20) (by omega) (by decide)
        have q20 : (nI nv = 20) = (nv = 20) := eqI (a := nv) (b := 20) (by omega) (by decide)
        by_cases f : nv = 20
        · refine Or.inl ⟨-4, StpE.same er_4 (fun h C => ?_) (fun h R => ?_)⟩
          · unfold f_C_addMovement
            rw [C_hasMember_ok C I hm, if_pos rfl, C.a.1, t2, k6, nI_add, if_neg c1, if_neg c2, if_neg d1, if_pos d2, C.a.2.2.2.2.2, I.c.2.2, if_neg (by rw [l20]; omega)]
          · unfold f_M_later
            rw [M_isMember_ok R I hm, kBi_s, if_pos rfl, g760_6, g760_6, x_6, R.1 6 (by decide), t2, k6, nI_add, nI_1, c3, if_pos rfl, d3, if_pos rfl, g760_10, x_10, R.1 10 (by decide), I.c.2.2, if_pos (by rw [q20]; exact f)]
        · have hv : nv < 20 := by omega
          refine Or.inr ⟨nI (nv + 1), tMv T nv a m d, nm, ni, nv + 1, StpO.of (er_n (by omega)) (I.move hv ⟨t2, t1⟩ ⟨by omega, ha2⟩ hm hd) (fun h C => ?_) (fun h R H => ?_)⟩
          · have e1 : h 7 0 = nI nv := C.a.2.2.2.2.2.trans I.c.2.2
            unfold f_C_addMovement f_V_append
            rw [C_hasMember_ok C I hm, if_pos rfl, C.a.1, t2, k6, nI_add, if_neg c1, if_neg c2, if_neg d1, if_pos d2, show (1 : Nat) + 6 = 7 from rfl, e1, if_pos (by rw [l20]; exact hv)]
            simp only [kLet, show (7 : Nat) + 1 = 8 from rfl, show (7 : Nat) + 2 = 9 from rfl, show (7 : Nat) + 3 = 10 from rfl, hs_o _ _ (show (7 : Nat) ≠ 8 by decide), hs_o _ _ (show (7 : Nat) ≠ 9 by decide), hs_o _ _ (show (7 : Nat) ≠ 10 by decide), e1, kG_nI hv (show 20 < 2 ^ 31 by decide), kx_nI (show nv < 2 ^ 31 by omega), nI_1, kBi_s, hs_eq]
            refine ⟨_, rfl, fun b p _ _ _ => ?_, C_mv C (fun b b1 b2 b3 b4 => ?_) (hs_eq _ _ _ _) ?_ ?_ ?_⟩
            · rw [hs_of _ _ (by omega), hs_of _ _ (by omega), hs_of _ _ (by omega), hs_of _ _ (by omega)]
            · rw [hs_of _ _ (by omega), hs_of _ _ (by omega), hs_of _ _ (by omega), hs_of _ _ (by omega)]
            · rw [hs_of _ _ (by omega), hs_of _ _ (by omega), hs_of _ _ (by omega), hs_ru]
            · rw [hs_of _ _ (by omega), hs_of _ _ (by omega), hs_ru, hs_of _ _ (by omega)]
            · rw [hs_of _ _ (by omega), hs_ru, hs_of _ _ (by omega), hs_of _ _ (by omega)]
          · have e1 : h 787 10 = nI nv := (R.1 10 (by decide)).trans I.c.2.2
            have R0 := recd_row R
            have R1 := ((R0.set6 (k := nv) (j := 0) hv (by decide) hn.2.2 (nI a)).set6 (k := nv) (j := 1) hv (by decide) hn.2.2 (nI m)).set6 (k := nv) (j := 2) hv (by decide) hn.2.2 (nI d)
            have R2 := R1.set0 (k := 10) (by decide) (nI (nv + 1))
            unfold f_M_later
            rw [M_isMember_ok R I hm, kBi_s, if_pos rfl, g760_6, g760_6, x_6, R.1 6 (by decide), t2, k6, nI_add, nI_1, c3, if_pos rfl, d3, if_pos rfl, g760_10, x_10, e1, if_neg (by rw [q20]; exact f), M_record H, kBi_s, g760_10, recd_787, e1, e6_0, kLet_s, kG_nI (by omega) (by omega), kx_nI (by omega), kLet_s, nI_1, kG_nI (by omega) (by omega), kx_nI (by omega), kLet_s, show (2 : Int32) = nI 2 from rfl, nI_add, kG_nI (by omega) (by omega), kx_nI (by omega), kLet_s, g760_10, g760_10, kLet_s, g760_10]
            simp only [hs_ru, ru_ne _ _ (show 10 ≠ 690 + 3 * nv + 1 by omega), ru_ne _ _ (show 10 ≠ 690 + 3 * nv by omega), ru_ne _ _ (show 10 ≠ 690 + 3 * nv + 2 by omega), recd_787, e1, ru_eq, nI_1]
            refine ⟨_, rfl, MFs.one fun a p => by rw [hs_of _ _ p, hs_of _ _ p, hs_of _ _ p, hs_of _ _ p], ?_⟩
            rw [hs_ru, hs_ru, hs_ru, hs_ru]
            refine R2.ext fun j hj => ?_
            have : j = 0 ∨ j = 1 ∨ j = 2 := by omega
            rcases this with rfl | rfl | rfl
            · rw [ru_ne _ _ (by omega), ru_ne _ _ (by omega), ru_ne _ _ (by omega), ru_eq]
              exact (tMv_60 T nv a m d).symm
            · rw [ru_ne _ _ (by omega), ru_ne _ _ (by omega), ru_eq]
              exact (tMv_61 T nv a m d).symm
            · rw [ru_ne _ _ (by omega), ru_eq]
              exact (tMv_62 T nv a m d).symm
