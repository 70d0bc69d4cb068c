/-! PURE: an item, a movement is added. -/
def tIt (T : kT) (ni k q : Nat) : kT := ts (ts (ts T 2 ni 0 (nI k)) 2 ni 1 (nI q)) 0 8 0 (nI (ni + 1))
theorem tIt_o (T : kT) (ni k q : Nat) {a : Nat} (h0 : a ≠ 0) (h1 : a ≠ 2) : tIt T ni k q a = T a := by
  unfold tIt
  rw [ts_o _ _ h0, ts_o _ _ h1, ts_o _ _ h1]
theorem tIt_2 (T : kT) (ni k q i j : Nat) (h : i ≠ ni ∨ 2 ≤ j) : tIt T ni k q 2 i j = T 2 i j := by
  unfold tIt
  rw [ts_ne _ _ (by omega), ts_ne _ _ (by omega), ts_ne _ _ (by omega)]
theorem tIt_20 (T : kT) (ni k q : Nat) : tIt T ni k q 2 ni 0 = nI k := by
  unfold tIt
  rw [ts_ne _ _ (by omega), ts_ne _ _ (by omega), ts_eq]
theorem tIt_21 (T : kT) (ni k q : Nat) : tIt T ni k q 2 ni 1 = nI q := by
  unfold tIt
  rw [ts_ne _ _ (by omega), ts_eq]
theorem tIt_0 (T : kT) (ni k q : Nat) {j l : Nat} (h : j ≠ 8) : tIt T ni k q 0 j l = T 0 j l := by
  unfold tIt
  rw [ts_ne _ _ (by omega), ts_ne _ _ (by omega), ts_ne _ _ (by omega)]
theorem Iv.item {T : kT} {nm ni nv k q : Nat} (I : Iv T nm ni nv) (hn : ni < 12) (hk : k ≤ 2) (hq : q ≤ 15) : Iv (tIt T ni k q) nm (ni + 1) nv := by
  refine Iv.of ⟨I.n.1, by omega, I.n.2.2⟩ ⟨?_, ?_, ?_⟩ (I.t.cong (tIt_0 _ _ _ _ (by decide)) (tIt_o _ _ _ _ (by decide) (by decide))) ?_ ?_ (fun m hm => ?_) (fun i hi => ?_) (fun i hi => ?_) (fun j hj => (I.v hj).cong (tIt_o _ _ _ _ (by decide) (by decide))) (fun i hi => ?_)
  · rw [tIt_0 _ _ _ _ (by decide)]; exact I.c.1
  · exact ts_eq _ _ _ _ _
  · rw [tIt_0 _ _ _ _ (by decide)]; exact I.c.2.2
  · unfold iS
    rw [tIt_0 _ _ _ _ (by decide), tIt_0 _ _ _ _ (by decide), tIt_0 _ _ _ _ (by decide), tIt_0 _ _ _ _ (by decide), tIt_0 _ _ _ _ (by decide), tIt_0 _ _ _ _ (by decide)]
    exact I.s
  · unfold iH
    rw [tIt_0 _ _ _ _ (by decide)]
    exact I.h
  · obtain ⟨b1, b2, b3, b4, b5⟩ := I.m hm
    unfold iM
    rw [tIt_o _ _ _ _ (show 1 ≠ 0 by decide) (by decide)]
    refine ⟨b1, b2, b3, b4, ?_⟩
    rw [fb_ct_succ, tIt_2 _ _ _ _ _ _ (Or.inr (by decide)), ((I.i1 hn).2.2.2.2 (Nat.le_refl _)).2.1, b5]
    have z : ¬ (decide ((-6 : Int32) = nI m) = true) := by
      intro y
      exact n6_ne (by omega) (of_decide_eq_true y).symm
    rw [if_neg z, Nat.add_zero]
    congr 1
    apply fb_ct_cong
    intro i hi
    rw [tIt_2 _ _ _ _ _ _ (Or.inr (by decide))]
  · obtain ⟨a1, a2, a3, a4, a5⟩ := I.i1 hi
    unfold iI1
    rw [tIt_2 _ _ _ _ _ _ (Or.inr (show 2 ≤ 2 by decide)), tIt_2 _ _ _ _ _ _ (Or.inr (show 2 ≤ 9 by decide)), tIt_2 _ _ _ _ _ _ (Or.inr (show 2 ≤ 10 by decide)), tIt_2 _ _ _ _ _ _ (Or.inr (show 2 ≤ 11 by decide))]
    refine ⟨fun z => ?_, a2, a3, a4, fun z => ?_⟩
    · by_cases y : i = ni
      · rw [y, tIt_20, tIt_21]
        exact ⟨⟨k, hk, rfl⟩, q, hq, rfl⟩
      · rw [tIt_2 _ _ _ _ _ _ (Or.inl y), tIt_2 _ _ _ _ _ _ (Or.inl y)]
        exact a1 (by omega)
    · obtain ⟨c1, c2, c3, c4, c5⟩ := a5 (by omega)
      exact ⟨c1, c2, c3, c4, fun j hj => by rw [tIt_2 _ _ _ _ _ _ (Or.inr (by omega))]; exact c5 j hj⟩
  · intro m hm
    obtain ⟨a1, a2, a3, a4⟩ := I.i2 hi m hm
    rw [tIt_o _ _ _ _ (by decide) (by decide), tIt_o _ _ _ _ (by decide) (by decide), tIt_o _ _ _ _ (by decide) (by decide)]
    exact ⟨a1, a2, a3, fun z => a4 (by omega)⟩
  · unfold iB
    rw [tIt_2 _ _ _ _ _ _ (Or.inr (show 2 ≤ 9 by decide)), tIt_2 _ _ _ _ _ _ (Or.inr (show 2 ≤ 2 by decide))]
    exact I.b hi
theorem I_begin (h : kH) (o : Nat) (x y : Int32) : ∃ h', f_I_begin h o x y = some h' ∧ (∀ a, a ≠ o → a ≠ o + 1 → a ≠ o + 2 → a ≠ o + 3 → a ≠ o + 4 → h' a = h a) ∧ h' o 0 = x ∧ h' o 1 = y ∧ h' o 2 = 0 ∧ h' o 3 = 0 ∧ h' o 4 = -6 ∧ h' o 5 = 0 ∧ (∀ k, k < 6 → h' (o + 1) k = 0) ∧ ∀ m, m < 12 → h' (o + 2) m = -6 ∧ h' (o + 3) m = -6 ∧ h' (o + 4) m = -6 := by
  unfold f_I_begin
  dsimp only [kLet]
  refine ⟨_, rfl, fun a a0 a1 a2 a3 a4 => ?_, ?_, ?_, ?_, ?_, ?_, ?_, fun k hk => ?_, fun m hm => ⟨?_, ?_, ?_⟩⟩
  · rw [hf_of _ _ a4, hf_of _ _ a3, hf_of _ _ a2, hf_of _ _ a1, hs_of _ _ a0, hs_of _ _ a0, hs_of _ _ a0, hs_of _ _ a0, hs_of _ _ a0, hs_of _ _ a0]
  · rw [hf_o _ _ (by omega), hf_o _ _ (by omega), hf_o _ _ (by omega), hf_o _ _ (by omega), hs_ne _ _ (by omega), hs_ne _ _ (by omega), hs_ne _ _ (by omega), hs_ne _ _ (by omega), hs_ne _ _ (by omega), hs_eq]
  · rw [hf_o _ _ (by omega), hf_o _ _ (by omega), hf_o _ _ (by omega), hf_o _ _ (by omega), hs_ne _ _ (by omega), hs_ne _ _ (by omega), hs_ne _ _ (by omega), hs_ne _ _ (by omega), hs_eq]
  · rw [hf_o _ _ (by omega), hf_o _ _ (by omega), hf_o _ _ (by omega), hf_o _ _ (by omega), hs_ne _ _ (by omega), hs_ne _ _ (by omega), hs_ne _ _ (by omega), hs_eq]
  · rw [hf_o _ _ (by omega), hf_o _ _ (by omega), hf_o _ _ (by omega), hf_o _ _ (by omega), hs_ne _ _ (by omega), hs_ne _ _ (by omega), hs_eq]
  · rw [hf_o _ _ (by omega), hf_o _ _ (by omega), hf_o _ _ (by omega), hf_o _ _ (by omega), hs_ne _ _ (by omega), hs_eq]
  · rw [hf_o _ _ (by omega), hf_o _ _ (by omega), hf_o _ _ (by omega), hf_o _ _ (by omega), hs_eq]
  · rw [hf_o _ _ (by omega), hf_o _ _ (by omega), hf_o _ _ (by omega), hf_in _ _ hk]
  · rw [hf_o _ _ (by omega), hf_o _ _ (by omega), hf_in _ _ hm]
  · rw [hf_o _ _ (by omega), hf_in _ _ hm]
  · rw [hf_in _ _ hm]
theorem C_it {h h' : kH} {T : kT} {nm ni nv k q : Nat} (C : Com h 1 T nm ni nv) (I : Iv T nm ni nv) (hn : ni < 12) (o : ∀ a, a ≠ 1 → a < 71 → (a < 11 + 5 * ni ∨ 16 + 5 * ni ≤ a) → h' a = h a) (s : ∀ j, j ≠ 2 → h' 1 j = h 1 j) (s2 : h' 1 2 = nI (ni + 1))
    (x : h' (11 + 5 * ni) 0 = nI k ∧ h' (11 + 5 * ni) 1 = nI q ∧ h' (11 + 5 * ni) 2 = 0 ∧ h' (11 + 5 * ni) 3 = 0 ∧ h' (11 + 5 * ni) 4 = -6 ∧ h' (11 + 5 * ni) 5 = 0 ∧ (∀ k, k < 6 → h' (11 + 5 * ni + 1) k = 0) ∧ ∀ m, m < 12 → h' (11 + 5 * ni + 2) m = -6 ∧ h' (11 + 5 * ni + 3) m = -6 ∧ h' (11 + 5 * ni + 4) m = -6) : Com h' 1 (tIt T ni k q) nm (ni + 1) nv := by
  have pe : ps (tIt T ni k q) = ps T := ps_cong (tIt_o _ _ _ _ (by decide) (by decide))
  refine Com.of ?_ (C.b.cong (o _ (by omega) (by omega) (by omega)) fun j hj => tIt_0 _ _ _ _ (by omega)) (C.d.cong (o _ (by omega) (by omega) (by omega)) (o _ (by omega) (by omega) (by omega)) (o _ (by omega) (by omega) (by omega)) fun m _ => ?_) (fun i hi => ?_) (C.g.cong (o _ (by omega) (by omega) (by omega)) (o _ (by omega) (by omega) (by omega)) (o _ (by omega) (by omega) (by omega)) (tIt_o _ _ _ _ (by decide) (by decide)))
  · obtain ⟨a1, a2, a3, a4, a5, a6⟩ := C.a
    unfold cA
    rw [s 0 (by decide), s 1 (by decide), s 3 (by decide), s 4 (by decide), s2, o (1 + 6) (by omega) (by omega) (by omega), pe, tIt_0 _ _ _ _ (show 6 ≠ 8 by decide), tIt_0 _ _ _ _ (show 7 ≠ 8 by decide), tIt_0 _ _ _ _ (show 9 ≠ 8 by decide), tIt_0 _ _ _ _ (show 10 ≠ 8 by decide)]
    exact ⟨a1, a2, (ts_eq _ _ _ _ _).symm, a4, a5, a6⟩
  · rw [tIt_o _ _ _ _ (by decide) (by decide)]
    exact ⟨rfl, rfl, rfl⟩
  · by_cases y : i = ni
    · obtain ⟨x0, x1, x2, x3, x4, x5, x6, x7⟩ := x
      obtain ⟨c1, c2, c3, c4, c5⟩ := (I.i1 hn).2.2.2.2 (Nat.le_refl _)
      rw [y]
      unfold cI
      rw [show 1 + 10 + 5 * ni = 11 + 5 * ni by omega, x0, x1, x2, x3, x4, x5, tIt_20, tIt_21, tIt_2 _ _ _ _ _ _ (Or.inr (show 2 ≤ 2 by decide)), tIt_2 _ _ _ _ _ _ (Or.inr (show 2 ≤ 9 by decide)), tIt_2 _ _ _ _ _ _ (Or.inr (show 2 ≤ 10 by decide)), tIt_2 _ _ _ _ _ _ (Or.inr (show 2 ≤ 11 by decide)), c1, c2, c3, c4]
      refine ⟨rfl, rfl, rfl, rfl, rfl, rfl, fun j hj => ?_, fun m hm => ?_⟩
      · rw [x6 j hj, tIt_2 _ _ _ _ _ _ (Or.inr (by omega)), c5 j hj]
      · obtain ⟨d1, d2, d3⟩ := (I.i2 hn m hm).2.2.2 (Nat.le_refl _)
        obtain ⟨y1, y2, y3⟩ := x7 m hm
        rw [y1, y2, y3, tIt_o _ _ _ _ (by decide) (by decide), tIt_o _ _ _ _ (by decide) (by decide), tIt_o _ _ _ _ (by decide) (by decide), d1, d2, d3]
        exact ⟨rfl, rfl, rfl⟩
    · exact cI.cong (C.f i (by omega)) (fun d hd => o _ (by omega) (by omega) (by omega)) (fun j => tIt_2 _ _ _ _ _ _ (Or.inl y)) (fun j => by rw [tIt_o _ _ _ _ (by decide) (by decide)]) (fun j => by rw [tIt_o _ _ _ _ (by decide) (by decide)]) (fun j => by rw [tIt_o _ _ _ _ (by decide) (by decide)])
def tMv (T : kT) (nv a m d : Nat) : kT := ts (ts (ts (ts T 6 nv 0 (nI a)) 6 nv 1 (nI m)) 6 nv 2 (nI d)) 0 10 0 (nI (nv + 1))
theorem tMv_o (T : kT) (nv a m d : Nat) {b : Nat} (h0 : b ≠ 0) (h1 : b ≠ 6) : tMv T nv a m d b = T b := by
  unfold tMv
  rw [ts_o _ _ h0, ts_o _ _ h1, ts_o _ _ h1, ts_o _ _ h1]
theorem tMv_0 (T : kT) (nv a m d : Nat) {j l : Nat} (h : j ≠ 10) : tMv T nv a m d 0 j l = T 0 j l := by
  unfold tMv
  rw [ts_ne _ _ (by omega), ts_ne _ _ (by omega), ts_ne _ _ (by omega), ts_ne _ _ (by omega)]
theorem tMv_6 (T : kT) (nv a m d : Nat) {j l : Nat} (h : j ≠ nv) : tMv T nv a m d 6 j l = T 6 j l := by
  unfold tMv
  rw [ts_ne _ _ (by omega), ts_ne _ _ (by omega), ts_ne _ _ (by omega), ts_ne _ _ (by omega)]
theorem tMv_60 (T : kT) (nv a m d : Nat) : tMv T nv a m d 6 nv 0 = nI a := by
  unfold tMv
  rw [ts_ne _ _ (by omega), ts_ne _ _ (by omega), ts_ne _ _ (by omega), ts_eq]
theorem tMv_61 (T : kT) (nv a m d : Nat) : tMv T nv a m d 6 nv 1 = nI m := by
  unfold tMv
  rw [ts_ne _ _ (by omega), ts_ne _ _ (by omega), ts_eq]
theorem tMv_62 (T : kT) (nv a m d : Nat) : tMv T nv a m d 6 nv 2 = nI d := by
  unfold tMv
  rw [ts_ne _ _ (by omega), ts_eq]
theorem Iv.move {T : kT} {nm ni nv a m d t : Nat} (I : Iv T nm ni nv) (hn : nv < 20) (ht : T 0 6 0 = nI t ∧ t ≤ 9000) (ha : t < a ∧ a ≤ t + 600) (hm : m < nm) (hd : d ≤ 1) : Iv (tMv T nv a m d) nm ni (nv + 1) := by
  have e1 := tMv_o T nv a m d (b := 1) (by decide) (by decide)
  have e2 := tMv_o T nv a m d (b := 2) (by decide) (by decide)
  refine Iv.of ⟨I.n.1, I.n.2.1, by omega⟩ ⟨?_, ?_, ?_⟩ ?_ ?_ ?_ (fun j hj => (I.m hj).cong e1 fun i => by rw [e2]) (fun i hi => (I.i1 hi).cong (by rw [e2])) (fun i hi => (I.i2 hi).cong (by rw [tMv_o _ _ _ _ _ (by decide) (by decide)]) (by rw [tMv_o _ _ _ _ _ (by decide) (by decide)]) (by rw [tMv_o _ _ _ _ _ (by decide) (by decide)])) (fun k hk => ?_) (fun i hi => (I.b hi).cong (by rw [e2]))
  · rw [tMv_0 _ _ _ _ _ (by decide)]; exact I.c.1
  · rw [tMv_0 _ _ _ _ _ (by decide)]; exact I.c.2.1
  · exact ts_eq _ _ _ _ _
  · refine ⟨t, ht.2, by rw [tMv_0 _ _ _ _ _ (by decide)]; exact ht.1, fun k hk => ?_⟩
    by_cases y : k = nv
    · rw [y, tMv_60]
      exact ⟨a, ha.1, by omega, rfl⟩
    · rw [tMv_6 _ _ _ _ _ y]
      obtain ⟨t', t1, t2, t3⟩ := I.t
      have : t' = t := by
        rw [ht.1, eqI (by omega) (by omega)] at t2
        exact t2.symm
      rw [← this]
      exact t3 k (by omega)
  · unfold iS
    rw [tMv_0 _ _ _ _ _ (by decide), tMv_0 _ _ _ _ _ (by decide), tMv_0 _ _ _ _ _ (by decide), tMv_0 _ _ _ _ _ (by decide), tMv_0 _ _ _ _ _ (by decide), tMv_0 _ _ _ _ _ (by decide)]
    exact I.s
  · unfold iH
    rw [tMv_0 _ _ _ _ _ (by decide)]
    exact I.h
  · unfold iV
    by_cases y : k = nv
    · rw [y, tMv_61, tMv_62]
      have : d = 0 ∨ d = 1 := by omega
      exact ⟨⟨m, hm, rfl⟩, this.imp (fun e => by rw [e]; rfl) (fun e => by rw [e]; rfl)⟩
    · rw [tMv_6 _ _ _ _ _ y, tMv_6 _ _ _ _ _ y]
      exact I.v (by omega)
theorem C_mv {h h' : kH} {T : kT} {nm ni nv a m d : Nat} (C : Com h 1 T nm ni nv) (o : ∀ b, b ≠ 7 → b ≠ 8 → b ≠ 9 → b ≠ 10 → h' b = h b) (s : h' 7 0 = nI (nv + 1)) (w0 : h' 8 = ru (h 8) nv (nI a)) (w1 : h' 9 = ru (h 9) nv (nI m)) (w2 : h' 10 = ru (h 10) nv (nI d)) : Com h' 1 (tMv T nv a m d) nm ni (nv + 1) := by
  have e1 := tMv_o T nv a m d (b := 1) (by decide) (by decide)
  refine Com.of ?_ (C.b.cong (o _ (by omega) (by omega) (by omega) (by omega)) fun j hj => tMv_0 _ _ _ _ _ (by omega)) (C.d.cong (o _ (by omega) (by omega) (by omega) (by omega)) (o _ (by omega) (by omega) (by omega) (by omega)) (o _ (by omega) (by omega) (by omega) (by omega)) fun j _ => by rw [e1]; exact ⟨rfl, rfl, rfl⟩) (C.f.cong (fun i d _ _ => o _ (by omega) (by omega) (by omega) (by omega)) (tMv_o _ _ _ _ _ (by decide) (by decide)) (tMv_o _ _ _ _ _ (by decide) (by decide)) (tMv_o _ _ _ _ _ (by decide) (by decide)) (tMv_o _ _ _ _ _ (by decide) (by decide))) (fun k hk => ?_)
  · obtain ⟨a1, a2, a3, a4, a5, a6⟩ := C.a
    unfold cA
    rw [o 1 (by omega) (by omega) (by omega) (by omega), ps_cong e1, tMv_0 _ _ _ _ _ (show 6 ≠ 10 by decide), tMv_0 _ _ _ _ _ (show 7 ≠ 10 by decide), tMv_0 _ _ _ _ _ (show 8 ≠ 10 by decide), tMv_0 _ _ _ _ _ (show 9 ≠ 10 by decide)]
    exact ⟨a1, a2, a3, a4, a5, s.trans (ts_eq _ _ _ _ _).symm⟩
  · rw [show (1 : Nat) + 7 = 8 from rfl, show (1 : Nat) + 8 = 9 from rfl, show (1 : Nat) + 9 = 10 from rfl, w0, w1, w2]
    by_cases y : k = nv
    · rw [y, ru_eq, ru_eq, ru_eq, tMv_60, tMv_61, tMv_62]
      exact ⟨rfl, rfl, rfl⟩
    · rw [ru_ne _ _ y, ru_ne _ _ y, ru_ne _ _ y, tMv_6 _ _ _ _ _ y, tMv_6 _ _ _ _ _ y, tMv_6 _ _ _ _ _ y]
      exact C.g k (by omega)
