/-! PURE: recusals by hand, opening, casting. -/
section
variable {T : kT} {nm ni nv i : Nat} {h : kH} {c : Nat}
def slot (k j : Nat) : Prop := (k = 2 ∧ j = 2) ∨ (k = 3 ∧ j = 11) ∨ (k = 4 ∧ j = 9) ∨ (k = 5 ∧ j = 10)
theorem Com.slot {k j : Nat} (C : Com h c T nm ni nv) (hn : ni ≤ 12) (hi : i < ni) (hk : slot k j) (v : Int32) : Com (hset h (c + 10 + 5 * i) k v) c (ts T 2 i j v) nm ni nv := by
  refine C.item hn hi ?_ (fun a a1 a2 a3 => hs_of _ _ (by omega)) (ts_o _ _ (by decide)) (fun j => ⟨rfl, rfl, rfl, rfl⟩) (ts_o _ _ (by decide)) (fun i' j q => ⟨ts_ne _ _ (by omega), rfl, rfl, rfl⟩)
  obtain ⟨a1, a2, a3, a4, a5, a6, a7, a8⟩ := C.f i hi
  unfold cI
  rw [hs_of h v (show c + 10 + 5 * i + 1 ≠ c + 10 + 5 * i by omega), hs_of h v (show c + 10 + 5 * i + 2 ≠ c + 10 + 5 * i by omega), hs_of h v (show c + 10 + 5 * i + 3 ≠ c + 10 + 5 * i by omega), hs_of h v (show c + 10 + 5 * i + 4 ≠ c + 10 + 5 * i by omega), ts_o T v (show 3 ≠ 2 by decide), ts_o T v (show 4 ≠ 2 by decide), ts_o T v (show 5 ≠ 2 by decide)]
  rcases hk with ⟨rfl, rfl⟩ | ⟨rfl, rfl⟩ | ⟨rfl, rfl⟩ | ⟨rfl, rfl⟩
  · rw [hs_ne h v (show ¬ (c + 10 + 5 * i = c + 10 + 5 * i ∧ 0 = 2) by omega), hs_ne h v (show ¬ (c + 10 + 5 * i = c + 10 + 5 * i ∧ 1 = 2) by omega), hs_eq, hs_ne h v (show ¬ (c + 10 + 5 * i = c + 10 + 5 * i ∧ 3 = 2) by omega), hs_ne h v (show ¬ (c + 10 + 5 * i = c + 10 + 5 * i ∧ 4 = 2) by omega), hs_ne h v (show ¬ (c + 10 + 5 * i = c + 10 + 5 * i ∧ 5 = 2) by omega)]
    rw [ts_ne T (c' := 0) _ (by omega), ts_ne T (c' := 1) _ (by omega), ts_eq, ts_ne T (c' := 11) _ (by omega), ts_ne T (c' := 9) _ (by omega), ts_ne T (c' := 10) _ (by omega)]
    exact ⟨a1, a2, rfl, a4, a5, a6, fun j hj => by rw [ts_ne _ _ (by omega)]; exact a7 j hj, a8⟩
  · rw [hs_ne h v (show ¬ (c + 10 + 5 * i = c + 10 + 5 * i ∧ 0 = 3) by omega), hs_ne h v (show ¬ (c + 10 + 5 * i = c + 10 + 5 * i ∧ 1 = 3) by omega), hs_eq, hs_ne h v (show ¬ (c + 10 + 5 * i = c + 10 + 5 * i ∧ 2 = 3) by omega), hs_ne h v (show ¬ (c + 10 + 5 * i = c + 10 + 5 * i ∧ 4 = 3) by omega), hs_ne h v (show ¬ (c + 10 + 5 * i = c + 10 + 5 * i ∧ 5 = 3) by omega)]
    rw [ts_ne T (c' := 0) _ (by omega), ts_ne T (c' := 1) _ (by omega), ts_eq, ts_ne T (c' := 2) _ (by omega), ts_ne T (c' := 9) _ (by omega), ts_ne T (c' := 10) _ (by omega)]
    exact ⟨a1, a2, a3, rfl, a5, a6, fun j hj => by rw [ts_ne _ _ (by omega)]; exact a7 j hj, a8⟩
  · rw [hs_ne h v (show ¬ (c + 10 + 5 * i = c + 10 + 5 * i ∧ 0 = 4) by omega), hs_ne h v (show ¬ (c + 10 + 5 * i = c + 10 + 5 * i ∧ 1 = 4) by omega), hs_eq, hs_ne h v (show ¬ (c + 10 + 5 * i = c + 10 + 5 * i ∧ 2 = 4) by omega), hs_ne h v (show ¬ (c + 10 + 5 * i = c + 10 + 5 * i ∧ 3 = 4) by omega), hs_ne h v (show ¬ (c + 10 + 5 * i = c + 10 + 5 * i ∧ 5 = 4) by omega)]
    rw [ts_ne T (c' := 0) _ (by omega), ts_ne T (c' := 1) _ (by omega), ts_eq, ts_ne T (c' := 2) _ (by omega), ts_ne T (c' := 11) _ (by omega), ts_ne T (c' := 10) _ (by omega)]
    exact ⟨a1, a2, a3, a4, rfl, a6, fun j hj => by rw [ts_ne _ _ (by omega)]; exact a7 j hj, a8⟩
  · rw [hs_ne h v (show ¬ (c + 10 + 5 * i = c + 10 + 5 * i ∧ 0 = 5) by omega), hs_ne h v (show ¬ (c + 10 + 5 * i = c + 10 + 5 * i ∧ 1 = 5) by omega), hs_eq, hs_ne h v (show ¬ (c + 10 + 5 * i = c + 10 + 5 * i ∧ 2 = 5) by omega), hs_ne h v (show ¬ (c + 10 + 5 * i = c + 10 + 5 * i ∧ 3 = 5) by omega), hs_ne h v (show ¬ (c + 10 + 5 * i = c + 10 + 5 * i ∧ 4 = 5) by omega)]
    rw [ts_ne T (c' := 0) _ (by omega), ts_ne T (c' := 1) _ (by omega), ts_eq, ts_ne T (c' := 2) _ (by omega), ts_ne T (c' := 11) _ (by omega), ts_ne T (c' := 9) _ (by omega)]
    exact ⟨a1, a2, a3, a4, a5, rfl, fun j hj => by rw [ts_ne _ _ (by omega)]; exact a7 j hj, a8⟩
/-- an item's state changed: as long as no breaker stands there -/
theorem Iv.state (I : Iv T nm ni nv) (hi : i < ni) {a : Nat} (ha : a ≤ 4) (hb : T 2 i 9 = -6 ∨ a = 3 ∨ a = 4) : Iv (ts T 2 i 2 (nI a)) nm ni nv := by
  refine I.of2 (fun a q => ts_o T _ q) (fun j => ts_ne _ _ (by omega)) (fun j hj => ?_) (fun j hj => ?_)
  · by_cases q : j = i
    · obtain ⟨b1, b2, b3, b4, b5⟩ := I.i1 hj
      rw [q] at b1 b2 b3 b4 b5 ⊢
      unfold iI1
      rw [ts_ne T (c' := 0) _ (by omega), ts_ne T (c' := 1) _ (by omega), ts_eq, ts_ne T (c' := 11) _ (by omega), ts_ne T (c' := 9) _ (by omega), ts_ne T (c' := 10) _ (by omega)]
      exact ⟨b1, ⟨a, ha, rfl⟩, b3, b4, fun z => by omega⟩
    · exact (I.i1 hj).cong (by funext k; exact ts_ne _ _ (by omega))
  · by_cases q : j = i
    · rw [q]
      unfold iB
      rw [ts_eq, ts_ne T (c' := 9) _ (by omega)]
      rcases hb with e | e | e
      · exact Or.inl e
      · exact Or.inr (Or.inl (by rw [e]; rfl))
      · exact Or.inr (Or.inr (by rw [e]; rfl))
    · exact (I.b hj).cong (by funext k; exact ts_ne _ _ (by omega))
theorem Iv.hand (I : Iv T nm ni nv) (hi : i < ni) {a : Nat} (ha : a < 4096) : Iv (ts T 2 i 11 (nI a)) nm ni nv := by
  refine I.of2 (fun a q => ts_o T _ q) (fun j => ts_ne _ _ (by omega)) (fun j hj => ?_) (fun j hj => ?_)
  · by_cases q : j = i
    · obtain ⟨b1, b2, b3, b4, b5⟩ := I.i1 hj
      rw [q] at b1 b2 b3 b4 b5 ⊢
      unfold iI1
      rw [ts_ne T (c' := 0) _ (by omega), ts_ne T (c' := 1) _ (by omega), ts_eq, ts_ne T (c' := 2) _ (by omega), ts_ne T (c' := 9) _ (by omega), ts_ne T (c' := 10) _ (by omega)]
      exact ⟨b1, b2, b3, ⟨a, ha, rfl⟩, fun z => by omega⟩
    · exact (I.i1 hj).cong (by funext k; exact ts_ne _ _ (by omega))
  · unfold iB
    rw [ts_ne T (c' := 9) _ (by omega), ts_ne T (c' := 2) _ (by omega)]
    exact I.b hj
end
theorem sh_0 : ∀ j, j < 31 → (0 : Int32) <<< (nI j &&& 31) = nI 0 := by decide +kernel
theorem hand_val {a m : Nat} (ha : a < 4096) (hm : m < 12) {z : Int32} (hz : z = 0 ∨ z = 1) : ∃ b, b < 4096 ∧ (nI a &&& (((1 : Int32) <<< (nI m &&& 31)) ^^^ (-1))) ||| (z <<< (nI m &&& 31)) = nI b := by
  have l : a &&& (4294967295 - 2 ^ m) < 4096 := Nat.lt_of_le_of_lt Nat.and_le_left ha
  rw [clr_bit (by omega) (by omega)]
  rcases hz with rfl | rfl
  · rw [sh_0 m (by omega), fa_or, Nat.or_zero]
    exact ⟨_, l, rfl⟩
  · rw [sh_1 m (by omega), fa_or]
    exact ⟨_, or_lt l hm, rfl⟩
theorem in01 {z : Int32} : (f_M_in z 0 1 = true) = (z = 0 ∨ z = 1) := by
  apply propext
  constructor
  · intro h
    rcases in_cases (x := z) (a := 0) (b := 1) (by decide) (by decide) with a | ⟨d, _, hd, rfl⟩
    · rw [show f_M_in z 0 1 = false from in_f a] at h
      cases h
    · have : d = 0 ∨ d = 1 := by omega
      rcases this with rfl | rfl
      · exact Or.inl rfl
      · exact Or.inr rfl
  · rintro (rfl | rfl) <;> decide
theorem tw_recuse (x y z : Int32) : Tw (fun h => f_C_recuseByHand h 1 x y z) (fun h => f_M_recuse h x y z) := by
  intro T nm ni nv I
  have hn := I.n
  rcases ixc x (n := nm) (by omega) with q | ⟨m, hm, rfl⟩
  · refine Or.inl ⟨-1, StpE.same er_1 (fun h C => ?_) (fun h R => ?_)⟩
    · unfold f_C_recuseByHand; rw [C_hasMember_bad C I q, if_neg (by decide)]
    · unfold f_M_recuse; rw [M_isMember_bad R I q, kBi_s, if_neg (by decide)]
  rcases ixc y (n := ni) (by omega) with q | ⟨i, hi, rfl⟩
  · refine Or.inl ⟨-1, StpE.same er_1 (fun h C => ?_) (fun h R => ?_)⟩
    · unfold f_C_recuseByHand; rw [C_hasMember_ok C I hm, if_pos rfl, C_hasItem_bad C I q, if_neg (by decide)]
    · unfold f_M_recuse; rw [M_isMember_ok R I hm, kBi_s, if_pos rfl, M_isItem_bad R I q, kBi_s, if_neg (by decide)]
  by_cases hz : z = 0 ∨ z = 1
  · have cc : ∀ h, Com h 1 T nm ni nv → f_C_recuseByHand h 1 (nI m) (nI i) z = b_C_recuseByHand_30 h 1 (nI m) (nI i) z := by
      intro h C
      unfold f_C_recuseByHand
      rw [C_hasMember_ok C I hm, if_pos rfl, C_hasItem_ok C I hi, if_pos rfl]
      rcases hz with q | q
      · rw [if_pos q]
      · rw [if_neg (by rw [q]; decide), if_pos q]
    by_cases a : sAhead T i = true
    · obtain ⟨_, _, _, ⟨o, o1, o2⟩, _⟩ := I.i1 (show i < 12 by omega)
      obtain ⟨b, b1, b2⟩ := hand_val o1 (show m < 12 by omega) hz
      have I' := I.hand hi b1
      refine Or.inr ⟨kB2 (sRec (ts T 2 i 11 (nI b)) i m), ts T 2 i 11 (nI b), nm, ni, nv, StpO.of (by cases sRec (ts T 2 i 11 (nI b)) i m <;> decide) I' (fun h C => ?_) (fun h R H => ?_)⟩
      · have C' := C.slot hn.2.1 hi (k := 3) (j := 11) (Or.inr (Or.inl ⟨rfl, rfl⟩)) (nI b)
        refine ⟨_, ?_, fun a p _ _ _ => hs_of _ _ (by omega), C'⟩
        rw [cc h C]
        unfold b_C_recuseByHand_30
        rw [kG_nI (by omega) (by decide), kx_nI (by omega), C_isPending C hi, if_pos a, (C.f i hi).2.2.2.1, o2, b2, kLet_s, C_isRecused C' I' hi hm, kBi_s]
        cases sRec (ts T 2 i 11 (nI b)) i m <;> rfl
      · have R' : Row (hset (recd h) 787 (100 + 12 * i + 11) (nI b) 787) (ts T 2 i 11 (nI b)) nv := by
          rw [hs_ru]
          exact (recd_row R).set2 (by omega) (by omega) _
        refine ⟨hset (recd h) 787 (100 + 12 * i + 11) (nI b), ?_, MFs.one fun a p => hs_of _ _ p, R'⟩
        unfold f_M_recuse
        rw [M_isMember_ok R I hm, kBi_s, if_pos rfl, M_isItem_ok R I hi, kBi_s, if_pos rfl, if_pos (in01.mpr hz), M_isAhead R I (by omega), kBi_s, if_pos a, M_record H, kBi_s, show (11 : Int32) = nI 11 from rfl, e2, kG_nI (by omega) (by decide), kG_nI (by omega) (by decide), kx_nI (by omega), recd_787, R.2.2.1 i 11 (by omega) (by decide), o2, b2, kLet_s, M_isRecused R' (by omega) (by omega), kBi_s]
        cases sRec (ts T 2 i 11 (nI b)) i m <;> rfl
    · refine Or.inl ⟨-5, StpE.same er_5 (fun h C => ?_) (fun h R => ?_)⟩
      · rw [cc h C]
        unfold b_C_recuseByHand_30
        rw [kG_nI (by omega) (by decide), kx_nI (by omega), C_isPending C hi, if_neg a]
      · unfold f_M_recuse
        rw [M_isMember_ok R I hm, kBi_s, if_pos rfl, M_isItem_ok R I hi, kBi_s, if_pos rfl, if_pos (in01.mpr hz), M_isAhead R I (by omega), kBi_s, if_neg a]
  · refine Or.inl ⟨-2, StpE.same er_2 (fun h C => ?_) (fun h R => ?_)⟩
    · unfold f_C_recuseByHand
      rw [C_hasMember_ok C I hm, if_pos rfl, C_hasItem_ok C I hi, if_pos rfl, if_neg (fun q => hz (Or.inl q)), if_neg (fun q => hz (Or.inr q))]
    · unfold f_M_recuse
      rw [M_isMember_ok R I hm, kBi_s, if_pos rfl, M_isItem_ok R I hi, kBi_s, if_pos rfl, if_neg (fun q => hz (in01.mp q))]
-- the chair's casting vote
theorem Iv.cast {T : kT} {nm ni nv i r a : Nat} (I : Iv T nm ni nv) (hi : i < ni) (hr : r < nm) (h2 : T 2 i 2 = 2) (ha : a = 3 ∨ a = 4) : Iv (ts (ts (ts T 2 i 2 (nI a)) 2 i 9 (nI r)) 1 r 4 (T 1 r 4 + 1)) nm ni nv := by
  have hn := I.n
  have b6 : T 2 i 9 = -6 := by
    rcases I.b (show i < 12 by omega) with e | e | e
    · exact e
    · rw [h2] at e; exact absurd e (by decide)
    · rw [h2] at e; exact absurd e (by decide)
  have I1 := I.state hi (a := a) (by omega) (Or.inl b6)
  have e0 : ∀ b, b ≠ 1 → b ≠ 2 → ts (ts (ts T 2 i 2 (nI a)) 2 i 9 (nI r)) 1 r 4 (T 1 r 4 + 1) b = T b := fun b q1 q2 => by
    rw [ts_o _ _ q1, ts_o _ _ q2, ts_o _ _ q2]
  have e2 : ts (ts (ts T 2 i 2 (nI a)) 2 i 9 (nI r)) 1 r 4 (T 1 r 4 + 1) 2 = ts (ts T 2 i 2 (nI a)) 2 i 9 (nI r) 2 := ts_o _ _ (by decide)
  refine Iv.of I.n (by rw [e0 0 (by decide) (by decide)]; exact I.c) (I.t.cong (by rw [e0 0 (by decide) (by decide)]) (e0 6 (by decide) (by decide))) (I.s.cong (e0 0 (by decide) (by decide))) (by unfold iH; rw [e0 0 (by decide) (by decide)]; exact I.h) (fun m hm => ?_) (fun j hj => ?_) (fun j hj => (I.i2 hj).cong (by rw [e0 3 (by decide) (by decide)]) (by rw [e0 4 (by decide) (by decide)]) (by rw [e0 5 (by decide) (by decide)])) (fun k hk => (I.v hk).cong (e0 6 (by decide) (by decide))) (fun j hj => ?_)
  · obtain ⟨b1, b2, b3, b4, b5⟩ := I.m hm
    unfold iM
    rw [e2, ts_ne _ (b' := m) (c' := 2) _ (by omega), ts_ne _ (b' := m) (c' := 3) _ (by omega), ts_ne _ (b' := m) (c' := 0) _ (by omega), ts_ne _ (b' := m) (c' := 1) _ (by omega)]
    refine ⟨b1, b2, b3, b4, ?_⟩
    have key : fb_ct (fun j => decide (ts (ts T 2 i 2 (nI a)) 2 i 9 (nI r) 2 j 9 = nI m)) ni = fb_ct (fun j => decide (T 2 j 9 = nI m)) ni + (if m = r then 1 else 0) := by
      have u := fb_ct_upd (fun j => decide (T 2 j 9 = nI m)) (decide (r = m)) hi
      have z : ¬ decide (T 2 i 9 = nI m) = true := by
        rw [b6]
        intro y
        exact n6_ne (by omega) (of_decide_eq_true y).symm
      rw [if_neg z, Nat.add_zero] at u
      have w : fb_ct (fun j => decide (ts (ts T 2 i 2 (nI a)) 2 i 9 (nI r) 2 j 9 = nI m)) ni = fb_ct (fun k => if k = i then decide (r = m) else decide (T 2 k 9 = nI m)) ni := by
        apply fb_ct_cong
        intro k hk
        by_cases q : k = i
        · rw [q, ts_eq, if_pos rfl]
          exact decide_eq_decide.mpr (by rw [eqI (by omega) (by omega)])
        · rw [ts_ne _ _ (by omega), ts_ne _ _ (by omega), if_neg q]
      rw [w, u]
      by_cases q : m = r
      · simp [q]
      · have q' : ¬ r = m := fun e => q e.symm
        simp [q, q']
    rw [key]
    by_cases q : m = r
    · rw [q, ts_eq, if_pos rfl, ← nI_1, ← q, ← b5, q]
    · rw [ts_ne _ _ (by omega), if_neg q, Nat.add_zero]
      exact b5
  · rw [show ts (ts (ts T 2 i 2 (nI a)) 2 i 9 (nI r)) 1 r 4 (T 1 r 4 + 1) = ts (ts (ts T 2 i 2 (nI a)) 2 i 9 (nI r)) 1 r 4 (T 1 r 4 + 1) from rfl]
    by_cases q : j = i
    · obtain ⟨b1, b2, b3, b4, b5⟩ := I1.i1 hj
      rw [q] at b1 b2 b3 b4 b5 ⊢
      unfold iI1
      rw [e2, ts_ne _ (c' := 0) _ (by omega), ts_ne _ (c' := 1) _ (by omega), ts_eq, ts_ne _ (b := i) (c := 9) (c' := 11) _ (by omega), ts_ne _ (b := i) (c := 9) (c' := 2) _ (by omega), ts_ne _ (b := i) (c := 9) (c' := 10) _ (by omega)]
      exact ⟨b1, b2, Or.inr ⟨r, hr, rfl⟩, b4, fun z => by omega⟩
    · exact (I1.i1 hj).cong (by rw [e2]; funext k; exact ts_ne _ _ (by omega))
  · by_cases q : j = i
    · rw [q]
      unfold iB
      rw [e2, ts_ne _ (c' := 2) _ (by omega), ts_eq T]
      rcases ha with e | e
      · exact Or.inr (Or.inl (by rw [e]; rfl))
      · exact Or.inr (Or.inr (by rw [e]; rfl))
    · exact (I1.b hj).cong (by rw [e2]; funext k; exact ts_ne _ _ (by omega))
theorem twv_cast (x : Int32) : TwV nng (fun h => f_C_breakTie h 1 x) (fun h => f_M_cast h x) := by
  intro T nm ni nv I
  have hn := I.n
  rcases in_cases (x := x) (a := 1) (b := 2) (by decide) (by decide) with (a : x < 1 ∨ 2 < x) | ⟨w, w1, w2, rfl⟩
  · refine Or.inl ⟨-2, StpE.same er_2 (fun h _ => ?_) (fun h R => ?_)⟩
    · unfold f_C_breakTie
      rw [if_neg (fun e => by rw [e] at a; revert a; decide), if_neg (fun e => by rw [e] at a; revert a; decide)]
    · unfold f_M_cast
      rw [in_f a, if_neg (by decide)]
  have cc : ∀ h, f_C_breakTie h 1 (nI w) = b_C_breakTie_13 h 1 (nI w) := by
    intro h
    unfold f_C_breakTie
    have : w = 1 ∨ w = 2 := by omega
    rcases this with rfl | rfl <;> rfl
  have cm : f_M_in (nI w) 1 2 = true := in_nI w1 w2 (by decide)
  have e2w : (2 : Int32) + nI w = nI (2 + w) := by rw [show (2 : Int32) = nI 2 from rfl, nI_add]
  by_cases z : ∃ i r, i < ni ∧ r < nm ∧ Fst (fun i => decide (T 2 i 2 = 2)) ni (nI i) ∧ ChairIs T nm (nI r) ∧ sRec T i r = false
  · obtain ⟨i, r, hi, hr, F, K, hc⟩ := z
    have h2 : T 2 i 2 = 2 := by
      rcases F with ⟨e, _⟩ | ⟨k, _, k2, _, e⟩
      · exact absurd e (n6_ne (by omega))
      · rw [eqI (by omega) (by omega)] at e
        rw [e]
        exact of_decide_eq_true k2
    refine Or.inr ⟨nI (2 + w), ts (ts (ts T 2 i 2 (nI (2 + w))) 2 i 9 (nI r)) 1 r 4 (T 1 r 4 + 1), nm, ni, nv, pos_nI (by omega), StpO.of (er_n (by omega)) (I.cast hi hr h2 (by omega)) (fun h C => ?_) (fun h R H => ?_)⟩
    · obtain ⟨f1, f2, f3⟩ := C_firstIn C I 2
      obtain rfl := f3.one F
      obtain ⟨g1, g2, g3⟩ := C_chair C I
      obtain rfl := g3.one I K
      have C1 := (C.slot hn.2.1 hi (k := 2) (j := 2) (Or.inl ⟨rfl, rfl⟩) (nI (2 + w))).slot hn.2.1 hi (k := 4) (j := 9) (Or.inr (Or.inr (Or.inl ⟨rfl, rfl⟩))) (nI r)
      refine ⟨hset (hset h (1 + 10 + 5 * i) 2 (nI (2 + w))) (1 + 10 + 5 * i) 4 (nI r), ?_, fun a p _ _ _ => by rw [hs_of _ _ (by omega), hs_of _ _ (by omega)], ?_⟩
      · rw [cc]
        unfold b_C_breakTie_13 b_C_breakTie_69
        rw [f2, kBi_s, g2, kBi_s, if_neg (n6_ne (by omega)), if_neg (n6_ne (by omega)), kG_nI (by omega) (by decide), kx_nI (by omega), C_isRecused C I hi hr, hc, kBi_s, if_neg (by decide), kG_nI (by omega) (by decide), kLet_s, kLet_s, kG_nI (by omega) (by decide), kLet_s, kLet_s, kG_nI (by omega) (by decide), kG_nI (by omega) (by decide), kG_nI (by omega) (by decide)]
        have : w = 1 ∨ w = 2 := by omega
        rcases this with rfl | rfl
        · rw [if_pos (by decide), hs_ne _ _ (by omega), hs_eq]
          rfl
        · rw [if_neg (by decide), hs_ne _ _ (by omega), hs_eq]
          rfl
      · refine Com.of ?_ C1.b (fun m hm => ?_) C1.f C1.g
        · have p : ps (ts (ts (ts T 2 i 2 (nI (2 + w))) 2 i 9 (nI r)) 1 r 4 (T 1 r 4 + 1)) = ps (ts (ts T 2 i 2 (nI (2 + w))) 2 i 9 (nI r)) := by
            funext j
            unfold ps
            rw [ts_ne _ (b' := j) (c' := 2) _ (by omega)]
          unfold cA
          rw [p]
          exact C1.a
        · rw [ts_ne _ (b' := m) (c' := 0) _ (by omega), ts_ne _ (b' := m) (c' := 1) _ (by omega), ts_ne _ (b' := m) (c' := 3) _ (by omega)]
          exact C1.d m hm
    · obtain ⟨f1, f2, f3⟩ := M_itemIn R I 2
      obtain rfl := f3.one F
      obtain ⟨g1, g2, g3⟩ := M_chair R I
      obtain rfl := g3.one I K
      have R1 := ((recd_row R).set2 (i := i) (j := 2) (by omega) (by decide) (nI (2 + w))).set2 (i := i) (j := 9) (by omega) (by decide) (nI r)
      have R2 := R1.set1 (m := r) (j := 4) (by omega) (by decide) (T 1 r 4 + 1)
      have er : hset (hset (recd h) 787 (100 + 12 * i + 2) (nI (2 + w))) 787 (100 + 12 * i + 9) (nI r) 787 (20 + 6 * r + 4) = T 1 r 4 := by
        rw [hs_ne _ _ (by omega), hs_ne _ _ (by omega), recd_787]
        exact R.2.1 r 4 (by omega) (by decide)
      refine ⟨hset (hset (hset (recd h) 787 (100 + 12 * i + 2) (nI (2 + w))) 787 (100 + 12 * i + 9) (nI r)) 787 (20 + 6 * r + 4) (T 1 r 4 + 1), ?_, MFs.one fun a p => by rw [hs_of _ _ p, hs_of _ _ p, hs_of _ _ p], ?_⟩
      · unfold f_M_cast
        rw [cm, if_pos rfl, f2, kBi_s, g2, kBi_s, if_neg (pos_nI (by omega)), if_neg (pos_nI (by omega)), M_isRecused R (by omega) (by omega), hc, kBi_s, if_neg (by decide), M_record H, kBi_s, e2w, show (2 : Int32) = nI 2 from rfl, e2, show (9 : Int32) = nI 9 from rfl, e2, show (4 : Int32) = nI 4 from rfl, e1, kG_nI (by omega) (by decide), kx_nI (by omega), kLet_s, kG_nI (by omega) (by decide), kx_nI (by omega), kLet_s, kG_nI (by omega) (by decide), kG_nI (by omega) (by decide), kx_nI (by omega), er, kLet_s]
      · rw [hs_ru, hs_ru, hs_ru]
        exact R2
  · refine Or.inl ⟨-5, StpE.same er_5 (fun h C => ?_) (fun h R => ?_)⟩
    · obtain ⟨f1, f2, f3⟩ := C_firstIn C I 2
      obtain ⟨g1, g2, g3⟩ := C_chair C I
      rw [cc]
      unfold b_C_breakTie_13
      rw [f2, kBi_s, g2, kBi_s]
      rcases f3.no with q | ⟨i, hi, rfl⟩
      · rw [if_pos q]
      · rw [if_neg (n6_ne (by omega))]
        rcases g3.no with q | ⟨r, hr, rfl⟩
        · rw [if_pos q]
        · rw [if_neg (n6_ne (by omega)), kG_nI (by omega) (by decide), kx_nI (by omega), C_isRecused C I hi hr, kBi_s]
          by_cases y : sRec T i r = true
          · rw [if_pos y]
          · exact absurd ⟨i, r, hi, hr, f3, g3, by simpa using y⟩ z
    · obtain ⟨f1, f2, f3⟩ := M_itemIn R I 2
      obtain ⟨g1, g2, g3⟩ := M_chair R I
      unfold f_M_cast
      rw [cm, if_pos rfl, f2, kBi_s, g2, kBi_s]
      rcases f3.no with q | ⟨i, hi, rfl⟩
      · rw [q, if_pos n6_lt]
      · rw [if_neg (pos_nI (by omega))]
        rcases g3.no with q | ⟨r, hr, rfl⟩
        · rw [q, if_pos n6_lt]
        · rw [if_neg (pos_nI (by omega)), M_isRecused R (by omega) (by omega), kBi_s]
          by_cases y : sRec T i r = true
          · rw [if_pos y]
          · exact absurd ⟨i, r, hi, hr, f3, g3, by simpa using y⟩ z
theorem tw_cast (x : Int32) : Tw (fun h => f_C_breakTie h 1 x) (fun h => f_M_cast h x) := (twv_cast x).tw
