/-! PURE: holders named, choices told, votes given, recusals by hand. -/
section
variable {T : kT} {nm ni nv i m : Nat}
theorem Iv.pair3 (I : Iv T nm ni nv) (hi : i < ni) {v : Int32} (hv : no v nm) : Iv (ts T 3 i m v) nm ni nv := by
  refine I.of3 (fun a a1 _ _ => ts_o T v a1) (fun i' h' m' hm' => ?_)
  obtain ⟨b1, b2, b3, b4⟩ := I.i2 h' m' hm'
  rw [ts_o T v (show 4 ≠ 3 by decide), ts_o T v (show 5 ≠ 3 by decide)]
  by_cases q : i' = i ∧ m' = m
  · rw [q.1, q.2, ts_eq]
    rw [q.1, q.2] at b2 b3
    exact ⟨hv, b2, b3, fun z => by omega⟩
  · rw [ts_ne _ _ (by omega)]
    exact ⟨b1, b2, b3, b4⟩
theorem Iv.pair4 (I : Iv T nm ni nv) (hi : i < ni) {v : Int32} (hv : no v 3) : Iv (ts T 4 i m v) nm ni nv := by
  refine I.of3 (fun a _ a1 _ => ts_o T v a1) (fun i' h' m' hm' => ?_)
  obtain ⟨b1, b2, b3, b4⟩ := I.i2 h' m' hm'
  rw [ts_o T v (show 3 ≠ 4 by decide), ts_o T v (show 5 ≠ 4 by decide)]
  by_cases q : i' = i ∧ m' = m
  · rw [q.1, q.2, ts_eq]
    rw [q.1, q.2] at b1 b3
    exact ⟨b1, hv, b3, fun z => by omega⟩
  · rw [ts_ne _ _ (by omega)]
    exact ⟨b1, b2, b3, b4⟩
theorem Iv.pair5 (I : Iv T nm ni nv) (hi : i < ni) {v : Int32} (hv : no v 3) : Iv (ts T 5 i m v) nm ni nv := by
  refine I.of3 (fun a _ _ a1 => ts_o T v a1) (fun i' h' m' hm' => ?_)
  obtain ⟨b1, b2, b3, b4⟩ := I.i2 h' m' hm'
  rw [ts_o T v (show 3 ≠ 5 by decide), ts_o T v (show 4 ≠ 5 by decide)]
  by_cases q : i' = i ∧ m' = m
  · rw [q.1, q.2, ts_eq]
    rw [q.1, q.2] at b1 b2
    exact ⟨b1, b2, hv, fun z => by omega⟩
  · rw [ts_ne _ _ (by omega)]
    exact ⟨b1, b2, b3, b4⟩
theorem Iv.holder (I : Iv T nm ni nv) (hm : m < nm) {v : Int32} (hv : no v nm) : Iv (ts T 1 m 3 v) nm ni nv := by
  refine I.of1 (fun a q => ts_o T _ q) (fun j hj => ?_)
  obtain ⟨b1, b2, b3, b4, b5⟩ := I.m hj
  unfold iM
  rw [ts_o T _ (show 2 ≠ 1 by decide), ts_ne T (b' := j) (c' := 2) _ (by omega), ts_ne T (b' := j) (c' := 0) _ (by omega), ts_ne T (b' := j) (c' := 1) _ (by omega), ts_ne T (b' := j) (c' := 4) _ (by omega)]
  by_cases z : j = m
  · rw [z, ts_eq]
    rw [z] at b1 b4 b5
    exact ⟨b1, hv, fun y => by omega, b4, b5⟩
  · rw [ts_ne _ _ (by omega)]
    exact ⟨b1, b2, b3, b4, b5⟩
variable {h : kH} {c : Nat}
theorem Com.pair3 (C : Com h c T nm ni nv) (hn : ni ≤ 12) (hi : i < ni) (v : Int32) : Com (hset h (c + 10 + 5 * i + 4) m v) c (ts T 3 i m v) nm ni nv := by
  refine C.item hn hi ?_ (fun a a1 a2 a3 => hs_of _ _ (by omega)) (ts_o _ _ (by decide)) (fun j => ⟨rfl, rfl, rfl, rfl⟩) (ts_o _ _ (by decide)) (fun i' j q => ⟨rfl, ts_ne _ _ (by omega), rfl, rfl⟩)
  obtain ⟨a1, a2, a3, a4, a5, a6, a7, a8⟩ := C.f i hi
  unfold cI
  rw [hs_of h v (show c + 10 + 5 * i ≠ c + 10 + 5 * i + 4 by omega), hs_of h v (show c + 10 + 5 * i + 1 ≠ c + 10 + 5 * i + 4 by omega), hs_of h v (show c + 10 + 5 * i + 2 ≠ c + 10 + 5 * i + 4 by omega), hs_of h v (show c + 10 + 5 * i + 3 ≠ c + 10 + 5 * i + 4 by omega), ts_o T v (show 2 ≠ 3 by decide), ts_o T v (show 4 ≠ 3 by decide), ts_o T v (show 5 ≠ 3 by decide)]
  refine ⟨a1, a2, a3, a4, a5, a6, a7, fun j hj => ⟨(a8 j hj).1, (a8 j hj).2.1, ?_⟩⟩
  by_cases q : j = m
  · rw [q, hs_eq, ts_eq]
  · rw [hs_ne _ _ (by omega), ts_ne _ _ (by omega)]
    exact (a8 j hj).2.2
theorem Com.pair4 (C : Com h c T nm ni nv) (hn : ni ≤ 12) (hi : i < ni) (v : Int32) : Com (hset h (c + 10 + 5 * i + 2) m v) c (ts T 4 i m v) nm ni nv := by
  refine C.item hn hi ?_ (fun a a1 a2 a3 => hs_of _ _ (by omega)) (ts_o _ _ (by decide)) (fun j => ⟨rfl, rfl, rfl, rfl⟩) (ts_o _ _ (by decide)) (fun i' j q => ⟨rfl, rfl, ts_ne _ _ (by omega), rfl⟩)
  obtain ⟨a1, a2, a3, a4, a5, a6, a7, a8⟩ := C.f i hi
  unfold cI
  rw [hs_of h v (show c + 10 + 5 * i ≠ c + 10 + 5 * i + 2 by omega), hs_of h v (show c + 10 + 5 * i + 1 ≠ c + 10 + 5 * i + 2 by omega), hs_of h v (show c + 10 + 5 * i + 3 ≠ c + 10 + 5 * i + 2 by omega), hs_of h v (show c + 10 + 5 * i + 4 ≠ c + 10 + 5 * i + 2 by omega), ts_o T v (show 2 ≠ 4 by decide), ts_o T v (show 3 ≠ 4 by decide), ts_o T v (show 5 ≠ 4 by decide)]
  refine ⟨a1, a2, a3, a4, a5, a6, a7, fun j hj => ⟨?_, (a8 j hj).2.1, (a8 j hj).2.2⟩⟩
  by_cases q : j = m
  · rw [q, hs_eq, ts_eq]
  · rw [hs_ne _ _ (by omega), ts_ne _ _ (by omega)]
    exact (a8 j hj).1
theorem Com.pair5 (C : Com h c T nm ni nv) (hn : ni ≤ 12) (hi : i < ni) (v : Int32) : Com (hset h (c + 10 + 5 * i + 3) m v) c (ts T 5 i m v) nm ni nv := by
  refine C.item hn hi ?_ (fun a a1 a2 a3 => hs_of _ _ (by omega)) (ts_o _ _ (by decide)) (fun j => ⟨rfl, rfl, rfl, rfl⟩) (ts_o _ _ (by decide)) (fun i' j q => ⟨rfl, rfl, rfl, ts_ne _ _ (by omega)⟩)
  obtain ⟨a1, a2, a3, a4, a5, a6, a7, a8⟩ := C.f i hi
  unfold cI
  rw [hs_of h v (show c + 10 + 5 * i ≠ c + 10 + 5 * i + 3 by omega), hs_of h v (show c + 10 + 5 * i + 1 ≠ c + 10 + 5 * i + 3 by omega), hs_of h v (show c + 10 + 5 * i + 2 ≠ c + 10 + 5 * i + 3 by omega), hs_of h v (show c + 10 + 5 * i + 4 ≠ c + 10 + 5 * i + 3 by omega), ts_o T v (show 2 ≠ 5 by decide), ts_o T v (show 3 ≠ 5 by decide), ts_o T v (show 4 ≠ 5 by decide)]
  refine ⟨a1, a2, a3, a4, a5, a6, a7, fun j hj => ⟨(a8 j hj).1, ?_, (a8 j hj).2.2⟩⟩
  by_cases q : j = m
  · rw [q, hs_eq, ts_eq]
  · rw [hs_ne _ _ (by omega), ts_ne _ _ (by omega)]
    exact (a8 j hj).2.1
theorem Com.holder (C : Com h c T nm ni nv) (v : Int32) : Com (hset h (c + 4) m v) c (ts T 1 m 3 v) nm ni nv := by
  have o : ∀ a, a ≠ c + 4 → hset h (c + 4) m v a = h a := fun a q => hs_of h v q
  have p : ps (ts T 1 m 3 v) = ps T := by
    funext j
    unfold ps
    rw [ts_ne _ _ (by omega)]
  refine Com.of ?_ (C.b.cong (o _ (by omega)) fun k _ => rfl) (fun j hj => ?_) (C.f.cong (fun i d _ _ => o _ (by omega)) (ts_o T v (by decide)) (ts_o T v (by decide)) (ts_o T v (by decide)) (ts_o T v (by decide))) (C.g.cong (o _ (by omega)) (o _ (by omega)) (o _ (by omega)) (ts_o T v (by decide)))
  · unfold cA
    rw [o c (by omega), o (c + 6) (by omega), p]
    exact C.a
  · obtain ⟨a1, a2, a3⟩ := C.d j hj
    rw [o (c + 2) (by omega), o (c + 3) (by omega), ts_ne _ _ (by omega), ts_ne _ _ (by omega)]
    refine ⟨a1, a2, ?_⟩
    by_cases q : j = m
    · rw [q, hs_eq, ts_eq]
    · rw [hs_ne _ _ (by omega), ts_ne _ _ (by omega)]
      exact a3
end
theorem twv_vote (x y : Int32) : TwV nn6 (fun h => f_C_giveVote h 1 x y) (fun h => f_M_vote h x y) := by
  intro T nm ni nv I
  have hn := I.n
  rcases ixc x (n := nm) (by omega) with q | ⟨m, hm, rfl⟩
  · refine Or.inl ⟨-1, StpE.same er_1 (fun h C => ?_) (fun h R => ?_)⟩
    · unfold f_C_giveVote; rw [C_hasMember_bad C I q, if_neg (by decide)]
    · unfold f_M_vote; rw [M_isMember_bad R I q, kBi_s, if_neg (by decide)]
  · rcases in_cases (x := y) (a := 0) (b := 2) (by decide) (by decide) with (a : y < 0 ∨ 2 < y) | ⟨w, _, hw, rfl⟩
    · have e : f_P_isChoice y = false := by
        unfold f_P_isChoice
        by_cases b : y < 0
        · rw [if_pos b]
        · rw [if_neg b, if_pos (a.resolve_left b)]
      refine Or.inl ⟨-2, StpE.same er_2 (fun h C => ?_) (fun h R => ?_)⟩
      · unfold f_C_giveVote; rw [C_hasMember_ok C I hm, if_pos rfl, e, if_neg (by decide)]
      · unfold f_M_vote; rw [M_isMember_ok R I hm, kBi_s, if_pos rfl, in_f a, if_neg (by decide)]
    · have c2 : ¬ (2 : Int32) < nI w := by rw [show (2 : Int32) = nI 2 from rfl, ltI (by omega) (by omega)]; omega
      have e : f_P_isChoice (nI w) = true := by
        unfold f_P_isChoice
        rw [if_neg (pos_nI (by omega)), if_neg c2]
      have e' : f_M_in (nI w) 0 2 = true := in_t (pos_nI (by omega)) c2
      -- the open item
      by_cases z : ∃ i, i < ni ∧ Fst (fun i => decide (T 2 i 2 = 1)) ni (nI i) ∧ sCan T i m = true
      · obtain ⟨i, hi, F, hc⟩ := z
        have hc' : ps T m = true ∧ sRec T i m = false := by
          unfold sCan at hc
          cases p : ps T m <;> cases r : sRec T i m <;> simp_all
        have o4 := ((I.i2 (show i < 12 by omega) m (by omega)).2.1)
        refine Or.inr ⟨T 4 i m, ts T 4 i m (nI w), nm, ni, nv, o4.elim Or.inr (fun ⟨j, hj, e⟩ => Or.inl (by rw [e]; exact pos_nI (by omega))), StpO.of (er_no o4 (by decide)) (I.pair4 hi (Or.inr ⟨w, by omega, rfl⟩)) (fun h C => ?_) (fun h R H => ?_)⟩
        · obtain ⟨r, r1, r2⟩ := C_firstIn C I 1
          obtain rfl := r2.one F
          refine ⟨hset h (1 + 10 + 5 * i + 2) m (nI w), ?_, fun a p _ _ _ => hs_of _ _ (by omega), C.pair4 hn.2.1 hi _⟩
          unfold f_C_giveVote
          rw [C_hasMember_ok C I hm, if_pos rfl, e, if_pos rfl, r1, kBi_s, if_neg (n6_ne (by omega)), kG_nI (by omega) (by decide), kx_nI (by omega), C_canVote C I hi hm, hc, kBi_s, if_pos rfl, kG_nI (by omega) (by decide), kG_nI (by omega) (by decide), kx_nI (by omega), kLet_s, kG_nI (by omega) (by decide), kG_nI (by omega) (by decide), kLet_s, ((C.f i hi).2.2.2.2.2.2.2 m (by omega)).1]
        · obtain ⟨r, r1, r2⟩ := M_itemIn R I 1
          obtain rfl := r2.one F
          refine ⟨hset (recd h) 787 (250 + 3 * (12 * i + m) + 1) (nI w), ?_, MFs.one fun a p => hs_of _ _ p, ?_⟩
          · unfold f_M_vote
            rw [M_isMember_ok R I hm, kBi_s, if_pos rfl, e', if_pos rfl, r1, kBi_s, if_neg (pos_nI (by omega)), M_isPresent R (by omega), hc'.1, kBi_s, if_pos rfl, M_isRecused R (by omega) (by omega), hc'.2, kBi_s, if_neg (by decide), M_record H, kBi_s, show (1 : Int32) = nI 1 from rfl, e3, kLet_s, kG_nI (by omega) (by decide), kG_nI (by omega) (by decide), kx_nI (by omega), kLet_s, recd_787, R.2.2.2.1 i m 1 (by omega) (by omega) (by decide)]
          · rw [hs_ru]
            exact (recd_row R).set3 (j := 1) (by omega) (by omega) (by decide) _
      · refine Or.inl ⟨-5, StpE.same er_5 (fun h C => ?_) (fun h R => ?_)⟩
        · obtain ⟨r, r1, r2⟩ := C_firstIn C I 1
          unfold f_C_giveVote
          rw [C_hasMember_ok C I hm, if_pos rfl, e, if_pos rfl, r1, kBi_s]
          rcases r2.no with q | ⟨i, hi, rfl⟩
          · rw [if_pos q]
          · have hc : ¬ sCan T i m = true := fun y => z ⟨i, hi, r2, y⟩
            rw [if_neg (n6_ne (by omega)), kG_nI (by omega) (by decide), kx_nI (by omega), C_canVote C I hi hm, kBi_s, if_neg hc]
        · obtain ⟨r, r1, r2⟩ := M_itemIn R I 1
          unfold f_M_vote
          rw [M_isMember_ok R I hm, kBi_s, if_pos rfl, e', if_pos rfl, r1, kBi_s]
          rcases r2.no with q | ⟨i, hi, rfl⟩
          · rw [q, if_pos n6_lt]
          · have hc : ¬ sCan T i m = true := fun y => z ⟨i, hi, r2, y⟩
            rw [if_neg (pos_nI (by omega)), M_isPresent R (by omega), kBi_s]
            by_cases p : ps T m = true
            · rw [if_pos p, M_isRecused R (by omega) (by omega), kBi_s]
              by_cases w : sRec T i m = true
              · rw [if_pos w]
              · refine absurd ?_ hc
                unfold sCan
                simp [p, w]
            · rw [if_neg p]
theorem tw_vote (x y : Int32) : Tw (fun h => f_C_giveVote h 1 x y) (fun h => f_M_vote h x y) := (twv_vote x y).tw
theorem tw_tell (x y z : Int32) : Tw (fun h => f_C_tellChoice h 1 x y z) (fun h => f_M_tell h x y z) := by
  intro T nm ni nv I
  have hn := I.n
  rcases ixc x (n := nm) (by omega) with q | ⟨m, hm, rfl⟩
  · refine Or.inl ⟨-1, StpE.same er_1 (fun h C => ?_) (fun h R => ?_)⟩
    · unfold f_C_tellChoice; rw [C_hasMember_bad C I q, if_neg (by decide)]
    · unfold f_M_tell; rw [M_isMember_bad R I q, kBi_s, if_neg (by decide)]
  rcases ixc y (n := ni) (by omega) with q | ⟨i, hi, rfl⟩
  · refine Or.inl ⟨-1, StpE.same er_1 (fun h C => ?_) (fun h R => ?_)⟩
    · unfold f_C_tellChoice; rw [C_hasMember_ok C I hm, if_pos rfl, C_hasItem_bad C I q, if_neg (by decide)]
    · unfold f_M_tell; rw [M_isMember_ok R I hm, kBi_s, if_pos rfl, M_isItem_bad R I q, kBi_s, if_neg (by decide)]
  -- the choice is good, or not
  have good : no z 3 → (∃ e, StpE (fun h => f_C_tellChoice h 1 (nI m) (nI i) z) (fun h => f_M_tell h (nI m) (nI i) z) T nm ni nv e) ∨ ∃ v T' nm' ni' nv', StpO (fun h => f_C_tellChoice h 1 (nI m) (nI i) z) (fun h => f_M_tell h (nI m) (nI i) z) T nm ni nv v T' nm' ni' nv' := by
    intro hz
    have cc : ∀ h, Com h 1 T nm ni nv → f_C_tellChoice h 1 (nI m) (nI i) z = b_C_tellChoice_34 h 1 (nI m) (nI i) z := by
      intro h C
      unfold f_C_tellChoice
      rw [C_hasMember_ok C I hm, if_pos rfl, C_hasItem_ok C I hi, if_pos rfl]
      rcases hz with q | ⟨w, hw, rfl⟩
      · rw [if_pos q]
      · have e : f_P_isChoice (nI w) = true := by
          unfold f_P_isChoice
          rw [if_neg (pos_nI (by omega)), if_neg (by rw [show (2 : Int32) = nI 2 from rfl, ltI (by omega) (by omega)]; omega)]
        rw [if_neg (n6_ne (by omega)), e, if_pos rfl]
    have cm : ∀ h, Row (h 787) T nv → f_M_tell h (nI m) (nI i) z = b_M_tell_36 h (nI m) (nI i) z := by
      intro h R
      unfold f_M_tell
      rw [M_isMember_ok R I hm, kBi_s, if_pos rfl, M_isItem_ok R I hi, kBi_s, if_pos rfl]
      rcases hz with q | ⟨w, hw, rfl⟩
      · rw [if_pos q]
      · have e : f_M_in (nI w) 0 2 = true := in_t (pos_nI (by omega)) (by rw [show (2 : Int32) = nI 2 from rfl, ltI (by omega) (by omega)]; omega)
        rw [if_neg (n6_ne (by omega)), e, if_pos rfl]
    by_cases a : sAhead T i = true
    · have o5 := ((I.i2 (show i < 12 by omega) m (by omega)).2.2.1)
      refine Or.inr ⟨T 5 i m, ts T 5 i m z, nm, ni, nv, StpO.of (er_no o5 (by decide)) (I.pair5 hi hz) (fun h C => ?_) (fun h R H => ?_)⟩
      · refine ⟨hset h (1 + 10 + 5 * i + 3) m z, ?_, fun a p _ _ _ => hs_of _ _ (by omega), C.pair5 hn.2.1 hi _⟩
        rw [cc h C]
        unfold b_C_tellChoice_34
        rw [kG_nI (by omega) (by decide), kx_nI (by omega), C_isPending C hi, if_pos a, kG_nI (by omega) (by decide), kG_nI (by omega) (by decide), kx_nI (by omega), kLet_s, kG_nI (by omega) (by decide), kG_nI (by omega) (by decide), kLet_s, ((C.f i hi).2.2.2.2.2.2.2 m (by omega)).2.1]
      · refine ⟨hset (recd h) 787 (250 + 3 * (12 * i + m) + 2) z, ?_, MFs.one fun a p => hs_of _ _ p, ?_⟩
        · rw [cm h R]
          unfold b_M_tell_36
          rw [M_isAhead R I (by omega), kBi_s, if_pos a, M_record H, kBi_s, show (2 : Int32) = nI 2 from rfl, e3, kLet_s, kG_nI (by omega) (by decide), kG_nI (by omega) (by decide), kx_nI (by omega), kLet_s, recd_787, R.2.2.2.1 i m 2 (by omega) (by omega) (by decide)]
        · rw [hs_ru]
          exact (recd_row R).set3 (j := 2) (by omega) (by omega) (by decide) _
    · refine Or.inl ⟨-5, StpE.same er_5 (fun h C => ?_) (fun h R => ?_)⟩
      · rw [cc h C]
        unfold b_C_tellChoice_34
        rw [kG_nI (by omega) (by decide), kx_nI (by omega), C_isPending C hi, if_neg a]
      · rw [cm h R]
        unfold b_M_tell_36
        rw [M_isAhead R I (by omega), kBi_s, if_neg a]
  by_cases p : z = -6
  · exact good (Or.inl p)
  rcases in_cases (x := z) (a := 0) (b := 2) (by decide) (by decide) with (a : z < 0 ∨ 2 < z) | ⟨w, _, hw, e⟩
  · have e : f_P_isChoice z = false := by
      unfold f_P_isChoice
      by_cases b : z < 0
      · rw [if_pos b]
      · rw [if_neg b, if_pos (a.resolve_left b)]
    refine Or.inl ⟨-2, StpE.same er_2 (fun h C => ?_) (fun h R => ?_)⟩
    · unfold f_C_tellChoice; rw [C_hasMember_ok C I hm, if_pos rfl, C_hasItem_ok C I hi, if_pos rfl, if_neg p, e, if_neg (by decide)]
    · unfold f_M_tell; rw [M_isMember_ok R I hm, kBi_s, if_pos rfl, M_isItem_ok R I hi, kBi_s, if_pos rfl, if_neg p, in_f a, if_neg (by decide)]
  · exact good (Or.inr ⟨w, by omega, e⟩)
theorem tw_proxy (x y z : Int32) : Tw (fun h => f_C_nameHolder h 1 x y z) (fun h => f_M_proxy h x y z) := by
  intro T nm ni nv I
  have hn := I.n
  rcases ixc x (n := nm) (by omega) with q | ⟨m, hm, rfl⟩
  · refine Or.inl ⟨-1, StpE.same er_1 (fun h C => ?_) (fun h R => ?_)⟩
    · have key : ∀ x4 x5 s0, b_C_nameHolder_57 h 1 x y z x4 x5 s0 = some (-1, h) := by
        intro x4 x5 s0
        unfold b_C_nameHolder_57
        rw [C_hasMember_bad C I q, if_neg (by decide)]
      unfold f_C_nameHolder b_C_nameHolder_11 b_C_nameHolder_26 b_C_nameHolder_31 b_C_nameHolder_52 b_C_nameHolder_56
      simp only [key, ite_self]
    · unfold f_M_proxy; rw [M_isMember_bad R I q, kBi_s, if_neg (by decide)]
  have hk : ∀ h, Com h 1 T nm ni nv → ∀ x4 x5 s0, b_C_nameHolder_57 h 1 (nI m) y z x4 x5 s0 = if x5 = 0 then some (-1, h) else if s0 = true then (if x4 = 0 then kG y 12 (b_C_nameHolder_100 h (nI m) z (1 + 10 + 5 * kx y + 4)) else b_C_nameHolder_100 h (nI m) z 5) else some (-1, h) := by
    intro h C x4 x5 s0
    unfold b_C_nameHolder_57
    rw [C_hasMember_ok C I hm, if_pos rfl]
  -- the item: none, bad, good
  by_cases y6 : y = -6
  · by_cases good : no z nm ∧ ¬ z = nI m
    · refine Or.inr ⟨T 1 m 3, ts T 1 m 3 z, nm, ni, nv, StpO.of (er_no (I.m (show m < 12 by omega)).2.1 (by omega)) (I.holder hm good.1) (fun h C => ?_) (fun h R H => ?_)⟩
      · refine ⟨hset h (1 + 4) m z, ?_, fun a p _ _ _ => hs_of _ _ (by omega), C.holder _⟩
        unfold f_C_nameHolder b_C_nameHolder_11 b_C_nameHolder_26 b_C_nameHolder_31 b_C_nameHolder_52 b_C_nameHolder_56 
        rw [if_pos y6, if_pos rfl]
        have fin : b_C_nameHolder_100 h (nI m) z 5 = some (T 1 m 3, hset h (1 + 4) m z) := by
          unfold b_C_nameHolder_100
          rw [kG_nI (by omega) (by decide), kG_nI (by omega) (by decide), kx_nI (by omega), kLet_s, ← (C.d m hm).2.2]
        rcases good.1 with q | ⟨j, hj, rfl⟩
        · rw [if_pos q, hk h C, if_neg (by decide), if_pos rfl, if_neg (by decide)]
          exact fin
        · rw [if_neg (n6_ne (by omega)), C_hasMember_ok C I hj, if_pos rfl, if_neg good.2, hk h C, if_neg (by decide), if_pos rfl, if_neg (by decide)]
          exact fin
      · refine ⟨hset (recd h) 787 (20 + 6 * m + 3) z, ?_, MFs.one fun a p => hs_of _ _ p, ?_⟩
        · unfold f_M_proxy
          rw [M_isMember_ok R I hm, kBi_s, if_pos rfl, if_pos y6]
          have fin : b_M_proxy_36 h (nI m) y z = some (T 1 m 3, hset (recd h) 787 (20 + 6 * m + 3) z) := by
            unfold b_M_proxy_36 b_M_proxy_75
            rw [if_neg good.2, M_record H, kBi_s, if_neg (by rw [y6]; decide), show (3 : Int32) = nI 3 from rfl, e1, kG_nI (by omega) (by decide), kG_nI (by omega) (by decide), kx_nI (by omega), kLet_s, recd_787, R.2.1 m 3 (by omega) (by decide)]
          unfold b_M_proxy_22
          rcases good.1 with q | ⟨j, hj, rfl⟩
          · rw [if_pos q]; exact fin
          · rw [if_neg (n6_ne (by omega)), M_isMember_ok R I hj, kBi_s, if_pos rfl]; exact fin
        · rw [hs_ru]
          exact (recd_row R).set1 (j := 3) (by omega) (by decide) _
    · refine Or.inl ⟨-1, StpE.same er_1 (fun h C => ?_) (fun h R => ?_)⟩
      · unfold f_C_nameHolder b_C_nameHolder_11 b_C_nameHolder_26 b_C_nameHolder_31 b_C_nameHolder_52 b_C_nameHolder_56
        rw [if_pos y6, if_pos rfl]
        by_cases q : z = -6
        · exact absurd ⟨Or.inl q, fun w => n6_ne (show m < 2 ^ 31 by omega) (w.symm.trans q)⟩ good
        · rw [if_neg q]
          rcases ixc z (n := nm) (by omega) with p | ⟨j, hj, rfl⟩
          · rw [C_hasMember_bad C I p, if_neg (by decide), hk h C, if_neg (by decide), if_neg (by decide)]
          · rw [C_hasMember_ok C I hj, if_pos rfl]
            by_cases w : nI j = nI m
            · rw [if_pos w, hk h C, if_neg (by decide), if_neg (by decide)]
            · exact absurd ⟨Or.inr ⟨j, hj, rfl⟩, w⟩ good
      · unfold f_M_proxy b_M_proxy_22
        rw [M_isMember_ok R I hm, kBi_s, if_pos rfl, if_pos y6]
        by_cases q : z = -6
        · exact absurd ⟨Or.inl q, fun w => n6_ne (show m < 2 ^ 31 by omega) (w.symm.trans q)⟩ good
        · rw [if_neg q]
          rcases ixc z (n := nm) (by omega) with p | ⟨j, hj, rfl⟩
          · rw [M_isMember_bad R I p, kBi_s, if_neg (by decide)]
          · rw [M_isMember_ok R I hj, kBi_s, if_pos rfl]
            unfold b_M_proxy_36
            by_cases w : nI j = nI m
            · rw [if_pos w]
            · exact absurd ⟨Or.inr ⟨j, hj, rfl⟩, w⟩ good
  · rcases ixc y (n := ni) (by omega) with q | ⟨i, hi, rfl⟩
    · refine Or.inl ⟨-1, StpE.same er_1 (fun h C => ?_) (fun h R => ?_)⟩
      · unfold f_C_nameHolder b_C_nameHolder_11 b_C_nameHolder_26 b_C_nameHolder_31 b_C_nameHolder_52 b_C_nameHolder_56
        rw [if_neg y6, if_neg (by decide), C_hasItem_bad C I q, if_neg (by decide)]
        have z0 : ∀ x4 s0, b_C_nameHolder_57 h 1 (nI m) y z x4 (kB2 false) s0 = some (-1, h) := fun x4 s0 => by rw [hk h C, if_pos (by decide)]
        simp only [z0, ite_self]
      · unfold f_M_proxy
        rw [M_isMember_ok R I hm, kBi_s, if_pos rfl, if_neg y6, M_isItem_bad R I q, kBi_s, if_neg (by decide)]
    · by_cases good : no z nm ∧ ¬ z = nI m
      · refine Or.inr ⟨T 3 i m, ts T 3 i m z, nm, ni, nv, StpO.of (er_no (I.i2 (show i < 12 by omega) m (by omega)).1 (by omega)) (I.pair3 hi good.1) (fun h C => ?_) (fun h R H => ?_)⟩
        · refine ⟨hset h (1 + 10 + 5 * i + 4) m z, ?_, fun a p _ _ _ => hs_of _ _ (by omega), C.pair3 hn.2.1 hi _⟩
          unfold f_C_nameHolder b_C_nameHolder_11 b_C_nameHolder_26 b_C_nameHolder_31 b_C_nameHolder_52 b_C_nameHolder_56
          rw [if_neg y6, if_neg (by decide), C_hasItem_ok C I hi, if_pos rfl]
          have fin : kG (nI i) 12 (b_C_nameHolder_100 h (nI m) z (1 + 10 + 5 * kx (nI i) + 4)) = some (T 3 i m, hset h (1 + 10 + 5 * i + 4) m z) := by
            unfold b_C_nameHolder_100
            rw [kG_nI (by omega) (by decide), kG_nI (by omega) (by decide), kG_nI (by omega) (by decide), kx_nI (by omega), kx_nI (by omega), kLet_s, ((C.f i hi).2.2.2.2.2.2.2 m (by omega)).2.2]
          rcases good.1 with q | ⟨j, hj, rfl⟩
          · rw [if_pos q, hk h C, if_neg (by decide), if_pos rfl, if_pos (by decide)]
            exact fin
          · rw [if_neg (n6_ne (by omega)), C_hasMember_ok C I hj, if_pos rfl, if_neg good.2, hk h C, if_neg (by decide), if_pos rfl, if_pos (by decide)]
            exact fin
        · refine ⟨hset (recd h) 787 (250 + 3 * (12 * i + m) + 0) z, ?_, MFs.one fun a p => hs_of _ _ p, ?_⟩
          · unfold f_M_proxy
            rw [M_isMember_ok R I hm, kBi_s, if_pos rfl, if_neg y6, M_isItem_ok R I hi, kBi_s, if_pos rfl]
            have fin : b_M_proxy_36 h (nI m) (nI i) z = some (T 3 i m, hset (recd h) 787 (250 + 3 * (12 * i + m) + 0) z) := by
              unfold b_M_proxy_36 b_M_proxy_75
              have e30 : (250 : Int32) + 3 * (12 * nI i + nI m) = nI (250 + 3 * (12 * i + m) + 0) := e3_0 i m
              rw [if_neg good.2, M_record H, kBi_s, if_pos (nI_pos' (by omega)), e30, kG_nI (by omega) (by decide), kG_nI (by omega) (by decide), kx_nI (by omega), kLet_s, recd_787, R.2.2.2.1 i m 0 (by omega) (by omega) (by decide)]
            unfold b_M_proxy_22
            rcases good.1 with q | ⟨j, hj, rfl⟩
            · rw [if_pos q]; exact fin
            · rw [if_neg (n6_ne (by omega)), M_isMember_ok R I hj, kBi_s, if_pos rfl]; exact fin
          · rw [hs_ru]
            exact (recd_row R).set3 (j := 0) (by omega) (by omega) (by decide) _
      · refine Or.inl ⟨-1, StpE.same er_1 (fun h C => ?_) (fun h R => ?_)⟩
        · unfold f_C_nameHolder b_C_nameHolder_11 b_C_nameHolder_26 b_C_nameHolder_31 b_C_nameHolder_52 b_C_nameHolder_56
          rw [if_neg y6, if_neg (by decide), C_hasItem_ok C I hi, if_pos rfl]
          by_cases q : z = -6
          · exact absurd ⟨Or.inl q, fun w => n6_ne (show m < 2 ^ 31 by omega) (w.symm.trans q)⟩ good
          · rw [if_neg q]
            rcases ixc z (n := nm) (by omega) with p | ⟨j, hj, rfl⟩
            · rw [C_hasMember_bad C I p, if_neg (by decide), hk h C, if_neg (by decide), if_neg (by decide)]
            · rw [C_hasMember_ok C I hj, if_pos rfl]
              by_cases w : nI j = nI m
              · rw [if_pos w, hk h C, if_neg (by decide), if_neg (by decide)]
              · exact absurd ⟨Or.inr ⟨j, hj, rfl⟩, w⟩ good
        · unfold f_M_proxy b_M_proxy_22
          rw [M_isMember_ok R I hm, kBi_s, if_pos rfl, if_neg y6, M_isItem_ok R I hi, kBi_s, if_pos rfl]
          by_cases q : z = -6
          · exact absurd ⟨Or.inl q, fun w => n6_ne (show m < 2 ^ 31 by omega) (w.symm.trans q)⟩ good
          · rw [if_neg q]
            rcases ixc z (n := nm) (by omega) with p | ⟨j, hj, rfl⟩
            · rw [M_isMember_bad R I p, kBi_s, if_neg (by decide)]
            · rw [M_isMember_ok R I hj, kBi_s, if_pos rfl]
              unfold b_M_proxy_36
              by_cases w : nI j = nI m
              · rw [if_pos w]
              · exact absurd ⟨Or.inr ⟨j, hj, rfl⟩, w⟩ good
