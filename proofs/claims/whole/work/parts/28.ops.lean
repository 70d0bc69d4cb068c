/-! PURE: the changes that both sides carry out: set, chair, come, go, member, item. -/
theorem recd_row {h : kH} {T : kT} {nv : Nat} (R : Row (h 787) T nv) : Row (recd h 787) T nv := by rw [recd_o h (by decide) (by decide)]; exact R
theorem recd_787 (h : kH) : recd h 787 = h 787 := recd_o h (by decide) (by decide)
theorem MFs.one {h h' : kH} (e : ∀ a, a ≠ 787 → h' a = recd h a) : MFs h h' := fun a q _ _ _ => e a q
theorem le_lit {x : Int32} {b : Nat} (hb : b < 2 ^ 31) (h1 : ¬ x < 0) (h2 : x ≤ nI b) : ∃ j, j ≤ b ∧ x = nI j := by
  obtain ⟨j, _, q, e⟩ := lit (a := 0) (by decide) hb h1 (nlt_le.mpr h2)
  exact ⟨j, q, e⟩
/-- the highest value of a setting -/
def sHi (k : Nat) : Nat := match k with
  | 0 => 100
  | 1 => 100
  | 2 => 600
  | 3 => 6
  | _ => 1
theorem kHigh_n (k : Nat) : kHigh k = nI (sHi k) := by
  unfold kHigh sHi
  split <;> simp_all <;> rfl
theorem Com.setting {h : kH} {c : Nat} {T : kT} {nm ni nv k : Nat} (C : Com h c T nm ni nv) (hn : ni ≤ 12) (hk : k < 6) (v : Int32) : Com (hset h (c + 1) k v) c (ts T 0 k 0 v) nm ni nv := by
  have o : ∀ a, a ≠ c + 1 → hset h (c + 1) k v a = h a := fun a q => hs_of h v q
  refine Com.of ?_ (fun j hj => ?_) (C.d.cong (o _ (by omega)) (o _ (by omega)) (o _ (by omega)) fun m _ => ⟨rfl, rfl, rfl⟩) (C.f.cong (fun i d _ _ => o _ (by omega)) (ts_o T v (by decide)) (ts_o T v (by decide)) (ts_o T v (by decide)) (ts_o T v (by decide))) (C.g.cong (o _ (by omega)) (o _ (by omega)) (o _ (by omega)) (ts_o T v (by decide)))
  · obtain ⟨a1, a2, a3, a4, a5, a6⟩ := C.a
    unfold cA
    rw [o c (by omega), o (c + 6) (by omega), ps_cong (ts_o T v (by decide)), ts_ne _ _ (by omega), ts_ne _ _ (by omega), ts_ne _ _ (by omega), ts_ne _ _ (by omega), ts_ne _ _ (by omega)]
    exact ⟨a1, a2, a3, a4, a5, a6⟩
  · by_cases q : j = k
    · rw [q, hs_eq, ts_eq]
    · rw [hs_ne _ _ (by omega), ts_ne _ _ (by omega)]
      exact C.b j hj
theorem set_M {k : Nat} (hk : k < 6) (h : kH) (x : Int32) : f_M_set h (nI k) x = b_M_set_32 h (nI k) x (nI (sHi k)) := by
  unfold f_M_set
  have : k = 0 ∨ k = 1 ∨ k = 2 ∨ k = 3 ∨ k = 4 ∨ k = 5 := by omega
  rcases this with rfl | rfl | rfl | rfl | rfl | rfl <;> rfl
theorem set_S {T : kT} {k j : Nat} (x : iS T) (hk : k < 6) (hj : j ≤ sHi k) : iS (ts T 0 k 0 (nI j)) := by
  obtain ⟨a, b, c, d, e, f⟩ := x
  have : k = 0 ∨ k = 1 ∨ k = 2 ∨ k = 3 ∨ k = 4 ∨ k = 5 := by omega
  rcases this with rfl | rfl | rfl | rfl | rfl | rfl
  · exact ⟨⟨j, hj, rfl⟩, b, c, d, e, f⟩
  · exact ⟨a, ⟨j, hj, rfl⟩, c, d, e, f⟩
  · exact ⟨a, b, ⟨j, hj, rfl⟩, d, e, f⟩
  · exact ⟨a, b, c, ⟨j, hj, rfl⟩, e, f⟩
  · have : j = 0 ∨ j = 1 := by have : j ≤ 1 := hj; omega
    exact ⟨a, b, c, d, this.imp (fun q => by rw [q]; rfl) (fun q => by rw [q]; rfl), f⟩
  · have : j = 0 ∨ j = 1 := by have : j ≤ 1 := hj; omega
    exact ⟨a, b, c, d, e, this.imp (fun q => by rw [q]; rfl) (fun q => by rw [q]; rfl)⟩
theorem set_old {T : kT} {k : Nat} (x : iS T) (hk : k < 6) : ∃ j, j < 601 ∧ T 0 k 0 = nI j := by
  obtain ⟨⟨a, a1, a2⟩, ⟨b, b1, b2⟩, ⟨c, c1, c2⟩, ⟨d, d1, d2⟩, e, f⟩ := x
  have : k = 0 ∨ k = 1 ∨ k = 2 ∨ k = 3 ∨ k = 4 ∨ k = 5 := by omega
  rcases this with rfl | rfl | rfl | rfl | rfl | rfl
  · exact ⟨a, by omega, a2⟩
  · exact ⟨b, by omega, b2⟩
  · exact ⟨c, by omega, c2⟩
  · exact ⟨d, by omega, d2⟩
  · exact e.elim (fun q => ⟨0, by decide, q⟩) (fun q => ⟨1, by decide, q⟩)
  · exact f.elim (fun q => ⟨0, by decide, q⟩) (fun q => ⟨1, by decide, q⟩)
theorem sHi_le (k : Nat) : sHi k ≤ 600 := by
  unfold sHi
  split <;> omega
theorem big6 {x : Int32} (h : (6 : Int32) ≤ x) : (2 : Int32) ≤ x ∧ ¬ x = 2 ∧ ¬ x = 3 ∧ (5 : Int32) < x := by
  rw [fa_le] at h
  have h6 : (6 : Int32).toInt = 6 := by decide
  have h5 : (5 : Int32).toInt = 5 := by decide
  have h2 : (2 : Int32).toInt = 2 := by decide
  have h3 : (3 : Int32).toInt = 3 := by decide
  refine ⟨by rw [fa_le]; omega, fun e => ?_, fun e => ?_, by rw [fa_lt]; omega⟩ <;> rw [e] at h <;> omega
theorem tw_set (k x : Int32) : Tw (fun h => f_C_changeSetting h 1 k x) (fun h => f_M_set h k x) := by
  intro T nm ni nv I
  have hn := I.n
  by_cases a : k < 0
  · refine Or.inl ⟨-2, StpE.same er_2 (fun h _ => ?_) (fun h R => ?_)⟩
    · unfold f_C_changeSetting; rw [if_pos a]
    · unfold f_M_set b_M_set_32
      have : ¬ (2 : Int32) ≤ k := by
        rw [fa_lt] at a
        rw [fa_le]
        have h0 : (0 : Int32).toInt = 0 := by decide
        have h2 : (2 : Int32).toInt = 2 := by decide
        omega
      rw [if_neg this, in_f (Or.inl a), if_neg (by decide)]
  · by_cases b : (6 : Int32) ≤ k
    · refine Or.inl ⟨-2, StpE.same er_2 (fun h _ => ?_) (fun h R => ?_)⟩
      · unfold f_C_changeSetting; rw [if_neg a, if_pos b]
      · obtain ⟨b1, b2, b3, b4⟩ := big6 b
        unfold f_M_set b_M_set_32
        rw [if_pos b1, if_neg b2, if_neg b3, in_f (Or.inr b4), if_neg (by decide)]
    · obtain ⟨j, hj, rfl⟩ : ∃ j, j < 6 ∧ k = nI j := by
        rcases ixc k (n := 6) (by decide) with q | q
        · exact absurd q (fun z => z.elim a b)
        · exact q
      have hs := sHi_le j
      have hk : f_M_in (nI j) 0 5 = true := in_t a (by rw [show (5 : Int32) = nI 5 from rfl, ltI (by omega) (by omega)]; omega)
      by_cases d : x < 0
      · refine Or.inl ⟨-2, StpE.same er_2 (fun h _ => ?_) (fun h R => ?_)⟩
        · unfold f_C_changeSetting; rw [if_neg a, if_neg b, if_pos d]
        · rw [set_M hj]
          unfold b_M_set_32
          rw [if_pos hk, in_f (Or.inl d), if_neg (by decide)]
      · by_cases e : x ≤ nI (sHi j)
        · obtain ⟨y, hy, rfl⟩ := le_lit (show sHi j < 2 ^ 31 by omega) d e
          obtain ⟨o, o1, o2⟩ := set_old I.s hj
          refine Or.inr ⟨T 0 j 0, ts T 0 j 0 (nI y), nm, ni, nv, StpO.of (by rw [o2]; exact er_n (by omega)) (I.of0 (fun a q => ts_o T _ q) ?_ (ts_ne _ _ (by omega)) (set_S I.s hj hy) ?_) (fun h C => ?_) (fun h R H => ?_)⟩
          · rw [ts_ne _ _ (by omega), ts_ne _ _ (by omega), ts_ne _ _ (by omega)]; exact I.c
          · unfold iH
            rw [ts_ne _ _ (by omega)]; exact I.h
          · refine ⟨hset h 2 j (nI y), ?_, fun a q _ _ _ => hs_of h _ (by omega), C.setting hn.2.1 hj _⟩
            unfold f_C_changeSetting
            rw [if_neg a, if_neg b, if_neg d, kG_nI hj (by decide), kG_nI hj (by decide), kG_nI hj (by decide), kx_nI (by omega), kHigh_n, if_pos e, C.b j hj]
            rfl
          · refine ⟨hset (recd h) 787 j (nI y), ?_, MFs.one fun a q => hs_of _ _ q, ?_⟩
            · rw [set_M hj]
              unfold b_M_set_32
              rw [if_pos hk, in_t d (nlt_le.mpr e), if_pos rfl, M_record H, kBi_s, kG_nI (by omega) (by omega), kG_nI (by omega) (by omega), kx_nI (by omega), recd_787, R.1 j (by omega)]
              rfl
            · rw [hs_ru]
              exact (recd_row R).set0 (by omega) _
        · refine Or.inl ⟨-2, StpE.same er_2 (fun h _ => ?_) (fun h R => ?_)⟩
          · unfold f_C_changeSetting
            rw [if_neg a, if_neg b, if_neg d, kG_nI hj (by decide), kG_nI hj (by decide), kG_nI hj (by decide), kx_nI (by omega), kHigh_n, if_neg e]
          · rw [set_M hj]
            unfold b_M_set_32
            rw [if_pos hk, in_f (Or.inr (by rw [fa_le] at e; rw [fa_lt]; omega)), if_neg (by decide)]
theorem tw_chair (x : Int32) : Tw (fun h => f_C_nameChair h 1 x) (fun h => f_M_chair h x) := by
  intro T nm ni nv I
  have hn := I.n
  rcases ixc x (n := nm) (by omega) with q | ⟨j, hj, rfl⟩
  · refine Or.inl ⟨-1, StpE.same er_1 (fun h C => ?_) (fun h R => ?_)⟩
    · unfold f_C_nameChair; rw [C_hasMember_bad C I q, if_neg (by decide)]
    · unfold f_M_chair; rw [M_isMember_bad R I q, kBi_s, if_neg (by decide)]
  · refine Or.inr ⟨T 0 9 0, ts T 0 9 0 (nI j), nm, ni, nv, StpO.of (er_no I.h.1 (by omega)) (I.of0 (fun a q => ts_o T _ q) ?_ (ts_ne _ _ (by omega)) ?_ ?_) (fun h C => ?_) (fun h R H => ?_)⟩
    · rw [ts_ne _ _ (by omega), ts_ne _ _ (by omega), ts_ne _ _ (by omega)]; exact I.c
    · unfold iS
      rw [ts_ne _ _ (by omega), ts_ne _ _ (by omega), ts_ne _ _ (by omega), ts_ne _ _ (by omega), ts_ne _ _ (by omega), ts_ne _ _ (by omega)]
      exact I.s
    · unfold iH
      rw [ts_eq]
      exact ⟨Or.inr ⟨j, hj, rfl⟩, fun _ => n6_ne (by omega)⟩
    · refine ⟨hset h 1 4 (nI j), ?_, fun a q _ _ _ => hs_of h _ (by omega), C.scal ?_ (fun a q => hs_of h _ q) (fun k hk => ts_ne _ _ (by omega)) (fun m => ⟨rfl, rfl, rfl⟩) (ts_o T _ (by decide)) (ts_o T _ (by decide)) (ts_o T _ (by decide)) (ts_o T _ (by decide)) (ts_o T _ (by decide))⟩
      · unfold f_C_nameChair
        rw [C_hasMember_ok C I hj, if_pos rfl, C.a.2.2.2.2.1]
        rfl
      · obtain ⟨a1, a2, a3, a4, a5, a6⟩ := C.a
        unfold cA
        rw [hs_eq, hs_ne _ _ (by omega), hs_ne _ _ (by omega), hs_ne _ _ (by omega), hs_ne _ _ (by omega), hs_ne _ _ (by omega), ts_eq, ps_cong (ts_o T _ (by decide)), ts_ne _ _ (by omega), ts_ne _ _ (by omega), ts_ne _ _ (by omega), ts_ne _ _ (by omega)]
        exact ⟨a1, a2, a3, a4, rfl, a6⟩
    · refine ⟨hset (recd h) 787 9 (nI j), ?_, MFs.one fun a q => hs_of _ _ q, ?_⟩
      · unfold f_M_chair
        rw [M_isMember_ok R I hj, kBi_s, if_pos rfl, M_record H, kBi_s, g760_9, g760_9, x_9, recd_787, R.1 9 (by decide)]
        rfl
      · rw [hs_ru]
        exact (recd_row R).set0 (by omega) _
-- coming and going
theorem msk_ps (T : kT) (nm m : Nat) (v : Int32) (hm : m < nm) (h13 : nm ≤ 12) : msk (ps (ts T 1 m 2 v)) nm = if v = 1 then msk (ps T) nm ||| 2 ^ m else msk (ps T) nm &&& (4294967295 - 2 ^ m) := by
  have e : ∀ j, ps (ts T 1 m 2 v) j = if j = m then decide (v = 1) else ps T j := by
    intro j
    unfold ps
    by_cases q : j = m
    · rw [q, ts_eq, if_pos rfl]
    · rw [ts_ne _ _ (by omega), if_neg q]
  apply eq_of_bits
  intro j
  rw [msk_bit, e]
  by_cases z : v = 1
  · rw [if_pos z, tb_or, msk_bit]
    by_cases q : j = m
    · simp [q, hm, z]
    · simp [q]
  · rw [if_neg z, Nat.testBit_and, msk_bit]
    by_cases w : j < nm
    · rw [clr_tst m (by omega) j (by omega)]
      by_cases q : j = m
      · simp [q, z]
      · simp [q, w]
    · simp [w]
theorem twv_turn (come : Bool) (x : Int32) : TwV nng (fun h => if come = true then f_C_bringIn h 1 x else f_C_sendAway h 1 x) (fun h => f_M_turnTo h x (kB2 come)) := by
  intro T nm ni nv I
  have hn := I.n
  rcases ixc x (n := nm) (by omega) with q | ⟨m, hm, rfl⟩
  · refine Or.inl ⟨-1, StpE.same er_1 (fun h C => ?_) (fun h R => ?_)⟩
    · unfold f_C_bringIn f_C_sendAway; rw [C_hasMember_bad C I q]; cases come <;> rfl
    · unfold f_M_turnTo; rw [M_isMember_bad R I q, kBi_s, if_neg (by decide)]
  · have p2 := (I.m (show m < 12 by omega)).1
    have hp : (T 1 m 2 = kB2 come) = (ps T m = come) := by
      unfold ps
      rcases p2 with e | ⟨e, _⟩ <;> rw [e] <;> cases come <;> simp <;> decide
    by_cases q : ps T m = come
    · refine Or.inl ⟨-5, StpE.same er_5 (fun h C => ?_) (fun h R => ?_)⟩
      · unfold f_C_bringIn f_C_sendAway
        rw [C_hasMember_ok C I hm, C_isPresent C I hm, q]
        cases come <;> rfl
      · unfold f_M_turnTo
        rw [M_isMember_ok R I hm, kBi_s, if_pos rfl, M_of2 R (by omega), kBi_s, if_pos (hp.mpr q)]
    · have hv : (kB2 come = 1) = (come = true) := by cases come <;> simp <;> decide
      have mk' : msk (ps (ts T 1 m 2 (kB2 come))) nm = if come = true then msk (ps T) nm ||| 2 ^ m else msk (ps T) nm &&& (4294967295 - 2 ^ m) := by
        rw [msk_ps T nm m (kB2 come) hm hn.1]
        simp only [hv]
      have h4 : msk (ps (ts T 1 m 2 (kB2 come))) nm < 4096 := msk_12 _ hn.1
      have h4' : msk (ps T) nm < 4096 := msk_12 _ hn.1
      have I1 : Iv (ts T 1 m 2 (kB2 come)) nm ni nv := by
        refine I.of1 (fun a q => ts_o T _ q) (fun j hj => ?_)
        obtain ⟨b1, b2, b3, b4, b5⟩ := I.m hj
        unfold iM
        rw [ts_o T _ (show 2 ≠ 1 by decide), ts_ne T (b' := j) (c' := 3) _ (by omega), ts_ne T (b' := j) (c' := 0) _ (by omega), ts_ne T (b' := j) (c' := 1) _ (by omega), ts_ne T (b' := j) (c' := 4) _ (by omega)]
        refine ⟨?_, b2, b3, b4, b5⟩
        by_cases z : j = m
        · rw [z, ts_eq]
          cases come
          · exact Or.inl rfl
          · exact Or.inr ⟨rfl, hm⟩
        · rw [ts_ne _ _ (by omega)]
          exact b1
      refine Or.inr ⟨nI (fb_ct (fun j => (msk (ps (ts T 1 m 2 (kB2 come))) nm).testBit j) 12), ts T 1 m 2 (kB2 come), nm, ni, nv, pos_nI (by have := fb_ct_le (fun j => (msk (ps (ts T 1 m 2 (kB2 come))) nm).testBit j) 12; omega), StpO.of (er_n (by have := fb_ct_le (fun j => (msk (ps (ts T 1 m 2 (kB2 come))) nm).testBit j) 12; omega)) I1 (fun h C => ?_) (fun h R H => ?_)⟩
      · refine ⟨hset h 1 3 (nI (msk (ps (ts T 1 m 2 (kB2 come))) nm)), ?_, fun a q _ _ _ => hs_of h _ (by omega), C.scal ?_ (fun a q => hs_of h _ q) (fun k hk => rfl) (fun j => ⟨ts_ne _ _ (by omega), ts_ne _ _ (by omega), ts_ne _ _ (by omega)⟩) (ts_o T _ (by decide)) (ts_o T _ (by decide)) (ts_o T _ (by decide)) (ts_o T _ (by decide)) (ts_o T _ (by decide))⟩
        · have e3 := C.a.2.2.2.1
          unfold f_C_bringIn f_C_sendAway
          rw [C_hasMember_ok C I hm, C_isPresent C I hm, e3, if_pos rfl, if_pos rfl]
          cases come with
          | true =>
            rw [if_pos rfl, if_neg q, set_bit (by omega), kLet_s, hs_eq, mk', if_pos rfl, bc_small _ (by rw [mk', if_pos rfl] at h4; exact h4)]
          | false =>
            rw [if_neg (by decide), if_pos (by simpa using q), clr_bit (by omega) (by omega), kLet_s, hs_eq, mk', if_neg (by decide), bc_small _ (by rw [mk', if_neg (by decide)] at h4; exact h4)]
        · obtain ⟨a1, a2, a3, a4, a5, a6⟩ := C.a
          unfold cA
          rw [hs_eq, hs_ne _ _ (by omega), hs_ne _ _ (by omega), hs_ne _ _ (by omega), hs_ne _ _ (by omega), hs_ne _ _ (by omega)]
          exact ⟨a1, a2, a3, rfl, a5, a6⟩
      · have R1 : Row (hset (recd h) 787 (20 + 6 * m + 2) (kB2 come) 787) (ts T 1 m 2 (kB2 come)) nv := by
          rw [hs_ru]
          exact (recd_row R).set1 (by omega) (by omega) _
        refine ⟨hset (recd h) 787 (20 + 6 * m + 2) (kB2 come), ?_, MFs.one fun a q => hs_of _ _ q, R1⟩
        · unfold f_M_turnTo
          rw [M_isMember_ok R I hm, kBi_s, if_pos rfl, M_of2 R (by omega), kBi_s, if_neg (fun z => q (hp.mp z)), M_record H, kBi_s, show (2 : Int32) = nI 2 from rfl, e1, kG_nI (by omega) (by omega), kx_nI (by omega), kLet_s, M_present R1 I1, kBi_s, M_bits h4, kBi_s]
theorem tw_turn (come : Bool) (x : Int32) : Tw (fun h => if come = true then f_C_bringIn h 1 x else f_C_sendAway h 1 x) (fun h => f_M_turnTo h x (kB2 come)) := (twv_turn come x).tw
