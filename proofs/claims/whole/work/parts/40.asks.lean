/-! PURE: the plain questions: ofMember, ofItem, at, count, wouldBe. -/
/-- only what lies aside has changed -/
def Asd (h h' : kH) : Prop := (∀ a, (a ≤ 70 ∨ (145 ≤ a ∧ a < 637) ∨ a = 638 ∨ a = 643 ∨ (646 ≤ a ∧ a < 786) ∨ a = 787 ∨ (789 ≤ a ∧ a ≤ 792)) → h' a = h a) ∧ h' 637 1 = h 637 1 ∧ h' 786 3 = h 786 3 ∧ h' 786 7 = h 786 7 ∧ h' 786 8 = h 786 8
theorem Gk.aside {h h' : kH} {T : kT} {nm ni nv u sp : Nat} (g : Gk h T nm ni nv u sp) (e : Asd h h') : Gk h' T nm ni nv u sp := by
  obtain ⟨I, C, R, H, S, P, e8⟩ := g
  obtain ⟨o, o1, o3, o7, o8⟩ := e
  refine ⟨I, C.cong I.n.2.1 fun a a1 a2 => o a (by omega), by rw [o 787 (by omega)]; exact R, H.cong (o _ (by omega)) o3 (o _ (by omega)) fun a a1 a2 _ => o a (by omega), S.cong (o _ (by omega)) (o _ (by omega)) (o _ (by omega)) fun a a1 a2 => o a (by omega), P.cong o1 o7 (o _ (by omega)) (o _ (by omega)), o8.trans e8⟩
theorem Asd.rfl' {h : kH} : Asd h h := ⟨fun _ _ => rfl, rfl, rfl, rfl, rfl⟩
theorem Asd.trans {h h' h'' : kH} (a : Asd h h') (b : Asd h' h'') : Asd h h'' := ⟨fun x q => (b.1 x q).trans (a.1 x q), b.2.1.trans a.2.1, b.2.2.1.trans a.2.2.1, b.2.2.2.1.trans a.2.2.2.1, b.2.2.2.2.trans a.2.2.2.2⟩
theorem Asd.of {h h' : kH} (e : ∀ a, (a ≤ 70 ∨ (145 ≤ a ∧ a < 639) ∨ a = 643 ∨ (646 ≤ a ∧ a < 788) ∨ (789 ≤ a ∧ a ≤ 792)) → h' a = h a) : Asd h h' := ⟨fun a q => e a (by omega), by rw [e 637 (by omega)], by rw [e 786 (by omega)], by rw [e 786 (by omega)], by rw [e 786 (by omega)]⟩
theorem Sc.aside {h h' : kH} (S : Sc h h') : Asd h h' := Asd.of fun a q => S a (by omega) (by omega) (by omega)
theorem CFe.aside {h h' : kH} (S : CFe h h') : Asd h h' := Asd.of fun a q => S a (by omega) (by omega) (by omega)
/-- a question of both -/
theorem Both.ask {FP FM : kH → Option (Int32 × kH)} (W : ∀ h T nm ni nv u sp, Gk h T nm ni nv u sp → ∃ v h1 h2, FP h = some (v, h1) ∧ Asd h h1 ∧ FM h1 = some (v, h2) ∧ Asd h1 h2) : Both FP FM := by
  intro h g
  obtain ⟨T, nm, ni, nv, u, sp, k⟩ := g
  obtain ⟨v, h1, h2, a, b, c, d⟩ := W h T nm ni nv u sp k
  exact ⟨v, h1, h2, a, c, T, nm, ni, nv, u, sp, k.aside (b.trans d)⟩
/-- questions that change nothing at all -/
def Same2 (FP FM : kH → Option Int32) : Prop := ∀ h, G h → ∃ v, FP h = some v ∧ FM h = some v
theorem sa_ofMember (x y : Int32) : Same2 (fun h => f_P_ofMember h x y) (fun h => f_M_ofMember h x y) := by
  intro h g
  obtain ⟨T, nm, ni, nv, u, sp, I, C, R, -⟩ := g
  have hn := I.n
  dsimp only
  unfold f_P_ofMember f_M_ofMember
  rcases ixc x (n := nm) (by omega) with q | ⟨m, hm, rfl⟩
  · rw [C_hasMember_bad C I q, if_neg (by decide), M_isMember_bad R I q, kBi_s, if_neg (by decide)]
    exact ⟨_, rfl, rfl⟩
  · obtain ⟨d0, d1, d3⟩ := C.d m hm
    have hm2 : m < 12 := by omega
    rw [C_hasMember_ok C I hm, if_pos rfl, M_isMember_ok R I hm, kBi_s, if_pos rfl, kG_nI hm2 (by decide), kG_nI hm2 (by decide), kG_nI hm2 (by decide), kx_nI (by omega), show h 3 m = T 1 m 0 from d0, show h 4 m = T 1 m 1 from d1, show h 5 m = T 1 m 3 from d3, C_isPresent C I hm, C_votesOf C I hm, C_tiesBrokenBy C I hm, kBi_s, kBi_s, M_votesOf R I hm, M_of4 R hm2, kBi_s, kBi_s]
    by_cases a0 : y = 0
    · rw [a0, if_pos rfl, show f_M_in 0 0 3 = true from by decide, if_pos rfl, M_of0 R hm2, kBi_s]
      exact ⟨_, rfl, rfl⟩
    · rw [if_neg a0]
      by_cases a1 : y = 1
      · rw [a1, if_pos rfl, show f_M_in 1 0 3 = true from by decide, if_pos rfl, M_of1 R hm2, kBi_s]
        exact ⟨_, rfl, rfl⟩
      · rw [if_neg a1]
        by_cases a2 : y = 2
        · rw [a2, if_pos rfl, show f_M_in 2 0 3 = true from by decide, if_pos rfl, M_of2 R hm2, kBi_s]
          refine ⟨T 1 m 2, ?_, rfl⟩
          unfold ps
          rcases (I.m hm2).1 with e | ⟨e, _⟩
          · rw [e]; decide
          · rw [e]; decide
        · rw [if_neg a2]
          by_cases a3 : y = 3
          · rw [a3, if_pos rfl, show f_M_in 3 0 3 = true from by decide, if_pos rfl, M_of3 R hm2, kBi_s]
            exact ⟨_, rfl, rfl⟩
          · rw [if_neg a3]
            have hin : f_M_in y 0 3 = false := by
              rcases in_cases (x := y) (a := 0) (b := 3) (by decide) (by decide) with q | ⟨j, _, hj, rfl⟩
              · exact in_f q
              · have : j = 0 ∨ j = 1 ∨ j = 2 ∨ j = 3 := by omega
                rcases this with rfl | rfl | rfl | rfl
                · exact absurd rfl a0
                · exact absurd rfl a1
                · exact absurd rfl a2
                · exact absurd rfl a3
            rw [hin, if_neg (show ¬ (false = true) by decide)]
            by_cases a4 : y = 4
            · rw [if_pos a4]
              exact ⟨_, rfl, rfl⟩
            · rw [if_neg a4]
              by_cases a5 : y = 5
              · rw [if_pos a5]
                exact ⟨_, rfl, rfl⟩
              · rw [if_neg a5]
                exact ⟨_, rfl, rfl⟩
theorem sub_n {a b : Nat} (h : b ≤ a) (ha : a < 2 ^ 30) : nI a - nI b = nI (a - b) := by
  apply Int32.toInt_inj.mp
  rw [pk_sub_toInt (by omega) (by omega), nI_toInt (by omega)]
  omega
theorem sa_count (x : Int32) : Same2 (fun h => f_P_count h x) (fun h => f_M_count h x) := by
  intro h g
  obtain ⟨T, nm, ni, nv, u, sp, I, C, R, H, S, P, e8⟩ := g
  have hn := I.n
  obtain ⟨⟨s1, s2, s3, s4, s5⟩, _⟩ := H
  obtain ⟨l, l1, l2, l3, l4⟩ := P
  obtain ⟨a1, a2, a3, a4, a5, a6⟩ := C.a
  dsimp only
  rcases in_cases (x := x) (a := 0) (b := 21) (by decide) (by decide) with (q : x < 0 ∨ 21 < x) | ⟨j, _, hj, rfl⟩
  · have ne : ∀ k : Nat, k ≤ 21 → ¬ x = nI k := by
      intro k hk e
      rcases q with q | q
      · rw [e] at q; exact pos_nI (by omega) q
      · rw [e, show (21 : Int32) = nI 21 from rfl, ltI (by omega) (by omega)] at q
        omega
    have i8 : f_M_in x 8 12 = false := by
      apply in_f
      rcases q with q | q
      · left; rw [fa_lt] at q ⊢
        have h0 : (0 : Int32).toInt = 0 := by decide
        have h8 : (8 : Int32).toInt = 8 := by decide
        omega
      · right; rw [fa_lt] at q ⊢
        have h0 : (21 : Int32).toInt = 21 := by decide
        have h8 : (12 : Int32).toInt = 12 := by decide
        omega
    have i16 : f_M_in x 16 21 = false := by
      apply in_f
      rcases q with q | q
      · left; rw [fa_lt] at q ⊢
        have h0 : (0 : Int32).toInt = 0 := by decide
        have h8 : (16 : Int32).toInt = 16 := by decide
        omega
      · exact Or.inr q
    have c49 : b_P_count_49 h x = some (-2) := by
      unfold b_P_count_49
      rw [if_neg (show ¬ x = 0 from ne 0 (by decide)), if_neg (show ¬ x = 1 from ne 1 (by decide)), if_neg (show ¬ x = 2 from ne 2 (by decide)), if_neg (show ¬ x = 3 from ne 3 (by decide)), if_neg (show ¬ x = 4 from ne 4 (by decide)), if_neg (show ¬ x = 5 from ne 5 (by decide)), if_neg (show ¬ x = 6 from ne 6 (by decide)), if_neg (show ¬ x = 7 from ne 7 (by decide)), if_neg (show ¬ x = 8 from ne 8 (by decide)), if_neg (show ¬ x = 9 from ne 9 (by decide)), if_neg (show ¬ x = 10 from ne 10 (by decide)), if_neg (show ¬ x = 11 from ne 11 (by decide)), if_neg (show ¬ x = 12 from ne 12 (by decide)), if_neg (show ¬ x = 13 from ne 13 (by decide)), if_neg (show ¬ x = 14 from ne 14 (by decide)), if_neg (show ¬ x = 15 from ne 15 (by decide))]
    refine ⟨-2, ?_, ?_⟩
    · unfold f_P_count b_P_count_24
      rw [c49]
      have c24 : (if x < 16 then some (-2 : Int32) else if 22 ≤ x then some (-2) else kG (x - 16) 6 (some (h 2 (kx (x - 16))))) = some (-2) := by
        rcases q with q | q
        · rw [if_pos]
          rw [fa_lt] at q ⊢
          have h0 : (0 : Int32).toInt = 0 := by decide
          have h8 : (16 : Int32).toInt = 16 := by decide
          omega
        · rw [if_neg, if_pos]
          · rw [fa_lt] at q
            rw [fa_le]
            have h0 : (21 : Int32).toInt = 21 := by decide
            have h8 : (22 : Int32).toInt = 22 := by decide
            omega
          · rw [fa_lt] at q ⊢
            have h0 : (21 : Int32).toInt = 21 := by decide
            have h8 : (16 : Int32).toInt = 16 := by decide
            omega
      rw [c24]
      by_cases p : x < 8
      · rw [if_pos p]
      · rw [if_neg p, if_pos]
        rcases q with q | q
        · refine absurd ?_ p
          rw [fa_lt] at q ⊢
          have h0 : (0 : Int32).toInt = 0 := by decide
          have h8 : (8 : Int32).toInt = 8 := by decide
          omega
        · rw [fa_lt] at q ⊢
          have h0 : (21 : Int32).toInt = 21 := by decide
          have h8 : (12 : Int32).toInt = 12 := by decide
          omega
    · unfold f_M_count
      rw [i8, i16, if_neg (by decide), if_neg (by decide), if_neg (show ¬ x = 0 from ne 0 (by decide)), if_neg (show ¬ x = 1 from ne 1 (by decide)), if_neg (show ¬ x = 2 from ne 2 (by decide)), if_neg (show ¬ x = 3 from ne 3 (by decide)), if_neg (show ¬ x = 4 from ne 4 (by decide)), if_neg (show ¬ x = 5 from ne 5 (by decide)), if_neg (show ¬ x = 6 from ne 6 (by decide)), if_neg (show ¬ x = 7 from ne 7 (by decide)), if_neg (show ¬ x = 8 from ne 8 (by decide)), if_neg (show ¬ x = 9 from ne 9 (by decide)), if_neg (show ¬ x = 10 from ne 10 (by decide)), if_neg (show ¬ x = 11 from ne 11 (by decide)), if_neg (show ¬ x = 12 from ne 12 (by decide)), if_neg (show ¬ x = 13 from ne 13 (by decide)), if_neg (show ¬ x = 14 from ne 14 (by decide)), if_neg (show ¬ x = 15 from ne 15 (by decide))]
  · have hs : ∀ k, k < 6 → h 2 k = T 0 k 0 := fun k hk => C.b k hk
    by_cases p : 16 ≤ j
    · refine ⟨T 0 (j - 16) 0, ?_, ?_⟩
      · unfold f_P_count b_P_count_24
        rw [if_neg (show ¬ nI j < 8 by rw [show (8 : Int32) = nI 8 from rfl, ltI (by omega) (by omega)]; omega), if_pos (show (12 : Int32) < nI j by rw [show (12 : Int32) = nI 12 from rfl, ltI (by omega) (by omega)]; omega), if_neg (show ¬ nI j < 16 by rw [show (16 : Int32) = nI 16 from rfl, ltI (by omega) (by omega)]; omega), if_neg (show ¬ (22 : Int32) ≤ nI j by rw [show (22 : Int32) = nI 22 from rfl, leI (by omega) (by omega)]; omega), show (16 : Int32) = nI 16 from rfl, sub_n (by omega) (by omega), kG_nI (by omega) (by decide), kx_nI (by omega), hs _ (by omega)]
      · unfold f_M_count
        rw [show f_M_in (nI j) 8 12 = false from in_f (Or.inr (by rw [show (12 : Int32) = nI 12 from rfl, ltI (by omega) (by omega)]; omega)), if_neg (by decide), show f_M_in (nI j) 16 21 = true from in_nI (a := 16) p hj (by decide), if_pos rfl, show (16 : Int32) = nI 16 from rfl, sub_n (by omega) (by omega), kG_nI (by omega) (by decide), kx_nI (by omega), R.1 _ (by omega)]
    · by_cases p8 : 8 ≤ j ∧ j ≤ 12
      · refine ⟨nI (fb_ct (fun i => decide (T 2 i 2 = nI (j - 8))) ni), ?_, ?_⟩
        · unfold f_P_count
          rw [if_neg (show ¬ nI j < 8 by rw [show (8 : Int32) = nI 8 from rfl, ltI (by omega) (by omega)]; omega), if_neg (show ¬ (12 : Int32) < nI j by rw [show (12 : Int32) = nI 12 from rfl, ltI (by omega) (by omega)]; omega), show (8 : Int32) = nI 8 from rfl, sub_n (by omega) (by omega), C_itemsIn C I, kBi_s]
        · unfold f_M_count
          rw [show f_M_in (nI j) 8 12 = true from in_nI (a := 8) p8.1 p8.2 (by decide), if_pos rfl, show (8 : Int32) = nI 8 from rfl, sub_n (by omega) (by omega), M_itemsIn R I, kBi_s]
      · have i8 : f_M_in (nI j) 8 12 = false := by
          apply in_f
          rw [show (8 : Int32) = nI 8 from rfl, show (12 : Int32) = nI 12 from rfl, ltI (by omega) (by omega), ltI (by omega) (by omega)]
          omega
        have i16 : f_M_in (nI j) 16 21 = false := by
          apply in_f
          left
          rw [show (16 : Int32) = nI 16 from rfl, ltI (by omega) (by omega)]
          omega
        have cP : f_P_count h (nI j) = b_P_count_49 h (nI j) := by
          unfold f_P_count b_P_count_24
          rw [if_pos (show nI j < 16 by rw [show (16 : Int32) = nI 16 from rfl, ltI (by omega) (by omega)]; omega)]
          by_cases w : j < 8
          · rw [if_pos (by rw [show (8 : Int32) = nI 8 from rfl, ltI (by omega) (by omega)]; exact w)]
          · rw [if_neg (by rw [show (8 : Int32) = nI 8 from rfl, ltI (by omega) (by omega)]; exact w), if_pos (by rw [show (12 : Int32) = nI 12 from rfl, ltI (by omega) (by omega)]; omega)]
        rw [cP]
        unfold b_P_count_49 f_M_count
        rw [i8, i16, if_neg (show ¬ (false = true) by decide), if_neg (show ¬ (false = true) by decide)]
        obtain ⟨f1, f2, f3⟩ := C_firstIn C I 1
        obtain ⟨f4, f5, f6⟩ := M_itemIn R I 1
        obtain ⟨c1, c2, c3⟩ := C_chair C I
        obtain ⟨c4, c5, c6⟩ := M_chair R I
        have ef := f3.one f6
        have ec := c3.one I c6
        rw [f2, f5, c2, c5, C_weightOfAll C I, M_allWeight R I, M_present R I, g760_6, g760_7, g760_8, g760_9, g760_10, x_6, x_7, x_8, x_9, x_10, R.1 6 (by decide), R.1 7 (by decide), R.1 8 (by decide), R.1 9 (by decide), R.1 10 (by decide), a1, a2, a3, a4, a5, show h 7 0 = T 0 10 0 from a6, l2, l3, s4, s5, ef, ec]
        simp only [kBi_s]
        have : j = 0 ∨ j = 1 ∨ j = 2 ∨ j = 3 ∨ j = 4 ∨ j = 5 ∨ j = 6 ∨ j = 7 ∨ j = 13 ∨ j = 14 ∨ j = 15 := by omega
        rcases this with rfl | rfl | rfl | rfl | rfl | rfl | rfl | rfl | rfl | rfl | rfl
        · exact ⟨_, if_pos rfl, if_pos rfl⟩
        all_goals exact ⟨_, rfl, rfl⟩
theorem bo_wouldBe (x : Int32) : Both (fun h => f_P_wouldBe h x) (fun h => f_M_wouldBe h x) := by
  refine Both.ask fun h T nm ni nv u sp g => ?_
  obtain ⟨I, C, R, -⟩ := g
  have hn := I.n
  rcases ixc x (n := ni) (by omega) with q | ⟨i, hi, rfl⟩
  · refine ⟨-1, h, h, ?_, Asd.rfl', ?_, Asd.rfl'⟩
    · unfold f_P_wouldBe; rw [C_hasItem_bad C I q, if_neg (by decide)]
    · unfold f_M_wouldBe; rw [M_isItem_bad R I q, kBi_s, if_neg (by decide)]
  · have hi2 : i < 12 := by omega
    by_cases a : sAhead T i = true
    · obtain ⟨g1, l1, l2, l3⟩ := C_listen (s := 141) C I hi (Or.inr (by decide))
      have C1 : Com g1 1 T nm ni nv := C.cong hn.2.1 fun b b1 b2 => l2 b (by omega) (by omega)
      obtain ⟨g2, t1, t2, t3⟩ := C_tally (s := 141) C1 I hi (Or.inr (by decide)) l3
      have C2 : Com g2 1 T nm ni nv := C1.cong hn.2.1 fun b b1 b2 => t2 b (by omega)
      have o : CFe h g2 := fun b b1 b2 b3 => (t2 b (by omega)).trans (l2 b (by omega) (by omega))
      have R2 : Row (g2 787) T nv := by rw [o 787 (by omega) (by omega) (by omega)]; exact R
      obtain ⟨g3, m1, m2, m3, m4⟩ := M_outcome R2 I hi2
      refine ⟨sOut T i (sTal T i nm nm 1) (sTal T i nm nm 2) (sTal T i nm nm 0), g2, g3, ?_, o.aside, ?_, m2.aside⟩
      · unfold f_P_wouldBe
        rw [C_hasItem_ok C I hi, if_pos rfl, kG_nI hi2 (by decide), kx_nI (by omega), C_isPending C hi, if_pos a, l1, kBi_s, t1, kBi_s, C_outcome (s := 141) C2 hi, kBi_s, t3 1 (by decide), t3 2 (by decide), t3 0 (by decide), Int32.add_zero]
      · unfold f_M_wouldBe
        rw [M_isItem_ok R2 I hi, kBi_s, if_pos rfl, M_isAhead R2 I hi2, kBi_s, if_pos a, m1, kBd_s]
    · refine ⟨-5, h, h, ?_, Asd.rfl', ?_, Asd.rfl'⟩
      · unfold f_P_wouldBe
        rw [C_hasItem_ok C I hi, if_pos rfl, kG_nI hi2 (by decide), kx_nI (by omega), C_isPending C hi, if_neg a]
      · unfold f_M_wouldBe
        rw [M_isItem_ok R I hi, kBi_s, if_pos rfl, M_isAhead R I hi2, kBi_s, if_neg a]
theorem C_spoken {h : kH} {c s : Nat} {T : kT} {nm ni nv i e : Nat} (C : Com h c T nm ni nv) (I : Iv T nm ni nv) (L : Hrd h s T i nm) : ∀ (k j f : Nat), j + k = nm → k < f → b_H_spokenForBy_5 h s c (nI e) f (nI (msk (fun m => !ps T m && decide (sV T i nm m = nI e)) j)) (nI j) = some (nI (msk (fun m => !ps T m && decide (sV T i nm m = nI e)) nm)) := by
  have hn := I.1
  intro k
  induction k with
  | zero =>
    intro j f hj hf
    obtain ⟨f, rfl⟩ : ∃ g, f = g + 1 := ⟨f - 1, by omega⟩
    obtain rfl : j = nm := hj
    rw [b_H_spokenForBy_5, C.1.2.1, I.2.1.1]
    exact if_pos (nI_le (Nat.le_refl _) (by omega))
  | succ k ih =>
    intro j f hj hf
    obtain ⟨f, rfl⟩ : ∃ g, f = g + 1 := ⟨f - 1, by omega⟩
    have ih' := ih (j + 1) f (by omega) (by omega)
    rw [b_H_spokenForBy_5, C.1.2.1, I.2.1.1]
    dsimp only
    rw [if_neg (nI_ge (by omega) (by omega)), kG_nI (by omega) (by decide), kx_nI (by omega), L.1 j (by omega), C_isPresent C I (by omega), nI_1]
    by_cases p : (!ps T j && decide (sV T i nm j = nI e)) = true
    · have p1 : ps T j = false := by
        cases q : ps T j
        · rfl
        · rw [q] at p; simp at p
      have p2 : sV T i nm j = nI e := by
        rw [p1] at p
        simpa using p
      rw [if_pos p2, p1, if_neg (by decide), kLet_s, or_msk (fun m => !ps T m && decide (sV T i nm m = nI e)) (by omega) p]
      exact ih'
    · rw [nor_msk (fun m => !ps T m && decide (sV T i nm m = nI e)) p] at ih'
      by_cases p2 : sV T i nm j = nI e
      · rw [if_pos p2]
        have p1 : ps T j = true := by
          cases q : ps T j
          · exact absurd (by rw [q, p2]; simp) p
          · rfl
        rw [p1, if_pos rfl]
        exact ih'
      · rw [if_neg p2]
        exact ih'
theorem bo_at (x y z : Int32) : Both (fun h => f_P_at h x y z) (fun h => f_M_at h x y z) := by
  refine Both.ask fun h T nm ni nv u sp g => ?_
  obtain ⟨I, C, R, -⟩ := g
  have hn := I.n
  rcases ixc x (n := nm) (by omega) with q | ⟨m, hm, rfl⟩
  · refine ⟨-1, h, h, ?_, Asd.rfl', ?_, Asd.rfl'⟩
    · unfold f_P_at; rw [C_hasMember_bad C I q, if_neg (by decide)]
    · unfold f_M_at; rw [M_isMember_bad R I q, kBi_s, if_neg (by decide)]
  rcases ixc y (n := ni) (by omega) with q | ⟨i, hi, rfl⟩
  · refine ⟨-1, h, h, ?_, Asd.rfl', ?_, Asd.rfl'⟩
    · unfold f_P_at; rw [C_hasMember_ok C I hm, if_pos rfl, C_hasItem_bad C I q, if_neg (by decide)]
    · unfold f_M_at; rw [M_isMember_ok R I hm, kBi_s, if_pos rfl, M_isItem_bad R I q, kBi_s, if_neg (by decide)]
  have hi2 : i < 12 := by omega
  have hm2 : m < 12 := by omega
  obtain ⟨g1, l1, l2, l3⟩ := C_listen (s := 141) C I hi (Or.inr (by decide))
  have C1 : Com g1 1 T nm ni nv := C.cong hn.2.1 fun b b1 b2 => l2 b (by omega) (by omega)
  have o : CFe h g1 := fun b b1 b2 b3 => l2 b (by omega) (by omega)
  have R1 : Row (g1 787) T nv := by rw [o 787 (by omega) (by omega) (by omega)]; exact R
  obtain ⟨g2, v1, v2, v3⟩ := M_layVoices R1 I hi2
  have R2 : Row (g2 787) T nv := by rw [v2 787 (by decide) (by decide)]; exact R1
  have Sa : Asd g1 g2 := Asd.of fun a q => v2 a (by omega) (by omega)
  obtain ⟨_, _, _, _, _, _, _, q0⟩ := C1.f i hi
  obtain ⟨q1, q2, q3⟩ := q0 m hm2
  have sp' : f_H_spokenForBy g1 141 1 (nI m) = some (nI (msk (fun m' => !ps T m' && decide (sV T i nm m' = nI m)) nm)) := C_spoken C1 I l3 nm 0 kFuel (by omega) (kF_lt (by omega))
  have cP : f_P_at h (nI m) (nI i) z = if z = 0 then some (sV T i nm m, g1) else if z = 1 then some (T 4 i m, g1) else if z = 2 then some (T 5 i m, g1) else if z = 3 then some (sWay T i nm m, g1) else if z = 4 then some (T 3 i m, g1) else if z = 5 then (if sRec T i m = true then some (1, g1) else some (0, g1)) else if z = 6 then some (nI (msk (fun m' => !ps T m' && decide (sV T i nm m' = nI m)) nm), g1) else some (-2, g1) := by
    unfold f_P_at
    rw [C_hasMember_ok C I hm, if_pos rfl, C_hasItem_ok C I hi, if_pos rfl, kG_nI hi2 (by decide), kx_nI (by omega), l1, kBi_s, kG_nI hm2 (by decide), kG_nI hm2 (by decide), kG_nI hm2 (by decide), kG_nI hm2 (by decide), kx_nI (by omega), show g1 142 m = sV T i nm m from l3.1 m hm2, q1, q2, q3, C_wayOf C1 I hi hm l3, kBi_s, C_isRecused C1 I hi hm, kBi_s, sp', kBi_s]
  have cM : f_M_at g1 (nI m) (nI i) z = if z = 0 then some (sV T i nm m, g2) else if z = 1 then some (T 4 i m, g2) else if z = 2 then some (T 5 i m, g2) else if z = 3 then some (sWay T i nm m, g2) else if z = 4 then some (T 3 i m, g2) else if z = 5 then (if sRec T i m = true then some (1, g2) else some (0, g2)) else if z = 6 then some (nI (msk (fun m' => !ps T m' && decide (sV T i nm m' = nI m)) nm), g2) else some (-2, g2) := by
    unfold f_M_at
    rw [M_isMember_ok R1 I hm, kBi_s, if_pos rfl, M_isItem_ok R1 I hi, kBi_s, if_pos rfl, v1, kBi_s, kG_nI hm2 (by decide), kG_nI hm2 (by decide), kx_nI (by omega), v3.1 m hm, v3.2 m hm2, M_pair0 R2 hi2 hm2, M_pair1 R2 hi2 hm2, M_pair2 R2 hi2 hm2, M_wayOf R2 I hi2 hm v3, M_isRecused R2 hi2 hm2, kBi_s, kBi_s, kBi_s, kBi_s, kBi_s]
  have fin : ∀ v, f_P_at h (nI m) (nI i) z = some (v, g1) → f_M_at g1 (nI m) (nI i) z = some (v, g2) → ∃ v h1 h2, f_P_at h (nI m) (nI i) z = some (v, h1) ∧ Asd h h1 ∧ f_M_at h1 (nI m) (nI i) z = some (v, h2) ∧ Asd h1 h2 := fun v a b => ⟨v, g1, g2, a, o.aside, b, Sa⟩
  by_cases z0 : z = 0
  · exact fin _ (cP.trans (if_pos z0)) (cM.trans (if_pos z0))
  rw [if_neg z0] at cP cM
  by_cases z1 : z = 1
  · exact fin _ (cP.trans (if_pos z1)) (cM.trans (if_pos z1))
  rw [if_neg z1] at cP cM
  by_cases z2 : z = 2
  · exact fin _ (cP.trans (if_pos z2)) (cM.trans (if_pos z2))
  rw [if_neg z2] at cP cM
  by_cases z3 : z = 3
  · exact fin _ (cP.trans (if_pos z3)) (cM.trans (if_pos z3))
  rw [if_neg z3] at cP cM
  by_cases z4 : z = 4
  · exact fin _ (cP.trans (if_pos z4)) (cM.trans (if_pos z4))
  rw [if_neg z4] at cP cM
  by_cases z5 : z = 5
  · rw [if_pos z5] at cP cM
    by_cases y : sRec T i m = true
    · exact fin _ (cP.trans (if_pos y)) (cM.trans (if_pos y))
    · exact fin _ (cP.trans (if_neg y)) (cM.trans (if_neg y))
  rw [if_neg z5] at cP cM
  by_cases z6 : z = 6
  · exact fin _ (cP.trans (if_pos z6)) (cM.trans (if_pos z6))
  · exact fin _ (cP.trans (if_neg z6)) (cM.trans (if_neg z6))
