/-! PURE: ofItem; the text put and wiped. -/
theorem bo_ofItem (x y : Int32) : Both (fun h => f_P_ofItem h x y) (fun h => f_M_ofItem h x y) := by
  refine Both.ask fun h T nm ni nv u sp g => ?_
  obtain ⟨I, C, R, -⟩ := g
  have hn := I.n
  rcases ixc x (n := ni) (by omega) with q | ⟨i, hi, rfl⟩
  · refine ⟨-1, h, h, ?_, Asd.rfl', ?_, Asd.rfl'⟩
    · unfold f_P_ofItem; rw [C_hasItem_bad C I q, if_neg (by decide)]
    · unfold f_M_ofItem; rw [M_isItem_bad R I q, kBi_s, if_neg (by decide)]
  have hi2 : i < 12 := by omega
  obtain ⟨q0, q1, q2, q3, q4, q5, q6, _⟩ := C.f i hi
  have cP : f_P_ofItem h (nI i) y = if y = 0 then (some (T 2 i 0, h)) else (if y = 1 then (some (T 2 i 1, h)) else (if y = 2 then (some (T 2 i 2, h)) else (if y = 9 then (some (T 2 i 9, h)) else (if y = 10 then (some (T 2 i 10, h)) else (if y = 11 then (kBi (f_H_listen h 141 1 (1 + 10 + 5 * i)) fun h15 => kBi (f_H_weightThere h15 141 1) fun v16 => kBi (f_C_isQuorum h15 1 v16) fun v17 => if v17 = true then (some (1, h15)) else (some (0, h15))) else (if y < 3 then (some ((-2), h)) else (if 9 ≤ y then (some ((-2), h)) else (kBd (f_P_sumOf h (1 + 10 + 5 * i) (y - 3)) fun v19 h18 => some (v19, h18))))))))) := by
    unfold f_P_ofItem
    rw [C_hasItem_ok C I hi, if_pos rfl, kG_nI hi2 (by decide), kx_nI (by omega), q0, q1, q2, q4, q5]
    by_cases a0 : y = 0
    · rw [if_pos a0, if_pos a0]
    rw [if_neg a0, if_neg a0]
    by_cases a1 : y = 1
    · rw [if_pos a1, if_pos a1]
    rw [if_neg a1, if_neg a1]
    by_cases a2 : y = 2
    · rw [if_pos a2, if_pos a2]
    rw [if_neg a2, if_neg a2]
    by_cases a3 : y = 3
    · subst a3; rfl
    rw [if_neg a3]
    by_cases a4 : y = 4
    · subst a4; rfl
    rw [if_neg a4]
    by_cases a5 : y = 5
    · subst a5; rfl
    rw [if_neg a5]
    by_cases a6 : y = 6
    · subst a6; rfl
    rw [if_neg a6]
    by_cases a7 : y = 7
    · subst a7; rfl
    rw [if_neg a7]
    by_cases a8 : y = 8
    · subst a8; rfl
    rw [if_neg a8]
  -- the sums
  by_cases sm : ∃ k, k < 6 ∧ y = nI (3 + k)
  · obtain ⟨k, hk, rfl⟩ := sm
    have ne : ∀ j : Nat, (j < 3 ∨ 9 ≤ j) → j < 100 → ¬ nI (3 + k) = nI j := fun j hj h1 => by rw [eqI (by omega) (by omega)]; omega
    have cP2 : f_P_ofItem h (nI i) (nI (3 + k)) = kBd (f_P_sumOf h (1 + 10 + 5 * i) (nI k)) fun v19 h18 => some (v19, h18) := by
      rw [cP, if_neg (show ¬ nI (3 + k) = 0 from ne 0 (by omega) (by omega)), if_neg (show ¬ nI (3 + k) = 1 from ne 1 (by omega) (by omega)), if_neg (show ¬ nI (3 + k) = 2 from ne 2 (by omega) (by omega)), if_neg (show ¬ nI (3 + k) = 9 from ne 9 (by omega) (by omega)), if_neg (show ¬ nI (3 + k) = 10 from ne 10 (by omega) (by omega)), if_neg (show ¬ nI (3 + k) = 11 from ne 11 (by omega) (by omega)), if_neg (by rw [show (3 : Int32) = nI 3 from rfl, ltI (by omega) (by omega)]; omega), if_neg (by rw [show (9 : Int32) = nI 9 from rfl, leI (by omega) (by omega)]; omega), show (3 : Int32) = nI 3 from rfl, sub_n (by omega) (by omega), Nat.add_sub_cancel_left]
    have i38 : f_M_in (nI (3 + k)) 3 8 = true := in_nI (a := 3) (by omega) (show 3 + k ≤ 8 by omega) (by decide)
    by_cases a : sAhead T i = true
    · obtain ⟨g1, l1, l2, l3⟩ := C_listen (s := 141) C I hi (Or.inr (by decide))
      have C1 : Com g1 1 T nm ni nv := C.cong hn.2.1 fun b b1 b2 => l2 b (by omega) (by omega)
      obtain ⟨g2, t1, t2, t3⟩ := C_tally (s := 141) C1 I hi (Or.inr (by decide)) l3
      have o : CFe h g2 := fun b b1 b2 b3 => (t2 b (by omega)).trans (l2 b (by omega) (by omega))
      have R2 : Row (g2 787) T nv := by rw [o 787 (by omega) (by omega) (by omega)]; exact R
      obtain ⟨g3, m1, m2, m3, m4⟩ := M_count6 R2 I hi2
      refine ⟨sTal T i nm nm k, g2, g3, ?_, o.aside, ?_, m2.aside⟩
      · rw [cP2]
        unfold f_P_sumOf
        rw [C_isPending C hi, if_pos a, l1, kBi_s, t1, kBi_s, kG_nI hk (by decide), kx_nI (by omega), show g2 144 k = sTal T i nm nm k from t3 k hk, kBd_s]
      · unfold f_M_ofItem
        rw [M_isItem_ok R2 I hi, kBi_s, if_pos rfl, i38, if_pos rfl, M_isAhead R2 I hi2, kBi_s, if_pos a, m1, kBi_s, show (3 : Int32) = nI 3 from rfl, sub_n (by omega) (by omega), Nat.add_sub_cancel_left, kG_nI hk (by decide), kx_nI (by omega), m4 k hk]
    · refine ⟨T 2 i (3 + k), h, h, ?_, Asd.rfl', ?_, Asd.rfl'⟩
      · rw [cP2]
        unfold f_P_sumOf
        rw [C_isPending C hi, if_neg a, kG_nI hk (by decide), kx_nI (by omega), q6 k hk, kBd_s]
      · unfold f_M_ofItem b_M_ofItem_42
        rw [M_isItem_ok R I hi, kBi_s, if_pos rfl, i38, if_pos rfl, M_isAhead R I hi2, kBi_s, if_neg a, show f_M_in (nI (3 + k)) 0 10 = true from in_nI (a := 0) (by omega) (show 3 + k ≤ 10 by omega) (by decide), if_pos rfl, e2, kG_nI (by omega) (by decide), kx_nI (by omega), R.2.2.1 i (3 + k) hi2 (by omega)]
  · have i38 : f_M_in y 3 8 = false := by
      rcases in_cases (x := y) (a := 3) (b := 8) (by decide) (by decide) with q | ⟨j, j1, j2, e⟩
      · exact in_f q
      · exact absurd ⟨j - 3, by omega, by rw [e]; exact congrArg nI (by omega)⟩ sm
    have cM : ∀ g, Row (g 787) T nv → f_M_ofItem g (nI i) y = b_M_ofItem_42 g (nI i) y := by
      intro g Rg
      unfold f_M_ofItem
      rw [M_isItem_ok Rg I hi, kBi_s, if_pos rfl, i38, if_neg (by decide)]
    by_cases y11 : y = 11
    · obtain ⟨g1, l1, l2, l3⟩ := C_listen (s := 141) C I hi (Or.inr (by decide))
      have C1 : Com g1 1 T nm ni nv := C.cong hn.2.1 fun b b1 b2 => l2 b (by omega) (by omega)
      have o : CFe h g1 := fun b b1 b2 b3 => l2 b (by omega) (by omega)
      have R1 : Row (g1 787) T nv := by rw [o 787 (by omega) (by omega) (by omega)]; exact R
      obtain ⟨g2, m1, m2, m3⟩ := M_isQuorum R1 I hi2
      refine ⟨kB2 (sQuo T nm (sThr T i nm nm)), g1, g2, ?_, o.aside, ?_, m2.aside⟩
      · rw [cP, y11, if_neg (by decide), if_neg (by decide), if_neg (by decide), if_neg (by decide), if_neg (by decide), if_pos rfl, l1, kBi_s, C_weightThere C1 I hi l3, kBi_s, C_isQuorum C1 I, kBi_s]
        cases sQuo T nm (sThr T i nm nm) <;> rfl
      · rw [cM g1 R1, y11]
        unfold b_M_ofItem_42
        rw [show f_M_in 11 0 10 = false from by decide, if_neg (by decide), if_pos rfl, m1, kBd_s]
        cases sQuo T nm (sThr T i nm nm) <;> rfl
    · by_cases st : ∃ j, (j < 3 ∨ j = 9 ∨ j = 10) ∧ y = nI j
      · obtain ⟨j, hj, rfl⟩ := st
        refine ⟨T 2 i j, h, h, ?_, Asd.rfl', ?_, Asd.rfl'⟩
        · rw [cP]
          have : j = 0 ∨ j = 1 ∨ j = 2 ∨ j = 9 ∨ j = 10 := by omega
          rcases this with rfl | rfl | rfl | rfl | rfl
          · exact if_pos rfl
          all_goals rfl
        · rw [cM h R]
          unfold b_M_ofItem_42
          rw [show f_M_in (nI j) 0 10 = true from in_nI (a := 0) (by omega) (show j ≤ 10 by omega) (by decide), if_pos rfl, e2, kG_nI (by omega) (by decide), kx_nI (by omega), R.2.2.1 i j hi2 (by omega)]
      · have ne : ∀ j, (j < 3 ∨ j = 9 ∨ j = 10) → ¬ y = nI j := fun j hj e => st ⟨j, hj, e⟩
        refine ⟨-2, h, h, ?_, Asd.rfl', ?_, Asd.rfl'⟩
        · rw [cP, if_neg (show ¬ y = 0 from ne 0 (by omega)), if_neg (show ¬ y = 1 from ne 1 (by omega)), if_neg (show ¬ y = 2 from ne 2 (by omega)), if_neg (show ¬ y = 9 from ne 9 (by omega)), if_neg (show ¬ y = 10 from ne 10 (by omega)), if_neg y11]
          by_cases c3 : y < 3
          · rw [if_pos c3]
          · rw [if_neg c3, if_pos]
            rcases in_cases (x := y) (a := 3) (b := 8) (by decide) (by decide) with q | ⟨j, j1, j2, e⟩
            · rcases q with q | q
              · exact absurd q c3
              · rw [fa_lt] at q
                rw [fa_le]
                have h8 : (nI 8).toInt = 8 := by decide
                have h9 : (9 : Int32).toInt = 9 := by decide
                omega
            · exact absurd ⟨j - 3, by omega, by rw [e]; exact congrArg nI (by omega)⟩ sm
        · rw [cM h R]
          unfold b_M_ofItem_42
          have i10 : f_M_in y 0 10 = false := by
            rcases in_cases (x := y) (a := 0) (b := 10) (by decide) (by decide) with q | ⟨j, j1, j2, e⟩
            · exact in_f q
            · by_cases w : 3 ≤ j ∧ j < 9
              · exact absurd ⟨j - 3, by omega, by rw [e]; exact congrArg nI (by omega)⟩ sm
              · exact absurd e (ne j (by omega))
          rw [i10, if_neg (by decide), if_neg y11]
theorem bo_wipe : Both (fun h => f_P_wipe h) (fun h => f_M_wipe h) := by
  intro h g
  obtain ⟨T, nm, ni, nv, u, sp, I, C, R, H, S, P, e8⟩ := g
  obtain ⟨l, l1, l2, l3, l4⟩ := P
  have o : ∀ a, a ≠ 637 → a ≠ 786 → hset (hset h 637 1 0) 786 7 0 a = h a := fun a p q => by rw [hs_of _ _ q, hs_of _ _ p]
  have o6 : ∀ j, j ≠ 7 → hset (hset h 637 1 0) 786 7 0 786 j = h 786 j := fun j q => by rw [hs_ne _ _ (by omega), hs_o _ _ (by decide)]
  refine ⟨nI l, hset h 637 1 0, hset (hset h 637 1 0) 786 7 0, ?_, ?_, T, nm, ni, nv, u, sp, I, C.cong I.n.2.1 fun a a1 a2 => o a (by omega) (by omega), by rw [o 787 (by omega) (by omega)]; exact R, H.cong (o _ (by omega) (by omega)) (o6 3 (by decide)) (o _ (by omega) (by omega)) fun a a1 a2 _ => o a (by omega) (by omega), S.cong (o _ (by omega) (by omega)) (o _ (by omega) (by omega)) (o _ (by omega) (by omega)) fun a a1 a2 => o a (by omega) (by omega), ⟨0, by omega, ?_, hs_eq _ _ _ _, fun k hk => absurd hk (Nat.not_lt_zero _)⟩, (o6 8 (by decide)).trans e8⟩
  · dsimp only
    unfold f_P_wipe f_D_empty
    rw [kLet_s, l2, kBd_s]
  · dsimp only
    unfold f_M_wipe
    rw [kLet_s, hs_o _ _ (by decide), l3]
  · rw [hs_o _ _ (by decide), hs_eq]; rfl
