/-! CONSTRUCTORS of the history and of the class. -/
def cComs (b : Nat) : Nat → List kC
  | 0 => []
  | n + 1 => cComs b n ++ cCom (b + 70 * n) 12
theorem cComs_len (b : Nat) : ∀ n, (cComs b n).length = 70 * n
  | 0 => rfl
  | n + 1 => by
    rw [cComs, List.length_append, cComs_len b n, cCom_len]
    omega
def cHist (b n : Nat) : List kC := (2, [.ref (b + 1), .int 0, .int 0]) :: (14, mRefs (b + 2) 70 7 n) :: cComs (b + 2) n
theorem cHist_len (b n : Nat) : (cHist b n).length = 2 + 70 * n := by
  unfold cHist
  rw [List.length_cons, List.length_cons, cComs_len]
  omega
theorem cHist_s {b i : Nat} (h : i < 7) : (cHist b i ++ cCom (b + 2 + 70 * i) 12).set 1 (14, (mRefs (b + 2) 70 7 i).set i (.ref (b + 2 + 70 * i))) = cHist b (i + 1) := by
  rw [mRefs_set h]
  unfold cHist
  rw [cComs]
  simp only [List.cons_append, List.append_assoc, List.set_cons_succ, List.set_cons_zero]
theorem cCom_0 (b n : Nat) : (cCom b n)[0]? = some (0, [.int 0, .int 0, .int 0, .int 0, .int (-6), .ref (b + 1), .ref (b + 2), .ref (b + 3), .ref (b + 4), .ref (b + 5), .ref (b + 6)]) := rfl
theorem j_Y_init {E : kE} {Ls : Nat} {xs : Nat → Int32} (hro : kRo E Ls xs) {g0 : List kC} {b : Nat} (hb : g0.length = b) : JM E m_Y_init [.ref b] (g0 ++ [(2, [.null, .int 0, .int 0])]) none (g0 ++ cHist b 7) := by
  have loop : ∀ (d i : Nat), i + d = 7 → kJ E m_Y_init none (g0 ++ cHist b 7) (1 + 70 * i) (7 + 753 * i) 15 [(0, .ref b), (1, .int (nI i))] [] (g0 ++ cHist b i) := by
    intro d
    induction d with
    | zero =>
      intro i hi
      obtain rfl : i = 7 := hi
      refine kJ_iload_n 16 1 d_Y_init_15 rfl rfl rfl ?_
      refine kJ_aload_n 17 0 d_Y_init_16 rfl rfl rfl rfl ?_
      refine kN_getf 20 0 hb d_Y_init_17 l_Y_11 rfl rfl rfl rfl ?_
      refine kJ_alen 21 (vs := mRefs (b + 2) 70 7 7) d_Y_init_20 (by rw [kApp_get hb]; rfl) (Or.inr (Or.inr rfl)) rfl ?_
      rw [mRefs_len]
      refine kJ_icmp_ge 24 43 d_Y_init_21 rfl rfl (fun hc => ?_) (fun hc => ?_)
      · exact kJ_ret d_Y_init_43 rfl (Nat.le_of_ble_eq_true rfl) (Nat.le_of_ble_eq_true rfl)
      · exact absurd (show nI 7 ≤ nI 7 from by decide) hc
    | succ d ih =>
      intro i hi
      have e5 : b + (2 + 70 * i) = b + 2 + 70 * i := by omega
      refine kJ_iload_n 16 1 d_Y_init_15 rfl rfl rfl ?_
      refine kJ_aload_n 17 0 d_Y_init_16 rfl rfl rfl rfl ?_
      refine kN_getf 20 0 hb d_Y_init_17 l_Y_11 rfl rfl rfl rfl ?_
      refine kJ_alen 21 (vs := mRefs (b + 2) 70 7 i) d_Y_init_20 (by rw [kApp_get hb]; rfl) (Or.inr (Or.inr rfl)) rfl ?_
      rw [mRefs_len]
      refine kJ_icmp_ge 24 43 d_Y_init_21 rfl rfl (fun hc => ?_) (fun hc => ?_)
      · exact absurd hc (show ¬ nI 7 ≤ nI i from by rw [leI (by omega) (by omega)]; omega)
      refine kJ_aload_n 25 0 d_Y_init_24 rfl rfl rfl rfl ?_
      refine kN_getf 28 0 hb d_Y_init_25 l_Y_11 rfl rfl rfl rfl ?_
      refine kJ_iload_n 29 1 d_Y_init_28 rfl rfl rfl ?_
      refine kN_new 32 0 11 (2 + 70 * i) (2 + 70 * i) (18 + 753 * i) (b + 2 + 70 * i) _ hb d_Y_init_29 nw_C2 (cHist_len b i) e5 rfl (by omega) (by omega) (show 2 + 70 * i ≤ 491 from by omega) (show 18 + 753 * i ≤ 5278 from by omega) rfl ?_
      refine kJ_dup 33 d_Y_init_32 rfl rfl ?_
      refine kN_init 36 m_C_init _ (2 + 70 * i) (71 + 70 * i) (760 + 753 * i) (b + 2 + 70 * i) _ hb d_Y_init_33 cl_Y_17 ⟨rfl, rfl, w_72⟩ (Nat.le_of_ble_eq_true rfl) ⟨Nat.le_of_ble_eq_true rfl, Nat.le_of_ble_eq_true rfl⟩ (cHist_len b i) e5 (fun g1 h1 => j_C_init hro h1) rfl (show 2 + 70 * i + 69 = 71 + 70 * i from by omega) (show 18 + 753 * i + 742 = 760 + 753 * i from by omega) (show 71 + 70 * i ≤ 491 from by omega) (show 760 + 753 * i ≤ 5278 from by omega) rfl ?_
      refine kN_aast 37 1 (2 + 70 * i) (cHist b (i + 1)) (ci := 0) (vs := mRefs (b + 2) 70 7 i) (ws := [.int 0, .int 0, .int 0, .int 0, .int (-6), .ref (b + 2 + 70 * i + 1), .ref (b + 2 + 70 * i + 2), .ref (b + 2 + 70 * i + 3), .ref (b + 2 + 70 * i + 4), .ref (b + 2 + 70 * i + 5), .ref (b + 2 + 70 * i + 6)]) hb d_Y_init_36 14 rfl e5 rfl ?_ (Or.inr ⟨rfl, rfl⟩) (by rw [mRefs_len]; exact vp_in_nI (by omega) (by decide)) ?_ rfl ?_
      · rw [List.getElem?_append_right (by rw [cHist_len]; exact Nat.le_refl _), cHist_len, Nat.sub_self]
        exact cCom_0 _ _
      · rw [show (nI i).toNatClampNeg = i from kx_nI (by omega)]
        exact cHist_s (by omega)
      refine kJ_iinc 40 1 [(1, .int (nI i + 1)), (0, .ref b)] d_Y_init_37 rfl ki_1 (Nat.le_of_ble_eq_true rfl) rfl rfl ?_
      refine kJ_goto 15 d_Y_init_40 rfl ?_
      refine kJ_sub [1, 0] rfl ?_
      rw [nI_1]
      have k := ih (i + 1) (by omega)
      rw [show 1 + 70 * (i + 1) = 71 + 70 * i by omega, show 7 + 753 * (i + 1) = 760 + 753 * i by omega] at k
      exact k
  refine JM.of pn_Y (Nat.le_of_ble_eq_true rfl) ?_
  refine kJ_aload_n 1 0 d_Y_init_0 rfl rfl rfl rfl ?_
  refine kJ_objInit 4 d_Y_init_1 ⟨w_235, w_67, w_68⟩ rfl ⟨by decide, by decide⟩ rfl ?_
  refine kJ_aload_n 5 0 d_Y_init_4 rfl rfl rfl rfl ?_
  refine kJ_bipush 7 7 d_Y_init_5 kb_7 rfl ?_
  refine kN_newq 10 14 7 1 1 7 (b + 1) 0 [(2, [.null, .int 0, .int 0]), (14, List.replicate 7 .null)] hb d_Y_init_7 (Or.inr ⟨rfl, rfl⟩) w_236 rfl rfl rfl rfl (by decide) rfl (Nat.le_of_ble_eq_true rfl) rfl rfl (Nat.le_of_ble_eq_true rfl) (Nat.le_of_ble_eq_true rfl) rfl ?_
  refine kN_putF 13 0 (cHist b 0) hb d_Y_init_10 l_Y_11 (by decide) (fun C T N h => by cases h; rfl) rfl rfl rfl (kFit_arr _ _) (Nat.le_of_ble_eq_true rfl) ?_ rfl ?_
  · unfold cHist
    rw [mRefs_0]
    rfl
  refine kJ_iconst 14 0 d_Y_init_13 ki_0 rfl ?_
  refine kJ_istore_n 15 [(1, .int 0), (0, .ref b)] d_Y_init_14 rfl (Nat.le_of_ble_eq_true rfl) rfl rfl ?_
  refine kJ_sub [1, 0] rfl ?_
  exact loop 7 0 rfl
/-- the class's cells ahead of its slots -/
def cPre (fs : List Value) (b : Nat) : List kC := (6, fs) :: (cCom (b + 1) 12 ++ (cCom (b + 71) 12 ++ (cells_H (b + 141) ++ (cHist (b + 145) 7 ++ cells_D (b + 637)))))
theorem cPre_len (fs : List Value) (b : Nat) : (cPre fs b).length = 642 := by
  unfold cPre
  rw [List.length_cons, List.length_append, List.length_append, List.length_append, List.length_append, cCom_len, cCom_len, cHist_len, show (cells_H (b + 141)).length = 4 from rfl, show (cells_D (b + 637)).length = 5 from rfl]
abbrev kPf (b : Nat) : List Value := [.ref (b + 1), .ref (b + 71), .ref (b + 141), .ref (b + 145), .ref (b + 637), .ref (b + 642), .ref (b + 643), .ref (b + 644), .ref (b + 645)]
def cP (b n : Nat) : List kC := cPre (kPf b) b ++ ((14, mRefs (b + 646) 70 2 n) :: (12, List.replicate 2 (.int 0)) :: (10, List.replicate 12 (.int 0)) :: (10, List.replicate 109 (.int 0)) :: cComs (b + 646) n)
theorem cP_len (b n : Nat) : (cP b n).length = 646 + 70 * n := by
  unfold cP
  rw [List.length_append, cPre_len, List.length_cons, List.length_cons, List.length_cons, List.length_cons, cComs_len]
  omega
theorem cP_get (b n : Nat) (X : List kC) : (cP b n ++ X)[642]? = some (14, mRefs (b + 646) 70 2 n) := by
  unfold cP
  rw [List.append_assoc, List.getElem?_append_right (by rw [cPre_len]; exact Nat.le_refl _), cPre_len, Nat.sub_self]
  rfl
theorem cP_s {b i : Nat} (h : i < 2) : (cP b i ++ cCom (b + 646 + 70 * i) 12).set 642 (14, (mRefs (b + 646) 70 2 i).set i (.ref (b + 646 + 70 * i))) = cP b (i + 1) := by
  rw [mRefs_set h]
  unfold cP
  rw [List.append_assoc, List.set_append_right _ _ (by rw [cPre_len]; exact Nat.le_refl _), cPre_len, Nat.sub_self, cComs]
  simp only [List.cons_append, List.set_cons_zero]
theorem j_P_init {E : kE} {Ls : Nat} {xs : Nat → Int32} (hro : kRo E Ls xs) {g0 : List kC} {b : Nat} (hb : g0.length = b) : JM E m_P_init [.ref b] (g0 ++ [(6, List.replicate 9 .null)]) none (g0 ++ cP b 2) := by
  have loop : ∀ (d i : Nat), i + d = 2 → kJ E m_P_init none (g0 ++ cP b 2) (645 + 70 * i) (7272 + 753 * i) 92 [(0, .ref b), (1, .int (nI i))] [] (g0 ++ cP b i) := by
    intro d
    induction d with
    | zero =>
      intro i hi
      obtain rfl : i = 2 := hi
      refine kJ_iload_n 93 1 d_P_init_92 rfl rfl rfl ?_
      refine kJ_iconst 94 2 d_P_init_93 ki_2 rfl ?_
      refine kJ_icmp_ge 97 116 d_P_init_94 rfl rfl (fun hc => ?_) (fun hc => ?_)
      · exact kJ_ret d_P_init_116 rfl (Nat.le_of_ble_eq_true rfl) (Nat.le_of_ble_eq_true rfl)
      · exact absurd (show (2 : Int32) ≤ nI 2 from by decide) hc
    | succ d ih =>
      intro i hi
      have e5 : b + (646 + 70 * i) = b + 646 + 70 * i := by omega
      have e0 : (cP b i)[0]? = some (6, kPf b) := rfl
      refine kJ_iload_n 93 1 d_P_init_92 rfl rfl rfl ?_
      refine kJ_iconst 94 2 d_P_init_93 ki_2 rfl ?_
      refine kJ_icmp_ge 97 116 d_P_init_94 rfl rfl (fun hc => ?_) (fun hc => ?_)
      · exact absurd hc (show ¬ (2 : Int32) ≤ nI i from by rw [show (2 : Int32) = nI 2 from rfl, leI (by omega) (by omega)]; omega)
      refine kJ_aload_n 98 0 d_P_init_97 rfl rfl rfl rfl ?_
      refine kN_getf 101 0 hb d_P_init_98 l_P_40 rfl e0 rfl rfl ?_
      refine kJ_iload_n 102 1 d_P_init_101 rfl rfl rfl ?_
      refine kN_new 105 0 11 (646 + 70 * i) (646 + 70 * i) (7283 + 753 * i) (b + 646 + 70 * i) _ hb d_P_init_102 nw_C (cP_len b i) e5 rfl (by omega) (by omega) (show 646 + 70 * i ≤ 785 from by omega) (show 7283 + 753 * i ≤ 8778 from by omega) rfl ?_
      refine kJ_dup 106 d_P_init_105 rfl rfl ?_
      refine kN_init 109 m_C_init _ (646 + 70 * i) (715 + 70 * i) (8025 + 753 * i) (b + 646 + 70 * i) _ hb d_P_init_106 cl_P_9 ⟨rfl, rfl, w_72⟩ (Nat.le_of_ble_eq_true rfl) ⟨Nat.le_of_ble_eq_true rfl, Nat.le_of_ble_eq_true rfl⟩ (cP_len b i) e5 (fun g1 h1 => j_C_init hro h1) rfl (show 646 + 70 * i + 69 = 715 + 70 * i from by omega) (show 7283 + 753 * i + 742 = 8025 + 753 * i from by omega) (show 715 + 70 * i ≤ 785 from by omega) (show 8025 + 753 * i ≤ 8778 from by omega) rfl ?_
      refine kN_aast 110 642 (646 + 70 * i) (cP b (i + 1)) (ci := 0) (vs := mRefs (b + 646) 70 2 i) (ws := [.int 0, .int 0, .int 0, .int 0, .int (-6), .ref (b + 646 + 70 * i + 1), .ref (b + 646 + 70 * i + 2), .ref (b + 646 + 70 * i + 3), .ref (b + 646 + 70 * i + 4), .ref (b + 646 + 70 * i + 5), .ref (b + 646 + 70 * i + 6)]) hb d_P_init_109 14 rfl e5 (cP_get b i _) ?_ (Or.inr ⟨rfl, rfl⟩) (by rw [mRefs_len]; exact vp_in_nI (by omega) (by decide)) ?_ rfl ?_
      · rw [List.getElem?_append_right (by rw [cP_len]; exact Nat.le_refl _), cP_len, Nat.sub_self]
        exact cCom_0 _ _
      · rw [show (nI i).toNatClampNeg = i from kx_nI (by omega)]
        exact cP_s (by omega)
      refine kJ_iinc 113 1 [(1, .int (nI i + 1)), (0, .ref b)] d_P_init_110 rfl ki_1 (Nat.le_of_ble_eq_true rfl) rfl rfl ?_
      refine kJ_goto 92 d_P_init_113 rfl ?_
      refine kJ_sub [1, 0] rfl ?_
      rw [nI_1]
      have k := ih (i + 1) (by omega)
      rw [show 645 + 70 * (i + 1) = 715 + 70 * i by omega, show 7272 + 753 * (i + 1) = 8025 + 753 * i by omega] at k
      exact k
  have pf : ∀ {vs : List Value} {X : List kC}, ((6, vs) :: X)[0]? = some (6, vs) := rfl
  have n70 : ∀ {vs : List Value}, ((6, vs) :: cCom (b + 1) 12).length = 71 := by
    intro vs
    rw [List.length_cons, cCom_len]
  have n141 : ∀ {vs : List Value}, ((6, vs) :: (cCom (b + 1) 12 ++ cCom (b + 71) 12)).length = 141 := by
    intro vs
    rw [List.length_cons, List.length_append, cCom_len, cCom_len]
  have n145 : ∀ {vs : List Value}, ((6, vs) :: (cCom (b + 1) 12 ++ (cCom (b + 71) 12 ++ cells_H (b + 141)))).length = 145 := by
    intro vs
    rw [List.length_cons, List.length_append, List.length_append, cCom_len, cCom_len, show (cells_H (b + 141)).length = 4 from rfl]
  have n637 : ∀ {vs : List Value}, ((6, vs) :: (cCom (b + 1) 12 ++ (cCom (b + 71) 12 ++ (cells_H (b + 141) ++ cHist (b + 145) 7)))).length = 637 := by
    intro vs
    rw [List.length_cons, List.length_append, List.length_append, List.length_append, cCom_len, cCom_len, show (cells_H (b + 141)).length = 4 from rfl, cHist_len]
  refine JM.of pn_P (Nat.le_of_ble_eq_true rfl) ?_
  refine kJ_aload_n 1 0 d_P_init_0 rfl rfl rfl rfl ?_
  refine kJ_objInit 4 d_P_init_1 ⟨w_66, w_67, w_68⟩ rfl ⟨by decide, by decide⟩ rfl ?_
  -- now
  refine kJ_aload_n 5 0 d_P_init_4 rfl rfl rfl rfl ?_
  refine kN_new 8 0 11 1 1 11 (b + 1) _ hb d_P_init_5 nw_C rfl rfl rfl rfl rfl (Nat.le_of_ble_eq_true rfl) (Nat.le_of_ble_eq_true rfl) rfl ?_
  refine kJ_dup 9 d_P_init_8 rfl rfl ?_
  refine kN_init 12 m_C_init _ 1 70 753 (b + 1) ((6, List.replicate 9 .null) :: cCom (b + 1) 12) hb d_P_init_9 cl_P_9 ⟨rfl, rfl, w_72⟩ (Nat.le_of_ble_eq_true rfl) ⟨Nat.le_of_ble_eq_true rfl, Nat.le_of_ble_eq_true rfl⟩ rfl rfl (fun g1 h1 => j_C_init hro h1) rfl rfl rfl (Nat.le_of_ble_eq_true rfl) (Nat.le_of_ble_eq_true rfl) rfl ?_
  refine kN_putF 15 0 ((6, [.ref (b + 1), .null, .null, .null, .null, .null, .null, .null, .null]) :: cCom (b + 1) 12) hb d_P_init_12 l_P_10 (by decide) (fun C T N h => by cases h; rfl) rfl rfl pf (kFit_obj _ _) (Nat.le_of_ble_eq_true rfl) rfl rfl ?_
  -- trial
  refine kJ_aload_n 16 0 d_P_init_15 rfl rfl rfl rfl ?_
  refine kN_new 19 0 11 71 71 764 (b + 71) _ hb d_P_init_16 nw_C n70 rfl rfl rfl rfl (Nat.le_of_ble_eq_true rfl) (Nat.le_of_ble_eq_true rfl) rfl ?_
  refine kJ_dup 20 d_P_init_19 rfl rfl ?_
  refine kN_init 23 m_C_init _ 71 140 1506 (b + 71) ((6, [.ref (b + 1), .null, .null, .null, .null, .null, .null, .null, .null]) :: (cCom (b + 1) 12 ++ cCom (b + 71) 12)) hb d_P_init_20 cl_P_9 ⟨rfl, rfl, w_72⟩ (Nat.le_of_ble_eq_true rfl) ⟨Nat.le_of_ble_eq_true rfl, Nat.le_of_ble_eq_true rfl⟩ n70 rfl (fun g1 h1 => j_C_init hro h1) (by simp only [List.cons_append, List.append_assoc]) rfl rfl (Nat.le_of_ble_eq_true rfl) (Nat.le_of_ble_eq_true rfl) rfl ?_
  refine kN_putF 26 0 ((6, [.ref (b + 1), .ref (b + 71), .null, .null, .null, .null, .null, .null, .null]) :: (cCom (b + 1) 12 ++ cCom (b + 71) 12)) hb d_P_init_23 l_P_16 (by decide) (fun C T N h => by cases h; rfl) rfl rfl pf (kFit_obj _ _) (Nat.le_of_ble_eq_true rfl) rfl rfl ?_
  -- hearing
  refine kJ_aload_n 27 0 d_P_init_26 rfl rfl rfl rfl ?_
  refine kN_new 30 1 3 141 141 1509 (b + 141) _ hb d_P_init_27 nw_H n141 rfl rfl rfl rfl (Nat.le_of_ble_eq_true rfl) (Nat.le_of_ble_eq_true rfl) rfl ?_
  refine kJ_dup 31 d_P_init_30 rfl rfl ?_
  refine kN_init 34 m_H_init _ 141 144 1539 (b + 141) ((6, [.ref (b + 1), .ref (b + 71), .null, .null, .null, .null, .null, .null, .null]) :: (cCom (b + 1) 12 ++ (cCom (b + 71) 12 ++ cells_H (b + 141)))) hb d_P_init_31 cl_P_21 ⟨rfl, rfl, w_214⟩ (Nat.le_of_ble_eq_true rfl) ⟨Nat.le_of_ble_eq_true rfl, Nat.le_of_ble_eq_true rfl⟩ n141 rfl (fun g1 h1 => j_H_init h1) (by simp only [List.cons_append, List.append_assoc]) rfl rfl (Nat.le_of_ble_eq_true rfl) (Nat.le_of_ble_eq_true rfl) rfl ?_
  refine kN_putF 37 0 ((6, [.ref (b + 1), .ref (b + 71), .ref (b + 141), .null, .null, .null, .null, .null, .null]) :: (cCom (b + 1) 12 ++ (cCom (b + 71) 12 ++ cells_H (b + 141)))) hb d_P_init_34 l_P_22 (by decide) (fun C T N h => by cases h; rfl) rfl rfl pf (kFit_obj _ _) (Nat.le_of_ble_eq_true rfl) rfl rfl ?_
  -- history
  refine kJ_aload_n 38 0 d_P_init_37 rfl rfl rfl rfl ?_
  refine kN_new 41 2 3 145 145 1542 (b + 145) _ hb d_P_init_38 nw_Y n145 rfl rfl rfl rfl (Nat.le_of_ble_eq_true rfl) (Nat.le_of_ble_eq_true rfl) rfl ?_
  refine kJ_dup 42 d_P_init_41 rfl rfl ?_
  refine kN_init 45 m_Y_init _ 145 636 6820 (b + 145) ((6, [.ref (b + 1), .ref (b + 71), .ref (b + 141), .null, .null, .null, .null, .null, .null]) :: (cCom (b + 1) 12 ++ (cCom (b + 71) 12 ++ (cells_H (b + 141) ++ cHist (b + 145) 7)))) hb d_P_init_42 cl_P_28 ⟨rfl, rfl, w_233⟩ (Nat.le_of_ble_eq_true rfl) ⟨Nat.le_of_ble_eq_true rfl, Nat.le_of_ble_eq_true rfl⟩ n145 rfl (fun g1 h1 => j_Y_init hro h1) (by simp only [List.cons_append, List.append_assoc]) rfl rfl (Nat.le_of_ble_eq_true rfl) (Nat.le_of_ble_eq_true rfl) rfl ?_
  refine kN_putF 48 0 ((6, [.ref (b + 1), .ref (b + 71), .ref (b + 141), .ref (b + 145), .null, .null, .null, .null, .null]) :: (cCom (b + 1) 12 ++ (cCom (b + 71) 12 ++ (cells_H (b + 141) ++ cHist (b + 145) 7)))) hb d_P_init_45 l_P_29 (by decide) (fun C T N h => by cases h; rfl) rfl rfl pf (kFit_obj _ _) (Nat.le_of_ble_eq_true rfl) rfl rfl ?_
  -- pad
  refine kJ_aload_n 49 0 d_P_init_48 rfl rfl rfl rfl ?_
  refine kN_new 52 5 7 637 637 6827 (b + 637) _ hb d_P_init_49 nw_D n637 rfl rfl rfl rfl (Nat.le_of_ble_eq_true rfl) (Nat.le_of_ble_eq_true rfl) rfl ?_
  refine kJ_dup 53 d_P_init_52 rfl rfl ?_
  refine kN_init 56 m_D_init _ 637 641 7147 (b + 637) (cPre [.ref (b + 1), .ref (b + 71), .ref (b + 141), .ref (b + 145), .null, .null, .null, .null, .null] b) hb d_P_init_53 cl_P_35 ⟨rfl, rfl, w_253⟩ (Nat.le_of_ble_eq_true rfl) ⟨Nat.le_of_ble_eq_true rfl, Nat.le_of_ble_eq_true rfl⟩ n637 rfl (fun g1 h1 => j_D_init h1) (by unfold cPre; simp only [List.cons_append, List.append_assoc]) rfl rfl (Nat.le_of_ble_eq_true rfl) (Nat.le_of_ble_eq_true rfl) rfl ?_
  refine kN_putF 59 0 (cPre [.ref (b + 1), .ref (b + 71), .ref (b + 141), .ref (b + 145), .ref (b + 637), .null, .null, .null, .null] b) hb d_P_init_56 l_P_36 (by decide) (fun C T N h => by cases h; rfl) rfl rfl pf (kFit_obj _ _) (Nat.le_of_ble_eq_true rfl) rfl rfl ?_
  -- slots, saved, gains, sets of a weight
  refine kJ_aload_n 60 0 d_P_init_59 rfl rfl rfl rfl ?_
  refine kJ_iconst 61 2 d_P_init_60 ki_2 rfl ?_
  refine kN_newq 64 14 2 642 642 7149 (b + 642) 0 (cPre [.ref (b + 1), .ref (b + 71), .ref (b + 141), .ref (b + 145), .ref (b + 637), .null, .null, .null, .null] b ++ [(14, List.replicate 2 .null)]) hb d_P_init_61 (Or.inr ⟨rfl, rfl⟩) w_69 rfl (cPre_len _ _) rfl rfl (by decide) rfl (Nat.le_of_ble_eq_true rfl) rfl rfl (Nat.le_of_ble_eq_true rfl) (Nat.le_of_ble_eq_true rfl) rfl ?_
  refine kN_putF 67 0 (cPre [.ref (b + 1), .ref (b + 71), .ref (b + 141), .ref (b + 145), .ref (b + 637), .ref (b + 642), .null, .null, .null] b ++ [(14, List.replicate 2 .null)]) hb d_P_init_64 l_P_40 (by decide) (fun C T N h => by cases h; rfl) rfl rfl pf (kFit_arr _ _) (Nat.le_of_ble_eq_true rfl) rfl rfl ?_
  refine kJ_aload_n 68 0 d_P_init_67 rfl rfl rfl rfl ?_
  refine kJ_iconst 69 2 d_P_init_68 ki_2 rfl ?_
  refine kN_newa 71 12 2 643 643 7151 (b + 643) (cPre [.ref (b + 1), .ref (b + 71), .ref (b + 141), .ref (b + 145), .ref (b + 637), .ref (b + 642), .null, .null, .null] b ++ [(14, List.replicate 2 .null), (12, List.replicate 2 (.int 0))]) hb d_P_init_69 (Or.inr (Or.inr ⟨rfl, rfl⟩)) w_305 (by rw [List.length_append, cPre_len]; rfl) rfl (by rw [List.append_assoc]; rfl) (by decide) rfl (Nat.le_of_ble_eq_true rfl) rfl rfl (Nat.le_of_ble_eq_true rfl) (Nat.le_of_ble_eq_true rfl) rfl ?_
  refine kN_putF 74 0 (cPre [.ref (b + 1), .ref (b + 71), .ref (b + 141), .ref (b + 145), .ref (b + 637), .ref (b + 642), .ref (b + 643), .null, .null] b ++ [(14, List.replicate 2 .null), (12, List.replicate 2 (.int 0))]) hb d_P_init_71 l_P_44 (by decide) (fun C T N h => by cases h; rfl) rfl rfl pf (kFit_arr _ _) (Nat.le_of_ble_eq_true rfl) rfl rfl ?_
  refine kJ_aload_n 75 0 d_P_init_74 rfl rfl rfl rfl ?_
  refine kJ_bipush 77 12 d_P_init_75 kb_12 rfl ?_
  refine kN_newa 79 10 12 644 644 7163 (b + 644) (cPre [.ref (b + 1), .ref (b + 71), .ref (b + 141), .ref (b + 145), .ref (b + 637), .ref (b + 642), .ref (b + 643), .null, .null] b ++ [(14, List.replicate 2 .null), (12, List.replicate 2 (.int 0)), (10, List.replicate 12 (.int 0))]) hb d_P_init_77 (Or.inl ⟨rfl, rfl⟩) w_101 (by rw [List.length_append, cPre_len]; rfl) rfl (by rw [List.append_assoc]; rfl) (by decide) rfl (Nat.le_of_ble_eq_true rfl) rfl rfl (Nat.le_of_ble_eq_true rfl) (Nat.le_of_ble_eq_true rfl) rfl ?_
  refine kN_putF 82 0 (cPre [.ref (b + 1), .ref (b + 71), .ref (b + 141), .ref (b + 145), .ref (b + 637), .ref (b + 642), .ref (b + 643), .ref (b + 644), .null] b ++ [(14, List.replicate 2 .null), (12, List.replicate 2 (.int 0)), (10, List.replicate 12 (.int 0))]) hb d_P_init_79 l_P_48 (by decide) (fun C T N h => by cases h; rfl) rfl rfl pf (kFit_arr _ _) (Nat.le_of_ble_eq_true rfl) rfl rfl ?_
  refine kJ_aload_n 83 0 d_P_init_82 rfl rfl rfl rfl ?_
  refine kJ_bipush 85 109 d_P_init_83 kb_109 rfl ?_
  refine kN_newa 87 10 109 645 645 7272 (b + 645) (cPre [.ref (b + 1), .ref (b + 71), .ref (b + 141), .ref (b + 145), .ref (b + 637), .ref (b + 642), .ref (b + 643), .ref (b + 644), .null] b ++ [(14, List.replicate 2 .null), (12, List.replicate 2 (.int 0)), (10, List.replicate 12 (.int 0)), (10, List.replicate 109 (.int 0))]) hb d_P_init_85 (Or.inl ⟨rfl, rfl⟩) w_101 (by rw [List.length_append, cPre_len]; rfl) rfl (by rw [List.append_assoc]; rfl) (by decide) rfl (Nat.le_of_ble_eq_true rfl) rfl rfl (Nat.le_of_ble_eq_true rfl) (Nat.le_of_ble_eq_true rfl) rfl ?_
  refine kN_putF 90 0 (cP b 0) hb d_P_init_87 l_P_52 (by decide) (fun C T N h => by cases h; rfl) rfl rfl pf (kFit_arr _ _) (Nat.le_of_ble_eq_true rfl) ?_ rfl ?_
  · unfold cP
    rw [mRefs_0]
    rfl
  refine kJ_iconst 91 0 d_P_init_90 ki_0 rfl ?_
  refine kJ_istore_n 92 [(1, .int 0), (0, .ref b)] d_P_init_91 rfl (Nat.le_of_ble_eq_true rfl) rfl rfl ?_
  refine kJ_sub [1, 0] rfl ?_
  exact loop 2 0 rfl
