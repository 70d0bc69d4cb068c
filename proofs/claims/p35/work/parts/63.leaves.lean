/-! CONSTRUCTORS of the leaves: printed by wip/p35/init.py. -/
abbrev cells_V (b : Nat) : List kC := [(4, [.int 0, .ref (b + 1), .ref (b + 2), .ref (b + 3)]), (10, List.replicate 20 (.int 0)), (10, List.replicate 20 (.int 0)), (10, List.replicate 20 (.int 0))]
theorem j_V_init {E : kE} {g0 : List kC} {b : Nat} (hb : g0.length = b) : JM E m_V_init [.ref b] (g0 ++ [(4, [.int 0, .null, .null, .null])]) none (g0 ++ cells_V b) := by
  refine JM.of pn_V (Nat.le_of_ble_eq_true rfl) ?_
  refine kJ_aload_n 1 0 d_V_init_0 rfl rfl rfl rfl ?_
  refine kJ_objInit 4 d_V_init_1 ⟨w_82, w_67, w_68⟩ rfl ⟨by decide, by decide⟩ rfl ?_
  refine kJ_aload_n 5 0 d_V_init_4 rfl rfl rfl rfl ?_
  refine kJ_bipush 7 20 d_V_init_5 kb_20 rfl ?_
  refine kN_newa 9 10 20 1 1 20 (b + 1) ([(4, [.int 0, .null, .null, .null]), (10, List.replicate 20 (.int 0))]) hb d_V_init_7 (Or.inl ⟨rfl, rfl⟩) w_101 rfl rfl rfl (by decide) rfl (Nat.le_of_ble_eq_true rfl) rfl rfl (Nat.le_of_ble_eq_true rfl) (Nat.le_of_ble_eq_true rfl) rfl ?_
  refine kN_putF 12 0 ([(4, [.int 0, .ref (b + 1), .null, .null]), (10, List.replicate 20 (.int 0))]) hb d_V_init_9 l_V_9 (by decide) (fun C T N h => by cases h; rfl) rfl rfl rfl (kFit_arr _ _) (Nat.le_of_ble_eq_true rfl) rfl rfl ?_
  refine kJ_aload_n 13 0 d_V_init_12 rfl rfl rfl rfl ?_
  refine kJ_bipush 15 20 d_V_init_13 kb_20 rfl ?_
  refine kN_newa 17 10 20 2 2 40 (b + 2) ([(4, [.int 0, .ref (b + 1), .null, .null]), (10, List.replicate 20 (.int 0)), (10, List.replicate 20 (.int 0))]) hb d_V_init_15 (Or.inl ⟨rfl, rfl⟩) w_101 rfl rfl rfl (by decide) rfl (Nat.le_of_ble_eq_true rfl) rfl rfl (Nat.le_of_ble_eq_true rfl) (Nat.le_of_ble_eq_true rfl) rfl ?_
  refine kN_putF 20 0 ([(4, [.int 0, .ref (b + 1), .ref (b + 2), .null]), (10, List.replicate 20 (.int 0)), (10, List.replicate 20 (.int 0))]) hb d_V_init_17 l_V_15 (by decide) (fun C T N h => by cases h; rfl) rfl rfl rfl (kFit_arr _ _) (Nat.le_of_ble_eq_true rfl) rfl rfl ?_
  refine kJ_aload_n 21 0 d_V_init_20 rfl rfl rfl rfl ?_
  refine kJ_bipush 23 20 d_V_init_21 kb_20 rfl ?_
  refine kN_newa 25 10 20 3 3 60 (b + 3) ([(4, [.int 0, .ref (b + 1), .ref (b + 2), .null]), (10, List.replicate 20 (.int 0)), (10, List.replicate 20 (.int 0)), (10, List.replicate 20 (.int 0))]) hb d_V_init_23 (Or.inl ⟨rfl, rfl⟩) w_101 rfl rfl rfl (by decide) rfl (Nat.le_of_ble_eq_true rfl) rfl rfl (Nat.le_of_ble_eq_true rfl) (Nat.le_of_ble_eq_true rfl) rfl ?_
  refine kN_putF 28 0 ([(4, [.int 0, .ref (b + 1), .ref (b + 2), .ref (b + 3)]), (10, List.replicate 20 (.int 0)), (10, List.replicate 20 (.int 0)), (10, List.replicate 20 (.int 0))]) hb d_V_init_25 l_V_18 (by decide) (fun C T N h => by cases h; rfl) rfl rfl rfl (kFit_arr _ _) (Nat.le_of_ble_eq_true rfl) rfl rfl ?_
  exact kJ_ret d_V_init_28 rfl (Nat.le_of_ble_eq_true rfl) (Nat.le_of_ble_eq_true rfl)
abbrev cells_I (b : Nat) : List kC := [(3, [.int 0, .int 0, .int 0, .int 0, .int 0, .int 0, .ref (b + 1), .ref (b + 2), .ref (b + 3), .ref (b + 4)]), (10, List.replicate 6 (.int 0)), (10, List.replicate 12 (.int 0)), (10, List.replicate 12 (.int 0)), (10, List.replicate 12 (.int 0))]
theorem j_I_init {E : kE} {g0 : List kC} {b : Nat} (hb : g0.length = b) : JM E m_I_init [.ref b] (g0 ++ [(3, [.int 0, .int 0, .int 0, .int 0, .int 0, .int 0, .null, .null, .null, .null])]) none (g0 ++ cells_I b) := by
  refine JM.of pn_I (Nat.le_of_ble_eq_true rfl) ?_
  refine kJ_aload_n 1 0 d_I_init_0 rfl rfl rfl rfl ?_
  refine kJ_objInit 4 d_I_init_1 ⟨w_111, w_67, w_68⟩ rfl ⟨by decide, by decide⟩ rfl ?_
  refine kJ_aload_n 5 0 d_I_init_4 rfl rfl rfl rfl ?_
  refine kJ_bipush 7 6 d_I_init_5 kb_6 rfl ?_
  refine kN_newa 9 10 6 1 1 6 (b + 1) ([(3, [.int 0, .int 0, .int 0, .int 0, .int 0, .int 0, .null, .null, .null, .null]), (10, List.replicate 6 (.int 0))]) hb d_I_init_7 (Or.inl ⟨rfl, rfl⟩) w_101 rfl rfl rfl (by decide) rfl (Nat.le_of_ble_eq_true rfl) rfl rfl (Nat.le_of_ble_eq_true rfl) (Nat.le_of_ble_eq_true rfl) rfl ?_
  refine kN_putF 12 0 ([(3, [.int 0, .int 0, .int 0, .int 0, .int 0, .int 0, .ref (b + 1), .null, .null, .null]), (10, List.replicate 6 (.int 0))]) hb d_I_init_9 l_I_9 (by decide) (fun C T N h => by cases h; rfl) rfl rfl rfl (kFit_arr _ _) (Nat.le_of_ble_eq_true rfl) rfl rfl ?_
  refine kJ_aload_n 13 0 d_I_init_12 rfl rfl rfl rfl ?_
  refine kJ_bipush 15 12 d_I_init_13 kb_12 rfl ?_
  refine kN_newa 17 10 12 2 2 18 (b + 2) ([(3, [.int 0, .int 0, .int 0, .int 0, .int 0, .int 0, .ref (b + 1), .null, .null, .null]), (10, List.replicate 6 (.int 0)), (10, List.replicate 12 (.int 0))]) hb d_I_init_15 (Or.inl ⟨rfl, rfl⟩) w_101 rfl rfl rfl (by decide) rfl (Nat.le_of_ble_eq_true rfl) rfl rfl (Nat.le_of_ble_eq_true rfl) (Nat.le_of_ble_eq_true rfl) rfl ?_
  refine kN_putF 20 0 ([(3, [.int 0, .int 0, .int 0, .int 0, .int 0, .int 0, .ref (b + 1), .ref (b + 2), .null, .null]), (10, List.replicate 6 (.int 0)), (10, List.replicate 12 (.int 0))]) hb d_I_init_17 l_I_15 (by decide) (fun C T N h => by cases h; rfl) rfl rfl rfl (kFit_arr _ _) (Nat.le_of_ble_eq_true rfl) rfl rfl ?_
  refine kJ_aload_n 21 0 d_I_init_20 rfl rfl rfl rfl ?_
  refine kJ_bipush 23 12 d_I_init_21 kb_12 rfl ?_
  refine kN_newa 25 10 12 3 3 30 (b + 3) ([(3, [.int 0, .int 0, .int 0, .int 0, .int 0, .int 0, .ref (b + 1), .ref (b + 2), .null, .null]), (10, List.replicate 6 (.int 0)), (10, List.replicate 12 (.int 0)), (10, List.replicate 12 (.int 0))]) hb d_I_init_23 (Or.inl ⟨rfl, rfl⟩) w_101 rfl rfl rfl (by decide) rfl (Nat.le_of_ble_eq_true rfl) rfl rfl (Nat.le_of_ble_eq_true rfl) (Nat.le_of_ble_eq_true rfl) rfl ?_
  refine kN_putF 28 0 ([(3, [.int 0, .int 0, .int 0, .int 0, .int 0, .int 0, .ref (b + 1), .ref (b + 2), .ref (b + 3), .null]), (10, List.replicate 6 (.int 0)), (10, List.replicate 12 (.int 0)), (10, List.replicate 12 (.int 0))]) hb d_I_init_25 l_I_18 (by decide) (fun C T N h => by cases h; rfl) rfl rfl rfl (kFit_arr _ _) (Nat.le_of_ble_eq_true rfl) rfl rfl ?_
  refine kJ_aload_n 29 0 d_I_init_28 rfl rfl rfl rfl ?_
  refine kJ_bipush 31 12 d_I_init_29 kb_12 rfl ?_
  refine kN_newa 33 10 12 4 4 42 (b + 4) ([(3, [.int 0, .int 0, .int 0, .int 0, .int 0, .int 0, .ref (b + 1), .ref (b + 2), .ref (b + 3), .null]), (10, List.replicate 6 (.int 0)), (10, List.replicate 12 (.int 0)), (10, List.replicate 12 (.int 0)), (10, List.replicate 12 (.int 0))]) hb d_I_init_31 (Or.inl ⟨rfl, rfl⟩) w_101 rfl rfl rfl (by decide) rfl (Nat.le_of_ble_eq_true rfl) rfl rfl (Nat.le_of_ble_eq_true rfl) (Nat.le_of_ble_eq_true rfl) rfl ?_
  refine kN_putF 36 0 ([(3, [.int 0, .int 0, .int 0, .int 0, .int 0, .int 0, .ref (b + 1), .ref (b + 2), .ref (b + 3), .ref (b + 4)]), (10, List.replicate 6 (.int 0)), (10, List.replicate 12 (.int 0)), (10, List.replicate 12 (.int 0)), (10, List.replicate 12 (.int 0))]) hb d_I_init_33 l_I_21 (by decide) (fun C T N h => by cases h; rfl) rfl rfl rfl (kFit_arr _ _) (Nat.le_of_ble_eq_true rfl) rfl rfl ?_
  exact kJ_ret d_I_init_36 rfl (Nat.le_of_ble_eq_true rfl) (Nat.le_of_ble_eq_true rfl)
abbrev cells_H (b : Nat) : List kC := [(1, [.ref (b + 1), .ref (b + 2), .ref (b + 3)]), (10, List.replicate 12 (.int 0)), (10, List.replicate 12 (.int 0)), (10, List.replicate 6 (.int 0))]
theorem j_H_init {E : kE} {g0 : List kC} {b : Nat} (hb : g0.length = b) : JM E m_H_init [.ref b] (g0 ++ [(1, [.null, .null, .null])]) none (g0 ++ cells_H b) := by
  refine JM.of pn_H (Nat.le_of_ble_eq_true rfl) ?_
  refine kJ_aload_n 1 0 d_H_init_0 rfl rfl rfl rfl ?_
  refine kJ_objInit 4 d_H_init_1 ⟨w_216, w_67, w_68⟩ rfl ⟨by decide, by decide⟩ rfl ?_
  refine kJ_aload_n 5 0 d_H_init_4 rfl rfl rfl rfl ?_
  refine kJ_bipush 7 12 d_H_init_5 kb_12 rfl ?_
  refine kN_newa 9 10 12 1 1 12 (b + 1) ([(1, [.null, .null, .null]), (10, List.replicate 12 (.int 0))]) hb d_H_init_7 (Or.inl ⟨rfl, rfl⟩) w_101 rfl rfl rfl (by decide) rfl (Nat.le_of_ble_eq_true rfl) rfl rfl (Nat.le_of_ble_eq_true rfl) (Nat.le_of_ble_eq_true rfl) rfl ?_
  refine kN_putF 12 0 ([(1, [.ref (b + 1), .null, .null]), (10, List.replicate 12 (.int 0))]) hb d_H_init_9 l_H_9 (by decide) (fun C T N h => by cases h; rfl) rfl rfl rfl (kFit_arr _ _) (Nat.le_of_ble_eq_true rfl) rfl rfl ?_
  refine kJ_aload_n 13 0 d_H_init_12 rfl rfl rfl rfl ?_
  refine kJ_bipush 15 12 d_H_init_13 kb_12 rfl ?_
  refine kN_newa 17 10 12 2 2 24 (b + 2) ([(1, [.ref (b + 1), .null, .null]), (10, List.replicate 12 (.int 0)), (10, List.replicate 12 (.int 0))]) hb d_H_init_15 (Or.inl ⟨rfl, rfl⟩) w_101 rfl rfl rfl (by decide) rfl (Nat.le_of_ble_eq_true rfl) rfl rfl (Nat.le_of_ble_eq_true rfl) (Nat.le_of_ble_eq_true rfl) rfl ?_
  refine kN_putF 20 0 ([(1, [.ref (b + 1), .ref (b + 2), .null]), (10, List.replicate 12 (.int 0)), (10, List.replicate 12 (.int 0))]) hb d_H_init_17 l_H_15 (by decide) (fun C T N h => by cases h; rfl) rfl rfl rfl (kFit_arr _ _) (Nat.le_of_ble_eq_true rfl) rfl rfl ?_
  refine kJ_aload_n 21 0 d_H_init_20 rfl rfl rfl rfl ?_
  refine kJ_bipush 23 6 d_H_init_21 kb_6 rfl ?_
  refine kN_newa 25 10 6 3 3 30 (b + 3) ([(1, [.ref (b + 1), .ref (b + 2), .null]), (10, List.replicate 12 (.int 0)), (10, List.replicate 12 (.int 0)), (10, List.replicate 6 (.int 0))]) hb d_H_init_23 (Or.inl ⟨rfl, rfl⟩) w_101 rfl rfl rfl (by decide) rfl (Nat.le_of_ble_eq_true rfl) rfl rfl (Nat.le_of_ble_eq_true rfl) (Nat.le_of_ble_eq_true rfl) rfl ?_
  refine kN_putF 28 0 ([(1, [.ref (b + 1), .ref (b + 2), .ref (b + 3)]), (10, List.replicate 12 (.int 0)), (10, List.replicate 12 (.int 0)), (10, List.replicate 6 (.int 0))]) hb d_H_init_25 l_H_18 (by decide) (fun C T N h => by cases h; rfl) rfl rfl rfl (kFit_arr _ _) (Nat.le_of_ble_eq_true rfl) rfl rfl ?_
  exact kJ_ret d_H_init_28 rfl (Nat.le_of_ble_eq_true rfl) (Nat.le_of_ble_eq_true rfl)
abbrev cells_D (b : Nat) : List kC := [(5, [.ref (b + 1), .int 0, .int 0, .int 0, .ref (b + 2), .ref (b + 3), .ref (b + 4)]), (11, List.replicate 80 (.int 0)), (11, List.replicate 80 (.int 0)), (10, List.replicate 80 (.int 0)), (10, List.replicate 80 (.int 0))]
theorem j_D_init {E : kE} {g0 : List kC} {b : Nat} (hb : g0.length = b) : JM E m_D_init [.ref b] (g0 ++ [(5, [.null, .int 0, .int 0, .int 0, .null, .null, .null])]) none (g0 ++ cells_D b) := by
  refine JM.of pn_D (Nat.le_of_ble_eq_true rfl) ?_
  refine kJ_aload_n 1 0 d_D_init_0 rfl rfl rfl rfl ?_
  refine kJ_objInit 4 d_D_init_1 ⟨w_255, w_67, w_68⟩ rfl ⟨by decide, by decide⟩ rfl ?_
  refine kJ_aload_n 5 0 d_D_init_4 rfl rfl rfl rfl ?_
  refine kJ_bipush 7 80 d_D_init_5 kb_80 rfl ?_
  refine kN_newa 9 11 80 1 1 80 (b + 1) ([(5, [.null, .int 0, .int 0, .int 0, .null, .null, .null]), (11, List.replicate 80 (.int 0))]) hb d_D_init_7 (Or.inr (Or.inl ⟨rfl, rfl⟩)) w_276 rfl rfl rfl (by decide) rfl (Nat.le_of_ble_eq_true rfl) rfl rfl (Nat.le_of_ble_eq_true rfl) (Nat.le_of_ble_eq_true rfl) rfl ?_
  refine kN_putF 12 0 ([(5, [.ref (b + 1), .int 0, .int 0, .int 0, .null, .null, .null]), (11, List.replicate 80 (.int 0))]) hb d_D_init_9 l_D_9 (by decide) (fun C T N h => by cases h; rfl) rfl rfl rfl (kFit_arr _ _) (Nat.le_of_ble_eq_true rfl) rfl rfl ?_
  refine kJ_aload_n 13 0 d_D_init_12 rfl rfl rfl rfl ?_
  refine kJ_bipush 15 80 d_D_init_13 kb_80 rfl ?_
  refine kN_newa 17 11 80 2 2 160 (b + 2) ([(5, [.ref (b + 1), .int 0, .int 0, .int 0, .null, .null, .null]), (11, List.replicate 80 (.int 0)), (11, List.replicate 80 (.int 0))]) hb d_D_init_15 (Or.inr (Or.inl ⟨rfl, rfl⟩)) w_276 rfl rfl rfl (by decide) rfl (Nat.le_of_ble_eq_true rfl) rfl rfl (Nat.le_of_ble_eq_true rfl) (Nat.le_of_ble_eq_true rfl) rfl ?_
  refine kN_putF 20 0 ([(5, [.ref (b + 1), .int 0, .int 0, .int 0, .ref (b + 2), .null, .null]), (11, List.replicate 80 (.int 0)), (11, List.replicate 80 (.int 0))]) hb d_D_init_17 l_D_15 (by decide) (fun C T N h => by cases h; rfl) rfl rfl rfl (kFit_arr _ _) (Nat.le_of_ble_eq_true rfl) rfl rfl ?_
  refine kJ_aload_n 21 0 d_D_init_20 rfl rfl rfl rfl ?_
  refine kJ_bipush 23 80 d_D_init_21 kb_80 rfl ?_
  refine kN_newa 25 10 80 3 3 240 (b + 3) ([(5, [.ref (b + 1), .int 0, .int 0, .int 0, .ref (b + 2), .null, .null]), (11, List.replicate 80 (.int 0)), (11, List.replicate 80 (.int 0)), (10, List.replicate 80 (.int 0))]) hb d_D_init_23 (Or.inl ⟨rfl, rfl⟩) w_101 rfl rfl rfl (by decide) rfl (Nat.le_of_ble_eq_true rfl) rfl rfl (Nat.le_of_ble_eq_true rfl) (Nat.le_of_ble_eq_true rfl) rfl ?_
  refine kN_putF 28 0 ([(5, [.ref (b + 1), .int 0, .int 0, .int 0, .ref (b + 2), .ref (b + 3), .null]), (11, List.replicate 80 (.int 0)), (11, List.replicate 80 (.int 0)), (10, List.replicate 80 (.int 0))]) hb d_D_init_25 l_D_18 (by decide) (fun C T N h => by cases h; rfl) rfl rfl rfl (kFit_arr _ _) (Nat.le_of_ble_eq_true rfl) rfl rfl ?_
  refine kJ_aload_n 29 0 d_D_init_28 rfl rfl rfl rfl ?_
  refine kJ_bipush 31 80 d_D_init_29 kb_80 rfl ?_
  refine kN_newa 33 10 80 4 4 320 (b + 4) ([(5, [.ref (b + 1), .int 0, .int 0, .int 0, .ref (b + 2), .ref (b + 3), .null]), (11, List.replicate 80 (.int 0)), (11, List.replicate 80 (.int 0)), (10, List.replicate 80 (.int 0)), (10, List.replicate 80 (.int 0))]) hb d_D_init_31 (Or.inl ⟨rfl, rfl⟩) w_101 rfl rfl rfl (by decide) rfl (Nat.le_of_ble_eq_true rfl) rfl rfl (Nat.le_of_ble_eq_true rfl) (Nat.le_of_ble_eq_true rfl) rfl ?_
  refine kN_putF 36 0 ([(5, [.ref (b + 1), .int 0, .int 0, .int 0, .ref (b + 2), .ref (b + 3), .ref (b + 4)]), (11, List.replicate 80 (.int 0)), (11, List.replicate 80 (.int 0)), (10, List.replicate 80 (.int 0)), (10, List.replicate 80 (.int 0))]) hb d_D_init_33 l_D_22 (by decide) (fun C T N h => by cases h; rfl) rfl rfl rfl (kFit_arr _ _) (Nat.le_of_ble_eq_true rfl) rfl rfl ?_
  exact kJ_ret d_D_init_36 rfl (Nat.le_of_ble_eq_true rfl) (Nat.le_of_ble_eq_true rfl)
