/-! THE LAW from its entry. -/
theorem j_L_law {E : kE} {L : Nat} {xs : Nat → Int32} (hro : kRo E L xs) (hL : L ≤ 2048) : ∃ h', kJ E m_L_law (some 1) (mk h') 0 0 0 [(0, .retAddr 2)] [] [] := by
  obtain ⟨h2, e⟩ := law_all (xs := xs) hL kFuel 0 h0 (by have : kFuel = 20000 := rfl; omega) (by omega) G_0
  refine ⟨h2, ?_⟩
  show kJ E m_L_law (some 1) (mk h2) 0 0 0 [(0, .retAddr 2)] [] (([] : List kC) ++ [])
  refine kN_new (b := 0) 3 6 9 0 1 9 0 _ rfl d_L_law_0 nw_P rfl rfl rfl rfl rfl (Nat.le_of_ble_eq_true rfl) (Nat.le_of_ble_eq_true rfl) rfl ?_
  refine kJ_dup 4 d_L_law_3 rfl rfl ?_
  refine kN_init (b := 0) 7 m_P_init [.ref 0] 0 786 8787 0 (cP 0 2) rfl d_L_law_4 cl_L_9 ⟨rfl, rfl, w_116⟩ (Nat.le_of_ble_eq_true rfl) ⟨Nat.le_of_ble_eq_true rfl, Nat.le_of_ble_eq_true rfl⟩ rfl rfl (fun g1 h1 => j_P_init hro h1) rfl rfl rfl (Nat.le_of_ble_eq_true rfl) (Nat.le_of_ble_eq_true rfl) rfl ?_
  refine kJ_astore_n 8 [(1, .ref 0), (0, .retAddr 2)] d_L_law_7 rfl (Nat.le_of_ble_eq_true rfl) rfl rfl rfl ?_
  refine kN_new (b := 0) 11 7 16 786 787 8803 786 _ rfl d_L_law_8 nw_M (cP_len 0 2) rfl rfl rfl rfl (Nat.le_of_ble_eq_true rfl) (Nat.le_of_ble_eq_true rfl) rfl ?_
  refine kJ_dup 12 d_L_law_11 rfl rfl ?_
  have jm := j_M_init (E := E) (g0 := cP 0 2) (b := 786) (cP_len 0 2) rfl made
  refine kJ_calln 15 m_M_init [] [.ref 786] d_L_law_12 cl_L_12 ⟨rfl, rfl, w_812⟩ rfl rfl (Nat.le_of_ble_eq_true rfl) ⟨Nat.le_of_ble_eq_true rfl, Nat.le_of_ble_eq_true rfl⟩ ⟨Nat.le_of_ble_eq_true rfl, Nat.le_of_ble_eq_true rfl⟩ jm rfl ?_
  refine kJ_astore_n 16 [(2, .ref 786), (1, .ref 0), (0, .retAddr 2)] d_L_law_15 rfl (Nat.le_of_ble_eq_true rfl) rfl rfl rfl ?_
  refine kJ_iconst 17 0 d_L_law_16 ki_0 rfl ?_
  refine kJ_istore_n 18 [(3, .int 0), (2, .ref 786), (1, .ref 0), (0, .retAddr 2)] d_L_law_17 rfl (Nat.le_of_ble_eq_true rfl) rfl rfl ?_
  refine kJ_sub [3, 2, 1, 0] rfl ?_
  exact c_L_law_18 hro (Nat.le_of_ble_eq_true rfl) (Nat.le_of_ble_eq_true rfl) kFuel h0 0 e
