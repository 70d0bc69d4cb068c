/-! THE LAW from its entry. -/
theorem j_L_law {E : kE} {L : Nat} {xs : Nat → Int32} (hro : kRo E L xs) (hL : L ≤ 260) : ∃ K' h', kJ E m_L_law (some 1) (mk K' h') 0 0 0 [(0, .retAddr 2)] [] [] := by
  obtain ⟨K2, h2, e⟩ := law_true (xs := xs) (K := []) hL Z0_0
  refine ⟨K2, h2, ?_⟩
  show kJ E m_L_law (some 1) (mk K2 h2) 0 0 0 [(0, .retAddr 2)] [] (([] : List kC) ++ [])
  refine kN_new (b := 0) 3 6 9 0 1 9 0 _ rfl d_L_law_0 nw_P rfl rfl rfl rfl rfl (Nat.le_of_ble_eq_true rfl) (Nat.le_of_ble_eq_true rfl) rfl ?_
  refine kJ_dup 4 d_L_law_3 rfl rfl ?_
  refine kN_init (b := 0) 7 m_P_init [.ref 0] 0 786 8787 0 (cP 0 2) rfl d_L_law_4 cl_L_133 ⟨rfl, rfl, w_64⟩ (Nat.le_of_ble_eq_true rfl) ⟨Nat.le_of_ble_eq_true rfl, Nat.le_of_ble_eq_true rfl⟩ rfl rfl (fun g1 h1 => j_P_init hro h1) rfl rfl rfl (Nat.le_of_ble_eq_true rfl) (Nat.le_of_ble_eq_true rfl) rfl ?_
  refine kJ_astore_n 8 [(1, .ref 0), (0, .retAddr 2)] d_L_law_7 rfl (Nat.le_of_ble_eq_true rfl) rfl rfl rfl ?_
  refine kJ_sub [1, 0] rfl ?_
  show kJ E m_L_law (some 1) (mk K2 h2) 786 8787 8 [(0, .retAddr 2), (1, .ref 0)] [] (([] : List kC) ++ cP 0 2)
  rw [List.nil_append, made]
  exact c_L_law_8 hro e
