/-! CODE of the methods as functions, with certificates: printed by wip/whole/emit.py. -/
def f_I_copyFrom (h : kH) (x0 : Nat) (x1 : Nat) : Option (kH) := kLet (hset h x0 0 (h x1 0)) fun h1 => kLet (hset h1 x0 1 (h1 x1 1)) fun h2 => kLet (hset h2 x0 2 (h2 x1 2)) fun h3 => kLet (hset h3 x0 3 (h3 x1 3)) fun h4 => kLet (hset h4 x0 4 (h4 x1 4)) fun h5 => kLet (hset h5 x0 5 (h5 x1 5)) fun h6 => kCg 0 0 6 6 6 (kLet (hcpy h6 (x1 + 1) (x0 + 1) (kx 0) (kx 0) (kx 6)) fun h7 => kCg 0 0 12 12 12 (kLet (hcpy h7 (x1 + 2) (x0 + 2) (kx 0) (kx 0) (kx 12)) fun h8 => kCg 0 0 12 12 12 (kLet (hcpy h8 (x1 + 3) (x0 + 3) (kx 0) (kx 0) (kx 12)) fun h9 => kCg 0 0 12 12 12 (kLet (hcpy h9 (x1 + 4) (x0 + 4) (kx 0) (kx 0) (kx 12)) fun h10 => some h10))))
theorem j_I_copyFrom {E : kE} {L : Nat} {xs : Nat → Int32} (hro : kRo E L xs) {h : kH} {x0 : Nat} {x1 : Nat} (k0 : kIs x0 3) (k1 : kIs x1 3) {h' : kH} (hf : f_I_copyFrom h x0 x1 = some h') : JM E m_I_copyFrom [.ref x0, .ref x1] (mk h) none (mk h') := by
  unfold f_I_copyFrom at hf
  refine JM.of pn_I (Nat.le_of_ble_eq_true rfl) ?_
  show kJ E m_I_copyFrom none (mk h') 0 0 0 [(0, .ref x0), (1, .ref x1)] [] (mk h)
  refine kJ_aload_n 1 0 d_I_copyFrom_0 rfl rfl rfl rfl ?_
  refine kJ_aload_n 2 1 d_I_copyFrom_1 rfl rfl rfl rfl ?_
  refine kM_getI 5 d_I_copyFrom_2 l_I_24 k1 rfl rfl rfl ?_
  refine kM_put 8 d_I_copyFrom_5 l_I_24 k0 rfl rfl (kFit_int _) rfl ?_
  obtain ⟨h1, eh1, hf⟩ := kLet_e hf
  rw [← eh1]
  refine kJ_aload_n 9 0 d_I_copyFrom_8 rfl rfl rfl rfl ?_
  refine kJ_aload_n 10 1 d_I_copyFrom_9 rfl rfl rfl rfl ?_
  refine kM_getI 13 d_I_copyFrom_10 l_I_28 k1 rfl rfl rfl ?_
  refine kM_put 16 d_I_copyFrom_13 l_I_28 k0 rfl rfl (kFit_int _) rfl ?_
  obtain ⟨h2, eh2, hf⟩ := kLet_e hf
  rw [← eh2]
  refine kJ_aload_n 17 0 d_I_copyFrom_16 rfl rfl rfl rfl ?_
  refine kJ_aload_n 18 1 d_I_copyFrom_17 rfl rfl rfl rfl ?_
  refine kM_getI 21 d_I_copyFrom_18 l_I_31 k1 rfl rfl rfl ?_
  refine kM_put 24 d_I_copyFrom_21 l_I_31 k0 rfl rfl (kFit_int _) rfl ?_
  obtain ⟨h3, eh3, hf⟩ := kLet_e hf
  rw [← eh3]
  refine kJ_aload_n 25 0 d_I_copyFrom_24 rfl rfl rfl rfl ?_
  refine kJ_aload_n 26 1 d_I_copyFrom_25 rfl rfl rfl rfl ?_
  refine kM_getI 29 d_I_copyFrom_26 l_I_34 k1 rfl rfl rfl ?_
  refine kM_put 32 d_I_copyFrom_29 l_I_34 k0 rfl rfl (kFit_int _) rfl ?_
  obtain ⟨h4, eh4, hf⟩ := kLet_e hf
  rw [← eh4]
  refine kJ_aload_n 33 0 d_I_copyFrom_32 rfl rfl rfl rfl ?_
  refine kJ_aload_n 34 1 d_I_copyFrom_33 rfl rfl rfl rfl ?_
  refine kM_getI 37 d_I_copyFrom_34 l_I_37 k1 rfl rfl rfl ?_
  refine kM_put 40 d_I_copyFrom_37 l_I_37 k0 rfl rfl (kFit_int _) rfl ?_
  obtain ⟨h5, eh5, hf⟩ := kLet_e hf
  rw [← eh5]
  refine kJ_aload_n 41 0 d_I_copyFrom_40 rfl rfl rfl rfl ?_
  refine kJ_aload_n 42 1 d_I_copyFrom_41 rfl rfl rfl rfl ?_
  refine kM_getI 45 d_I_copyFrom_42 l_I_40 k1 rfl rfl rfl ?_
  refine kM_put 48 d_I_copyFrom_45 l_I_40 k0 rfl rfl (kFit_int _) rfl ?_
  obtain ⟨h6, eh6, hf⟩ := kLet_e hf
  rw [← eh6]
  refine kJ_aload_n 49 1 d_I_copyFrom_48 rfl rfl rfl rfl ?_
  refine kM_getR 52 0 (x1 + 1) d_I_copyFrom_49 l_I_9 k1 rfl rfl rfl rfl ?_
  refine kJ_iconst 53 0 d_I_copyFrom_52 ki_0 rfl ?_
  refine kJ_aload_n 54 0 d_I_copyFrom_53 rfl rfl rfl rfl ?_
  refine kM_getR 57 0 (x0 + 1) d_I_copyFrom_54 l_I_9 k0 rfl rfl rfl rfl ?_
  refine kJ_iconst 58 0 d_I_copyFrom_57 ki_0 rfl ?_
  refine kJ_bipush 60 6 d_I_copyFrom_58 kb_6 rfl ?_
  obtain ⟨⟨g1, g2, g3, g4, g5⟩, hf⟩ := kCg_some hf
  refine kM_copy 63 6 6 d_I_copyFrom_60 cp_I_49 (kk_3_6 k1) rfl (kk_3_6 k0) rfl g1 g2 g3 g4 g5 ⟨Nat.le_of_ble_eq_true rfl, Nat.le_of_ble_eq_true rfl⟩ rfl ?_
  obtain ⟨h7, eh7, hf⟩ := kLet_e hf
  rw [← eh7]
  refine kJ_aload_n 64 1 d_I_copyFrom_63 rfl rfl rfl rfl ?_
  refine kM_getR 67 1 (x1 + 2) d_I_copyFrom_64 l_I_15 k1 rfl rfl rfl rfl ?_
  refine kJ_iconst 68 0 d_I_copyFrom_67 ki_0 rfl ?_
  refine kJ_aload_n 69 0 d_I_copyFrom_68 rfl rfl rfl rfl ?_
  refine kM_getR 72 1 (x0 + 2) d_I_copyFrom_69 l_I_15 k0 rfl rfl rfl rfl ?_
  refine kJ_iconst 73 0 d_I_copyFrom_72 ki_0 rfl ?_
  refine kJ_bipush 75 12 d_I_copyFrom_73 kb_12 rfl ?_
  obtain ⟨⟨g1, g2, g3, g4, g5⟩, hf⟩ := kCg_some hf
  refine kM_copy 78 12 12 d_I_copyFrom_75 cp_I_49 (kk_3_7 k1) rfl (kk_3_7 k0) rfl g1 g2 g3 g4 g5 ⟨Nat.le_of_ble_eq_true rfl, Nat.le_of_ble_eq_true rfl⟩ rfl ?_
  obtain ⟨h8, eh8, hf⟩ := kLet_e hf
  rw [← eh8]
  refine kJ_aload_n 79 1 d_I_copyFrom_78 rfl rfl rfl rfl ?_
  refine kM_getR 82 2 (x1 + 3) d_I_copyFrom_79 l_I_18 k1 rfl rfl rfl rfl ?_
  refine kJ_iconst 83 0 d_I_copyFrom_82 ki_0 rfl ?_
  refine kJ_aload_n 84 0 d_I_copyFrom_83 rfl rfl rfl rfl ?_
  refine kM_getR 87 2 (x0 + 3) d_I_copyFrom_84 l_I_18 k0 rfl rfl rfl rfl ?_
  refine kJ_iconst 88 0 d_I_copyFrom_87 ki_0 rfl ?_
  refine kJ_bipush 90 12 d_I_copyFrom_88 kb_12 rfl ?_
  obtain ⟨⟨g1, g2, g3, g4, g5⟩, hf⟩ := kCg_some hf
  refine kM_copy 93 12 12 d_I_copyFrom_90 cp_I_49 (kk_3_8 k1) rfl (kk_3_8 k0) rfl g1 g2 g3 g4 g5 ⟨Nat.le_of_ble_eq_true rfl, Nat.le_of_ble_eq_true rfl⟩ rfl ?_
  obtain ⟨h9, eh9, hf⟩ := kLet_e hf
  rw [← eh9]
  refine kJ_aload_n 94 1 d_I_copyFrom_93 rfl rfl rfl rfl ?_
  refine kM_getR 97 3 (x1 + 4) d_I_copyFrom_94 l_I_21 k1 rfl rfl rfl rfl ?_
  refine kJ_iconst 98 0 d_I_copyFrom_97 ki_0 rfl ?_
  refine kJ_aload_n 99 0 d_I_copyFrom_98 rfl rfl rfl rfl ?_
  refine kM_getR 102 3 (x0 + 4) d_I_copyFrom_99 l_I_21 k0 rfl rfl rfl rfl ?_
  refine kJ_iconst 103 0 d_I_copyFrom_102 ki_0 rfl ?_
  refine kJ_bipush 105 12 d_I_copyFrom_103 kb_12 rfl ?_
  obtain ⟨⟨g1, g2, g3, g4, g5⟩, hf⟩ := kCg_some hf
  refine kM_copy 108 12 12 d_I_copyFrom_105 cp_I_49 (kk_3_9 k1) rfl (kk_3_9 k0) rfl g1 g2 g3 g4 g5 ⟨Nat.le_of_ble_eq_true rfl, Nat.le_of_ble_eq_true rfl⟩ rfl ?_
  obtain ⟨h10, eh10, hf⟩ := kLet_e hf
  rw [← eh10]
  cases hf
  exact kJ_ret d_I_copyFrom_108 rfl (Nat.zero_le _) (Nat.zero_le _)
def f_V_copyFrom (h : kH) (x0 : Nat) (x1 : Nat) : Option (kH) := kLet (hset h x0 0 (h x1 0)) fun h1 => kCg 0 0 20 20 20 (kLet (hcpy h1 (x1 + 1) (x0 + 1) (kx 0) (kx 0) (kx 20)) fun h2 => kCg 0 0 20 20 20 (kLet (hcpy h2 (x1 + 2) (x0 + 2) (kx 0) (kx 0) (kx 20)) fun h3 => kCg 0 0 20 20 20 (kLet (hcpy h3 (x1 + 3) (x0 + 3) (kx 0) (kx 0) (kx 20)) fun h4 => some h4)))
theorem j_V_copyFrom {E : kE} {L : Nat} {xs : Nat → Int32} (hro : kRo E L xs) {h : kH} {x0 : Nat} {x1 : Nat} (k0 : kIs x0 4) (k1 : kIs x1 4) {h' : kH} (hf : f_V_copyFrom h x0 x1 = some h') : JM E m_V_copyFrom [.ref x0, .ref x1] (mk h) none (mk h') := by
  unfold f_V_copyFrom at hf
  refine JM.of pn_V (Nat.le_of_ble_eq_true rfl) ?_
  show kJ E m_V_copyFrom none (mk h') 0 0 0 [(0, .ref x0), (1, .ref x1)] [] (mk h)
  refine kJ_aload_n 1 0 d_V_copyFrom_0 rfl rfl rfl rfl ?_
  refine kJ_aload_n 2 1 d_V_copyFrom_1 rfl rfl rfl rfl ?_
  refine kM_getI 5 d_V_copyFrom_2 l_V_21 k1 rfl rfl rfl ?_
  refine kM_put 8 d_V_copyFrom_5 l_V_21 k0 rfl rfl (kFit_int _) rfl ?_
  obtain ⟨h1, eh1, hf⟩ := kLet_e hf
  rw [← eh1]
  refine kJ_aload_n 9 1 d_V_copyFrom_8 rfl rfl rfl rfl ?_
  refine kM_getR 12 0 (x1 + 1) d_V_copyFrom_9 l_V_9 k1 rfl rfl rfl rfl ?_
  refine kJ_iconst 13 0 d_V_copyFrom_12 ki_0 rfl ?_
  refine kJ_aload_n 14 0 d_V_copyFrom_13 rfl rfl rfl rfl ?_
  refine kM_getR 17 0 (x0 + 1) d_V_copyFrom_14 l_V_9 k0 rfl rfl rfl rfl ?_
  refine kJ_iconst 18 0 d_V_copyFrom_17 ki_0 rfl ?_
  refine kJ_bipush 20 20 d_V_copyFrom_18 kb_20 rfl ?_
  obtain ⟨⟨g1, g2, g3, g4, g5⟩, hf⟩ := kCg_some hf
  refine kM_copy 23 20 20 d_V_copyFrom_20 cp_V_25 (kk_4_1 k1) rfl (kk_4_1 k0) rfl g1 g2 g3 g4 g5 ⟨Nat.le_of_ble_eq_true rfl, Nat.le_of_ble_eq_true rfl⟩ rfl ?_
  obtain ⟨h2, eh2, hf⟩ := kLet_e hf
  rw [← eh2]
  refine kJ_aload_n 24 1 d_V_copyFrom_23 rfl rfl rfl rfl ?_
  refine kM_getR 27 1 (x1 + 2) d_V_copyFrom_24 l_V_15 k1 rfl rfl rfl rfl ?_
  refine kJ_iconst 28 0 d_V_copyFrom_27 ki_0 rfl ?_
  refine kJ_aload_n 29 0 d_V_copyFrom_28 rfl rfl rfl rfl ?_
  refine kM_getR 32 1 (x0 + 2) d_V_copyFrom_29 l_V_15 k0 rfl rfl rfl rfl ?_
  refine kJ_iconst 33 0 d_V_copyFrom_32 ki_0 rfl ?_
  refine kJ_bipush 35 20 d_V_copyFrom_33 kb_20 rfl ?_
  obtain ⟨⟨g1, g2, g3, g4, g5⟩, hf⟩ := kCg_some hf
  refine kM_copy 38 20 20 d_V_copyFrom_35 cp_V_25 (kk_4_2 k1) rfl (kk_4_2 k0) rfl g1 g2 g3 g4 g5 ⟨Nat.le_of_ble_eq_true rfl, Nat.le_of_ble_eq_true rfl⟩ rfl ?_
  obtain ⟨h3, eh3, hf⟩ := kLet_e hf
  rw [← eh3]
  refine kJ_aload_n 39 1 d_V_copyFrom_38 rfl rfl rfl rfl ?_
  refine kM_getR 42 2 (x1 + 3) d_V_copyFrom_39 l_V_18 k1 rfl rfl rfl rfl ?_
  refine kJ_iconst 43 0 d_V_copyFrom_42 ki_0 rfl ?_
  refine kJ_aload_n 44 0 d_V_copyFrom_43 rfl rfl rfl rfl ?_
  refine kM_getR 47 2 (x0 + 3) d_V_copyFrom_44 l_V_18 k0 rfl rfl rfl rfl ?_
  refine kJ_iconst 48 0 d_V_copyFrom_47 ki_0 rfl ?_
  refine kJ_bipush 50 20 d_V_copyFrom_48 kb_20 rfl ?_
  obtain ⟨⟨g1, g2, g3, g4, g5⟩, hf⟩ := kCg_some hf
  refine kM_copy 53 20 20 d_V_copyFrom_50 cp_V_25 (kk_4_3 k1) rfl (kk_4_3 k0) rfl g1 g2 g3 g4 g5 ⟨Nat.le_of_ble_eq_true rfl, Nat.le_of_ble_eq_true rfl⟩ rfl ?_
  obtain ⟨h4, eh4, hf⟩ := kLet_e hf
  rw [← eh4]
  cases hf
  exact kJ_ret d_V_copyFrom_53 rfl (Nat.zero_le _) (Nat.zero_le _)
def b_C_copyFrom_102 (x0 : Nat) (x1 : Nat) : Nat → kH → Int32 → Option (kH)
  | 0, _, _ => none
  | n + 1, h, x2 => (fun rec102 => if (h x0 2) ≤ x2 then (kBi (f_V_copyFrom h (x0 + 6) (x1 + 6)) fun h10 => some h10) else (kG x2 12 (kG x2 12 (kBi (f_I_copyFrom h (x0 + 10 + 5 * kx x2) (x1 + 10 + 5 * kx x2)) fun h13 => rec102 h13 (x2 + 1))))) (fun h' x2' => b_C_copyFrom_102 x0 x1 n h' x2')
theorem c_C_copyFrom_102 {E : kE} {L : Nat} {xs : Nat → Int32} (hro : kRo E L xs) {x0 : Nat} {x1 : Nat} (k0 : kIs x0 0) (k1 : kIs x1 0) {h' : kH} : ∀ (n : Nat) (h : kH) (x2 : Int32), b_C_copyFrom_102 x0 x1 n h x2 = some h' → kJ E m_C_copyFrom none (mk h') 0 0 102 [(0, .ref x0), (1, .ref x1), (2, .int x2)] [] (mk h) := by
  intro n
  induction n with
  | zero =>
    intro h x2 hf
    have hf : (none : Option (kH)) = some h' := hf
    cases hf
  | succ n hrec102 =>
    intro h x2 hf
    rw [b_C_copyFrom_102] at hf
    dsimp only at hf
    refine kJ_iload_n 103 2 d_C_copyFrom_102 rfl rfl rfl ?_
    refine kJ_aload_n 104 0 d_C_copyFrom_103 rfl rfl rfl rfl ?_
    refine kM_getI 107 d_C_copyFrom_104 l_C_57 k0 rfl rfl rfl ?_
    refine kJ_icmp_ge 110 131 d_C_copyFrom_107 rfl rfl (fun hc => ?_) (fun hc => ?_)
    · have hf := kIf_t hf hc
      refine kJ_aload_n 132 0 d_C_copyFrom_131 rfl rfl rfl rfl ?_
      refine kM_getR 135 5 (x0 + 6) d_C_copyFrom_132 l_C_37 k0 rfl rfl rfl rfl ?_
      refine kJ_aload_n 136 1 d_C_copyFrom_135 rfl rfl rfl rfl ?_
      refine kM_getR 139 5 (x1 + 6) d_C_copyFrom_136 l_C_37 k1 rfl rfl rfl rfl ?_
      obtain ⟨h10, eh10, hf⟩ := kBi_some hf
      refine kM_callv 142 m_V_copyFrom [.ref (x1 + 6)] [] d_C_copyFrom_139 cl_C_67 ⟨w_385, w_3⟩ (kk_0_10 k0) ⟨rfl, by decide⟩ ⟨_, _, rfl⟩ rfl rfl (Nat.le_of_ble_eq_true rfl) ⟨Nat.le_of_ble_eq_true rfl, Nat.le_of_ble_eq_true rfl⟩ ⟨rfl, rfl⟩ ⟨Nat.zero_le _, Nat.zero_le _⟩ (j_V_copyFrom hro (kk_0_10 k0) (kk_0_10 k1) eh10) rfl ?_
      cases hf
      exact kJ_ret d_C_copyFrom_142 rfl (Nat.zero_le _) (Nat.zero_le _)
    · have hf := kIf_f hf hc
      refine kJ_aload_n 111 0 d_C_copyFrom_110 rfl rfl rfl rfl ?_
      refine kM_getR 114 4 (x0 + 5) d_C_copyFrom_111 l_C_30 k0 rfl rfl rfl rfl ?_
      refine kJ_iload_n 115 2 d_C_copyFrom_114 rfl rfl rfl ?_
      obtain ⟨hg11, hf⟩ := kG_some hf
      refine kM_aald 116 12 5 5 (x0 + 10 + 5 * kx x2) d_C_copyFrom_115 (kk_0_9 k0) rfl (by decide) (Or.inl rfl) hg11 (by simp only [Nat.add_assoc, kx]; try omega) rfl ?_
      refine kJ_aload_n 117 1 d_C_copyFrom_116 rfl rfl rfl rfl ?_
      refine kM_getR 120 4 (x1 + 5) d_C_copyFrom_117 l_C_30 k1 rfl rfl rfl rfl ?_
      refine kJ_iload_n 121 2 d_C_copyFrom_120 rfl rfl rfl ?_
      obtain ⟨hg12, hf⟩ := kG_some hf
      refine kM_aald 122 12 5 5 (x1 + 10 + 5 * kx x2) d_C_copyFrom_121 (kk_0_9 k1) rfl (by decide) (Or.inl rfl) hg12 (by simp only [Nat.add_assoc, kx]; try omega) rfl ?_
      obtain ⟨h13, eh13, hf⟩ := kBi_some hf
      refine kM_callv 125 m_I_copyFrom [.ref (x1 + 10 + 5 * kx x2)] [] d_C_copyFrom_122 cl_C_63 ⟨w_380, w_2⟩ (kC_item k0 (kIn_lt hg11)) ⟨rfl, by decide⟩ ⟨_, _, rfl⟩ rfl rfl (Nat.le_of_ble_eq_true rfl) ⟨Nat.le_of_ble_eq_true rfl, Nat.le_of_ble_eq_true rfl⟩ ⟨rfl, rfl⟩ ⟨Nat.zero_le _, Nat.zero_le _⟩ (j_I_copyFrom hro (kC_item k0 (kIn_lt hg11)) (kC_item k1 (kIn_lt hg12)) eh13) rfl ?_
      refine kJ_iinc 128 2 [(2, .int (x2 + 1)), (0, .ref x0), (1, .ref x1)] d_C_copyFrom_125 rfl ki_1 (Nat.le_of_ble_eq_true rfl) rfl rfl ?_
      refine kJ_goto 102 d_C_copyFrom_128 rfl ?_
      refine kJ_sub [1, 2, 0] rfl ?_
      exact hrec102 h13 (x2 + 1) hf
def f_C_copyFrom (h : kH) (x0 : Nat) (x1 : Nat) : Option (kH) := kLet (hset h x0 0 (h x1 0)) fun h1 => kLet (hset h1 x0 1 (h1 x1 1)) fun h2 => kLet (hset h2 x0 2 (h2 x1 2)) fun h3 => kLet (hset h3 x0 3 (h3 x1 3)) fun h4 => kLet (hset h4 x0 4 (h4 x1 4)) fun h5 => kCg 0 0 6 6 6 (kLet (hcpy h5 (x1 + 1) (x0 + 1) (kx 0) (kx 0) (kx 6)) fun h6 => kCg 0 0 12 12 12 (kLet (hcpy h6 (x1 + 2) (x0 + 2) (kx 0) (kx 0) (kx 12)) fun h7 => kCg 0 0 12 12 12 (kLet (hcpy h7 (x1 + 3) (x0 + 3) (kx 0) (kx 0) (kx 12)) fun h8 => kCg 0 0 12 12 12 (kLet (hcpy h8 (x1 + 4) (x0 + 4) (kx 0) (kx 0) (kx 12)) fun h9 => b_C_copyFrom_102 x0 x1 kFuel h9 0))))
theorem j_C_copyFrom {E : kE} {L : Nat} {xs : Nat → Int32} (hro : kRo E L xs) {h : kH} {x0 : Nat} {x1 : Nat} (k0 : kIs x0 0) (k1 : kIs x1 0) {h' : kH} (hf : f_C_copyFrom h x0 x1 = some h') : JM E m_C_copyFrom [.ref x0, .ref x1] (mk h) none (mk h') := by
  unfold f_C_copyFrom at hf
  refine JM.of pn_C (Nat.le_of_ble_eq_true rfl) ?_
  show kJ E m_C_copyFrom none (mk h') 0 0 0 [(0, .ref x0), (1, .ref x1)] [] (mk h)
  refine kJ_aload_n 1 0 d_C_copyFrom_0 rfl rfl rfl rfl ?_
  refine kJ_aload_n 2 1 d_C_copyFrom_1 rfl rfl rfl rfl ?_
  refine kM_getI 5 d_C_copyFrom_2 l_C_51 k1 rfl rfl rfl ?_
  refine kM_put 8 d_C_copyFrom_5 l_C_51 k0 rfl rfl (kFit_int _) rfl ?_
  obtain ⟨h1, eh1, hf⟩ := kLet_e hf
  rw [← eh1]
  refine kJ_aload_n 9 0 d_C_copyFrom_8 rfl rfl rfl rfl ?_
  refine kJ_aload_n 10 1 d_C_copyFrom_9 rfl rfl rfl rfl ?_
  refine kM_getI 13 d_C_copyFrom_10 l_C_54 k1 rfl rfl rfl ?_
  refine kM_put 16 d_C_copyFrom_13 l_C_54 k0 rfl rfl (kFit_int _) rfl ?_
  obtain ⟨h2, eh2, hf⟩ := kLet_e hf
  rw [← eh2]
  refine kJ_aload_n 17 0 d_C_copyFrom_16 rfl rfl rfl rfl ?_
  refine kJ_aload_n 18 1 d_C_copyFrom_17 rfl rfl rfl rfl ?_
  refine kM_getI 21 d_C_copyFrom_18 l_C_57 k1 rfl rfl rfl ?_
  refine kM_put 24 d_C_copyFrom_21 l_C_57 k0 rfl rfl (kFit_int _) rfl ?_
  obtain ⟨h3, eh3, hf⟩ := kLet_e hf
  rw [← eh3]
  refine kJ_aload_n 25 0 d_C_copyFrom_24 rfl rfl rfl rfl ?_
  refine kJ_aload_n 26 1 d_C_copyFrom_25 rfl rfl rfl rfl ?_
  refine kM_getI 29 d_C_copyFrom_26 l_C_60 k1 rfl rfl rfl ?_
  refine kM_put 32 d_C_copyFrom_29 l_C_60 k0 rfl rfl (kFit_int _) rfl ?_
  obtain ⟨h4, eh4, hf⟩ := kLet_e hf
  rw [← eh4]
  refine kJ_aload_n 33 0 d_C_copyFrom_32 rfl rfl rfl rfl ?_
  refine kJ_aload_n 34 1 d_C_copyFrom_33 rfl rfl rfl rfl ?_
  refine kM_getI 37 d_C_copyFrom_34 l_C_9 k1 rfl rfl rfl ?_
  refine kM_put 40 d_C_copyFrom_37 l_C_9 k0 rfl rfl (kFit_int _) rfl ?_
  obtain ⟨h5, eh5, hf⟩ := kLet_e hf
  rw [← eh5]
  refine kJ_aload_n 41 1 d_C_copyFrom_40 rfl rfl rfl rfl ?_
  refine kM_getR 44 0 (x1 + 1) d_C_copyFrom_41 l_C_15 k1 rfl rfl rfl rfl ?_
  refine kJ_iconst 45 0 d_C_copyFrom_44 ki_0 rfl ?_
  refine kJ_aload_n 46 0 d_C_copyFrom_45 rfl rfl rfl rfl ?_
  refine kM_getR 49 0 (x0 + 1) d_C_copyFrom_46 l_C_15 k0 rfl rfl rfl rfl ?_
  refine kJ_iconst 50 0 d_C_copyFrom_49 ki_0 rfl ?_
  refine kJ_bipush 52 6 d_C_copyFrom_50 kb_6 rfl ?_
  obtain ⟨⟨g1, g2, g3, g4, g5⟩, hf⟩ := kCg_some hf
  refine kM_copy 55 6 6 d_C_copyFrom_52 cp_C_44 (kk_0_5 k1) rfl (kk_0_5 k0) rfl g1 g2 g3 g4 g5 ⟨Nat.le_of_ble_eq_true rfl, Nat.le_of_ble_eq_true rfl⟩ rfl ?_
  obtain ⟨h6, eh6, hf⟩ := kLet_e hf
  rw [← eh6]
  refine kJ_aload_n 56 1 d_C_copyFrom_55 rfl rfl rfl rfl ?_
  refine kM_getR 59 1 (x1 + 2) d_C_copyFrom_56 l_C_19 k1 rfl rfl rfl rfl ?_
  refine kJ_iconst 60 0 d_C_copyFrom_59 ki_0 rfl ?_
  refine kJ_aload_n 61 0 d_C_copyFrom_60 rfl rfl rfl rfl ?_
  refine kM_getR 64 1 (x0 + 2) d_C_copyFrom_61 l_C_19 k0 rfl rfl rfl rfl ?_
  refine kJ_iconst 65 0 d_C_copyFrom_64 ki_0 rfl ?_
  refine kJ_bipush 67 12 d_C_copyFrom_65 kb_12 rfl ?_
  obtain ⟨⟨g1, g2, g3, g4, g5⟩, hf⟩ := kCg_some hf
  refine kM_copy 70 12 12 d_C_copyFrom_67 cp_C_44 (kk_0_6 k1) rfl (kk_0_6 k0) rfl g1 g2 g3 g4 g5 ⟨Nat.le_of_ble_eq_true rfl, Nat.le_of_ble_eq_true rfl⟩ rfl ?_
  obtain ⟨h7, eh7, hf⟩ := kLet_e hf
  rw [← eh7]
  refine kJ_aload_n 71 1 d_C_copyFrom_70 rfl rfl rfl rfl ?_
  refine kM_getR 74 2 (x1 + 3) d_C_copyFrom_71 l_C_22 k1 rfl rfl rfl rfl ?_
  refine kJ_iconst 75 0 d_C_copyFrom_74 ki_0 rfl ?_
  refine kJ_aload_n 76 0 d_C_copyFrom_75 rfl rfl rfl rfl ?_
  refine kM_getR 79 2 (x0 + 3) d_C_copyFrom_76 l_C_22 k0 rfl rfl rfl rfl ?_
  refine kJ_iconst 80 0 d_C_copyFrom_79 ki_0 rfl ?_
  refine kJ_bipush 82 12 d_C_copyFrom_80 kb_12 rfl ?_
  obtain ⟨⟨g1, g2, g3, g4, g5⟩, hf⟩ := kCg_some hf
  refine kM_copy 85 12 12 d_C_copyFrom_82 cp_C_44 (kk_0_7 k1) rfl (kk_0_7 k0) rfl g1 g2 g3 g4 g5 ⟨Nat.le_of_ble_eq_true rfl, Nat.le_of_ble_eq_true rfl⟩ rfl ?_
  obtain ⟨h8, eh8, hf⟩ := kLet_e hf
  rw [← eh8]
  refine kJ_aload_n 86 1 d_C_copyFrom_85 rfl rfl rfl rfl ?_
  refine kM_getR 89 3 (x1 + 4) d_C_copyFrom_86 l_C_25 k1 rfl rfl rfl rfl ?_
  refine kJ_iconst 90 0 d_C_copyFrom_89 ki_0 rfl ?_
  refine kJ_aload_n 91 0 d_C_copyFrom_90 rfl rfl rfl rfl ?_
  refine kM_getR 94 3 (x0 + 4) d_C_copyFrom_91 l_C_25 k0 rfl rfl rfl rfl ?_
  refine kJ_iconst 95 0 d_C_copyFrom_94 ki_0 rfl ?_
  refine kJ_bipush 97 12 d_C_copyFrom_95 kb_12 rfl ?_
  obtain ⟨⟨g1, g2, g3, g4, g5⟩, hf⟩ := kCg_some hf
  refine kM_copy 100 12 12 d_C_copyFrom_97 cp_C_44 (kk_0_8 k1) rfl (kk_0_8 k0) rfl g1 g2 g3 g4 g5 ⟨Nat.le_of_ble_eq_true rfl, Nat.le_of_ble_eq_true rfl⟩ rfl ?_
  obtain ⟨h9, eh9, hf⟩ := kLet_e hf
  rw [← eh9]
  refine kJ_iconst 101 0 d_C_copyFrom_100 ki_0 rfl ?_
  refine kJ_istore_n 102 [(2, .int 0), (0, .ref x0), (1, .ref x1)] d_C_copyFrom_101 rfl (Nat.le_of_ble_eq_true rfl) rfl rfl ?_
  refine kJ_sub [1, 2, 0] rfl ?_
  exact c_C_copyFrom_102 hro k0 k1 kFuel h9 0 hf
def f_Y_note (h : kH) (x0 : Nat) (x1 : Nat) : Option (kH) := kG (h x0 1) 7 (kBi (f_C_copyFrom h (x0 + 2 + 70 * kx (h x0 1)) x1) fun h2 => some h2)
theorem j_Y_note {E : kE} {L : Nat} {xs : Nat → Int32} (hro : kRo E L xs) {h : kH} {x0 : Nat} {x1 : Nat} (k0 : kIs x0 2) (k1 : kIs x1 0) {h' : kH} (hf : f_Y_note h x0 x1 = some h') : JM E m_Y_note [.ref x0, .ref x1] (mk h) none (mk h') := by
  unfold f_Y_note at hf
  refine JM.of pn_Y (Nat.le_of_ble_eq_true rfl) ?_
  show kJ E m_Y_note none (mk h') 0 0 0 [(0, .ref x0), (1, .ref x1)] [] (mk h)
  refine kJ_aload_n 1 0 d_Y_note_0 rfl rfl rfl rfl ?_
  refine kM_getR 4 0 (x0 + 1) d_Y_note_1 l_Y_11 k0 rfl rfl rfl rfl ?_
  refine kJ_aload_n 5 0 d_Y_note_4 rfl rfl rfl rfl ?_
  refine kM_getI 8 d_Y_note_5 l_Y_18 k0 rfl rfl rfl ?_
  obtain ⟨hg1, hf⟩ := kG_some hf
  refine kM_aald 9 7 1 70 (x0 + 2 + 70 * kx (h x0 1)) d_Y_note_8 (kk_2_0 k0) rfl (by decide) (Or.inr rfl) hg1 (by simp only [Nat.add_assoc, kx]; try omega) rfl ?_
  refine kJ_aload_n 10 1 d_Y_note_9 rfl rfl rfl rfl ?_
  obtain ⟨h2, eh2, hf⟩ := kBi_some hf
  refine kM_callv 13 m_C_copyFrom [.ref x1] [] d_Y_note_10 cl_Y_22 ⟨w_376, w_1⟩ (kk_h k0 (kIn_lt hg1)) ⟨rfl, by decide⟩ ⟨_, _, rfl⟩ rfl rfl (Nat.le_of_ble_eq_true rfl) ⟨Nat.le_of_ble_eq_true rfl, Nat.le_of_ble_eq_true rfl⟩ ⟨rfl, rfl⟩ ⟨Nat.zero_le _, Nat.zero_le _⟩ (j_C_copyFrom hro (kk_h k0 (kIn_lt hg1)) k1 eh2) rfl ?_
  cases hf
  exact kJ_ret d_Y_note_13 rfl (Nat.zero_le _) (Nat.zero_le _)
def f_C_changeSetting (h : kH) (x0 : Nat) (x1 : Int32) (x2 : Int32) : Option (Int32 × kH) := if x1 < 0 then (some ((-2), h)) else (if 6 ≤ x1 then (some ((-2), h)) else (if x2 < 0 then (some ((-2), h)) else (kG x1 6 (if x2 ≤ (kHigh (kx x1)) then (kG x1 6 (kG x1 6 (kLet (hset h (x0 + 1) (kx x1) x2) fun h1 => some ((h (x0 + 1) (kx x1)), h1)))) else (some ((-2), h))))))
theorem j_C_changeSetting {E : kE} {L : Nat} {xs : Nat → Int32} (hro : kRo E L xs) {h : kH} {x0 : Nat} {x1 : Int32} {x2 : Int32} (k0 : kIs x0 0) {r : Int32} {h' : kH} (hf : f_C_changeSetting h x0 x1 x2 = some (r, h')) : JM E m_C_changeSetting [.ref x0, .int x1, .int x2] (mk h) (some r) (mk h') := by
  unfold f_C_changeSetting at hf
  refine JM.of pn_C (Nat.le_of_ble_eq_true rfl) ?_
  show kJ E m_C_changeSetting (some r) (mk h') 0 0 0 [(0, .ref x0), (1, .int x1), (2, .int x2)] [] (mk h)
  refine kJ_iload_n 1 1 d_C_changeSetting_0 rfl rfl rfl ?_
  refine kJ_if_lt 4 23 d_C_changeSetting_1 rfl rfl (fun hc => ?_) (fun hc => ?_)
  · have hf := kIf_t hf hc
    refine kJ_bipush 25 (-2) d_C_changeSetting_23 kb_m2 rfl ?_
    cases hf
    exact kJ_iret d_C_changeSetting_25 rfl rfl (Nat.zero_le _) (Nat.zero_le _)
  · have hf := kIf_f hf hc
    refine kJ_iload_n 5 1 d_C_changeSetting_4 rfl rfl rfl ?_
    refine kJ_bipush 7 6 d_C_changeSetting_5 kb_6 rfl ?_
    refine kJ_icmp_ge 10 23 d_C_changeSetting_7 rfl rfl (fun hc => ?_) (fun hc => ?_)
    · have hf := kIf_t hf hc
      refine kJ_bipush 25 (-2) d_C_changeSetting_23 kb_m2 rfl ?_
      cases hf
      exact kJ_iret d_C_changeSetting_25 rfl rfl (Nat.zero_le _) (Nat.zero_le _)
    · have hf := kIf_f hf hc
      refine kJ_iload_n 11 2 d_C_changeSetting_10 rfl rfl rfl ?_
      refine kJ_if_lt 14 23 d_C_changeSetting_11 rfl rfl (fun hc => ?_) (fun hc => ?_)
      · have hf := kIf_t hf hc
        refine kJ_bipush 25 (-2) d_C_changeSetting_23 kb_m2 rfl ?_
        cases hf
        exact kJ_iret d_C_changeSetting_25 rfl rfl (Nat.zero_le _) (Nat.zero_le _)
      · have hf := kIf_f hf hc
        refine kJ_iload_n 15 2 d_C_changeSetting_14 rfl rfl rfl ?_
        refine kJ_gets1 18 d_C_changeSetting_15 wn_392 rfl ?_
        refine kJ_iload_n 19 1 d_C_changeSetting_18 rfl rfl rfl ?_
        obtain ⟨hg, hf⟩ := kG_some hf
        refine kM_high 20 hro d_C_changeSetting_19 hg rfl ?_
        refine kJ_icmp_le 23 26 d_C_changeSetting_20 rfl rfl (fun hc => ?_) (fun hc => ?_)
        · have hf := kIf_t hf hc
          refine kJ_aload_n 27 0 d_C_changeSetting_26 rfl rfl rfl rfl ?_
          refine kM_getR 30 0 (x0 + 1) d_C_changeSetting_27 l_C_15 k0 rfl rfl rfl rfl ?_
          refine kJ_iload_n 31 1 d_C_changeSetting_30 rfl rfl rfl ?_
          obtain ⟨hg, hf⟩ := kG_some hf
          refine kM_iald 32 6 d_C_changeSetting_31 (kk_0_5 k0) rfl hg rfl ?_
          refine kJ_istore_n 33 [(3, .int (h (x0 + 1) (kx x1))), (0, .ref x0), (1, .int x1), (2, .int x2)] d_C_changeSetting_32 rfl (Nat.le_of_ble_eq_true rfl) rfl rfl ?_
          refine kJ_aload_n 34 1 d_C_changeSetting_33 rfl rfl rfl rfl ?_
          refine kM_getR 37 0 (x0 + 1) d_C_changeSetting_34 l_C_15 k0 rfl rfl rfl rfl ?_
          refine kJ_iload_n 38 2 d_C_changeSetting_37 rfl rfl rfl ?_
          refine kJ_iload_n 39 3 d_C_changeSetting_38 rfl rfl rfl ?_
          obtain ⟨hg, hf⟩ := kG_some hf
          refine kM_iast 40 6 d_C_changeSetting_39 (kk_0_5 k0) rfl hg rfl ?_
          obtain ⟨h1, eh1, hf⟩ := kLet_e hf
          rw [← eh1]
          refine kJ_iload_n 41 0 d_C_changeSetting_40 rfl rfl rfl ?_
          cases hf
          exact kJ_iret d_C_changeSetting_41 rfl rfl (Nat.zero_le _) (Nat.zero_le _)
        · have hf := kIf_f hf hc
          refine kJ_bipush 25 (-2) d_C_changeSetting_23 kb_m2 rfl ?_
          cases hf
          exact kJ_iret d_C_changeSetting_25 rfl rfl (Nat.zero_le _) (Nat.zero_le _)
def f_P_isError (x0 : Int32) : Bool := if x0 < (-5) then false else (if (-1) < x0 then false else true)
theorem j_P_isError {E : kE} {L : Nat} {xs : Nat → Int32} (hro : kRo E L xs) {h0 : kH} {x0 : Int32} {r : Bool} (hf : f_P_isError x0 = r) : JM E m_P_isError [.int x0] (mk h0) (some (kB2 r)) (mk h0) := by
  unfold f_P_isError at hf
  refine JM.of pn_P (Nat.le_of_ble_eq_true rfl) ?_
  show kJ E m_P_isError (some (kB2 r)) (mk h0) 0 0 0 [(0, .int x0)] [] (mk h0)
  refine kJ_iload_n 1 0 d_P_isError_0 rfl rfl rfl ?_
  refine kJ_bipush 3 (-5) d_P_isError_1 kb_m5 rfl ?_
  refine kJ_icmp_lt 6 15 d_P_isError_3 rfl rfl (fun hc => ?_) (fun hc => ?_)
  · have hf := kIf_t hf hc
    refine kJ_iconst 16 0 d_P_isError_15 ki_0 rfl ?_
    subst hf
    exact kJ_iret d_P_isError_16 rfl (kB2_z _) (Nat.zero_le _) (Nat.zero_le _)
  · have hf := kIf_f hf hc
    refine kJ_iload_n 7 0 d_P_isError_6 rfl rfl rfl ?_
    refine kJ_iconst 8 (-1) d_P_isError_7 ki_m1 rfl ?_
    refine kJ_icmp_gt 11 15 d_P_isError_8 rfl rfl (fun hc => ?_) (fun hc => ?_)
    · have hf := kIf_t hf hc
      refine kJ_iconst 16 0 d_P_isError_15 ki_0 rfl ?_
      subst hf
      exact kJ_iret d_P_isError_16 rfl (kB2_z _) (Nat.zero_le _) (Nat.zero_le _)
    · have hf := kIf_f hf hc
      refine kJ_iconst 12 1 d_P_isError_11 ki_1 rfl ?_
      refine kJ_goto 16 d_P_isError_12 rfl ?_
      subst hf
      exact kJ_iret d_P_isError_16 rfl (kB2_z _) (Nat.zero_le _) (Nat.zero_le _)
def f_JM_min (x0 : Int32) (x1 : Int32) : Int32 := if x1 < x0 then x1 else x0
theorem j_JM_min {E : kE} {L : Nat} {xs : Nat → Int32} (hro : kRo E L xs) {h0 : kH} {x0 : Int32} {x1 : Int32} {r : Int32} (hf : f_JM_min x0 x1 = r) : JM E m_JM_min [.int x0, .int x1] (mk h0) (some r) (mk h0) := by
  unfold f_JM_min at hf
  refine JM.ofF pf_JM_min (Nat.le_of_ble_eq_true rfl) ?_
  show kJ E m_JM_min (some r) (mk h0) 0 0 0 [(0, .int x0), (1, .int x1)] [] (mk h0)
  refine kJ_iload_n 1 0 d_JM_min_0 rfl rfl rfl ?_
  refine kJ_iload_n 2 1 d_JM_min_1 rfl rfl rfl ?_
  refine kJ_icmp_gt 5 9 d_JM_min_2 rfl rfl (fun hc => ?_) (fun hc => ?_)
  · have hf := kIf_t hf hc
    refine kJ_iload_n 10 1 d_JM_min_9 rfl rfl rfl ?_
    subst hf
    exact kJ_iret d_JM_min_10 rfl rfl (Nat.zero_le _) (Nat.zero_le _)
  · have hf := kIf_f hf hc
    refine kJ_iload_n 6 0 d_JM_min_5 rfl rfl rfl ?_
    refine kJ_goto 10 d_JM_min_6 rfl ?_
    subst hf
    exact kJ_iret d_JM_min_10 rfl rfl (Nat.zero_le _) (Nat.zero_le _)
def b_Y_settle_27 (h : kH) (x0 : Nat) (x1 : Int32) (s0 : Nat) (s1 : Int32) : Option (Int32 × kH) := kLet (hset h s0 1 s1) fun h1 => kLet (hset h1 x0 2 (f_JM_min ((h1 x0 2) + 1) 6)) fun h2 => some (x1, h2)
theorem c_Y_settle_27 {E : kE} {L : Nat} {xs : Nat → Int32} (hro : kRo E L xs) {h : kH} {x0 : Nat} {x1 : Int32} {s0 : Nat} {s1 : Int32} (k0 : kIs x0 2) (ks0 : kIs s0 2) {r : Int32} {h' : kH} (hf : b_Y_settle_27 h x0 x1 s0 s1 = some (r, h')) : kJ E m_Y_settle (some r) (mk h') 0 0 27 [(0, .ref x0), (1, .int x1)] [.int s1, .ref s0] (mk h) := by
  unfold b_Y_settle_27 at hf
  refine kM_put 30 d_Y_settle_27 l_Y_18 ks0 rfl rfl (kFit_int _) rfl ?_
  obtain ⟨h1, eh1, hf⟩ := kLet_e hf
  rw [← eh1]
  refine kJ_aload_n 31 0 d_Y_settle_30 rfl rfl rfl rfl ?_
  refine kJ_aload_n 32 0 d_Y_settle_31 rfl rfl rfl rfl ?_
  refine kM_getI 35 d_Y_settle_32 l_Y_30 k0 rfl rfl rfl ?_
  refine kJ_iconst 36 1 d_Y_settle_35 ki_1 rfl ?_
  refine kJ_iadd 37 d_Y_settle_36 rfl ?_
  refine kJ_bipush 39 6 d_Y_settle_37 kb_6 rfl ?_
  refine kM_calls 42 m_JM_min [.int ((h1 x0 2) + 1), .int 6] [.ref x0] d_Y_settle_39 cl_Y_33 w_402 rfl rfl (Nat.le_of_ble_eq_true rfl) ⟨Nat.le_of_ble_eq_true rfl, Nat.le_of_ble_eq_true rfl⟩ ⟨rfl, rfl⟩ ⟨Nat.zero_le _, Nat.zero_le _⟩ (j_JM_min hro rfl) rfl ?_
  refine kM_put 45 d_Y_settle_42 l_Y_30 k0 rfl rfl (kFit_int _) rfl ?_
  obtain ⟨h2, eh2, hf⟩ := kLet_e hf
  rw [← eh2]
  refine kJ_iload_n 46 1 d_Y_settle_45 rfl rfl rfl ?_
  cases hf
  exact kJ_iret d_Y_settle_46 rfl rfl (Nat.zero_le _) (Nat.zero_le _)
def f_Y_settle (h : kH) (x0 : Nat) (x1 : Int32) : Option (Int32 × kH) := if (f_P_isError x1) = true then (some (x1, h)) else (if (h x0 1) = 6 then (b_Y_settle_27 h x0 x1 x0 0) else (b_Y_settle_27 h x0 x1 x0 ((h x0 1) + 1)))
theorem j_Y_settle {E : kE} {L : Nat} {xs : Nat → Int32} (hro : kRo E L xs) {h : kH} {x0 : Nat} {x1 : Int32} (k0 : kIs x0 2) {r : Int32} {h' : kH} (hf : f_Y_settle h x0 x1 = some (r, h')) : JM E m_Y_settle [.ref x0, .int x1] (mk h) (some r) (mk h') := by
  unfold f_Y_settle at hf
  refine JM.of pn_Y (Nat.le_of_ble_eq_true rfl) ?_
  show kJ E m_Y_settle (some r) (mk h') 0 0 0 [(0, .ref x0), (1, .int x1)] [] (mk h)
  refine kJ_iload_n 1 1 d_Y_settle_0 rfl rfl rfl ?_
  refine kM_calls 4 m_P_isError [.int x1] [] d_Y_settle_1 cl_Y_26 w_399 rfl rfl (Nat.le_of_ble_eq_true rfl) ⟨Nat.le_of_ble_eq_true rfl, Nat.le_of_ble_eq_true rfl⟩ ⟨rfl, rfl⟩ ⟨Nat.zero_le _, Nat.zero_le _⟩ (j_P_isError hro rfl) rfl ?_
  refine kJ_if_ne 7 45 d_Y_settle_4 rfl rfl (fun hc => ?_) (fun hc => ?_)
  · have hf := kIf_t hf (kB2_1 hc)
    refine kJ_iload_n 46 1 d_Y_settle_45 rfl rfl rfl ?_
    cases hf
    exact kJ_iret d_Y_settle_46 rfl rfl (Nat.zero_le _) (Nat.zero_le _)
  · have hf := kIf_f hf (kB2_0 hc)
    refine kJ_aload_n 8 0 d_Y_settle_7 rfl rfl rfl rfl ?_
    refine kJ_aload_n 9 0 d_Y_settle_8 rfl rfl rfl rfl ?_
    refine kM_getI 12 d_Y_settle_9 l_Y_18 k0 rfl rfl rfl ?_
    refine kJ_bipush 14 6 d_Y_settle_12 kb_6 rfl ?_
    refine kJ_icmp_ne 17 21 d_Y_settle_14 rfl rfl (fun hc => ?_) (fun hc => ?_)
    · have hf := kIf_f hf hc
      refine kJ_aload_n 22 0 d_Y_settle_21 rfl rfl rfl rfl ?_
      refine kM_getI 25 d_Y_settle_22 l_Y_18 k0 rfl rfl rfl ?_
      refine kJ_iconst 26 1 d_Y_settle_25 ki_1 rfl ?_
      refine kJ_iadd 27 d_Y_settle_26 rfl ?_
      refine kJ_sub [0, 1] rfl ?_
      exact c_Y_settle_27 hro k0 k0 hf
    · have hf := kIf_t hf hc
      refine kJ_iconst 18 0 d_Y_settle_17 ki_0 rfl ?_
      refine kJ_goto 27 d_Y_settle_18 rfl ?_
      refine kJ_sub [0, 1] rfl ?_
      exact c_Y_settle_27 hro k0 k0 hf
def f_P_set (h : kH) (x1 : Int32) (x2 : Int32) : Option (Int32 × kH) := kBi (f_Y_note h 145 1) fun h1 => kBd (f_C_changeSetting h1 1 x1 x2) fun v3 h2 => kBd (f_Y_settle h2 145 v3) fun v5 h4 => some (v5, h4)
theorem j_P_set {E : kE} {L : Nat} {xs : Nat → Int32} (hro : kRo E L xs) {h : kH} {x1 : Int32} {x2 : Int32} {r : Int32} {h' : kH} (hf : f_P_set h x1 x2 = some (r, h')) : JM E m_P_set [.ref 0, .int x1, .int x2] (mk h) (some r) (mk h') := by
  unfold f_P_set at hf
  refine JM.of pn_P (Nat.le_of_ble_eq_true rfl) ?_
  show kJ E m_P_set (some r) (mk h') 0 0 0 [(0, .ref 0), (1, .int x1), (2, .int x2)] [] (mk h)
  refine kJ_aload_n 1 0 d_P_set_0 rfl rfl rfl rfl ?_
  refine kM_getR 4 144 145 d_P_set_1 l_P_29 kp_0 rfl rfl rfl rfl ?_
  refine kJ_aload_n 5 0 d_P_set_4 rfl rfl rfl rfl ?_
  refine kM_getR 8 0 1 d_P_set_5 l_P_10 kp_0 rfl rfl rfl rfl ?_
  obtain ⟨h1, eh1, hf⟩ := kBi_some hf
  refine kM_callv 11 m_Y_note [.ref 1] [] d_P_set_8 cl_P_55 ⟨w_372, w_0⟩ kp_145 ⟨rfl, by decide⟩ ⟨_, _, rfl⟩ rfl rfl (Nat.le_of_ble_eq_true rfl) ⟨Nat.le_of_ble_eq_true rfl, Nat.le_of_ble_eq_true rfl⟩ ⟨rfl, rfl⟩ ⟨Nat.zero_le _, Nat.zero_le _⟩ (j_Y_note hro kp_145 kp_1 eh1) rfl ?_
  refine kJ_aload_n 12 0 d_P_set_11 rfl rfl rfl rfl ?_
  refine kM_getR 15 144 145 d_P_set_12 l_P_29 kp_0 rfl rfl rfl rfl ?_
  refine kJ_aload_n 16 0 d_P_set_15 rfl rfl rfl rfl ?_
  refine kM_getR 19 0 1 d_P_set_16 l_P_10 kp_0 rfl rfl rfl rfl ?_
  refine kJ_iload_n 20 1 d_P_set_19 rfl rfl rfl ?_
  refine kJ_iload_n 21 2 d_P_set_20 rfl rfl rfl ?_
  obtain ⟨v3, h2, ev3, hf⟩ := kBd_some hf
  refine kM_callv 24 m_C_changeSetting [.int x1, .int x2] [.ref 145] d_P_set_21 cl_P_59 ⟨w_390, w_4⟩ kp_1 ⟨rfl, by decide⟩ ⟨_, _, rfl⟩ rfl rfl (Nat.le_of_ble_eq_true rfl) ⟨Nat.le_of_ble_eq_true rfl, Nat.le_of_ble_eq_true rfl⟩ ⟨rfl, rfl⟩ ⟨Nat.zero_le _, Nat.zero_le _⟩ (j_C_changeSetting hro kp_1 ev3) rfl ?_
  obtain ⟨v5, h4, ev5, hf⟩ := kBd_some hf
  refine kM_callv 27 m_Y_settle [.int v3] [] d_P_set_24 cl_P_63 ⟨w_396, w_5⟩ kp_145 ⟨rfl, by decide⟩ ⟨_, _, rfl⟩ rfl rfl (Nat.le_of_ble_eq_true rfl) ⟨Nat.le_of_ble_eq_true rfl, Nat.le_of_ble_eq_true rfl⟩ ⟨rfl, rfl⟩ ⟨Nat.zero_le _, Nat.zero_le _⟩ (j_Y_settle hro kp_145 ev5) rfl ?_
  cases hf
  exact kJ_iret d_P_set_27 rfl rfl (Nat.zero_le _) (Nat.zero_le _)
def b_C_addMember_78 (h : kH) (x0 : Nat) : Option (Int32 × kH) := kLet (hset h x0 1 ((h x0 1) + 1)) fun h4 => some ((h x0 1), h4)
theorem c_C_addMember_78 {E : kE} {L : Nat} {xs : Nat → Int32} (hro : kRo E L xs) {h : kH} {x0 : Nat} (k0 : kIs x0 0) {r : Int32} {h' : kH} (hf : b_C_addMember_78 h x0 = some (r, h')) : kJ E m_C_addMember (some r) (mk h') 0 0 78 [(0, .ref x0)] [] (mk h) := by
  unfold b_C_addMember_78 at hf
  refine kJ_aload_n 79 0 d_C_addMember_78 rfl rfl rfl rfl ?_
  refine kJ_dup 80 d_C_addMember_79 rfl rfl ?_
  refine kM_getI 83 d_C_addMember_80 l_C_54 k0 rfl rfl rfl ?_
  refine kJ_dup_x1 84 d_C_addMember_83 rfl rfl rfl ?_
  refine kJ_iconst 85 1 d_C_addMember_84 ki_1 rfl ?_
  refine kJ_iadd 86 d_C_addMember_85 rfl ?_
  refine kM_put 89 d_C_addMember_86 l_C_54 k0 rfl rfl (kFit_int _) rfl ?_
  obtain ⟨h4, eh4, hf⟩ := kLet_e hf
  rw [← eh4]
  cases hf
  exact kJ_iret d_C_addMember_89 rfl rfl (Nat.zero_le _) (Nat.zero_le _)
def f_C_addMember (h : kH) (x0 : Nat) (x1 : Int32) (x2 : Int32) : Option (Int32 × kH) := if x1 < 1 then (some ((-2), h)) else (if 9 < x1 then (some ((-2), h)) else (if x2 < 0 then (some ((-2), h)) else (if x2 ≤ 3 then (if (h x0 1) < 12 then (kG (h x0 1) 12 (kLet (hset h (x0 + 2) (kx (h x0 1)) x1) fun h1 => kG (h1 x0 1) 12 (kLet (hset h1 (x0 + 3) (kx (h1 x0 1)) x2) fun h2 => kG (h2 x0 1) 12 (kLet (hset h2 (x0 + 4) (kx (h2 x0 1)) (-6)) fun h3 => if (h3 x0 1) = 0 then (kLet (hset h3 x0 4 0) fun h5 => b_C_addMember_78 h5 x0) else (b_C_addMember_78 h3 x0))))) else (some ((-4), h))) else (some ((-2), h)))))
theorem j_C_addMember {E : kE} {L : Nat} {xs : Nat → Int32} (hro : kRo E L xs) {h : kH} {x0 : Nat} {x1 : Int32} {x2 : Int32} (k0 : kIs x0 0) {r : Int32} {h' : kH} (hf : f_C_addMember h x0 x1 x2 = some (r, h')) : JM E m_C_addMember [.ref x0, .int x1, .int x2] (mk h) (some r) (mk h') := by
  unfold f_C_addMember at hf
  refine JM.of pn_C (Nat.le_of_ble_eq_true rfl) ?_
  show kJ E m_C_addMember (some r) (mk h') 0 0 0 [(0, .ref x0), (1, .int x1), (2, .int x2)] [] (mk h)
  refine kJ_iload_n 1 1 d_C_addMember_0 rfl rfl rfl ?_
  refine kJ_iconst 2 1 d_C_addMember_1 ki_1 rfl ?_
  refine kJ_icmp_lt 5 20 d_C_addMember_2 rfl rfl (fun hc => ?_) (fun hc => ?_)
  · have hf := kIf_t hf hc
    refine kJ_bipush 22 (-2) d_C_addMember_20 kb_m2 rfl ?_
    cases hf
    exact kJ_iret d_C_addMember_22 rfl rfl (Nat.zero_le _) (Nat.zero_le _)
  · have hf := kIf_f hf hc
    refine kJ_iload_n 6 1 d_C_addMember_5 rfl rfl rfl ?_
    refine kJ_bipush 8 9 d_C_addMember_6 kb_9 rfl ?_
    refine kJ_icmp_gt 11 20 d_C_addMember_8 rfl rfl (fun hc => ?_) (fun hc => ?_)
    · have hf := kIf_t hf hc
      refine kJ_bipush 22 (-2) d_C_addMember_20 kb_m2 rfl ?_
      cases hf
      exact kJ_iret d_C_addMember_22 rfl rfl (Nat.zero_le _) (Nat.zero_le _)
    · have hf := kIf_f hf hc
      refine kJ_iload_n 12 2 d_C_addMember_11 rfl rfl rfl ?_
      refine kJ_if_lt 15 20 d_C_addMember_12 rfl rfl (fun hc => ?_) (fun hc => ?_)
      · have hf := kIf_t hf hc
        refine kJ_bipush 22 (-2) d_C_addMember_20 kb_m2 rfl ?_
        cases hf
        exact kJ_iret d_C_addMember_22 rfl rfl (Nat.zero_le _) (Nat.zero_le _)
      · have hf := kIf_f hf hc
        refine kJ_iload_n 16 2 d_C_addMember_15 rfl rfl rfl ?_
        refine kJ_iconst 17 3 d_C_addMember_16 ki_3 rfl ?_
        refine kJ_icmp_le 20 23 d_C_addMember_17 rfl rfl (fun hc => ?_) (fun hc => ?_)
        · have hf := kIf_t hf hc
          refine kJ_aload_n 24 0 d_C_addMember_23 rfl rfl rfl rfl ?_
          refine kM_getI 27 d_C_addMember_24 l_C_54 k0 rfl rfl rfl ?_
          refine kJ_bipush 29 12 d_C_addMember_27 kb_12 rfl ?_
          refine kJ_icmp_lt 32 35 d_C_addMember_29 rfl rfl (fun hc => ?_) (fun hc => ?_)
          · have hf := kIf_t hf hc
            refine kJ_aload_n 36 0 d_C_addMember_35 rfl rfl rfl rfl ?_
            refine kM_getR 39 1 (x0 + 2) d_C_addMember_36 l_C_19 k0 rfl rfl rfl rfl ?_
            refine kJ_aload_n 40 0 d_C_addMember_39 rfl rfl rfl rfl ?_
            refine kM_getI 43 d_C_addMember_40 l_C_54 k0 rfl rfl rfl ?_
            refine kJ_iload_n 44 1 d_C_addMember_43 rfl rfl rfl ?_
            obtain ⟨hg, hf⟩ := kG_some hf
            refine kM_iast 45 12 d_C_addMember_44 (kk_0_6 k0) rfl hg rfl ?_
            obtain ⟨h1, eh1, hf⟩ := kLet_e hf
            rw [← eh1]
            refine kJ_aload_n 46 0 d_C_addMember_45 rfl rfl rfl rfl ?_
            refine kM_getR 49 2 (x0 + 3) d_C_addMember_46 l_C_22 k0 rfl rfl rfl rfl ?_
            refine kJ_aload_n 50 0 d_C_addMember_49 rfl rfl rfl rfl ?_
            refine kM_getI 53 d_C_addMember_50 l_C_54 k0 rfl rfl rfl ?_
            refine kJ_iload_n 54 2 d_C_addMember_53 rfl rfl rfl ?_
            obtain ⟨hg, hf⟩ := kG_some hf
            refine kM_iast 55 12 d_C_addMember_54 (kk_0_7 k0) rfl hg rfl ?_
            obtain ⟨h2, eh2, hf⟩ := kLet_e hf
            rw [← eh2]
            refine kJ_aload_n 56 0 d_C_addMember_55 rfl rfl rfl rfl ?_
            refine kM_getR 59 3 (x0 + 4) d_C_addMember_56 l_C_25 k0 rfl rfl rfl rfl ?_
            refine kJ_aload_n 60 0 d_C_addMember_59 rfl rfl rfl rfl ?_
            refine kM_getI 63 d_C_addMember_60 l_C_54 k0 rfl rfl rfl ?_
            refine kJ_bipush 65 (-6) d_C_addMember_63 kb_m6 rfl ?_
            obtain ⟨hg, hf⟩ := kG_some hf
            refine kM_iast 66 12 d_C_addMember_65 (kk_0_8 k0) rfl hg rfl ?_
            obtain ⟨h3, eh3, hf⟩ := kLet_e hf
            rw [← eh3]
            refine kJ_aload_n 67 0 d_C_addMember_66 rfl rfl rfl rfl ?_
            refine kM_getI 70 d_C_addMember_67 l_C_54 k0 rfl rfl rfl ?_
            refine kJ_if_ne 73 78 d_C_addMember_70 rfl rfl (fun hc => ?_) (fun hc => ?_)
            · have hf := kIf_f hf hc
              refine kJ_sub [0] rfl ?_
              exact c_C_addMember_78 hro k0 hf
            · have hf := kIf_t hf hc
              refine kJ_aload_n 74 0 d_C_addMember_73 rfl rfl rfl rfl ?_
              refine kJ_iconst 75 0 d_C_addMember_74 ki_0 rfl ?_
              refine kM_put 78 d_C_addMember_75 l_C_9 k0 rfl rfl (kFit_int _) rfl ?_
              obtain ⟨h5, eh5, hf⟩ := kLet_e hf
              rw [← eh5]
              refine kJ_sub [0] rfl ?_
              exact c_C_addMember_78 hro k0 hf
          · have hf := kIf_f hf hc
            refine kJ_bipush 34 (-4) d_C_addMember_32 kb_m4 rfl ?_
            cases hf
            exact kJ_iret d_C_addMember_34 rfl rfl (Nat.zero_le _) (Nat.zero_le _)
        · have hf := kIf_f hf hc
          refine kJ_bipush 22 (-2) d_C_addMember_20 kb_m2 rfl ?_
          cases hf
          exact kJ_iret d_C_addMember_22 rfl rfl (Nat.zero_le _) (Nat.zero_le _)
def f_P_member (h : kH) (x1 : Int32) (x2 : Int32) : Option (Int32 × kH) := kBi (f_Y_note h 145 1) fun h1 => kBd (f_C_addMember h1 1 x1 x2) fun v3 h2 => kBd (f_Y_settle h2 145 v3) fun v5 h4 => some (v5, h4)
theorem j_P_member {E : kE} {L : Nat} {xs : Nat → Int32} (hro : kRo E L xs) {h : kH} {x1 : Int32} {x2 : Int32} {r : Int32} {h' : kH} (hf : f_P_member h x1 x2 = some (r, h')) : JM E m_P_member [.ref 0, .int x1, .int x2] (mk h) (some r) (mk h') := by
  unfold f_P_member at hf
  refine JM.of pn_P (Nat.le_of_ble_eq_true rfl) ?_
  show kJ E m_P_member (some r) (mk h') 0 0 0 [(0, .ref 0), (1, .int x1), (2, .int x2)] [] (mk h)
  refine kJ_aload_n 1 0 d_P_member_0 rfl rfl rfl rfl ?_
  refine kM_getR 4 144 145 d_P_member_1 l_P_29 kp_0 rfl rfl rfl rfl ?_
  refine kJ_aload_n 5 0 d_P_member_4 rfl rfl rfl rfl ?_
  refine kM_getR 8 0 1 d_P_member_5 l_P_10 kp_0 rfl rfl rfl rfl ?_
  obtain ⟨h1, eh1, hf⟩ := kBi_some hf
  refine kM_callv 11 m_Y_note [.ref 1] [] d_P_member_8 cl_P_55 ⟨w_372, w_0⟩ kp_145 ⟨rfl, by decide⟩ ⟨_, _, rfl⟩ rfl rfl (Nat.le_of_ble_eq_true rfl) ⟨Nat.le_of_ble_eq_true rfl, Nat.le_of_ble_eq_true rfl⟩ ⟨rfl, rfl⟩ ⟨Nat.zero_le _, Nat.zero_le _⟩ (j_Y_note hro kp_145 kp_1 eh1) rfl ?_
  refine kJ_aload_n 12 0 d_P_member_11 rfl rfl rfl rfl ?_
  refine kM_getR 15 144 145 d_P_member_12 l_P_29 kp_0 rfl rfl rfl rfl ?_
  refine kJ_aload_n 16 0 d_P_member_15 rfl rfl rfl rfl ?_
  refine kM_getR 19 0 1 d_P_member_16 l_P_10 kp_0 rfl rfl rfl rfl ?_
  refine kJ_iload_n 20 1 d_P_member_19 rfl rfl rfl ?_
  refine kJ_iload_n 21 2 d_P_member_20 rfl rfl rfl ?_
  obtain ⟨v3, h2, ev3, hf⟩ := kBd_some hf
  refine kM_callv 24 m_C_addMember [.int x1, .int x2] [.ref 145] d_P_member_21 cl_P_67 ⟨w_410, w_6⟩ kp_1 ⟨rfl, by decide⟩ ⟨_, _, rfl⟩ rfl rfl (Nat.le_of_ble_eq_true rfl) ⟨Nat.le_of_ble_eq_true rfl, Nat.le_of_ble_eq_true rfl⟩ ⟨rfl, rfl⟩ ⟨Nat.zero_le _, Nat.zero_le _⟩ (j_C_addMember hro kp_1 ev3) rfl ?_
  obtain ⟨v5, h4, ev5, hf⟩ := kBd_some hf
  refine kM_callv 27 m_Y_settle [.int v3] [] d_P_member_24 cl_P_63 ⟨w_396, w_5⟩ kp_145 ⟨rfl, by decide⟩ ⟨_, _, rfl⟩ rfl rfl (Nat.le_of_ble_eq_true rfl) ⟨Nat.le_of_ble_eq_true rfl, Nat.le_of_ble_eq_true rfl⟩ ⟨rfl, rfl⟩ ⟨Nat.zero_le _, Nat.zero_le _⟩ (j_Y_settle hro kp_145 ev5) rfl ?_
  cases hf
  exact kJ_iret d_P_member_27 rfl rfl (Nat.zero_le _) (Nat.zero_le _)
def f_I_begin (h : kH) (x0 : Nat) (x1 : Int32) (x2 : Int32) : Option (kH) := kLet (hset h x0 0 x1) fun h1 => kLet (hset h1 x0 1 x2) fun h2 => kLet (hset h2 x0 2 0) fun h3 => kLet (hset h3 x0 3 0) fun h4 => kLet (hset h4 x0 4 (-6)) fun h5 => kLet (hset h5 x0 5 0) fun h6 => kLet (hfill h6 (x0 + 1) 6 0) fun h7 => kLet (hfill h7 (x0 + 2) 12 (-6)) fun h8 => kLet (hfill h8 (x0 + 3) 12 (-6)) fun h9 => kLet (hfill h9 (x0 + 4) 12 (-6)) fun h10 => some h10
theorem j_I_begin {E : kE} {L : Nat} {xs : Nat → Int32} (hro : kRo E L xs) {h : kH} {x0 : Nat} {x1 : Int32} {x2 : Int32} (k0 : kIs x0 3) {h' : kH} (hf : f_I_begin h x0 x1 x2 = some h') : JM E m_I_begin [.ref x0, .int x1, .int x2] (mk h) none (mk h') := by
  unfold f_I_begin at hf
  refine JM.of pn_I (Nat.le_of_ble_eq_true rfl) ?_
  show kJ E m_I_begin none (mk h') 0 0 0 [(0, .ref x0), (1, .int x1), (2, .int x2)] [] (mk h)
  refine kJ_aload_n 1 0 d_I_begin_0 rfl rfl rfl rfl ?_
  refine kJ_iload_n 2 1 d_I_begin_1 rfl rfl rfl ?_
  refine kM_put 5 d_I_begin_2 l_I_24 k0 rfl rfl (kFit_int _) rfl ?_
  obtain ⟨h1, eh1, hf⟩ := kLet_e hf
  rw [← eh1]
  refine kJ_aload_n 6 0 d_I_begin_5 rfl rfl rfl rfl ?_
  refine kJ_iload_n 7 2 d_I_begin_6 rfl rfl rfl ?_
  refine kM_put 10 d_I_begin_7 l_I_28 k0 rfl rfl (kFit_int _) rfl ?_
  obtain ⟨h2, eh2, hf⟩ := kLet_e hf
  rw [← eh2]
  refine kJ_aload_n 11 0 d_I_begin_10 rfl rfl rfl rfl ?_
  refine kJ_iconst 12 0 d_I_begin_11 ki_0 rfl ?_
  refine kM_put 15 d_I_begin_12 l_I_31 k0 rfl rfl (kFit_int _) rfl ?_
  obtain ⟨h3, eh3, hf⟩ := kLet_e hf
  rw [← eh3]
  refine kJ_aload_n 16 0 d_I_begin_15 rfl rfl rfl rfl ?_
  refine kJ_iconst 17 0 d_I_begin_16 ki_0 rfl ?_
  refine kM_put 20 d_I_begin_17 l_I_34 k0 rfl rfl (kFit_int _) rfl ?_
  obtain ⟨h4, eh4, hf⟩ := kLet_e hf
  rw [← eh4]
  refine kJ_aload_n 21 0 d_I_begin_20 rfl rfl rfl rfl ?_
  refine kJ_bipush 23 (-6) d_I_begin_21 kb_m6 rfl ?_
  refine kM_put 26 d_I_begin_23 l_I_37 k0 rfl rfl (kFit_int _) rfl ?_
  obtain ⟨h5, eh5, hf⟩ := kLet_e hf
  rw [← eh5]
  refine kJ_aload_n 27 0 d_I_begin_26 rfl rfl rfl rfl ?_
  refine kJ_iconst 28 0 d_I_begin_27 ki_0 rfl ?_
  refine kM_put 31 d_I_begin_28 l_I_40 k0 rfl rfl (kFit_int _) rfl ?_
  obtain ⟨h6, eh6, hf⟩ := kLet_e hf
  rw [← eh6]
  refine kJ_aload_n 32 0 d_I_begin_31 rfl rfl rfl rfl ?_
  refine kM_getR 35 0 (x0 + 1) d_I_begin_32 l_I_9 k0 rfl rfl rfl rfl ?_
  refine kJ_iconst 36 0 d_I_begin_35 ki_0 rfl ?_
  refine kM_calls 39 m_JA_fill [.ref (x0 + 1), .int 0] [] d_I_begin_36 cl_I_43 w_425 rfl rfl (Nat.le_of_ble_eq_true rfl) ⟨Nat.le_of_ble_eq_true rfl, Nat.le_of_ble_eq_true rfl⟩ ⟨rfl, rfl⟩ ⟨Nat.zero_le _, Nat.zero_le _⟩ (j_JA_fill hro (kk_3_6 k0) (n := 6) rfl (by decide)) rfl ?_
  obtain ⟨h7, eh7, hf⟩ := kLet_e hf
  rw [← eh7]
  refine kJ_aload_n 40 0 d_I_begin_39 rfl rfl rfl rfl ?_
  refine kM_getR 43 1 (x0 + 2) d_I_begin_40 l_I_15 k0 rfl rfl rfl rfl ?_
  refine kJ_bipush 45 (-6) d_I_begin_43 kb_m6 rfl ?_
  refine kM_calls 48 m_JA_fill [.ref (x0 + 2), .int (-6)] [] d_I_begin_45 cl_I_43 w_425 rfl rfl (Nat.le_of_ble_eq_true rfl) ⟨Nat.le_of_ble_eq_true rfl, Nat.le_of_ble_eq_true rfl⟩ ⟨rfl, rfl⟩ ⟨Nat.zero_le _, Nat.zero_le _⟩ (j_JA_fill hro (kk_3_7 k0) (n := 12) rfl (by decide)) rfl ?_
  obtain ⟨h8, eh8, hf⟩ := kLet_e hf
  rw [← eh8]
  refine kJ_aload_n 49 0 d_I_begin_48 rfl rfl rfl rfl ?_
  refine kM_getR 52 2 (x0 + 3) d_I_begin_49 l_I_18 k0 rfl rfl rfl rfl ?_
  refine kJ_bipush 54 (-6) d_I_begin_52 kb_m6 rfl ?_
  refine kM_calls 57 m_JA_fill [.ref (x0 + 3), .int (-6)] [] d_I_begin_54 cl_I_43 w_425 rfl rfl (Nat.le_of_ble_eq_true rfl) ⟨Nat.le_of_ble_eq_true rfl, Nat.le_of_ble_eq_true rfl⟩ ⟨rfl, rfl⟩ ⟨Nat.zero_le _, Nat.zero_le _⟩ (j_JA_fill hro (kk_3_8 k0) (n := 12) rfl (by decide)) rfl ?_
  obtain ⟨h9, eh9, hf⟩ := kLet_e hf
  rw [← eh9]
  refine kJ_aload_n 58 0 d_I_begin_57 rfl rfl rfl rfl ?_
  refine kM_getR 61 3 (x0 + 4) d_I_begin_58 l_I_21 k0 rfl rfl rfl rfl ?_
  refine kJ_bipush 63 (-6) d_I_begin_61 kb_m6 rfl ?_
  refine kM_calls 66 m_JA_fill [.ref (x0 + 4), .int (-6)] [] d_I_begin_63 cl_I_43 w_425 rfl rfl (Nat.le_of_ble_eq_true rfl) ⟨Nat.le_of_ble_eq_true rfl, Nat.le_of_ble_eq_true rfl⟩ ⟨rfl, rfl⟩ ⟨Nat.zero_le _, Nat.zero_le _⟩ (j_JA_fill hro (kk_3_9 k0) (n := 12) rfl (by decide)) rfl ?_
  obtain ⟨h10, eh10, hf⟩ := kLet_e hf
  rw [← eh10]
  cases hf
  exact kJ_ret d_I_begin_66 rfl (Nat.zero_le _) (Nat.zero_le _)
def f_C_addItem (h : kH) (x0 : Nat) (x1 : Int32) (x2 : Int32) : Option (Int32 × kH) := if x1 < 0 then (some ((-2), h)) else (if 2 < x1 then (some ((-2), h)) else (if x2 < 0 then (some ((-2), h)) else (if x2 ≤ 15 then (if (h x0 2) < 12 then (kG (h x0 2) 12 (kBi (f_I_begin h (x0 + 10 + 5 * kx (h x0 2)) x1 x2) fun h2 => kLet (hset h2 x0 2 ((h2 x0 2) + 1)) fun h3 => some ((h2 x0 2), h3))) else (some ((-4), h))) else (some ((-2), h)))))
theorem j_C_addItem {E : kE} {L : Nat} {xs : Nat → Int32} (hro : kRo E L xs) {h : kH} {x0 : Nat} {x1 : Int32} {x2 : Int32} (k0 : kIs x0 0) {r : Int32} {h' : kH} (hf : f_C_addItem h x0 x1 x2 = some (r, h')) : JM E m_C_addItem [.ref x0, .int x1, .int x2] (mk h) (some r) (mk h') := by
  unfold f_C_addItem at hf
  refine JM.of pn_C (Nat.le_of_ble_eq_true rfl) ?_
  show kJ E m_C_addItem (some r) (mk h') 0 0 0 [(0, .ref x0), (1, .int x1), (2, .int x2)] [] (mk h)
  refine kJ_iload_n 1 1 d_C_addItem_0 rfl rfl rfl ?_
  refine kJ_if_lt 4 19 d_C_addItem_1 rfl rfl (fun hc => ?_) (fun hc => ?_)
  · have hf := kIf_t hf hc
    refine kJ_bipush 21 (-2) d_C_addItem_19 kb_m2 rfl ?_
    cases hf
    exact kJ_iret d_C_addItem_21 rfl rfl (Nat.zero_le _) (Nat.zero_le _)
  · have hf := kIf_f hf hc
    refine kJ_iload_n 5 1 d_C_addItem_4 rfl rfl rfl ?_
    refine kJ_iconst 6 2 d_C_addItem_5 ki_2 rfl ?_
    refine kJ_icmp_gt 9 19 d_C_addItem_6 rfl rfl (fun hc => ?_) (fun hc => ?_)
    · have hf := kIf_t hf hc
      refine kJ_bipush 21 (-2) d_C_addItem_19 kb_m2 rfl ?_
      cases hf
      exact kJ_iret d_C_addItem_21 rfl rfl (Nat.zero_le _) (Nat.zero_le _)
    · have hf := kIf_f hf hc
      refine kJ_iload_n 10 2 d_C_addItem_9 rfl rfl rfl ?_
      refine kJ_if_lt 13 19 d_C_addItem_10 rfl rfl (fun hc => ?_) (fun hc => ?_)
      · have hf := kIf_t hf hc
        refine kJ_bipush 21 (-2) d_C_addItem_19 kb_m2 rfl ?_
        cases hf
        exact kJ_iret d_C_addItem_21 rfl rfl (Nat.zero_le _) (Nat.zero_le _)
      · have hf := kIf_f hf hc
        refine kJ_iload_n 14 2 d_C_addItem_13 rfl rfl rfl ?_
        refine kJ_bipush 16 15 d_C_addItem_14 kb_15 rfl ?_
        refine kJ_icmp_le 19 22 d_C_addItem_16 rfl rfl (fun hc => ?_) (fun hc => ?_)
        · have hf := kIf_t hf hc
          refine kJ_aload_n 23 0 d_C_addItem_22 rfl rfl rfl rfl ?_
          refine kM_getI 26 d_C_addItem_23 l_C_57 k0 rfl rfl rfl ?_
          refine kJ_bipush 28 12 d_C_addItem_26 kb_12 rfl ?_
          refine kJ_icmp_lt 31 34 d_C_addItem_28 rfl rfl (fun hc => ?_) (fun hc => ?_)
          · have hf := kIf_t hf hc
            refine kJ_aload_n 35 0 d_C_addItem_34 rfl rfl rfl rfl ?_
            refine kM_getR 38 4 (x0 + 5) d_C_addItem_35 l_C_30 k0 rfl rfl rfl rfl ?_
            refine kJ_aload_n 39 0 d_C_addItem_38 rfl rfl rfl rfl ?_
            refine kM_getI 42 d_C_addItem_39 l_C_57 k0 rfl rfl rfl ?_
            obtain ⟨hg1, hf⟩ := kG_some hf
            refine kM_aald 43 12 5 5 (x0 + 10 + 5 * kx (h x0 2)) d_C_addItem_42 (kk_0_9 k0) rfl (by decide) (Or.inl rfl) hg1 (by simp only [Nat.add_assoc, kx]; try omega) rfl ?_
            refine kJ_iload_n 44 1 d_C_addItem_43 rfl rfl rfl ?_
            refine kJ_iload_n 45 2 d_C_addItem_44 rfl rfl rfl ?_
            obtain ⟨h2, eh2, hf⟩ := kBi_some hf
            refine kM_callv 48 m_I_begin [.int x1, .int x2] [] d_C_addItem_45 cl_C_101 ⟨w_422, w_8⟩ (kC_item k0 (kIn_lt hg1)) ⟨rfl, by decide⟩ ⟨_, _, rfl⟩ rfl rfl (Nat.le_of_ble_eq_true rfl) ⟨Nat.le_of_ble_eq_true rfl, Nat.le_of_ble_eq_true rfl⟩ ⟨rfl, rfl⟩ ⟨Nat.zero_le _, Nat.zero_le _⟩ (j_I_begin hro (kC_item k0 (kIn_lt hg1)) eh2) rfl ?_
            refine kJ_aload_n 49 0 d_C_addItem_48 rfl rfl rfl rfl ?_
            refine kJ_dup 50 d_C_addItem_49 rfl rfl ?_
            refine kM_getI 53 d_C_addItem_50 l_C_57 k0 rfl rfl rfl ?_
            refine kJ_dup_x1 54 d_C_addItem_53 rfl rfl rfl ?_
            refine kJ_iconst 55 1 d_C_addItem_54 ki_1 rfl ?_
            refine kJ_iadd 56 d_C_addItem_55 rfl ?_
            refine kM_put 59 d_C_addItem_56 l_C_57 k0 rfl rfl (kFit_int _) rfl ?_
            obtain ⟨h3, eh3, hf⟩ := kLet_e hf
            rw [← eh3]
            cases hf
            exact kJ_iret d_C_addItem_59 rfl rfl (Nat.zero_le _) (Nat.zero_le _)
          · have hf := kIf_f hf hc
            refine kJ_bipush 33 (-4) d_C_addItem_31 kb_m4 rfl ?_
            cases hf
            exact kJ_iret d_C_addItem_33 rfl rfl (Nat.zero_le _) (Nat.zero_le _)
        · have hf := kIf_f hf hc
          refine kJ_bipush 21 (-2) d_C_addItem_19 kb_m2 rfl ?_
          cases hf
          exact kJ_iret d_C_addItem_21 rfl rfl (Nat.zero_le _) (Nat.zero_le _)
def f_P_item (h : kH) (x1 : Int32) (x2 : Int32) : Option (Int32 × kH) := kBi (f_Y_note h 145 1) fun h1 => kBd (f_C_addItem h1 1 x1 x2) fun v3 h2 => kBd (f_Y_settle h2 145 v3) fun v5 h4 => some (v5, h4)
theorem j_P_item {E : kE} {L : Nat} {xs : Nat → Int32} (hro : kRo E L xs) {h : kH} {x1 : Int32} {x2 : Int32} {r : Int32} {h' : kH} (hf : f_P_item h x1 x2 = some (r, h')) : JM E m_P_item [.ref 0, .int x1, .int x2] (mk h) (some r) (mk h') := by
  unfold f_P_item at hf
  refine JM.of pn_P (Nat.le_of_ble_eq_true rfl) ?_
  show kJ E m_P_item (some r) (mk h') 0 0 0 [(0, .ref 0), (1, .int x1), (2, .int x2)] [] (mk h)
  refine kJ_aload_n 1 0 d_P_item_0 rfl rfl rfl rfl ?_
  refine kM_getR 4 144 145 d_P_item_1 l_P_29 kp_0 rfl rfl rfl rfl ?_
  refine kJ_aload_n 5 0 d_P_item_4 rfl rfl rfl rfl ?_
  refine kM_getR 8 0 1 d_P_item_5 l_P_10 kp_0 rfl rfl rfl rfl ?_
  obtain ⟨h1, eh1, hf⟩ := kBi_some hf
  refine kM_callv 11 m_Y_note [.ref 1] [] d_P_item_8 cl_P_55 ⟨w_372, w_0⟩ kp_145 ⟨rfl, by decide⟩ ⟨_, _, rfl⟩ rfl rfl (Nat.le_of_ble_eq_true rfl) ⟨Nat.le_of_ble_eq_true rfl, Nat.le_of_ble_eq_true rfl⟩ ⟨rfl, rfl⟩ ⟨Nat.zero_le _, Nat.zero_le _⟩ (j_Y_note hro kp_145 kp_1 eh1) rfl ?_
  refine kJ_aload_n 12 0 d_P_item_11 rfl rfl rfl rfl ?_
  refine kM_getR 15 144 145 d_P_item_12 l_P_29 kp_0 rfl rfl rfl rfl ?_
  refine kJ_aload_n 16 0 d_P_item_15 rfl rfl rfl rfl ?_
  refine kM_getR 19 0 1 d_P_item_16 l_P_10 kp_0 rfl rfl rfl rfl ?_
  refine kJ_iload_n 20 1 d_P_item_19 rfl rfl rfl ?_
  refine kJ_iload_n 21 2 d_P_item_20 rfl rfl rfl ?_
  obtain ⟨v3, h2, ev3, hf⟩ := kBd_some hf
  refine kM_callv 24 m_C_addItem [.int x1, .int x2] [.ref 145] d_P_item_21 cl_P_70 ⟨w_418, w_7⟩ kp_1 ⟨rfl, by decide⟩ ⟨_, _, rfl⟩ rfl rfl (Nat.le_of_ble_eq_true rfl) ⟨Nat.le_of_ble_eq_true rfl, Nat.le_of_ble_eq_true rfl⟩ ⟨rfl, rfl⟩ ⟨Nat.zero_le _, Nat.zero_le _⟩ (j_C_addItem hro kp_1 ev3) rfl ?_
  obtain ⟨v5, h4, ev5, hf⟩ := kBd_some hf
  refine kM_callv 27 m_Y_settle [.int v3] [] d_P_item_24 cl_P_63 ⟨w_396, w_5⟩ kp_145 ⟨rfl, by decide⟩ ⟨_, _, rfl⟩ rfl rfl (Nat.le_of_ble_eq_true rfl) ⟨Nat.le_of_ble_eq_true rfl, Nat.le_of_ble_eq_true rfl⟩ ⟨rfl, rfl⟩ ⟨Nat.zero_le _, Nat.zero_le _⟩ (j_Y_settle hro kp_145 ev5) rfl ?_
  cases hf
  exact kJ_iret d_P_item_27 rfl rfl (Nat.zero_le _) (Nat.zero_le _)
def f_C_hasMember (h : kH) (x0 : Nat) (x1 : Int32) : Bool := if x1 < 0 then false else (if (h x0 1) ≤ x1 then false else true)
theorem j_C_hasMember {E : kE} {L : Nat} {xs : Nat → Int32} (hro : kRo E L xs) {h : kH} {x0 : Nat} {x1 : Int32} (k0 : kIs x0 0) {r : Bool} (hf : f_C_hasMember h x0 x1 = r) : JM E m_C_hasMember [.ref x0, .int x1] (mk h) (some (kB2 r)) (mk h) := by
  unfold f_C_hasMember at hf
  refine JM.of pn_C (Nat.le_of_ble_eq_true rfl) ?_
  show kJ E m_C_hasMember (some (kB2 r)) (mk h) 0 0 0 [(0, .ref x0), (1, .int x1)] [] (mk h)
  refine kJ_iload_n 1 1 d_C_hasMember_0 rfl rfl rfl ?_
  refine kJ_if_lt 4 16 d_C_hasMember_1 rfl rfl (fun hc => ?_) (fun hc => ?_)
  · have hf := kIf_t hf hc
    refine kJ_iconst 17 0 d_C_hasMember_16 ki_0 rfl ?_
    subst hf
    exact kJ_iret d_C_hasMember_17 rfl (kB2_z _) (Nat.zero_le _) (Nat.zero_le _)
  · have hf := kIf_f hf hc
    refine kJ_iload_n 5 1 d_C_hasMember_4 rfl rfl rfl ?_
    refine kJ_aload_n 6 0 d_C_hasMember_5 rfl rfl rfl rfl ?_
    refine kM_getI 9 d_C_hasMember_6 l_C_54 k0 rfl rfl rfl ?_
    refine kJ_icmp_ge 12 16 d_C_hasMember_9 rfl rfl (fun hc => ?_) (fun hc => ?_)
    · have hf := kIf_t hf hc
      refine kJ_iconst 17 0 d_C_hasMember_16 ki_0 rfl ?_
      subst hf
      exact kJ_iret d_C_hasMember_17 rfl (kB2_z _) (Nat.zero_le _) (Nat.zero_le _)
    · have hf := kIf_f hf hc
      refine kJ_iconst 13 1 d_C_hasMember_12 ki_1 rfl ?_
      refine kJ_goto 17 d_C_hasMember_13 rfl ?_
      subst hf
      exact kJ_iret d_C_hasMember_17 rfl (kB2_z _) (Nat.zero_le _) (Nat.zero_le _)
def f_C_nameChair (h : kH) (x0 : Nat) (x1 : Int32) : Option (Int32 × kH) := if (f_C_hasMember h x0 x1) = true then (kLet (hset h x0 4 x1) fun h1 => some ((h x0 4), h1)) else (some ((-1), h))
theorem j_C_nameChair {E : kE} {L : Nat} {xs : Nat → Int32} (hro : kRo E L xs) {h : kH} {x0 : Nat} {x1 : Int32} (k0 : kIs x0 0) {r : Int32} {h' : kH} (hf : f_C_nameChair h x0 x1 = some (r, h')) : JM E m_C_nameChair [.ref x0, .int x1] (mk h) (some r) (mk h') := by
  unfold f_C_nameChair at hf
  refine JM.of pn_C (Nat.le_of_ble_eq_true rfl) ?_
  show kJ E m_C_nameChair (some r) (mk h') 0 0 0 [(0, .ref x0), (1, .int x1)] [] (mk h)
  refine kJ_aload_n 1 0 d_C_nameChair_0 rfl rfl rfl rfl ?_
  refine kJ_iload_n 2 1 d_C_nameChair_1 rfl rfl rfl ?_
  refine kM_callv 5 m_C_hasMember [.int x1] [] d_C_nameChair_2 cl_C_105 ⟨w_437, w_10⟩ k0 ⟨rfl, by decide⟩ ⟨_, _, rfl⟩ rfl rfl (Nat.le_of_ble_eq_true rfl) ⟨Nat.le_of_ble_eq_true rfl, Nat.le_of_ble_eq_true rfl⟩ ⟨rfl, rfl⟩ ⟨Nat.zero_le _, Nat.zero_le _⟩ (j_C_hasMember hro k0 rfl) rfl ?_
  refine kJ_if_ne 8 10 d_C_nameChair_5 rfl rfl (fun hc => ?_) (fun hc => ?_)
  · have hf := kIf_t hf (kB2_1 hc)
    refine kJ_aload_n 11 0 d_C_nameChair_10 rfl rfl rfl rfl ?_
    refine kM_getI 14 d_C_nameChair_11 l_C_9 k0 rfl rfl rfl ?_
    refine kJ_istore_n 15 [(2, .int (h x0 4)), (0, .ref x0), (1, .int x1)] d_C_nameChair_14 rfl (Nat.le_of_ble_eq_true rfl) rfl rfl ?_
    refine kJ_aload_n 16 1 d_C_nameChair_15 rfl rfl rfl rfl ?_
    refine kJ_iload_n 17 2 d_C_nameChair_16 rfl rfl rfl ?_
    refine kM_put 20 d_C_nameChair_17 l_C_9 k0 rfl rfl (kFit_int _) rfl ?_
    obtain ⟨h1, eh1, hf⟩ := kLet_e hf
    rw [← eh1]
    refine kJ_iload_n 21 0 d_C_nameChair_20 rfl rfl rfl ?_
    cases hf
    exact kJ_iret d_C_nameChair_21 rfl rfl (Nat.zero_le _) (Nat.zero_le _)
  · have hf := kIf_f hf (kB2_0 hc)
    refine kJ_iconst 9 (-1) d_C_nameChair_8 ki_m1 rfl ?_
    cases hf
    exact kJ_iret d_C_nameChair_9 rfl rfl (Nat.zero_le _) (Nat.zero_le _)
def f_P_chair (h : kH) (x1 : Int32) : Option (Int32 × kH) := kBi (f_Y_note h 145 1) fun h1 => kBd (f_C_nameChair h1 1 x1) fun v3 h2 => kBd (f_Y_settle h2 145 v3) fun v5 h4 => some (v5, h4)
theorem j_P_chair {E : kE} {L : Nat} {xs : Nat → Int32} (hro : kRo E L xs) {h : kH} {x1 : Int32} {r : Int32} {h' : kH} (hf : f_P_chair h x1 = some (r, h')) : JM E m_P_chair [.ref 0, .int x1] (mk h) (some r) (mk h') := by
  unfold f_P_chair at hf
  refine JM.of pn_P (Nat.le_of_ble_eq_true rfl) ?_
  show kJ E m_P_chair (some r) (mk h') 0 0 0 [(0, .ref 0), (1, .int x1)] [] (mk h)
  refine kJ_aload_n 1 0 d_P_chair_0 rfl rfl rfl rfl ?_
  refine kM_getR 4 144 145 d_P_chair_1 l_P_29 kp_0 rfl rfl rfl rfl ?_
  refine kJ_aload_n 5 0 d_P_chair_4 rfl rfl rfl rfl ?_
  refine kM_getR 8 0 1 d_P_chair_5 l_P_10 kp_0 rfl rfl rfl rfl ?_
  obtain ⟨h1, eh1, hf⟩ := kBi_some hf
  refine kM_callv 11 m_Y_note [.ref 1] [] d_P_chair_8 cl_P_55 ⟨w_372, w_0⟩ kp_145 ⟨rfl, by decide⟩ ⟨_, _, rfl⟩ rfl rfl (Nat.le_of_ble_eq_true rfl) ⟨Nat.le_of_ble_eq_true rfl, Nat.le_of_ble_eq_true rfl⟩ ⟨rfl, rfl⟩ ⟨Nat.zero_le _, Nat.zero_le _⟩ (j_Y_note hro kp_145 kp_1 eh1) rfl ?_
  refine kJ_aload_n 12 0 d_P_chair_11 rfl rfl rfl rfl ?_
  refine kM_getR 15 144 145 d_P_chair_12 l_P_29 kp_0 rfl rfl rfl rfl ?_
  refine kJ_aload_n 16 0 d_P_chair_15 rfl rfl rfl rfl ?_
  refine kM_getR 19 0 1 d_P_chair_16 l_P_10 kp_0 rfl rfl rfl rfl ?_
  refine kJ_iload_n 20 1 d_P_chair_19 rfl rfl rfl ?_
  obtain ⟨v3, h2, ev3, hf⟩ := kBd_some hf
  refine kM_callv 23 m_C_nameChair [.int x1] [.ref 145] d_P_chair_20 cl_P_73 ⟨w_433, w_9⟩ kp_1 ⟨rfl, by decide⟩ ⟨_, _, rfl⟩ rfl rfl (Nat.le_of_ble_eq_true rfl) ⟨Nat.le_of_ble_eq_true rfl, Nat.le_of_ble_eq_true rfl⟩ ⟨rfl, rfl⟩ ⟨Nat.zero_le _, Nat.zero_le _⟩ (j_C_nameChair hro kp_1 ev3) rfl ?_
  obtain ⟨v5, h4, ev5, hf⟩ := kBd_some hf
  refine kM_callv 26 m_Y_settle [.int v3] [] d_P_chair_23 cl_P_63 ⟨w_396, w_5⟩ kp_145 ⟨rfl, by decide⟩ ⟨_, _, rfl⟩ rfl rfl (Nat.le_of_ble_eq_true rfl) ⟨Nat.le_of_ble_eq_true rfl, Nat.le_of_ble_eq_true rfl⟩ ⟨rfl, rfl⟩ ⟨Nat.zero_le _, Nat.zero_le _⟩ (j_Y_settle hro kp_145 ev5) rfl ?_
  cases hf
  exact kJ_iret d_P_chair_26 rfl rfl (Nat.zero_le _) (Nat.zero_le _)
def f_C_isPresent (h : kH) (x0 : Nat) (x1 : Int32) : Bool := if (((h x0 3) >>> (x1 &&& 31)) &&& 1) = 1 then true else false
theorem j_C_isPresent {E : kE} {L : Nat} {xs : Nat → Int32} (hro : kRo E L xs) {h : kH} {x0 : Nat} {x1 : Int32} (k0 : kIs x0 0) {r : Bool} (hf : f_C_isPresent h x0 x1 = r) : JM E m_C_isPresent [.ref x0, .int x1] (mk h) (some (kB2 r)) (mk h) := by
  unfold f_C_isPresent at hf
  refine JM.of pn_C (Nat.le_of_ble_eq_true rfl) ?_
  show kJ E m_C_isPresent (some (kB2 r)) (mk h) 0 0 0 [(0, .ref x0), (1, .int x1)] [] (mk h)
  refine kJ_aload_n 1 0 d_C_isPresent_0 rfl rfl rfl rfl ?_
  refine kM_getI 4 d_C_isPresent_1 l_C_60 k0 rfl rfl rfl ?_
  refine kJ_iload_n 5 1 d_C_isPresent_4 rfl rfl rfl ?_
  refine kJ_ishr 6 d_C_isPresent_5 rfl ?_
  refine kJ_iconst 7 1 d_C_isPresent_6 ki_1 rfl ?_
  refine kJ_iand 8 d_C_isPresent_7 rfl ?_
  refine kJ_iconst 9 1 d_C_isPresent_8 ki_1 rfl ?_
  refine kJ_icmp_ne 12 16 d_C_isPresent_9 rfl rfl (fun hc => ?_) (fun hc => ?_)
  · have hf := kIf_f hf hc
    refine kJ_iconst 17 0 d_C_isPresent_16 ki_0 rfl ?_
    subst hf
    exact kJ_iret d_C_isPresent_17 rfl (kB2_z _) (Nat.zero_le _) (Nat.zero_le _)
  · have hf := kIf_t hf hc
    refine kJ_iconst 13 1 d_C_isPresent_12 ki_1 rfl ?_
    refine kJ_goto 17 d_C_isPresent_13 rfl ?_
    subst hf
    exact kJ_iret d_C_isPresent_17 rfl (kB2_z _) (Nat.zero_le _) (Nat.zero_le _)
def f_JI_bitCount (x0 : Int32) : Int32 := kLet (x0 - ((kUshr x0 1) &&& 1431655765)) fun v1 => kLet ((v1 &&& 858993459) + ((kUshr v1 2) &&& 858993459)) fun v2 => kLet ((v2 + (kUshr v2 4)) &&& 252645135) fun v3 => kLet ((v3 + (kUshr v3 8)) + (kUshr (v3 + (kUshr v3 8)) 16)) fun v4 => (v4 &&& 63)
theorem j_JI_bitCount {E : kE} {L : Nat} {xs : Nat → Int32} (hro : kRo E L xs) {h0 : kH} {x0 : Int32} {r : Int32} (hf : f_JI_bitCount x0 = r) : JM E m_JI_bitCount [.int x0] (mk h0) (some r) (mk h0) := by
  unfold f_JI_bitCount at hf
  refine JM.of pn_JI (Nat.le_of_ble_eq_true rfl) ?_
  show kJ E m_JI_bitCount (some r) (mk h0) 0 0 0 [(0, .int x0)] [] (mk h0)
  refine kJ_iload_n 1 0 d_JI_bitCount_0 rfl rfl rfl ?_
  refine kJ_iload_n 2 0 d_JI_bitCount_1 rfl rfl rfl ?_
  refine kJ_iconst 3 1 d_JI_bitCount_2 ki_1 rfl ?_
  refine kJ_iushr 4 d_JI_bitCount_3 rfl ?_
  refine kJ_ldcw 7 1431655765 d_JI_bitCount_4 w_454 rfl ?_
  refine kJ_iand 8 d_JI_bitCount_7 rfl ?_
  refine kJ_isub 9 d_JI_bitCount_8 rfl ?_
  obtain ⟨v1, ev1, hf⟩ := kLet_e hf
  rw [← ev1]
  refine kJ_istore_n 10 [(0, .int v1)] d_JI_bitCount_9 rfl (Nat.le_of_ble_eq_true rfl) rfl rfl ?_
  refine kJ_iload_n 11 0 d_JI_bitCount_10 rfl rfl rfl ?_
  refine kJ_ldcw 14 858993459 d_JI_bitCount_11 w_455 rfl ?_
  refine kJ_iand 15 d_JI_bitCount_14 rfl ?_
  refine kJ_iload_n 16 0 d_JI_bitCount_15 rfl rfl rfl ?_
  refine kJ_iconst 17 2 d_JI_bitCount_16 ki_2 rfl ?_
  refine kJ_iushr 18 d_JI_bitCount_17 rfl ?_
  refine kJ_ldcw 21 858993459 d_JI_bitCount_18 w_455 rfl ?_
  refine kJ_iand 22 d_JI_bitCount_21 rfl ?_
  refine kJ_iadd 23 d_JI_bitCount_22 rfl ?_
  obtain ⟨v2, ev2, hf⟩ := kLet_e hf
  rw [← ev2]
  refine kJ_istore_n 24 [(0, .int v2)] d_JI_bitCount_23 rfl (Nat.le_of_ble_eq_true rfl) rfl rfl ?_
  refine kJ_iload_n 25 0 d_JI_bitCount_24 rfl rfl rfl ?_
  refine kJ_iload_n 26 0 d_JI_bitCount_25 rfl rfl rfl ?_
  refine kJ_iconst 27 4 d_JI_bitCount_26 ki_4 rfl ?_
  refine kJ_iushr 28 d_JI_bitCount_27 rfl ?_
  refine kJ_iadd 29 d_JI_bitCount_28 rfl ?_
  refine kJ_ldcw 32 252645135 d_JI_bitCount_29 w_456 rfl ?_
  refine kJ_iand 33 d_JI_bitCount_32 rfl ?_
  obtain ⟨v3, ev3, hf⟩ := kLet_e hf
  rw [← ev3]
  refine kJ_istore_n 34 [(0, .int v3)] d_JI_bitCount_33 rfl (Nat.le_of_ble_eq_true rfl) rfl rfl ?_
  refine kJ_iload_n 35 0 d_JI_bitCount_34 rfl rfl rfl ?_
  refine kJ_iload_n 36 0 d_JI_bitCount_35 rfl rfl rfl ?_
  refine kJ_bipush 38 8 d_JI_bitCount_36 kb_8 rfl ?_
  refine kJ_iushr 39 d_JI_bitCount_38 rfl ?_
  refine kJ_iadd 40 d_JI_bitCount_39 rfl ?_
  refine kJ_istore_n 41 [(0, .int (v3 + (kUshr v3 8)))] d_JI_bitCount_40 rfl (Nat.le_of_ble_eq_true rfl) rfl rfl ?_
  refine kJ_iload_n 42 0 d_JI_bitCount_41 rfl rfl rfl ?_
  refine kJ_iload_n 43 0 d_JI_bitCount_42 rfl rfl rfl ?_
  refine kJ_bipush 45 16 d_JI_bitCount_43 kb_16 rfl ?_
  refine kJ_iushr 46 d_JI_bitCount_45 rfl ?_
  refine kJ_iadd 47 d_JI_bitCount_46 rfl ?_
  obtain ⟨v4, ev4, hf⟩ := kLet_e hf
  rw [← ev4]
  refine kJ_istore_n 48 [(0, .int v4)] d_JI_bitCount_47 rfl (Nat.le_of_ble_eq_true rfl) rfl rfl ?_
  refine kJ_iload_n 49 0 d_JI_bitCount_48 rfl rfl rfl ?_
  refine kJ_bipush 51 63 d_JI_bitCount_49 kb_63 rfl ?_
  refine kJ_iand 52 d_JI_bitCount_51 rfl ?_
  subst hf
  exact kJ_iret d_JI_bitCount_52 rfl rfl (Nat.zero_le _) (Nat.zero_le _)
def f_C_bringIn (h : kH) (x0 : Nat) (x1 : Int32) : Option (Int32 × kH) := if (f_C_hasMember h x0 x1) = true then (if (f_C_isPresent h x0 x1) = true then (some ((-5), h)) else (kLet (hset h x0 3 ((h x0 3) ||| (1 <<< (x1 &&& 31)))) fun h1 => some ((f_JI_bitCount (h1 x0 3)), h1))) else (some ((-1), h))
theorem j_C_bringIn {E : kE} {L : Nat} {xs : Nat → Int32} (hro : kRo E L xs) {h : kH} {x0 : Nat} {x1 : Int32} (k0 : kIs x0 0) {r : Int32} {h' : kH} (hf : f_C_bringIn h x0 x1 = some (r, h')) : JM E m_C_bringIn [.ref x0, .int x1] (mk h) (some r) (mk h') := by
  unfold f_C_bringIn at hf
  refine JM.of pn_C (Nat.le_of_ble_eq_true rfl) ?_
  show kJ E m_C_bringIn (some r) (mk h') 0 0 0 [(0, .ref x0), (1, .int x1)] [] (mk h)
  refine kJ_aload_n 1 0 d_C_bringIn_0 rfl rfl rfl rfl ?_
  refine kJ_iload_n 2 1 d_C_bringIn_1 rfl rfl rfl ?_
  refine kM_callv 5 m_C_hasMember [.int x1] [] d_C_bringIn_2 cl_C_105 ⟨w_437, w_10⟩ k0 ⟨rfl, by decide⟩ ⟨_, _, rfl⟩ rfl rfl (Nat.le_of_ble_eq_true rfl) ⟨Nat.le_of_ble_eq_true rfl, Nat.le_of_ble_eq_true rfl⟩ ⟨rfl, rfl⟩ ⟨Nat.zero_le _, Nat.zero_le _⟩ (j_C_hasMember hro k0 rfl) rfl ?_
  refine kJ_if_ne 8 10 d_C_bringIn_5 rfl rfl (fun hc => ?_) (fun hc => ?_)
  · have hf := kIf_t hf (kB2_1 hc)
    refine kJ_aload_n 11 0 d_C_bringIn_10 rfl rfl rfl rfl ?_
    refine kJ_iload_n 12 1 d_C_bringIn_11 rfl rfl rfl ?_
    refine kM_callv 15 m_C_isPresent [.int x1] [] d_C_bringIn_12 cl_C_76 ⟨w_449, w_12⟩ k0 ⟨rfl, by decide⟩ ⟨_, _, rfl⟩ rfl rfl (Nat.le_of_ble_eq_true rfl) ⟨Nat.le_of_ble_eq_true rfl, Nat.le_of_ble_eq_true rfl⟩ ⟨rfl, rfl⟩ ⟨Nat.zero_le _, Nat.zero_le _⟩ (j_C_isPresent hro k0 rfl) rfl ?_
    refine kJ_if_eq 18 21 d_C_bringIn_15 rfl rfl (fun hc => ?_) (fun hc => ?_)
    · have hf := kIf_f hf (kB2_0 hc)
      refine kJ_aload_n 22 0 d_C_bringIn_21 rfl rfl rfl rfl ?_
      refine kJ_dup 23 d_C_bringIn_22 rfl rfl ?_
      refine kM_getI 26 d_C_bringIn_23 l_C_60 k0 rfl rfl rfl ?_
      refine kJ_iconst 27 1 d_C_bringIn_26 ki_1 rfl ?_
      refine kJ_iload_n 28 1 d_C_bringIn_27 rfl rfl rfl ?_
      refine kJ_ishl 29 d_C_bringIn_28 rfl ?_
      refine kJ_ior 30 d_C_bringIn_29 rfl ?_
      refine kM_put 33 d_C_bringIn_30 l_C_60 k0 rfl rfl (kFit_int _) rfl ?_
      obtain ⟨h1, eh1, hf⟩ := kLet_e hf
      rw [← eh1]
      refine kJ_aload_n 34 0 d_C_bringIn_33 rfl rfl rfl rfl ?_
      refine kM_getI 37 d_C_bringIn_34 l_C_60 k0 rfl rfl rfl ?_
      refine kM_calls 40 m_JI_bitCount [.int (h1 x0 3)] [] d_C_bringIn_37 cl_C_108 w_452 rfl rfl (Nat.le_of_ble_eq_true rfl) ⟨Nat.le_of_ble_eq_true rfl, Nat.le_of_ble_eq_true rfl⟩ ⟨rfl, rfl⟩ ⟨Nat.zero_le _, Nat.zero_le _⟩ (j_JI_bitCount hro rfl) rfl ?_
      cases hf
      exact kJ_iret d_C_bringIn_40 rfl rfl (Nat.zero_le _) (Nat.zero_le _)
    · have hf := kIf_t hf (kB2_1 hc)
      refine kJ_bipush 20 (-5) d_C_bringIn_18 kb_m5 rfl ?_
      cases hf
      exact kJ_iret d_C_bringIn_20 rfl rfl (Nat.zero_le _) (Nat.zero_le _)
  · have hf := kIf_f hf (kB2_0 hc)
    refine kJ_iconst 9 (-1) d_C_bringIn_8 ki_m1 rfl ?_
    cases hf
    exact kJ_iret d_C_bringIn_9 rfl rfl (Nat.zero_le _) (Nat.zero_le _)
def f_P_come (h : kH) (x1 : Int32) : Option (Int32 × kH) := kBi (f_Y_note h 145 1) fun h1 => kBd (f_C_bringIn h1 1 x1) fun v3 h2 => kBd (f_Y_settle h2 145 v3) fun v5 h4 => some (v5, h4)
theorem j_P_come {E : kE} {L : Nat} {xs : Nat → Int32} (hro : kRo E L xs) {h : kH} {x1 : Int32} {r : Int32} {h' : kH} (hf : f_P_come h x1 = some (r, h')) : JM E m_P_come [.ref 0, .int x1] (mk h) (some r) (mk h') := by
  unfold f_P_come at hf
  refine JM.of pn_P (Nat.le_of_ble_eq_true rfl) ?_
  show kJ E m_P_come (some r) (mk h') 0 0 0 [(0, .ref 0), (1, .int x1)] [] (mk h)
  refine kJ_aload_n 1 0 d_P_come_0 rfl rfl rfl rfl ?_
  refine kM_getR 4 144 145 d_P_come_1 l_P_29 kp_0 rfl rfl rfl rfl ?_
  refine kJ_aload_n 5 0 d_P_come_4 rfl rfl rfl rfl ?_
  refine kM_getR 8 0 1 d_P_come_5 l_P_10 kp_0 rfl rfl rfl rfl ?_
  obtain ⟨h1, eh1, hf⟩ := kBi_some hf
  refine kM_callv 11 m_Y_note [.ref 1] [] d_P_come_8 cl_P_55 ⟨w_372, w_0⟩ kp_145 ⟨rfl, by decide⟩ ⟨_, _, rfl⟩ rfl rfl (Nat.le_of_ble_eq_true rfl) ⟨Nat.le_of_ble_eq_true rfl, Nat.le_of_ble_eq_true rfl⟩ ⟨rfl, rfl⟩ ⟨Nat.zero_le _, Nat.zero_le _⟩ (j_Y_note hro kp_145 kp_1 eh1) rfl ?_
  refine kJ_aload_n 12 0 d_P_come_11 rfl rfl rfl rfl ?_
  refine kM_getR 15 144 145 d_P_come_12 l_P_29 kp_0 rfl rfl rfl rfl ?_
  refine kJ_aload_n 16 0 d_P_come_15 rfl rfl rfl rfl ?_
  refine kM_getR 19 0 1 d_P_come_16 l_P_10 kp_0 rfl rfl rfl rfl ?_
  refine kJ_iload_n 20 1 d_P_come_19 rfl rfl rfl ?_
  obtain ⟨v3, h2, ev3, hf⟩ := kBd_some hf
  refine kM_callv 23 m_C_bringIn [.int x1] [.ref 145] d_P_come_20 cl_P_76 ⟨w_445, w_11⟩ kp_1 ⟨rfl, by decide⟩ ⟨_, _, rfl⟩ rfl rfl (Nat.le_of_ble_eq_true rfl) ⟨Nat.le_of_ble_eq_true rfl, Nat.le_of_ble_eq_true rfl⟩ ⟨rfl, rfl⟩ ⟨Nat.zero_le _, Nat.zero_le _⟩ (j_C_bringIn hro kp_1 ev3) rfl ?_
  obtain ⟨v5, h4, ev5, hf⟩ := kBd_some hf
  refine kM_callv 26 m_Y_settle [.int v3] [] d_P_come_23 cl_P_63 ⟨w_396, w_5⟩ kp_145 ⟨rfl, by decide⟩ ⟨_, _, rfl⟩ rfl rfl (Nat.le_of_ble_eq_true rfl) ⟨Nat.le_of_ble_eq_true rfl, Nat.le_of_ble_eq_true rfl⟩ ⟨rfl, rfl⟩ ⟨Nat.zero_le _, Nat.zero_le _⟩ (j_Y_settle hro kp_145 ev5) rfl ?_
  cases hf
  exact kJ_iret d_P_come_26 rfl rfl (Nat.zero_le _) (Nat.zero_le _)
def f_C_sendAway (h : kH) (x0 : Nat) (x1 : Int32) : Option (Int32 × kH) := if (f_C_hasMember h x0 x1) = true then (if (f_C_isPresent h x0 x1) = true then (kLet (hset h x0 3 ((h x0 3) &&& ((1 <<< (x1 &&& 31)) ^^^ (-1)))) fun h1 => some ((f_JI_bitCount (h1 x0 3)), h1)) else (some ((-5), h))) else (some ((-1), h))
theorem j_C_sendAway {E : kE} {L : Nat} {xs : Nat → Int32} (hro : kRo E L xs) {h : kH} {x0 : Nat} {x1 : Int32} (k0 : kIs x0 0) {r : Int32} {h' : kH} (hf : f_C_sendAway h x0 x1 = some (r, h')) : JM E m_C_sendAway [.ref x0, .int x1] (mk h) (some r) (mk h') := by
  unfold f_C_sendAway at hf
  refine JM.of pn_C (Nat.le_of_ble_eq_true rfl) ?_
  show kJ E m_C_sendAway (some r) (mk h') 0 0 0 [(0, .ref x0), (1, .int x1)] [] (mk h)
  refine kJ_aload_n 1 0 d_C_sendAway_0 rfl rfl rfl rfl ?_
  refine kJ_iload_n 2 1 d_C_sendAway_1 rfl rfl rfl ?_
  refine kM_callv 5 m_C_hasMember [.int x1] [] d_C_sendAway_2 cl_C_105 ⟨w_437, w_10⟩ k0 ⟨rfl, by decide⟩ ⟨_, _, rfl⟩ rfl rfl (Nat.le_of_ble_eq_true rfl) ⟨Nat.le_of_ble_eq_true rfl, Nat.le_of_ble_eq_true rfl⟩ ⟨rfl, rfl⟩ ⟨Nat.zero_le _, Nat.zero_le _⟩ (j_C_hasMember hro k0 rfl) rfl ?_
  refine kJ_if_ne 8 10 d_C_sendAway_5 rfl rfl (fun hc => ?_) (fun hc => ?_)
  · have hf := kIf_t hf (kB2_1 hc)
    refine kJ_aload_n 11 0 d_C_sendAway_10 rfl rfl rfl rfl ?_
    refine kJ_iload_n 12 1 d_C_sendAway_11 rfl rfl rfl ?_
    refine kM_callv 15 m_C_isPresent [.int x1] [] d_C_sendAway_12 cl_C_76 ⟨w_449, w_12⟩ k0 ⟨rfl, by decide⟩ ⟨_, _, rfl⟩ rfl rfl (Nat.le_of_ble_eq_true rfl) ⟨Nat.le_of_ble_eq_true rfl, Nat.le_of_ble_eq_true rfl⟩ ⟨rfl, rfl⟩ ⟨Nat.zero_le _, Nat.zero_le _⟩ (j_C_isPresent hro k0 rfl) rfl ?_
    refine kJ_if_ne 18 21 d_C_sendAway_15 rfl rfl (fun hc => ?_) (fun hc => ?_)
    · have hf := kIf_t hf (kB2_1 hc)
      refine kJ_aload_n 22 0 d_C_sendAway_21 rfl rfl rfl rfl ?_
      refine kJ_dup 23 d_C_sendAway_22 rfl rfl ?_
      refine kM_getI 26 d_C_sendAway_23 l_C_60 k0 rfl rfl rfl ?_
      refine kJ_iconst 27 1 d_C_sendAway_26 ki_1 rfl ?_
      refine kJ_iload_n 28 1 d_C_sendAway_27 rfl rfl rfl ?_
      refine kJ_ishl 29 d_C_sendAway_28 rfl ?_
      refine kJ_iconst 30 (-1) d_C_sendAway_29 ki_m1 rfl ?_
      refine kJ_ixor 31 d_C_sendAway_30 rfl ?_
      refine kJ_iand 32 d_C_sendAway_31 rfl ?_
      refine kM_put 35 d_C_sendAway_32 l_C_60 k0 rfl rfl (kFit_int _) rfl ?_
      obtain ⟨h1, eh1, hf⟩ := kLet_e hf
      rw [← eh1]
      refine kJ_aload_n 36 0 d_C_sendAway_35 rfl rfl rfl rfl ?_
      refine kM_getI 39 d_C_sendAway_36 l_C_60 k0 rfl rfl rfl ?_
      refine kM_calls 42 m_JI_bitCount [.int (h1 x0 3)] [] d_C_sendAway_39 cl_C_108 w_452 rfl rfl (Nat.le_of_ble_eq_true rfl) ⟨Nat.le_of_ble_eq_true rfl, Nat.le_of_ble_eq_true rfl⟩ ⟨rfl, rfl⟩ ⟨Nat.zero_le _, Nat.zero_le _⟩ (j_JI_bitCount hro rfl) rfl ?_
      cases hf
      exact kJ_iret d_C_sendAway_42 rfl rfl (Nat.zero_le _) (Nat.zero_le _)
    · have hf := kIf_f hf (kB2_0 hc)
      refine kJ_bipush 20 (-5) d_C_sendAway_18 kb_m5 rfl ?_
      cases hf
      exact kJ_iret d_C_sendAway_20 rfl rfl (Nat.zero_le _) (Nat.zero_le _)
  · have hf := kIf_f hf (kB2_0 hc)
    refine kJ_iconst 9 (-1) d_C_sendAway_8 ki_m1 rfl ?_
    cases hf
    exact kJ_iret d_C_sendAway_9 rfl rfl (Nat.zero_le _) (Nat.zero_le _)
def f_P_go (h : kH) (x1 : Int32) : Option (Int32 × kH) := kBi (f_Y_note h 145 1) fun h1 => kBd (f_C_sendAway h1 1 x1) fun v3 h2 => kBd (f_Y_settle h2 145 v3) fun v5 h4 => some (v5, h4)
theorem j_P_go {E : kE} {L : Nat} {xs : Nat → Int32} (hro : kRo E L xs) {h : kH} {x1 : Int32} {r : Int32} {h' : kH} (hf : f_P_go h x1 = some (r, h')) : JM E m_P_go [.ref 0, .int x1] (mk h) (some r) (mk h') := by
  unfold f_P_go at hf
  refine JM.of pn_P (Nat.le_of_ble_eq_true rfl) ?_
  show kJ E m_P_go (some r) (mk h') 0 0 0 [(0, .ref 0), (1, .int x1)] [] (mk h)
  refine kJ_aload_n 1 0 d_P_go_0 rfl rfl rfl rfl ?_
  refine kM_getR 4 144 145 d_P_go_1 l_P_29 kp_0 rfl rfl rfl rfl ?_
  refine kJ_aload_n 5 0 d_P_go_4 rfl rfl rfl rfl ?_
  refine kM_getR 8 0 1 d_P_go_5 l_P_10 kp_0 rfl rfl rfl rfl ?_
  obtain ⟨h1, eh1, hf⟩ := kBi_some hf
  refine kM_callv 11 m_Y_note [.ref 1] [] d_P_go_8 cl_P_55 ⟨w_372, w_0⟩ kp_145 ⟨rfl, by decide⟩ ⟨_, _, rfl⟩ rfl rfl (Nat.le_of_ble_eq_true rfl) ⟨Nat.le_of_ble_eq_true rfl, Nat.le_of_ble_eq_true rfl⟩ ⟨rfl, rfl⟩ ⟨Nat.zero_le _, Nat.zero_le _⟩ (j_Y_note hro kp_145 kp_1 eh1) rfl ?_
  refine kJ_aload_n 12 0 d_P_go_11 rfl rfl rfl rfl ?_
  refine kM_getR 15 144 145 d_P_go_12 l_P_29 kp_0 rfl rfl rfl rfl ?_
  refine kJ_aload_n 16 0 d_P_go_15 rfl rfl rfl rfl ?_
  refine kM_getR 19 0 1 d_P_go_16 l_P_10 kp_0 rfl rfl rfl rfl ?_
  refine kJ_iload_n 20 1 d_P_go_19 rfl rfl rfl ?_
  obtain ⟨v3, h2, ev3, hf⟩ := kBd_some hf
  refine kM_callv 23 m_C_sendAway [.int x1] [.ref 145] d_P_go_20 cl_P_79 ⟨w_463, w_13⟩ kp_1 ⟨rfl, by decide⟩ ⟨_, _, rfl⟩ rfl rfl (Nat.le_of_ble_eq_true rfl) ⟨Nat.le_of_ble_eq_true rfl, Nat.le_of_ble_eq_true rfl⟩ ⟨rfl, rfl⟩ ⟨Nat.zero_le _, Nat.zero_le _⟩ (j_C_sendAway hro kp_1 ev3) rfl ?_
  obtain ⟨v5, h4, ev5, hf⟩ := kBd_some hf
  refine kM_callv 26 m_Y_settle [.int v3] [] d_P_go_23 cl_P_63 ⟨w_396, w_5⟩ kp_145 ⟨rfl, by decide⟩ ⟨_, _, rfl⟩ rfl rfl (Nat.le_of_ble_eq_true rfl) ⟨Nat.le_of_ble_eq_true rfl, Nat.le_of_ble_eq_true rfl⟩ ⟨rfl, rfl⟩ ⟨Nat.zero_le _, Nat.zero_le _⟩ (j_Y_settle hro kp_145 ev5) rfl ?_
  cases hf
  exact kJ_iret d_P_go_26 rfl rfl (Nat.zero_le _) (Nat.zero_le _)
def f_V_append (h : kH) (x0 : Nat) (x1 : Int32) (x2 : Int32) (x3 : Int32) : Option (kH) := kG (h x0 0) 20 (kLet (hset h (x0 + 1) (kx (h x0 0)) x1) fun h1 => kG (h1 x0 0) 20 (kLet (hset h1 (x0 + 2) (kx (h1 x0 0)) x2) fun h2 => kG (h2 x0 0) 20 (kLet (hset h2 (x0 + 3) (kx (h2 x0 0)) x3) fun h3 => kLet (hset h3 x0 0 ((h3 x0 0) + 1)) fun h4 => some h4)))
theorem j_V_append {E : kE} {L : Nat} {xs : Nat → Int32} (hro : kRo E L xs) {h : kH} {x0 : Nat} {x1 : Int32} {x2 : Int32} {x3 : Int32} (k0 : kIs x0 4) {h' : kH} (hf : f_V_append h x0 x1 x2 x3 = some h') : JM E m_V_append [.ref x0, .int x1, .int x2, .int x3] (mk h) none (mk h') := by
  unfold f_V_append at hf
  refine JM.of pn_V (Nat.le_of_ble_eq_true rfl) ?_
  show kJ E m_V_append none (mk h') 0 0 0 [(0, .ref x0), (1, .int x1), (2, .int x2), (3, .int x3)] [] (mk h)
  refine kJ_aload_n 1 0 d_V_append_0 rfl rfl rfl rfl ?_
  refine kM_getR 4 0 (x0 + 1) d_V_append_1 l_V_9 k0 rfl rfl rfl rfl ?_
  refine kJ_aload_n 5 0 d_V_append_4 rfl rfl rfl rfl ?_
  refine kM_getI 8 d_V_append_5 l_V_21 k0 rfl rfl rfl ?_
  refine kJ_iload_n 9 1 d_V_append_8 rfl rfl rfl ?_
  obtain ⟨hg, hf⟩ := kG_some hf
  refine kM_iast 10 20 d_V_append_9 (kk_4_1 k0) rfl hg rfl ?_
  obtain ⟨h1, eh1, hf⟩ := kLet_e hf
  rw [← eh1]
  refine kJ_aload_n 11 0 d_V_append_10 rfl rfl rfl rfl ?_
  refine kM_getR 14 1 (x0 + 2) d_V_append_11 l_V_15 k0 rfl rfl rfl rfl ?_
  refine kJ_aload_n 15 0 d_V_append_14 rfl rfl rfl rfl ?_
  refine kM_getI 18 d_V_append_15 l_V_21 k0 rfl rfl rfl ?_
  refine kJ_iload_n 19 2 d_V_append_18 rfl rfl rfl ?_
  obtain ⟨hg, hf⟩ := kG_some hf
  refine kM_iast 20 20 d_V_append_19 (kk_4_2 k0) rfl hg rfl ?_
  obtain ⟨h2, eh2, hf⟩ := kLet_e hf
  rw [← eh2]
  refine kJ_aload_n 21 0 d_V_append_20 rfl rfl rfl rfl ?_
  refine kM_getR 24 2 (x0 + 3) d_V_append_21 l_V_18 k0 rfl rfl rfl rfl ?_
  refine kJ_aload_n 25 0 d_V_append_24 rfl rfl rfl rfl ?_
  refine kM_getI 28 d_V_append_25 l_V_21 k0 rfl rfl rfl ?_
  refine kJ_iload_n 29 3 d_V_append_28 rfl rfl rfl ?_
  obtain ⟨hg, hf⟩ := kG_some hf
  refine kM_iast 30 20 d_V_append_29 (kk_4_3 k0) rfl hg rfl ?_
  obtain ⟨h3, eh3, hf⟩ := kLet_e hf
  rw [← eh3]
  refine kJ_aload_n 31 0 d_V_append_30 rfl rfl rfl rfl ?_
  refine kJ_dup 32 d_V_append_31 rfl rfl ?_
  refine kM_getI 35 d_V_append_32 l_V_21 k0 rfl rfl rfl ?_
  refine kJ_iconst 36 1 d_V_append_35 ki_1 rfl ?_
  refine kJ_iadd 37 d_V_append_36 rfl ?_
  refine kM_put 40 d_V_append_37 l_V_21 k0 rfl rfl (kFit_int _) rfl ?_
  obtain ⟨h4, eh4, hf⟩ := kLet_e hf
  rw [← eh4]
  cases hf
  exact kJ_ret d_V_append_40 rfl (Nat.zero_le _) (Nat.zero_le _)
def f_C_addMovement (h : kH) (x0 : Nat) (x1 : Int32) (x2 : Int32) (x3 : Int32) : Option (Int32 × kH) := if (f_C_hasMember h x0 x2) = true then (if x1 ≤ (h x0 0) then (some ((-2), h)) else (if ((h x0 0) + 600) < x1 then (some ((-2), h)) else (if x3 < 0 then (some ((-2), h)) else (if x3 ≤ 1 then (if (h (x0 + 6) 0) < 20 then (kBi (f_V_append h (x0 + 6) x1 x2 x3) fun h1 => some ((h1 (x0 + 6) 0), h1)) else (some ((-4), h))) else (some ((-2), h)))))) else (some ((-1), h))
theorem j_C_addMovement {E : kE} {L : Nat} {xs : Nat → Int32} (hro : kRo E L xs) {h : kH} {x0 : Nat} {x1 : Int32} {x2 : Int32} {x3 : Int32} (k0 : kIs x0 0) {r : Int32} {h' : kH} (hf : f_C_addMovement h x0 x1 x2 x3 = some (r, h')) : JM E m_C_addMovement [.ref x0, .int x1, .int x2, .int x3] (mk h) (some r) (mk h') := by
  unfold f_C_addMovement at hf
  refine JM.of pn_C (Nat.le_of_ble_eq_true rfl) ?_
  show kJ E m_C_addMovement (some r) (mk h') 0 0 0 [(0, .ref x0), (1, .int x1), (2, .int x2), (3, .int x3)] [] (mk h)
  refine kJ_aload_n 1 0 d_C_addMovement_0 rfl rfl rfl rfl ?_
  refine kJ_iload_n 2 2 d_C_addMovement_1 rfl rfl rfl ?_
  refine kM_callv 5 m_C_hasMember [.int x2] [] d_C_addMovement_2 cl_C_105 ⟨w_437, w_10⟩ k0 ⟨rfl, by decide⟩ ⟨_, _, rfl⟩ rfl rfl (Nat.le_of_ble_eq_true rfl) ⟨Nat.le_of_ble_eq_true rfl, Nat.le_of_ble_eq_true rfl⟩ ⟨rfl, rfl⟩ ⟨Nat.zero_le _, Nat.zero_le _⟩ (j_C_hasMember hro k0 rfl) rfl ?_
  refine kJ_if_ne 8 10 d_C_addMovement_5 rfl rfl (fun hc => ?_) (fun hc => ?_)
  · have hf := kIf_t hf (kB2_1 hc)
    refine kJ_iload_n 11 1 d_C_addMovement_10 rfl rfl rfl ?_
    refine kJ_aload_n 12 0 d_C_addMovement_11 rfl rfl rfl rfl ?_
    refine kM_getI 15 d_C_addMovement_12 l_C_51 k0 rfl rfl rfl ?_
    refine kJ_icmp_le 18 39 d_C_addMovement_15 rfl rfl (fun hc => ?_) (fun hc => ?_)
    · have hf := kIf_t hf hc
      refine kJ_bipush 41 (-2) d_C_addMovement_39 kb_m2 rfl ?_
      cases hf
      exact kJ_iret d_C_addMovement_41 rfl rfl (Nat.zero_le _) (Nat.zero_le _)
    · have hf := kIf_f hf hc
      refine kJ_iload_n 19 1 d_C_addMovement_18 rfl rfl rfl ?_
      refine kJ_aload_n 20 0 d_C_addMovement_19 rfl rfl rfl rfl ?_
      refine kM_getI 23 d_C_addMovement_20 l_C_51 k0 rfl rfl rfl ?_
      refine kJ_sipush 26 600 d_C_addMovement_23 ks_600 rfl ?_
      refine kJ_iadd 27 d_C_addMovement_26 rfl ?_
      refine kJ_icmp_gt 30 39 d_C_addMovement_27 rfl rfl (fun hc => ?_) (fun hc => ?_)
      · have hf := kIf_t hf hc
        refine kJ_bipush 41 (-2) d_C_addMovement_39 kb_m2 rfl ?_
        cases hf
        exact kJ_iret d_C_addMovement_41 rfl rfl (Nat.zero_le _) (Nat.zero_le _)
      · have hf := kIf_f hf hc
        refine kJ_iload_n 31 3 d_C_addMovement_30 rfl rfl rfl ?_
        refine kJ_if_lt 34 39 d_C_addMovement_31 rfl rfl (fun hc => ?_) (fun hc => ?_)
        · have hf := kIf_t hf hc
          refine kJ_bipush 41 (-2) d_C_addMovement_39 kb_m2 rfl ?_
          cases hf
          exact kJ_iret d_C_addMovement_41 rfl rfl (Nat.zero_le _) (Nat.zero_le _)
        · have hf := kIf_f hf hc
          refine kJ_iload_n 35 3 d_C_addMovement_34 rfl rfl rfl ?_
          refine kJ_iconst 36 1 d_C_addMovement_35 ki_1 rfl ?_
          refine kJ_icmp_le 39 42 d_C_addMovement_36 rfl rfl (fun hc => ?_) (fun hc => ?_)
          · have hf := kIf_t hf hc
            refine kJ_aload_n 43 0 d_C_addMovement_42 rfl rfl rfl rfl ?_
            refine kM_getR 46 5 (x0 + 6) d_C_addMovement_43 l_C_37 k0 rfl rfl rfl rfl ?_
            refine kM_getI 49 d_C_addMovement_46 l_C_114 (kk_0_10 k0) rfl rfl rfl ?_
            refine kJ_bipush 51 20 d_C_addMovement_49 kb_20 rfl ?_
            refine kJ_icmp_lt 54 57 d_C_addMovement_51 rfl rfl (fun hc => ?_) (fun hc => ?_)
            · have hf := kIf_t hf hc
              refine kJ_aload_n 58 0 d_C_addMovement_57 rfl rfl rfl rfl ?_
              refine kM_getR 61 5 (x0 + 6) d_C_addMovement_58 l_C_37 k0 rfl rfl rfl rfl ?_
              refine kJ_iload_n 62 1 d_C_addMovement_61 rfl rfl rfl ?_
              refine kJ_iload_n 63 2 d_C_addMovement_62 rfl rfl rfl ?_
              refine kJ_iload_n 64 3 d_C_addMovement_63 rfl rfl rfl ?_
              obtain ⟨h1, eh1, hf⟩ := kBi_some hf
              refine kM_callv 67 m_V_append [.int x1, .int x2, .int x3] [] d_C_addMovement_64 cl_C_117 ⟨w_475, w_15⟩ (kk_0_10 k0) ⟨rfl, by decide⟩ ⟨_, _, rfl⟩ rfl rfl (Nat.le_of_ble_eq_true rfl) ⟨Nat.le_of_ble_eq_true rfl, Nat.le_of_ble_eq_true rfl⟩ ⟨rfl, rfl⟩ ⟨Nat.zero_le _, Nat.zero_le _⟩ (j_V_append hro (kk_0_10 k0) eh1) rfl ?_
              refine kJ_aload_n 68 0 d_C_addMovement_67 rfl rfl rfl rfl ?_
              refine kM_getR 71 5 (x0 + 6) d_C_addMovement_68 l_C_37 k0 rfl rfl rfl rfl ?_
              refine kM_getI 74 d_C_addMovement_71 l_C_114 (kk_0_10 k0) rfl rfl rfl ?_
              cases hf
              exact kJ_iret d_C_addMovement_74 rfl rfl (Nat.zero_le _) (Nat.zero_le _)
            · have hf := kIf_f hf hc
              refine kJ_bipush 56 (-4) d_C_addMovement_54 kb_m4 rfl ?_
              cases hf
              exact kJ_iret d_C_addMovement_56 rfl rfl (Nat.zero_le _) (Nat.zero_le _)
          · have hf := kIf_f hf hc
            refine kJ_bipush 41 (-2) d_C_addMovement_39 kb_m2 rfl ?_
            cases hf
            exact kJ_iret d_C_addMovement_41 rfl rfl (Nat.zero_le _) (Nat.zero_le _)
  · have hf := kIf_f hf (kB2_0 hc)
    refine kJ_iconst 9 (-1) d_C_addMovement_8 ki_m1 rfl ?_
    cases hf
    exact kJ_iret d_C_addMovement_9 rfl rfl (Nat.zero_le _) (Nat.zero_le _)
def f_P_later (h : kH) (x1 : Int32) (x2 : Int32) (x3 : Int32) : Option (Int32 × kH) := kBi (f_Y_note h 145 1) fun h1 => kBd (f_C_addMovement h1 1 x1 x2 x3) fun v3 h2 => kBd (f_Y_settle h2 145 v3) fun v5 h4 => some (v5, h4)
theorem j_P_later {E : kE} {L : Nat} {xs : Nat → Int32} (hro : kRo E L xs) {h : kH} {x1 : Int32} {x2 : Int32} {x3 : Int32} {r : Int32} {h' : kH} (hf : f_P_later h x1 x2 x3 = some (r, h')) : JM E m_P_later [.ref 0, .int x1, .int x2, .int x3] (mk h) (some r) (mk h') := by
  unfold f_P_later at hf
  refine JM.of pn_P (Nat.le_of_ble_eq_true rfl) ?_
  show kJ E m_P_later (some r) (mk h') 0 0 0 [(0, .ref 0), (1, .int x1), (2, .int x2), (3, .int x3)] [] (mk h)
  refine kJ_aload_n 1 0 d_P_later_0 rfl rfl rfl rfl ?_
  refine kM_getR 4 144 145 d_P_later_1 l_P_29 kp_0 rfl rfl rfl rfl ?_
  refine kJ_aload_n 5 0 d_P_later_4 rfl rfl rfl rfl ?_
  refine kM_getR 8 0 1 d_P_later_5 l_P_10 kp_0 rfl rfl rfl rfl ?_
  obtain ⟨h1, eh1, hf⟩ := kBi_some hf
  refine kM_callv 11 m_Y_note [.ref 1] [] d_P_later_8 cl_P_55 ⟨w_372, w_0⟩ kp_145 ⟨rfl, by decide⟩ ⟨_, _, rfl⟩ rfl rfl (Nat.le_of_ble_eq_true rfl) ⟨Nat.le_of_ble_eq_true rfl, Nat.le_of_ble_eq_true rfl⟩ ⟨rfl, rfl⟩ ⟨Nat.zero_le _, Nat.zero_le _⟩ (j_Y_note hro kp_145 kp_1 eh1) rfl ?_
  refine kJ_aload_n 12 0 d_P_later_11 rfl rfl rfl rfl ?_
  refine kM_getR 15 144 145 d_P_later_12 l_P_29 kp_0 rfl rfl rfl rfl ?_
  refine kJ_aload_n 16 0 d_P_later_15 rfl rfl rfl rfl ?_
  refine kM_getR 19 0 1 d_P_later_16 l_P_10 kp_0 rfl rfl rfl rfl ?_
  refine kJ_iload_n 20 1 d_P_later_19 rfl rfl rfl ?_
  refine kJ_iload_n 21 2 d_P_later_20 rfl rfl rfl ?_
  refine kJ_iload_n 22 3 d_P_later_21 rfl rfl rfl ?_
  obtain ⟨v3, h2, ev3, hf⟩ := kBd_some hf
  refine kM_callv 25 m_C_addMovement [.int x1, .int x2, .int x3] [.ref 145] d_P_later_22 cl_P_82 ⟨w_471, w_14⟩ kp_1 ⟨rfl, by decide⟩ ⟨_, _, rfl⟩ rfl rfl (Nat.le_of_ble_eq_true rfl) ⟨Nat.le_of_ble_eq_true rfl, Nat.le_of_ble_eq_true rfl⟩ ⟨rfl, rfl⟩ ⟨Nat.zero_le _, Nat.zero_le _⟩ (j_C_addMovement hro kp_1 ev3) rfl ?_
  obtain ⟨v5, h4, ev5, hf⟩ := kBd_some hf
  refine kM_callv 28 m_Y_settle [.int v3] [] d_P_later_25 cl_P_63 ⟨w_396, w_5⟩ kp_145 ⟨rfl, by decide⟩ ⟨_, _, rfl⟩ rfl rfl (Nat.le_of_ble_eq_true rfl) ⟨Nat.le_of_ble_eq_true rfl, Nat.le_of_ble_eq_true rfl⟩ ⟨rfl, rfl⟩ ⟨Nat.zero_le _, Nat.zero_le _⟩ (j_Y_settle hro kp_145 ev5) rfl ?_
  cases hf
  exact kJ_iret d_P_later_28 rfl rfl (Nat.zero_le _) (Nat.zero_le _)
def f_C_hasItem (h : kH) (x0 : Nat) (x1 : Int32) : Bool := if x1 < 0 then false else (if (h x0 2) ≤ x1 then false else true)
theorem j_C_hasItem {E : kE} {L : Nat} {xs : Nat → Int32} (hro : kRo E L xs) {h : kH} {x0 : Nat} {x1 : Int32} (k0 : kIs x0 0) {r : Bool} (hf : f_C_hasItem h x0 x1 = r) : JM E m_C_hasItem [.ref x0, .int x1] (mk h) (some (kB2 r)) (mk h) := by
  unfold f_C_hasItem at hf
  refine JM.of pn_C (Nat.le_of_ble_eq_true rfl) ?_
  show kJ E m_C_hasItem (some (kB2 r)) (mk h) 0 0 0 [(0, .ref x0), (1, .int x1)] [] (mk h)
  refine kJ_iload_n 1 1 d_C_hasItem_0 rfl rfl rfl ?_
  refine kJ_if_lt 4 16 d_C_hasItem_1 rfl rfl (fun hc => ?_) (fun hc => ?_)
  · have hf := kIf_t hf hc
    refine kJ_iconst 17 0 d_C_hasItem_16 ki_0 rfl ?_
    subst hf
    exact kJ_iret d_C_hasItem_17 rfl (kB2_z _) (Nat.zero_le _) (Nat.zero_le _)
  · have hf := kIf_f hf hc
    refine kJ_iload_n 5 1 d_C_hasItem_4 rfl rfl rfl ?_
    refine kJ_aload_n 6 0 d_C_hasItem_5 rfl rfl rfl rfl ?_
    refine kM_getI 9 d_C_hasItem_6 l_C_57 k0 rfl rfl rfl ?_
    refine kJ_icmp_ge 12 16 d_C_hasItem_9 rfl rfl (fun hc => ?_) (fun hc => ?_)
    · have hf := kIf_t hf hc
      refine kJ_iconst 17 0 d_C_hasItem_16 ki_0 rfl ?_
      subst hf
      exact kJ_iret d_C_hasItem_17 rfl (kB2_z _) (Nat.zero_le _) (Nat.zero_le _)
    · have hf := kIf_f hf hc
      refine kJ_iconst 13 1 d_C_hasItem_12 ki_1 rfl ?_
      refine kJ_goto 17 d_C_hasItem_13 rfl ?_
      subst hf
      exact kJ_iret d_C_hasItem_17 rfl (kB2_z _) (Nat.zero_le _) (Nat.zero_le _)
