/-! CODE of the methods as functions, with certificates: printed by wip/p35/emit.py. -/
def f_I_copyFrom (h : kH) (x0 : Nat) (x1 : Nat) : Option (kH) := kLet (hset h x0 0 (h x1 0)) fun h1 => kLet (hset h1 x0 1 (h1 x1 1)) fun h2 => kLet (hset h2 x0 2 (h2 x1 2)) fun h3 => kLet (hset h3 x0 3 (h3 x1 3)) fun h4 => kLet (hset h4 x0 4 (h4 x1 4)) fun h5 => kLet (hset h5 x0 5 (h5 x1 5)) fun h6 => kCg 0 0 6 6 6 (kLet (hcpy h6 (x1 + 1) (x0 + 1) (kx 0) (kx 0) (kx 6)) fun h7 => kCg 0 0 12 12 12 (kLet (hcpy h7 (x1 + 2) (x0 + 2) (kx 0) (kx 0) (kx 12)) fun h8 => kCg 0 0 12 12 12 (kLet (hcpy h8 (x1 + 3) (x0 + 3) (kx 0) (kx 0) (kx 12)) fun h9 => kCg 0 0 12 12 12 (kLet (hcpy h9 (x1 + 4) (x0 + 4) (kx 0) (kx 0) (kx 12)) fun h10 => some h10))))
theorem j_I_copyFrom {E : kE} {L : Nat} {xs : Nat → Int32} (hro : kRo E L xs) {K : List Nat} {h : kH} {x0 : Nat} {x1 : Nat} (k0 : kIs x0 3) (k1 : kIs x1 3) {h' : kH} (hf : f_I_copyFrom h x0 x1 = some h') : JM E m_I_copyFrom [.ref x0, .ref x1] (mk K h) none (mk K h') := by
  unfold f_I_copyFrom at hf
  refine JM.of pn_I (Nat.le_of_ble_eq_true rfl) ?_
  show kJ E m_I_copyFrom none (mk K h') 0 0 0 [(0, .ref x0), (1, .ref x1)] [] (mk K h)
  refine kJ_aload_n 1 0 d_I_copyFrom_0 rfl rfl rfl rfl ?_
  refine kJ_aload_n 2 1 d_I_copyFrom_1 rfl rfl rfl rfl ?_
  refine kM_getI 5 d_I_copyFrom_2 l_I_24 (k1).x rfl rfl rfl ?_
  refine kM_put 8 d_I_copyFrom_5 l_I_24 (k0).x rfl rfl (kFit_int _) rfl ?_
  obtain ⟨h1, eh1, hf⟩ := kLet_e hf
  rw [← eh1]
  refine kJ_aload_n 9 0 d_I_copyFrom_8 rfl rfl rfl rfl ?_
  refine kJ_aload_n 10 1 d_I_copyFrom_9 rfl rfl rfl rfl ?_
  refine kM_getI 13 d_I_copyFrom_10 l_I_28 (k1).x rfl rfl rfl ?_
  refine kM_put 16 d_I_copyFrom_13 l_I_28 (k0).x rfl rfl (kFit_int _) rfl ?_
  obtain ⟨h2, eh2, hf⟩ := kLet_e hf
  rw [← eh2]
  refine kJ_aload_n 17 0 d_I_copyFrom_16 rfl rfl rfl rfl ?_
  refine kJ_aload_n 18 1 d_I_copyFrom_17 rfl rfl rfl rfl ?_
  refine kM_getI 21 d_I_copyFrom_18 l_I_31 (k1).x rfl rfl rfl ?_
  refine kM_put 24 d_I_copyFrom_21 l_I_31 (k0).x rfl rfl (kFit_int _) rfl ?_
  obtain ⟨h3, eh3, hf⟩ := kLet_e hf
  rw [← eh3]
  refine kJ_aload_n 25 0 d_I_copyFrom_24 rfl rfl rfl rfl ?_
  refine kJ_aload_n 26 1 d_I_copyFrom_25 rfl rfl rfl rfl ?_
  refine kM_getI 29 d_I_copyFrom_26 l_I_34 (k1).x rfl rfl rfl ?_
  refine kM_put 32 d_I_copyFrom_29 l_I_34 (k0).x rfl rfl (kFit_int _) rfl ?_
  obtain ⟨h4, eh4, hf⟩ := kLet_e hf
  rw [← eh4]
  refine kJ_aload_n 33 0 d_I_copyFrom_32 rfl rfl rfl rfl ?_
  refine kJ_aload_n 34 1 d_I_copyFrom_33 rfl rfl rfl rfl ?_
  refine kM_getI 37 d_I_copyFrom_34 l_I_37 (k1).x rfl rfl rfl ?_
  refine kM_put 40 d_I_copyFrom_37 l_I_37 (k0).x rfl rfl (kFit_int _) rfl ?_
  obtain ⟨h5, eh5, hf⟩ := kLet_e hf
  rw [← eh5]
  refine kJ_aload_n 41 0 d_I_copyFrom_40 rfl rfl rfl rfl ?_
  refine kJ_aload_n 42 1 d_I_copyFrom_41 rfl rfl rfl rfl ?_
  refine kM_getI 45 d_I_copyFrom_42 l_I_40 (k1).x rfl rfl rfl ?_
  refine kM_put 48 d_I_copyFrom_45 l_I_40 (k0).x rfl rfl (kFit_int _) rfl ?_
  obtain ⟨h6, eh6, hf⟩ := kLet_e hf
  rw [← eh6]
  refine kJ_aload_n 49 1 d_I_copyFrom_48 rfl rfl rfl rfl ?_
  refine kM_getR 52 0 (x1 + 1) d_I_copyFrom_49 l_I_9 (k1).x rfl rfl rfl rfl ?_
  refine kJ_iconst 53 0 d_I_copyFrom_52 ki_0 rfl ?_
  refine kJ_aload_n 54 0 d_I_copyFrom_53 rfl rfl rfl rfl ?_
  refine kM_getR 57 0 (x0 + 1) d_I_copyFrom_54 l_I_9 (k0).x rfl rfl rfl rfl ?_
  refine kJ_iconst 58 0 d_I_copyFrom_57 ki_0 rfl ?_
  refine kJ_bipush 60 6 d_I_copyFrom_58 kb_6 rfl ?_
  obtain ⟨⟨g1, g2, g3, g4, g5⟩, hf⟩ := kCg_some hf
  refine kM_copy 63 6 6 d_I_copyFrom_60 cp_I_49 ((kk_3_6 k1)).x rfl ((kk_3_6 k0)).x rfl g1 g2 g3 g4 g5 ⟨Nat.le_of_ble_eq_true rfl, Nat.le_of_ble_eq_true rfl⟩ rfl ?_
  obtain ⟨h7, eh7, hf⟩ := kLet_e hf
  rw [← eh7]
  refine kJ_aload_n 64 1 d_I_copyFrom_63 rfl rfl rfl rfl ?_
  refine kM_getR 67 1 (x1 + 2) d_I_copyFrom_64 l_I_15 (k1).x rfl rfl rfl rfl ?_
  refine kJ_iconst 68 0 d_I_copyFrom_67 ki_0 rfl ?_
  refine kJ_aload_n 69 0 d_I_copyFrom_68 rfl rfl rfl rfl ?_
  refine kM_getR 72 1 (x0 + 2) d_I_copyFrom_69 l_I_15 (k0).x rfl rfl rfl rfl ?_
  refine kJ_iconst 73 0 d_I_copyFrom_72 ki_0 rfl ?_
  refine kJ_bipush 75 12 d_I_copyFrom_73 kb_12 rfl ?_
  obtain ⟨⟨g1, g2, g3, g4, g5⟩, hf⟩ := kCg_some hf
  refine kM_copy 78 12 12 d_I_copyFrom_75 cp_I_49 ((kk_3_7 k1)).x rfl ((kk_3_7 k0)).x rfl g1 g2 g3 g4 g5 ⟨Nat.le_of_ble_eq_true rfl, Nat.le_of_ble_eq_true rfl⟩ rfl ?_
  obtain ⟨h8, eh8, hf⟩ := kLet_e hf
  rw [← eh8]
  refine kJ_aload_n 79 1 d_I_copyFrom_78 rfl rfl rfl rfl ?_
  refine kM_getR 82 2 (x1 + 3) d_I_copyFrom_79 l_I_18 (k1).x rfl rfl rfl rfl ?_
  refine kJ_iconst 83 0 d_I_copyFrom_82 ki_0 rfl ?_
  refine kJ_aload_n 84 0 d_I_copyFrom_83 rfl rfl rfl rfl ?_
  refine kM_getR 87 2 (x0 + 3) d_I_copyFrom_84 l_I_18 (k0).x rfl rfl rfl rfl ?_
  refine kJ_iconst 88 0 d_I_copyFrom_87 ki_0 rfl ?_
  refine kJ_bipush 90 12 d_I_copyFrom_88 kb_12 rfl ?_
  obtain ⟨⟨g1, g2, g3, g4, g5⟩, hf⟩ := kCg_some hf
  refine kM_copy 93 12 12 d_I_copyFrom_90 cp_I_49 ((kk_3_8 k1)).x rfl ((kk_3_8 k0)).x rfl g1 g2 g3 g4 g5 ⟨Nat.le_of_ble_eq_true rfl, Nat.le_of_ble_eq_true rfl⟩ rfl ?_
  obtain ⟨h9, eh9, hf⟩ := kLet_e hf
  rw [← eh9]
  refine kJ_aload_n 94 1 d_I_copyFrom_93 rfl rfl rfl rfl ?_
  refine kM_getR 97 3 (x1 + 4) d_I_copyFrom_94 l_I_21 (k1).x rfl rfl rfl rfl ?_
  refine kJ_iconst 98 0 d_I_copyFrom_97 ki_0 rfl ?_
  refine kJ_aload_n 99 0 d_I_copyFrom_98 rfl rfl rfl rfl ?_
  refine kM_getR 102 3 (x0 + 4) d_I_copyFrom_99 l_I_21 (k0).x rfl rfl rfl rfl ?_
  refine kJ_iconst 103 0 d_I_copyFrom_102 ki_0 rfl ?_
  refine kJ_bipush 105 12 d_I_copyFrom_103 kb_12 rfl ?_
  obtain ⟨⟨g1, g2, g3, g4, g5⟩, hf⟩ := kCg_some hf
  refine kM_copy 108 12 12 d_I_copyFrom_105 cp_I_49 ((kk_3_9 k1)).x rfl ((kk_3_9 k0)).x rfl g1 g2 g3 g4 g5 ⟨Nat.le_of_ble_eq_true rfl, Nat.le_of_ble_eq_true rfl⟩ rfl ?_
  obtain ⟨h10, eh10, hf⟩ := kLet_e hf
  rw [← eh10]
  cases hf
  exact kJ_ret d_I_copyFrom_108 rfl (Nat.zero_le _) (Nat.zero_le _)
def f_V_copyFrom (h : kH) (x0 : Nat) (x1 : Nat) : Option (kH) := kLet (hset h x0 0 (h x1 0)) fun h1 => kCg 0 0 20 20 20 (kLet (hcpy h1 (x1 + 1) (x0 + 1) (kx 0) (kx 0) (kx 20)) fun h2 => kCg 0 0 20 20 20 (kLet (hcpy h2 (x1 + 2) (x0 + 2) (kx 0) (kx 0) (kx 20)) fun h3 => kCg 0 0 20 20 20 (kLet (hcpy h3 (x1 + 3) (x0 + 3) (kx 0) (kx 0) (kx 20)) fun h4 => some h4)))
theorem j_V_copyFrom {E : kE} {L : Nat} {xs : Nat → Int32} (hro : kRo E L xs) {K : List Nat} {h : kH} {x0 : Nat} {x1 : Nat} (k0 : kIs x0 4) (k1 : kIs x1 4) {h' : kH} (hf : f_V_copyFrom h x0 x1 = some h') : JM E m_V_copyFrom [.ref x0, .ref x1] (mk K h) none (mk K h') := by
  unfold f_V_copyFrom at hf
  refine JM.of pn_V (Nat.le_of_ble_eq_true rfl) ?_
  show kJ E m_V_copyFrom none (mk K h') 0 0 0 [(0, .ref x0), (1, .ref x1)] [] (mk K h)
  refine kJ_aload_n 1 0 d_V_copyFrom_0 rfl rfl rfl rfl ?_
  refine kJ_aload_n 2 1 d_V_copyFrom_1 rfl rfl rfl rfl ?_
  refine kM_getI 5 d_V_copyFrom_2 l_V_21 (k1).x rfl rfl rfl ?_
  refine kM_put 8 d_V_copyFrom_5 l_V_21 (k0).x rfl rfl (kFit_int _) rfl ?_
  obtain ⟨h1, eh1, hf⟩ := kLet_e hf
  rw [← eh1]
  refine kJ_aload_n 9 1 d_V_copyFrom_8 rfl rfl rfl rfl ?_
  refine kM_getR 12 0 (x1 + 1) d_V_copyFrom_9 l_V_9 (k1).x rfl rfl rfl rfl ?_
  refine kJ_iconst 13 0 d_V_copyFrom_12 ki_0 rfl ?_
  refine kJ_aload_n 14 0 d_V_copyFrom_13 rfl rfl rfl rfl ?_
  refine kM_getR 17 0 (x0 + 1) d_V_copyFrom_14 l_V_9 (k0).x rfl rfl rfl rfl ?_
  refine kJ_iconst 18 0 d_V_copyFrom_17 ki_0 rfl ?_
  refine kJ_bipush 20 20 d_V_copyFrom_18 kb_20 rfl ?_
  obtain ⟨⟨g1, g2, g3, g4, g5⟩, hf⟩ := kCg_some hf
  refine kM_copy 23 20 20 d_V_copyFrom_20 cp_V_25 ((kk_4_1 k1)).x rfl ((kk_4_1 k0)).x rfl g1 g2 g3 g4 g5 ⟨Nat.le_of_ble_eq_true rfl, Nat.le_of_ble_eq_true rfl⟩ rfl ?_
  obtain ⟨h2, eh2, hf⟩ := kLet_e hf
  rw [← eh2]
  refine kJ_aload_n 24 1 d_V_copyFrom_23 rfl rfl rfl rfl ?_
  refine kM_getR 27 1 (x1 + 2) d_V_copyFrom_24 l_V_15 (k1).x rfl rfl rfl rfl ?_
  refine kJ_iconst 28 0 d_V_copyFrom_27 ki_0 rfl ?_
  refine kJ_aload_n 29 0 d_V_copyFrom_28 rfl rfl rfl rfl ?_
  refine kM_getR 32 1 (x0 + 2) d_V_copyFrom_29 l_V_15 (k0).x rfl rfl rfl rfl ?_
  refine kJ_iconst 33 0 d_V_copyFrom_32 ki_0 rfl ?_
  refine kJ_bipush 35 20 d_V_copyFrom_33 kb_20 rfl ?_
  obtain ⟨⟨g1, g2, g3, g4, g5⟩, hf⟩ := kCg_some hf
  refine kM_copy 38 20 20 d_V_copyFrom_35 cp_V_25 ((kk_4_2 k1)).x rfl ((kk_4_2 k0)).x rfl g1 g2 g3 g4 g5 ⟨Nat.le_of_ble_eq_true rfl, Nat.le_of_ble_eq_true rfl⟩ rfl ?_
  obtain ⟨h3, eh3, hf⟩ := kLet_e hf
  rw [← eh3]
  refine kJ_aload_n 39 1 d_V_copyFrom_38 rfl rfl rfl rfl ?_
  refine kM_getR 42 2 (x1 + 3) d_V_copyFrom_39 l_V_18 (k1).x rfl rfl rfl rfl ?_
  refine kJ_iconst 43 0 d_V_copyFrom_42 ki_0 rfl ?_
  refine kJ_aload_n 44 0 d_V_copyFrom_43 rfl rfl rfl rfl ?_
  refine kM_getR 47 2 (x0 + 3) d_V_copyFrom_44 l_V_18 (k0).x rfl rfl rfl rfl ?_
  refine kJ_iconst 48 0 d_V_copyFrom_47 ki_0 rfl ?_
  refine kJ_bipush 50 20 d_V_copyFrom_48 kb_20 rfl ?_
  obtain ⟨⟨g1, g2, g3, g4, g5⟩, hf⟩ := kCg_some hf
  refine kM_copy 53 20 20 d_V_copyFrom_50 cp_V_25 ((kk_4_3 k1)).x rfl ((kk_4_3 k0)).x rfl g1 g2 g3 g4 g5 ⟨Nat.le_of_ble_eq_true rfl, Nat.le_of_ble_eq_true rfl⟩ rfl ?_
  obtain ⟨h4, eh4, hf⟩ := kLet_e hf
  rw [← eh4]
  cases hf
  exact kJ_ret d_V_copyFrom_53 rfl (Nat.zero_le _) (Nat.zero_le _)
def b_C_copyFrom_102 (x0 : Nat) (x1 : Nat) : Nat → kH → Int32 → Option (kH)
  | 0, _, _ => none
  | n + 1, h, x2 => (fun rec102 => if (h x0 2) ≤ x2 then (kBi (f_V_copyFrom h (x0 + 6) (x1 + 6)) fun h10 => some h10) else (kG x2 12 (kG x2 12 (kBi (f_I_copyFrom h (x0 + 10 + 5 * kx x2) (x1 + 10 + 5 * kx x2)) fun h13 => rec102 h13 (x2 + 1))))) (fun h' x2' => b_C_copyFrom_102 x0 x1 n h' x2')
theorem c_C_copyFrom_102 {E : kE} {L : Nat} {xs : Nat → Int32} (hro : kRo E L xs) {K : List Nat} {x0 : Nat} {x1 : Nat} (k0 : kIs x0 0) (k1 : kIs x1 0) {h' : kH} : ∀ (n : Nat) (h : kH) (x2 : Int32), b_C_copyFrom_102 x0 x1 n h x2 = some h' → kJ E m_C_copyFrom none (mk K h') 0 0 102 [(0, .ref x0), (1, .ref x1), (2, .int x2)] [] (mk K h) := by
  intro n
  induction n with
  | zero =>
    intro h x2 hf
    have hf : (none : Option (kH)) = some h' := hf
    cases hf
  | succ n hrec102 =>
    intro h x2 hf
    rw [b_C_copyFrom_102] at hf
    dsimp only at hf
    refine kJ_iload_n 103 2 d_C_copyFrom_102 rfl rfl rfl ?_
    refine kJ_aload_n 104 0 d_C_copyFrom_103 rfl rfl rfl rfl ?_
    refine kM_getI 107 d_C_copyFrom_104 l_C_57 (k0).x rfl rfl rfl ?_
    refine kJ_icmp_ge 110 131 d_C_copyFrom_107 rfl rfl (fun hc => ?_) (fun hc => ?_)
    · have hf := kIf_t hf hc
      refine kJ_aload_n 132 0 d_C_copyFrom_131 rfl rfl rfl rfl ?_
      refine kM_getR 135 5 (x0 + 6) d_C_copyFrom_132 l_C_37 (k0).x rfl rfl rfl rfl ?_
      refine kJ_aload_n 136 1 d_C_copyFrom_135 rfl rfl rfl rfl ?_
      refine kM_getR 139 5 (x1 + 6) d_C_copyFrom_136 l_C_37 (k1).x rfl rfl rfl rfl ?_
      obtain ⟨h10, eh10, hf⟩ := kBi_some hf
      refine kM_callv 142 m_V_copyFrom [.ref (x1 + 6)] [] d_C_copyFrom_139 cl_C_67 ⟨w_325, w_3⟩ ((kk_0_10 k0)).x ⟨rfl, by decide⟩ ⟨_, _, rfl⟩ rfl rfl (Nat.le_of_ble_eq_true rfl) ⟨Nat.le_of_ble_eq_true rfl, Nat.le_of_ble_eq_true rfl⟩ ⟨rfl, rfl⟩ ⟨Nat.zero_le _, Nat.zero_le _⟩ (j_V_copyFrom hro (kk_0_10 k0) (kk_0_10 k1) eh10) rfl ?_
      cases hf
      exact kJ_ret d_C_copyFrom_142 rfl (Nat.zero_le _) (Nat.zero_le _)
    · have hf := kIf_f hf hc
      refine kJ_aload_n 111 0 d_C_copyFrom_110 rfl rfl rfl rfl ?_
      refine kM_getR 114 4 (x0 + 5) d_C_copyFrom_111 l_C_30 (k0).x rfl rfl rfl rfl ?_
      refine kJ_iload_n 115 2 d_C_copyFrom_114 rfl rfl rfl ?_
      obtain ⟨hg11, hf⟩ := kG_some hf
      refine kM_aald 116 12 5 5 (x0 + 10 + 5 * kx x2) d_C_copyFrom_115 ((kk_0_9 k0)).x rfl (by decide) (Or.inl rfl) hg11 (by simp only [Nat.add_assoc, kx]; try omega) rfl ?_
      refine kJ_aload_n 117 1 d_C_copyFrom_116 rfl rfl rfl rfl ?_
      refine kM_getR 120 4 (x1 + 5) d_C_copyFrom_117 l_C_30 (k1).x rfl rfl rfl rfl ?_
      refine kJ_iload_n 121 2 d_C_copyFrom_120 rfl rfl rfl ?_
      obtain ⟨hg12, hf⟩ := kG_some hf
      refine kM_aald 122 12 5 5 (x1 + 10 + 5 * kx x2) d_C_copyFrom_121 ((kk_0_9 k1)).x rfl (by decide) (Or.inl rfl) hg12 (by simp only [Nat.add_assoc, kx]; try omega) rfl ?_
      obtain ⟨h13, eh13, hf⟩ := kBi_some hf
      refine kM_callv 125 m_I_copyFrom [.ref (x1 + 10 + 5 * kx x2)] [] d_C_copyFrom_122 cl_C_63 ⟨w_320, w_2⟩ ((kC_item k0 (kIn_lt hg11))).x ⟨rfl, by decide⟩ ⟨_, _, rfl⟩ rfl rfl (Nat.le_of_ble_eq_true rfl) ⟨Nat.le_of_ble_eq_true rfl, Nat.le_of_ble_eq_true rfl⟩ ⟨rfl, rfl⟩ ⟨Nat.zero_le _, Nat.zero_le _⟩ (j_I_copyFrom hro (kC_item k0 (kIn_lt hg11)) (kC_item k1 (kIn_lt hg12)) eh13) rfl ?_
      refine kJ_iinc 128 2 [(2, .int (x2 + 1)), (0, .ref x0), (1, .ref x1)] d_C_copyFrom_125 rfl ki_1 (Nat.le_of_ble_eq_true rfl) rfl rfl ?_
      refine kJ_goto 102 d_C_copyFrom_128 rfl ?_
      refine kJ_sub [1, 2, 0] rfl ?_
      exact hrec102 h13 (x2 + 1) hf
def f_C_copyFrom (h : kH) (x0 : Nat) (x1 : Nat) : Option (kH) := kLet (hset h x0 0 (h x1 0)) fun h1 => kLet (hset h1 x0 1 (h1 x1 1)) fun h2 => kLet (hset h2 x0 2 (h2 x1 2)) fun h3 => kLet (hset h3 x0 3 (h3 x1 3)) fun h4 => kLet (hset h4 x0 4 (h4 x1 4)) fun h5 => kCg 0 0 6 6 6 (kLet (hcpy h5 (x1 + 1) (x0 + 1) (kx 0) (kx 0) (kx 6)) fun h6 => kCg 0 0 12 12 12 (kLet (hcpy h6 (x1 + 2) (x0 + 2) (kx 0) (kx 0) (kx 12)) fun h7 => kCg 0 0 12 12 12 (kLet (hcpy h7 (x1 + 3) (x0 + 3) (kx 0) (kx 0) (kx 12)) fun h8 => kCg 0 0 12 12 12 (kLet (hcpy h8 (x1 + 4) (x0 + 4) (kx 0) (kx 0) (kx 12)) fun h9 => b_C_copyFrom_102 x0 x1 kFuel h9 0))))
theorem j_C_copyFrom {E : kE} {L : Nat} {xs : Nat → Int32} (hro : kRo E L xs) {K : List Nat} {h : kH} {x0 : Nat} {x1 : Nat} (k0 : kIs x0 0) (k1 : kIs x1 0) {h' : kH} (hf : f_C_copyFrom h x0 x1 = some h') : JM E m_C_copyFrom [.ref x0, .ref x1] (mk K h) none (mk K h') := by
  unfold f_C_copyFrom at hf
  refine JM.of pn_C (Nat.le_of_ble_eq_true rfl) ?_
  show kJ E m_C_copyFrom none (mk K h') 0 0 0 [(0, .ref x0), (1, .ref x1)] [] (mk K h)
  refine kJ_aload_n 1 0 d_C_copyFrom_0 rfl rfl rfl rfl ?_
  refine kJ_aload_n 2 1 d_C_copyFrom_1 rfl rfl rfl rfl ?_
  refine kM_getI 5 d_C_copyFrom_2 l_C_51 (k1).x rfl rfl rfl ?_
  refine kM_put 8 d_C_copyFrom_5 l_C_51 (k0).x rfl rfl (kFit_int _) rfl ?_
  obtain ⟨h1, eh1, hf⟩ := kLet_e hf
  rw [← eh1]
  refine kJ_aload_n 9 0 d_C_copyFrom_8 rfl rfl rfl rfl ?_
  refine kJ_aload_n 10 1 d_C_copyFrom_9 rfl rfl rfl rfl ?_
  refine kM_getI 13 d_C_copyFrom_10 l_C_54 (k1).x rfl rfl rfl ?_
  refine kM_put 16 d_C_copyFrom_13 l_C_54 (k0).x rfl rfl (kFit_int _) rfl ?_
  obtain ⟨h2, eh2, hf⟩ := kLet_e hf
  rw [← eh2]
  refine kJ_aload_n 17 0 d_C_copyFrom_16 rfl rfl rfl rfl ?_
  refine kJ_aload_n 18 1 d_C_copyFrom_17 rfl rfl rfl rfl ?_
  refine kM_getI 21 d_C_copyFrom_18 l_C_57 (k1).x rfl rfl rfl ?_
  refine kM_put 24 d_C_copyFrom_21 l_C_57 (k0).x rfl rfl (kFit_int _) rfl ?_
  obtain ⟨h3, eh3, hf⟩ := kLet_e hf
  rw [← eh3]
  refine kJ_aload_n 25 0 d_C_copyFrom_24 rfl rfl rfl rfl ?_
  refine kJ_aload_n 26 1 d_C_copyFrom_25 rfl rfl rfl rfl ?_
  refine kM_getI 29 d_C_copyFrom_26 l_C_60 (k1).x rfl rfl rfl ?_
  refine kM_put 32 d_C_copyFrom_29 l_C_60 (k0).x rfl rfl (kFit_int _) rfl ?_
  obtain ⟨h4, eh4, hf⟩ := kLet_e hf
  rw [← eh4]
  refine kJ_aload_n 33 0 d_C_copyFrom_32 rfl rfl rfl rfl ?_
  refine kJ_aload_n 34 1 d_C_copyFrom_33 rfl rfl rfl rfl ?_
  refine kM_getI 37 d_C_copyFrom_34 l_C_9 (k1).x rfl rfl rfl ?_
  refine kM_put 40 d_C_copyFrom_37 l_C_9 (k0).x rfl rfl (kFit_int _) rfl ?_
  obtain ⟨h5, eh5, hf⟩ := kLet_e hf
  rw [← eh5]
  refine kJ_aload_n 41 1 d_C_copyFrom_40 rfl rfl rfl rfl ?_
  refine kM_getR 44 0 (x1 + 1) d_C_copyFrom_41 l_C_15 (k1).x rfl rfl rfl rfl ?_
  refine kJ_iconst 45 0 d_C_copyFrom_44 ki_0 rfl ?_
  refine kJ_aload_n 46 0 d_C_copyFrom_45 rfl rfl rfl rfl ?_
  refine kM_getR 49 0 (x0 + 1) d_C_copyFrom_46 l_C_15 (k0).x rfl rfl rfl rfl ?_
  refine kJ_iconst 50 0 d_C_copyFrom_49 ki_0 rfl ?_
  refine kJ_bipush 52 6 d_C_copyFrom_50 kb_6 rfl ?_
  obtain ⟨⟨g1, g2, g3, g4, g5⟩, hf⟩ := kCg_some hf
  refine kM_copy 55 6 6 d_C_copyFrom_52 cp_C_44 ((kk_0_5 k1)).x rfl ((kk_0_5 k0)).x rfl g1 g2 g3 g4 g5 ⟨Nat.le_of_ble_eq_true rfl, Nat.le_of_ble_eq_true rfl⟩ rfl ?_
  obtain ⟨h6, eh6, hf⟩ := kLet_e hf
  rw [← eh6]
  refine kJ_aload_n 56 1 d_C_copyFrom_55 rfl rfl rfl rfl ?_
  refine kM_getR 59 1 (x1 + 2) d_C_copyFrom_56 l_C_19 (k1).x rfl rfl rfl rfl ?_
  refine kJ_iconst 60 0 d_C_copyFrom_59 ki_0 rfl ?_
  refine kJ_aload_n 61 0 d_C_copyFrom_60 rfl rfl rfl rfl ?_
  refine kM_getR 64 1 (x0 + 2) d_C_copyFrom_61 l_C_19 (k0).x rfl rfl rfl rfl ?_
  refine kJ_iconst 65 0 d_C_copyFrom_64 ki_0 rfl ?_
  refine kJ_bipush 67 12 d_C_copyFrom_65 kb_12 rfl ?_
  obtain ⟨⟨g1, g2, g3, g4, g5⟩, hf⟩ := kCg_some hf
  refine kM_copy 70 12 12 d_C_copyFrom_67 cp_C_44 ((kk_0_6 k1)).x rfl ((kk_0_6 k0)).x rfl g1 g2 g3 g4 g5 ⟨Nat.le_of_ble_eq_true rfl, Nat.le_of_ble_eq_true rfl⟩ rfl ?_
  obtain ⟨h7, eh7, hf⟩ := kLet_e hf
  rw [← eh7]
  refine kJ_aload_n 71 1 d_C_copyFrom_70 rfl rfl rfl rfl ?_
  refine kM_getR 74 2 (x1 + 3) d_C_copyFrom_71 l_C_22 (k1).x rfl rfl rfl rfl ?_
  refine kJ_iconst 75 0 d_C_copyFrom_74 ki_0 rfl ?_
  refine kJ_aload_n 76 0 d_C_copyFrom_75 rfl rfl rfl rfl ?_
  refine kM_getR 79 2 (x0 + 3) d_C_copyFrom_76 l_C_22 (k0).x rfl rfl rfl rfl ?_
  refine kJ_iconst 80 0 d_C_copyFrom_79 ki_0 rfl ?_
  refine kJ_bipush 82 12 d_C_copyFrom_80 kb_12 rfl ?_
  obtain ⟨⟨g1, g2, g3, g4, g5⟩, hf⟩ := kCg_some hf
  refine kM_copy 85 12 12 d_C_copyFrom_82 cp_C_44 ((kk_0_7 k1)).x rfl ((kk_0_7 k0)).x rfl g1 g2 g3 g4 g5 ⟨Nat.le_of_ble_eq_true rfl, Nat.le_of_ble_eq_true rfl⟩ rfl ?_
  obtain ⟨h8, eh8, hf⟩ := kLet_e hf
  rw [← eh8]
  refine kJ_aload_n 86 1 d_C_copyFrom_85 rfl rfl rfl rfl ?_
  refine kM_getR 89 3 (x1 + 4) d_C_copyFrom_86 l_C_25 (k1).x rfl rfl rfl rfl ?_
  refine kJ_iconst 90 0 d_C_copyFrom_89 ki_0 rfl ?_
  refine kJ_aload_n 91 0 d_C_copyFrom_90 rfl rfl rfl rfl ?_
  refine kM_getR 94 3 (x0 + 4) d_C_copyFrom_91 l_C_25 (k0).x rfl rfl rfl rfl ?_
  refine kJ_iconst 95 0 d_C_copyFrom_94 ki_0 rfl ?_
  refine kJ_bipush 97 12 d_C_copyFrom_95 kb_12 rfl ?_
  obtain ⟨⟨g1, g2, g3, g4, g5⟩, hf⟩ := kCg_some hf
  refine kM_copy 100 12 12 d_C_copyFrom_97 cp_C_44 ((kk_0_8 k1)).x rfl ((kk_0_8 k0)).x rfl g1 g2 g3 g4 g5 ⟨Nat.le_of_ble_eq_true rfl, Nat.le_of_ble_eq_true rfl⟩ rfl ?_
  obtain ⟨h9, eh9, hf⟩ := kLet_e hf
  rw [← eh9]
  refine kJ_iconst 101 0 d_C_copyFrom_100 ki_0 rfl ?_
  refine kJ_istore_n 102 [(2, .int 0), (0, .ref x0), (1, .ref x1)] d_C_copyFrom_101 rfl (Nat.le_of_ble_eq_true rfl) rfl rfl ?_
  refine kJ_sub [1, 2, 0] rfl ?_
  exact c_C_copyFrom_102 hro k0 k1 kFuel h9 0 hf
def f_Y_note (h : kH) (x0 : Nat) (x1 : Nat) : Option (kH) := kG (h x0 1) 7 (kBi (f_C_copyFrom h (x0 + 2 + 70 * kx (h x0 1)) x1) fun h2 => some h2)
theorem j_Y_note {E : kE} {L : Nat} {xs : Nat → Int32} (hro : kRo E L xs) {K : List Nat} {h : kH} {x0 : Nat} {x1 : Nat} (k0 : kIs x0 2) (k1 : kIs x1 0) {h' : kH} (hf : f_Y_note h x0 x1 = some h') : JM E m_Y_note [.ref x0, .ref x1] (mk K h) none (mk K h') := by
  unfold f_Y_note at hf
  refine JM.of pn_Y (Nat.le_of_ble_eq_true rfl) ?_
  show kJ E m_Y_note none (mk K h') 0 0 0 [(0, .ref x0), (1, .ref x1)] [] (mk K h)
  refine kJ_aload_n 1 0 d_Y_note_0 rfl rfl rfl rfl ?_
  refine kM_getR 4 0 (x0 + 1) d_Y_note_1 l_Y_11 (k0).x rfl rfl rfl rfl ?_
  refine kJ_aload_n 5 0 d_Y_note_4 rfl rfl rfl rfl ?_
  refine kM_getI 8 d_Y_note_5 l_Y_18 (k0).x rfl rfl rfl ?_
  obtain ⟨hg1, hf⟩ := kG_some hf
  refine kM_aald 9 7 1 70 (x0 + 2 + 70 * kx (h x0 1)) d_Y_note_8 ((kk_2_0 k0)).x rfl (by decide) (Or.inr rfl) hg1 (by simp only [Nat.add_assoc, kx]; try omega) rfl ?_
  refine kJ_aload_n 10 1 d_Y_note_9 rfl rfl rfl rfl ?_
  obtain ⟨h2, eh2, hf⟩ := kBi_some hf
  refine kM_callv 13 m_C_copyFrom [.ref x1] [] d_Y_note_10 cl_Y_22 ⟨w_316, w_1⟩ ((kk_h k0 (kIn_lt hg1))).x ⟨rfl, by decide⟩ ⟨_, _, rfl⟩ rfl rfl (Nat.le_of_ble_eq_true rfl) ⟨Nat.le_of_ble_eq_true rfl, Nat.le_of_ble_eq_true rfl⟩ ⟨rfl, rfl⟩ ⟨Nat.zero_le _, Nat.zero_le _⟩ (j_C_copyFrom hro (kk_h k0 (kIn_lt hg1)) k1 eh2) rfl ?_
  cases hf
  exact kJ_ret d_Y_note_13 rfl (Nat.zero_le _) (Nat.zero_le _)
def f_C_changeSetting (h : kH) (x0 : Nat) (x1 : Int32) (x2 : Int32) : Option (Int32 × kH) := if x1 < 0 then (some ((-2), h)) else (if 6 ≤ x1 then (some ((-2), h)) else (if x2 < 0 then (some ((-2), h)) else (kG x1 6 (if x2 ≤ (kHigh (kx x1)) then (kG x1 6 (kG x1 6 (kLet (hset h (x0 + 1) (kx x1) x2) fun h1 => some ((h (x0 + 1) (kx x1)), h1)))) else (some ((-2), h))))))
theorem j_C_changeSetting {E : kE} {L : Nat} {xs : Nat → Int32} (hro : kRo E L xs) {K : List Nat} {h : kH} {x0 : Nat} {x1 : Int32} {x2 : Int32} (k0 : kIs x0 0) {r : Int32} {h' : kH} (hf : f_C_changeSetting h x0 x1 x2 = some (r, h')) : JM E m_C_changeSetting [.ref x0, .int x1, .int x2] (mk K h) (some r) (mk K h') := by
  unfold f_C_changeSetting at hf
  refine JM.of pn_C (Nat.le_of_ble_eq_true rfl) ?_
  show kJ E m_C_changeSetting (some r) (mk K h') 0 0 0 [(0, .ref x0), (1, .int x1), (2, .int x2)] [] (mk K h)
  refine kJ_iload_n 1 1 d_C_changeSetting_0 rfl rfl rfl ?_
  refine kJ_if_lt 4 23 d_C_changeSetting_1 rfl rfl (fun hc => ?_) (fun hc => ?_)
  · have hf := kIf_t hf hc
    refine kJ_bipush 25 (-2) d_C_changeSetting_23 kb_m2 rfl ?_
    cases hf
    exact kJ_iret d_C_changeSetting_25 rfl rfl (Nat.zero_le _) (Nat.zero_le _)
  · have hf := kIf_f hf hc
    refine kJ_iload_n 5 1 d_C_changeSetting_4 rfl rfl rfl ?_
    refine kJ_bipush 7 6 d_C_changeSetting_5 kb_6 rfl ?_
    refine kJ_icmp_ge 10 23 d_C_changeSetting_7 rfl rfl (fun hc => ?_) (fun hc => ?_)
    · have hf := kIf_t hf hc
      refine kJ_bipush 25 (-2) d_C_changeSetting_23 kb_m2 rfl ?_
      cases hf
      exact kJ_iret d_C_changeSetting_25 rfl rfl (Nat.zero_le _) (Nat.zero_le _)
    · have hf := kIf_f hf hc
      refine kJ_iload_n 11 2 d_C_changeSetting_10 rfl rfl rfl ?_
      refine kJ_if_lt 14 23 d_C_changeSetting_11 rfl rfl (fun hc => ?_) (fun hc => ?_)
      · have hf := kIf_t hf hc
        refine kJ_bipush 25 (-2) d_C_changeSetting_23 kb_m2 rfl ?_
        cases hf
        exact kJ_iret d_C_changeSetting_25 rfl rfl (Nat.zero_le _) (Nat.zero_le _)
      · have hf := kIf_f hf hc
        refine kJ_iload_n 15 2 d_C_changeSetting_14 rfl rfl rfl ?_
        refine kJ_gets1 18 d_C_changeSetting_15 wn_332 rfl ?_
        refine kJ_iload_n 19 1 d_C_changeSetting_18 rfl rfl rfl ?_
        obtain ⟨hg, hf⟩ := kG_some hf
        refine kM_high 20 hro d_C_changeSetting_19 hg rfl ?_
        refine kJ_icmp_le 23 26 d_C_changeSetting_20 rfl rfl (fun hc => ?_) (fun hc => ?_)
        · have hf := kIf_t hf hc
          refine kJ_aload_n 27 0 d_C_changeSetting_26 rfl rfl rfl rfl ?_
          refine kM_getR 30 0 (x0 + 1) d_C_changeSetting_27 l_C_15 (k0).x rfl rfl rfl rfl ?_
          refine kJ_iload_n 31 1 d_C_changeSetting_30 rfl rfl rfl ?_
          obtain ⟨hg, hf⟩ := kG_some hf
          refine kM_iald 32 6 d_C_changeSetting_31 ((kk_0_5 k0)).x rfl hg rfl ?_
          refine kJ_istore_n 33 [(3, .int (h (x0 + 1) (kx x1))), (0, .ref x0), (1, .int x1), (2, .int x2)] d_C_changeSetting_32 rfl (Nat.le_of_ble_eq_true rfl) rfl rfl ?_
          refine kJ_aload_n 34 1 d_C_changeSetting_33 rfl rfl rfl rfl ?_
          refine kM_getR 37 0 (x0 + 1) d_C_changeSetting_34 l_C_15 (k0).x rfl rfl rfl rfl ?_
          refine kJ_iload_n 38 2 d_C_changeSetting_37 rfl rfl rfl ?_
          refine kJ_iload_n 39 3 d_C_changeSetting_38 rfl rfl rfl ?_
          obtain ⟨hg, hf⟩ := kG_some hf
          refine kM_iast 40 6 d_C_changeSetting_39 ((kk_0_5 k0)).x rfl hg rfl ?_
          obtain ⟨h1, eh1, hf⟩ := kLet_e hf
          rw [← eh1]
          refine kJ_iload_n 41 0 d_C_changeSetting_40 rfl rfl rfl ?_
          cases hf
          exact kJ_iret d_C_changeSetting_41 rfl rfl (Nat.zero_le _) (Nat.zero_le _)
        · have hf := kIf_f hf hc
          refine kJ_bipush 25 (-2) d_C_changeSetting_23 kb_m2 rfl ?_
          cases hf
          exact kJ_iret d_C_changeSetting_25 rfl rfl (Nat.zero_le _) (Nat.zero_le _)
def f_P_isError (x0 : Int32) : Bool := if x0 < (-5) then false else (if (-1) < x0 then false else true)
theorem j_P_isError {E : kE} {L : Nat} {xs : Nat → Int32} (hro : kRo E L xs) {K : List Nat} {h0 : kH} {x0 : Int32} {r : Bool} (hf : f_P_isError x0 = r) : JM E m_P_isError [.int x0] (mk K h0) (some (kB2 r)) (mk K h0) := by
  unfold f_P_isError at hf
  refine JM.of pn_P (Nat.le_of_ble_eq_true rfl) ?_
  show kJ E m_P_isError (some (kB2 r)) (mk K h0) 0 0 0 [(0, .int x0)] [] (mk K h0)
  refine kJ_iload_n 1 0 d_P_isError_0 rfl rfl rfl ?_
  refine kJ_bipush 3 (-5) d_P_isError_1 kb_m5 rfl ?_
  refine kJ_icmp_lt 6 15 d_P_isError_3 rfl rfl (fun hc => ?_) (fun hc => ?_)
  · have hf := kIf_t hf hc
    refine kJ_iconst 16 0 d_P_isError_15 ki_0 rfl ?_
    subst hf
    exact kJ_iret d_P_isError_16 rfl (kB2_z _) (Nat.zero_le _) (Nat.zero_le _)
  · have hf := kIf_f hf hc
    refine kJ_iload_n 7 0 d_P_isError_6 rfl rfl rfl ?_
    refine kJ_iconst 8 (-1) d_P_isError_7 ki_m1 rfl ?_
    refine kJ_icmp_gt 11 15 d_P_isError_8 rfl rfl (fun hc => ?_) (fun hc => ?_)
    · have hf := kIf_t hf hc
      refine kJ_iconst 16 0 d_P_isError_15 ki_0 rfl ?_
      subst hf
      exact kJ_iret d_P_isError_16 rfl (kB2_z _) (Nat.zero_le _) (Nat.zero_le _)
    · have hf := kIf_f hf hc
      refine kJ_iconst 12 1 d_P_isError_11 ki_1 rfl ?_
      refine kJ_goto 16 d_P_isError_12 rfl ?_
      subst hf
      exact kJ_iret d_P_isError_16 rfl (kB2_z _) (Nat.zero_le _) (Nat.zero_le _)
def f_JM_min (x0 : Int32) (x1 : Int32) : Int32 := if x1 < x0 then x1 else x0
theorem j_JM_min {E : kE} {L : Nat} {xs : Nat → Int32} (hro : kRo E L xs) {K : List Nat} {h0 : kH} {x0 : Int32} {x1 : Int32} {r : Int32} (hf : f_JM_min x0 x1 = r) : JM E m_JM_min [.int x0, .int x1] (mk K h0) (some r) (mk K h0) := by
  unfold f_JM_min at hf
  refine JM.ofF pf_JM_min (Nat.le_of_ble_eq_true rfl) ?_
  show kJ E m_JM_min (some r) (mk K h0) 0 0 0 [(0, .int x0), (1, .int x1)] [] (mk K h0)
  refine kJ_iload_n 1 0 d_JM_min_0 rfl rfl rfl ?_
  refine kJ_iload_n 2 1 d_JM_min_1 rfl rfl rfl ?_
  refine kJ_icmp_gt 5 9 d_JM_min_2 rfl rfl (fun hc => ?_) (fun hc => ?_)
  · have hf := kIf_t hf hc
    refine kJ_iload_n 10 1 d_JM_min_9 rfl rfl rfl ?_
    subst hf
    exact kJ_iret d_JM_min_10 rfl rfl (Nat.zero_le _) (Nat.zero_le _)
  · have hf := kIf_f hf hc
    refine kJ_iload_n 6 0 d_JM_min_5 rfl rfl rfl ?_
    refine kJ_goto 10 d_JM_min_6 rfl ?_
    subst hf
    exact kJ_iret d_JM_min_10 rfl rfl (Nat.zero_le _) (Nat.zero_le _)
def b_Y_settle_27 (h : kH) (x0 : Nat) (x1 : Int32) (s0 : Nat) (s1 : Int32) : Option (Int32 × kH) := kLet (hset h s0 1 s1) fun h1 => kLet (hset h1 x0 2 (f_JM_min ((h1 x0 2) + 1) 6)) fun h2 => some (x1, h2)
theorem c_Y_settle_27 {E : kE} {L : Nat} {xs : Nat → Int32} (hro : kRo E L xs) {K : List Nat} {h : kH} {x0 : Nat} {x1 : Int32} {s0 : Nat} {s1 : Int32} (k0 : kIs x0 2) (ks0 : kIs s0 2) {r : Int32} {h' : kH} (hf : b_Y_settle_27 h x0 x1 s0 s1 = some (r, h')) : kJ E m_Y_settle (some r) (mk K h') 0 0 27 [(0, .ref x0), (1, .int x1)] [.int s1, .ref s0] (mk K h) := by
  unfold b_Y_settle_27 at hf
  refine kM_put 30 d_Y_settle_27 l_Y_18 (ks0).x rfl rfl (kFit_int _) rfl ?_
  obtain ⟨h1, eh1, hf⟩ := kLet_e hf
  rw [← eh1]
  refine kJ_aload_n 31 0 d_Y_settle_30 rfl rfl rfl rfl ?_
  refine kJ_aload_n 32 0 d_Y_settle_31 rfl rfl rfl rfl ?_
  refine kM_getI 35 d_Y_settle_32 l_Y_30 (k0).x rfl rfl rfl ?_
  refine kJ_iconst 36 1 d_Y_settle_35 ki_1 rfl ?_
  refine kJ_iadd 37 d_Y_settle_36 rfl ?_
  refine kJ_bipush 39 6 d_Y_settle_37 kb_6 rfl ?_
  refine kM_calls 42 m_JM_min [.int ((h1 x0 2) + 1), .int 6] [.ref x0] d_Y_settle_39 cl_Y_33 w_342 rfl rfl (Nat.le_of_ble_eq_true rfl) ⟨Nat.le_of_ble_eq_true rfl, Nat.le_of_ble_eq_true rfl⟩ ⟨rfl, rfl⟩ ⟨Nat.zero_le _, Nat.zero_le _⟩ (j_JM_min hro rfl) rfl ?_
  refine kM_put 45 d_Y_settle_42 l_Y_30 (k0).x rfl rfl (kFit_int _) rfl ?_
  obtain ⟨h2, eh2, hf⟩ := kLet_e hf
  rw [← eh2]
  refine kJ_iload_n 46 1 d_Y_settle_45 rfl rfl rfl ?_
  cases hf
  exact kJ_iret d_Y_settle_46 rfl rfl (Nat.zero_le _) (Nat.zero_le _)
def f_Y_settle (h : kH) (x0 : Nat) (x1 : Int32) : Option (Int32 × kH) := if (f_P_isError x1) = true then (some (x1, h)) else (if (h x0 1) = 6 then (b_Y_settle_27 h x0 x1 x0 0) else (b_Y_settle_27 h x0 x1 x0 ((h x0 1) + 1)))
theorem j_Y_settle {E : kE} {L : Nat} {xs : Nat → Int32} (hro : kRo E L xs) {K : List Nat} {h : kH} {x0 : Nat} {x1 : Int32} (k0 : kIs x0 2) {r : Int32} {h' : kH} (hf : f_Y_settle h x0 x1 = some (r, h')) : JM E m_Y_settle [.ref x0, .int x1] (mk K h) (some r) (mk K h') := by
  unfold f_Y_settle at hf
  refine JM.of pn_Y (Nat.le_of_ble_eq_true rfl) ?_
  show kJ E m_Y_settle (some r) (mk K h') 0 0 0 [(0, .ref x0), (1, .int x1)] [] (mk K h)
  refine kJ_iload_n 1 1 d_Y_settle_0 rfl rfl rfl ?_
  refine kM_calls 4 m_P_isError [.int x1] [] d_Y_settle_1 cl_Y_26 w_339 rfl rfl (Nat.le_of_ble_eq_true rfl) ⟨Nat.le_of_ble_eq_true rfl, Nat.le_of_ble_eq_true rfl⟩ ⟨rfl, rfl⟩ ⟨Nat.zero_le _, Nat.zero_le _⟩ (j_P_isError hro rfl) rfl ?_
  refine kJ_if_ne 7 45 d_Y_settle_4 rfl rfl (fun hc => ?_) (fun hc => ?_)
  · have hf := kIf_t hf (kB2_1 hc)
    refine kJ_iload_n 46 1 d_Y_settle_45 rfl rfl rfl ?_
    cases hf
    exact kJ_iret d_Y_settle_46 rfl rfl (Nat.zero_le _) (Nat.zero_le _)
  · have hf := kIf_f hf (kB2_0 hc)
    refine kJ_aload_n 8 0 d_Y_settle_7 rfl rfl rfl rfl ?_
    refine kJ_aload_n 9 0 d_Y_settle_8 rfl rfl rfl rfl ?_
    refine kM_getI 12 d_Y_settle_9 l_Y_18 (k0).x rfl rfl rfl ?_
    refine kJ_bipush 14 6 d_Y_settle_12 kb_6 rfl ?_
    refine kJ_icmp_ne 17 21 d_Y_settle_14 rfl rfl (fun hc => ?_) (fun hc => ?_)
    · have hf := kIf_f hf hc
      refine kJ_aload_n 22 0 d_Y_settle_21 rfl rfl rfl rfl ?_
      refine kM_getI 25 d_Y_settle_22 l_Y_18 (k0).x rfl rfl rfl ?_
      refine kJ_iconst 26 1 d_Y_settle_25 ki_1 rfl ?_
      refine kJ_iadd 27 d_Y_settle_26 rfl ?_
      refine kJ_sub [0, 1] rfl ?_
      exact c_Y_settle_27 hro k0 k0 hf
    · have hf := kIf_t hf hc
      refine kJ_iconst 18 0 d_Y_settle_17 ki_0 rfl ?_
      refine kJ_goto 27 d_Y_settle_18 rfl ?_
      refine kJ_sub [0, 1] rfl ?_
      exact c_Y_settle_27 hro k0 k0 hf
def f_P_set (h : kH) (x1 : Int32) (x2 : Int32) : Option (Int32 × kH) := kBi (f_Y_note h 145 1) fun h1 => kBd (f_C_changeSetting h1 1 x1 x2) fun v3 h2 => kBd (f_Y_settle h2 145 v3) fun v5 h4 => some (v5, h4)
theorem j_P_set {E : kE} {L : Nat} {xs : Nat → Int32} (hro : kRo E L xs) {K : List Nat} {h : kH} {x1 : Int32} {x2 : Int32} {r : Int32} {h' : kH} (hf : f_P_set h x1 x2 = some (r, h')) : JM E m_P_set [.ref 0, .int x1, .int x2] (mk K h) (some r) (mk K h') := by
  unfold f_P_set at hf
  refine JM.of pn_P (Nat.le_of_ble_eq_true rfl) ?_
  show kJ E m_P_set (some r) (mk K h') 0 0 0 [(0, .ref 0), (1, .int x1), (2, .int x2)] [] (mk K h)
  refine kJ_aload_n 1 0 d_P_set_0 rfl rfl rfl rfl ?_
  refine kM_getR 4 144 145 d_P_set_1 l_P_29 (kp_0).x rfl rfl rfl rfl ?_
  refine kJ_aload_n 5 0 d_P_set_4 rfl rfl rfl rfl ?_
  refine kM_getR 8 0 1 d_P_set_5 l_P_10 (kp_0).x rfl rfl rfl rfl ?_
  obtain ⟨h1, eh1, hf⟩ := kBi_some hf
  refine kM_callv 11 m_Y_note [.ref 1] [] d_P_set_8 cl_P_55 ⟨w_312, w_0⟩ (kp_145).x ⟨rfl, by decide⟩ ⟨_, _, rfl⟩ rfl rfl (Nat.le_of_ble_eq_true rfl) ⟨Nat.le_of_ble_eq_true rfl, Nat.le_of_ble_eq_true rfl⟩ ⟨rfl, rfl⟩ ⟨Nat.zero_le _, Nat.zero_le _⟩ (j_Y_note hro kp_145 kp_1 eh1) rfl ?_
  refine kJ_aload_n 12 0 d_P_set_11 rfl rfl rfl rfl ?_
  refine kM_getR 15 144 145 d_P_set_12 l_P_29 (kp_0).x rfl rfl rfl rfl ?_
  refine kJ_aload_n 16 0 d_P_set_15 rfl rfl rfl rfl ?_
  refine kM_getR 19 0 1 d_P_set_16 l_P_10 (kp_0).x rfl rfl rfl rfl ?_
  refine kJ_iload_n 20 1 d_P_set_19 rfl rfl rfl ?_
  refine kJ_iload_n 21 2 d_P_set_20 rfl rfl rfl ?_
  obtain ⟨v3, h2, ev3, hf⟩ := kBd_some hf
  refine kM_callv 24 m_C_changeSetting [.int x1, .int x2] [.ref 145] d_P_set_21 cl_P_59 ⟨w_330, w_4⟩ (kp_1).x ⟨rfl, by decide⟩ ⟨_, _, rfl⟩ rfl rfl (Nat.le_of_ble_eq_true rfl) ⟨Nat.le_of_ble_eq_true rfl, Nat.le_of_ble_eq_true rfl⟩ ⟨rfl, rfl⟩ ⟨Nat.zero_le _, Nat.zero_le _⟩ (j_C_changeSetting hro kp_1 ev3) rfl ?_
  obtain ⟨v5, h4, ev5, hf⟩ := kBd_some hf
  refine kM_callv 27 m_Y_settle [.int v3] [] d_P_set_24 cl_P_63 ⟨w_336, w_5⟩ (kp_145).x ⟨rfl, by decide⟩ ⟨_, _, rfl⟩ rfl rfl (Nat.le_of_ble_eq_true rfl) ⟨Nat.le_of_ble_eq_true rfl, Nat.le_of_ble_eq_true rfl⟩ ⟨rfl, rfl⟩ ⟨Nat.zero_le _, Nat.zero_le _⟩ (j_Y_settle hro kp_145 ev5) rfl ?_
  cases hf
  exact kJ_iret d_P_set_27 rfl rfl (Nat.zero_le _) (Nat.zero_le _)
def b_C_addMember_78 (h : kH) (x0 : Nat) : Option (Int32 × kH) := kLet (hset h x0 1 ((h x0 1) + 1)) fun h4 => some ((h x0 1), h4)
theorem c_C_addMember_78 {E : kE} {L : Nat} {xs : Nat → Int32} (hro : kRo E L xs) {K : List Nat} {h : kH} {x0 : Nat} (k0 : kIs x0 0) {r : Int32} {h' : kH} (hf : b_C_addMember_78 h x0 = some (r, h')) : kJ E m_C_addMember (some r) (mk K h') 0 0 78 [(0, .ref x0)] [] (mk K h) := by
  unfold b_C_addMember_78 at hf
  refine kJ_aload_n 79 0 d_C_addMember_78 rfl rfl rfl rfl ?_
  refine kJ_dup 80 d_C_addMember_79 rfl rfl ?_
  refine kM_getI 83 d_C_addMember_80 l_C_54 (k0).x rfl rfl rfl ?_
  refine kJ_dup_x1 84 d_C_addMember_83 rfl rfl rfl ?_
  refine kJ_iconst 85 1 d_C_addMember_84 ki_1 rfl ?_
  refine kJ_iadd 86 d_C_addMember_85 rfl ?_
  refine kM_put 89 d_C_addMember_86 l_C_54 (k0).x rfl rfl (kFit_int _) rfl ?_
  obtain ⟨h4, eh4, hf⟩ := kLet_e hf
  rw [← eh4]
  cases hf
  exact kJ_iret d_C_addMember_89 rfl rfl (Nat.zero_le _) (Nat.zero_le _)
def f_C_addMember (h : kH) (x0 : Nat) (x1 : Int32) (x2 : Int32) : Option (Int32 × kH) := if x1 < 1 then (some ((-2), h)) else (if 9 < x1 then (some ((-2), h)) else (if x2 < 0 then (some ((-2), h)) else (if x2 ≤ 3 then (if (h x0 1) < 12 then (kG (h x0 1) 12 (kLet (hset h (x0 + 2) (kx (h x0 1)) x1) fun h1 => kG (h1 x0 1) 12 (kLet (hset h1 (x0 + 3) (kx (h1 x0 1)) x2) fun h2 => kG (h2 x0 1) 12 (kLet (hset h2 (x0 + 4) (kx (h2 x0 1)) (-6)) fun h3 => if (h3 x0 1) = 0 then (kLet (hset h3 x0 4 0) fun h5 => b_C_addMember_78 h5 x0) else (b_C_addMember_78 h3 x0))))) else (some ((-4), h))) else (some ((-2), h)))))
theorem j_C_addMember {E : kE} {L : Nat} {xs : Nat → Int32} (hro : kRo E L xs) {K : List Nat} {h : kH} {x0 : Nat} {x1 : Int32} {x2 : Int32} (k0 : kIs x0 0) {r : Int32} {h' : kH} (hf : f_C_addMember h x0 x1 x2 = some (r, h')) : JM E m_C_addMember [.ref x0, .int x1, .int x2] (mk K h) (some r) (mk K h') := by
  unfold f_C_addMember at hf
  refine JM.of pn_C (Nat.le_of_ble_eq_true rfl) ?_
  show kJ E m_C_addMember (some r) (mk K h') 0 0 0 [(0, .ref x0), (1, .int x1), (2, .int x2)] [] (mk K h)
  refine kJ_iload_n 1 1 d_C_addMember_0 rfl rfl rfl ?_
  refine kJ_iconst 2 1 d_C_addMember_1 ki_1 rfl ?_
  refine kJ_icmp_lt 5 20 d_C_addMember_2 rfl rfl (fun hc => ?_) (fun hc => ?_)
  · have hf := kIf_t hf hc
    refine kJ_bipush 22 (-2) d_C_addMember_20 kb_m2 rfl ?_
    cases hf
    exact kJ_iret d_C_addMember_22 rfl rfl (Nat.zero_le _) (Nat.zero_le _)
  · have hf := kIf_f hf hc
    refine kJ_iload_n 6 1 d_C_addMember_5 rfl rfl rfl ?_
    refine kJ_bipush 8 9 d_C_addMember_6 kb_9 rfl ?_
    refine kJ_icmp_gt 11 20 d_C_addMember_8 rfl rfl (fun hc => ?_) (fun hc => ?_)
    · have hf := kIf_t hf hc
      refine kJ_bipush 22 (-2) d_C_addMember_20 kb_m2 rfl ?_
      cases hf
      exact kJ_iret d_C_addMember_22 rfl rfl (Nat.zero_le _) (Nat.zero_le _)
    · have hf := kIf_f hf hc
      refine kJ_iload_n 12 2 d_C_addMember_11 rfl rfl rfl ?_
      refine kJ_if_lt 15 20 d_C_addMember_12 rfl rfl (fun hc => ?_) (fun hc => ?_)
      · have hf := kIf_t hf hc
        refine kJ_bipush 22 (-2) d_C_addMember_20 kb_m2 rfl ?_
        cases hf
        exact kJ_iret d_C_addMember_22 rfl rfl (Nat.zero_le _) (Nat.zero_le _)
      · have hf := kIf_f hf hc
        refine kJ_iload_n 16 2 d_C_addMember_15 rfl rfl rfl ?_
        refine kJ_iconst 17 3 d_C_addMember_16 ki_3 rfl ?_
        refine kJ_icmp_le 20 23 d_C_addMember_17 rfl rfl (fun hc => ?_) (fun hc => ?_)
        · have hf := kIf_t hf hc
          refine kJ_aload_n 24 0 d_C_addMember_23 rfl rfl rfl rfl ?_
          refine kM_getI 27 d_C_addMember_24 l_C_54 (k0).x rfl rfl rfl ?_
          refine kJ_bipush 29 12 d_C_addMember_27 kb_12 rfl ?_
          refine kJ_icmp_lt 32 35 d_C_addMember_29 rfl rfl (fun hc => ?_) (fun hc => ?_)
          · have hf := kIf_t hf hc
            refine kJ_aload_n 36 0 d_C_addMember_35 rfl rfl rfl rfl ?_
            refine kM_getR 39 1 (x0 + 2) d_C_addMember_36 l_C_19 (k0).x rfl rfl rfl rfl ?_
            refine kJ_aload_n 40 0 d_C_addMember_39 rfl rfl rfl rfl ?_
            refine kM_getI 43 d_C_addMember_40 l_C_54 (k0).x rfl rfl rfl ?_
            refine kJ_iload_n 44 1 d_C_addMember_43 rfl rfl rfl ?_
            obtain ⟨hg, hf⟩ := kG_some hf
            refine kM_iast 45 12 d_C_addMember_44 ((kk_0_6 k0)).x rfl hg rfl ?_
            obtain ⟨h1, eh1, hf⟩ := kLet_e hf
            rw [← eh1]
            refine kJ_aload_n 46 0 d_C_addMember_45 rfl rfl rfl rfl ?_
            refine kM_getR 49 2 (x0 + 3) d_C_addMember_46 l_C_22 (k0).x rfl rfl rfl rfl ?_
            refine kJ_aload_n 50 0 d_C_addMember_49 rfl rfl rfl rfl ?_
            refine kM_getI 53 d_C_addMember_50 l_C_54 (k0).x rfl rfl rfl ?_
            refine kJ_iload_n 54 2 d_C_addMember_53 rfl rfl rfl ?_
            obtain ⟨hg, hf⟩ := kG_some hf
            refine kM_iast 55 12 d_C_addMember_54 ((kk_0_7 k0)).x rfl hg rfl ?_
            obtain ⟨h2, eh2, hf⟩ := kLet_e hf
            rw [← eh2]
            refine kJ_aload_n 56 0 d_C_addMember_55 rfl rfl rfl rfl ?_
            refine kM_getR 59 3 (x0 + 4) d_C_addMember_56 l_C_25 (k0).x rfl rfl rfl rfl ?_
            refine kJ_aload_n 60 0 d_C_addMember_59 rfl rfl rfl rfl ?_
            refine kM_getI 63 d_C_addMember_60 l_C_54 (k0).x rfl rfl rfl ?_
            refine kJ_bipush 65 (-6) d_C_addMember_63 kb_m6 rfl ?_
            obtain ⟨hg, hf⟩ := kG_some hf
            refine kM_iast 66 12 d_C_addMember_65 ((kk_0_8 k0)).x rfl hg rfl ?_
            obtain ⟨h3, eh3, hf⟩ := kLet_e hf
            rw [← eh3]
            refine kJ_aload_n 67 0 d_C_addMember_66 rfl rfl rfl rfl ?_
            refine kM_getI 70 d_C_addMember_67 l_C_54 (k0).x rfl rfl rfl ?_
            refine kJ_if_ne 73 78 d_C_addMember_70 rfl rfl (fun hc => ?_) (fun hc => ?_)
            · have hf := kIf_f hf hc
              refine kJ_sub [0] rfl ?_
              exact c_C_addMember_78 hro k0 hf
            · have hf := kIf_t hf hc
              refine kJ_aload_n 74 0 d_C_addMember_73 rfl rfl rfl rfl ?_
              refine kJ_iconst 75 0 d_C_addMember_74 ki_0 rfl ?_
              refine kM_put 78 d_C_addMember_75 l_C_9 (k0).x rfl rfl (kFit_int _) rfl ?_
              obtain ⟨h5, eh5, hf⟩ := kLet_e hf
              rw [← eh5]
              refine kJ_sub [0] rfl ?_
              exact c_C_addMember_78 hro k0 hf
          · have hf := kIf_f hf hc
            refine kJ_bipush 34 (-4) d_C_addMember_32 kb_m4 rfl ?_
            cases hf
            exact kJ_iret d_C_addMember_34 rfl rfl (Nat.zero_le _) (Nat.zero_le _)
        · have hf := kIf_f hf hc
          refine kJ_bipush 22 (-2) d_C_addMember_20 kb_m2 rfl ?_
          cases hf
          exact kJ_iret d_C_addMember_22 rfl rfl (Nat.zero_le _) (Nat.zero_le _)
def f_P_member (h : kH) (x1 : Int32) (x2 : Int32) : Option (Int32 × kH) := kBi (f_Y_note h 145 1) fun h1 => kBd (f_C_addMember h1 1 x1 x2) fun v3 h2 => kBd (f_Y_settle h2 145 v3) fun v5 h4 => some (v5, h4)
theorem j_P_member {E : kE} {L : Nat} {xs : Nat → Int32} (hro : kRo E L xs) {K : List Nat} {h : kH} {x1 : Int32} {x2 : Int32} {r : Int32} {h' : kH} (hf : f_P_member h x1 x2 = some (r, h')) : JM E m_P_member [.ref 0, .int x1, .int x2] (mk K h) (some r) (mk K h') := by
  unfold f_P_member at hf
  refine JM.of pn_P (Nat.le_of_ble_eq_true rfl) ?_
  show kJ E m_P_member (some r) (mk K h') 0 0 0 [(0, .ref 0), (1, .int x1), (2, .int x2)] [] (mk K h)
  refine kJ_aload_n 1 0 d_P_member_0 rfl rfl rfl rfl ?_
  refine kM_getR 4 144 145 d_P_member_1 l_P_29 (kp_0).x rfl rfl rfl rfl ?_
  refine kJ_aload_n 5 0 d_P_member_4 rfl rfl rfl rfl ?_
  refine kM_getR 8 0 1 d_P_member_5 l_P_10 (kp_0).x rfl rfl rfl rfl ?_
  obtain ⟨h1, eh1, hf⟩ := kBi_some hf
  refine kM_callv 11 m_Y_note [.ref 1] [] d_P_member_8 cl_P_55 ⟨w_312, w_0⟩ (kp_145).x ⟨rfl, by decide⟩ ⟨_, _, rfl⟩ rfl rfl (Nat.le_of_ble_eq_true rfl) ⟨Nat.le_of_ble_eq_true rfl, Nat.le_of_ble_eq_true rfl⟩ ⟨rfl, rfl⟩ ⟨Nat.zero_le _, Nat.zero_le _⟩ (j_Y_note hro kp_145 kp_1 eh1) rfl ?_
  refine kJ_aload_n 12 0 d_P_member_11 rfl rfl rfl rfl ?_
  refine kM_getR 15 144 145 d_P_member_12 l_P_29 (kp_0).x rfl rfl rfl rfl ?_
  refine kJ_aload_n 16 0 d_P_member_15 rfl rfl rfl rfl ?_
  refine kM_getR 19 0 1 d_P_member_16 l_P_10 (kp_0).x rfl rfl rfl rfl ?_
  refine kJ_iload_n 20 1 d_P_member_19 rfl rfl rfl ?_
  refine kJ_iload_n 21 2 d_P_member_20 rfl rfl rfl ?_
  obtain ⟨v3, h2, ev3, hf⟩ := kBd_some hf
  refine kM_callv 24 m_C_addMember [.int x1, .int x2] [.ref 145] d_P_member_21 cl_P_67 ⟨w_350, w_6⟩ (kp_1).x ⟨rfl, by decide⟩ ⟨_, _, rfl⟩ rfl rfl (Nat.le_of_ble_eq_true rfl) ⟨Nat.le_of_ble_eq_true rfl, Nat.le_of_ble_eq_true rfl⟩ ⟨rfl, rfl⟩ ⟨Nat.zero_le _, Nat.zero_le _⟩ (j_C_addMember hro kp_1 ev3) rfl ?_
  obtain ⟨v5, h4, ev5, hf⟩ := kBd_some hf
  refine kM_callv 27 m_Y_settle [.int v3] [] d_P_member_24 cl_P_63 ⟨w_336, w_5⟩ (kp_145).x ⟨rfl, by decide⟩ ⟨_, _, rfl⟩ rfl rfl (Nat.le_of_ble_eq_true rfl) ⟨Nat.le_of_ble_eq_true rfl, Nat.le_of_ble_eq_true rfl⟩ ⟨rfl, rfl⟩ ⟨Nat.zero_le _, Nat.zero_le _⟩ (j_Y_settle hro kp_145 ev5) rfl ?_
  cases hf
  exact kJ_iret d_P_member_27 rfl rfl (Nat.zero_le _) (Nat.zero_le _)
def f_I_begin (h : kH) (x0 : Nat) (x1 : Int32) (x2 : Int32) : Option (kH) := kLet (hset h x0 0 x1) fun h1 => kLet (hset h1 x0 1 x2) fun h2 => kLet (hset h2 x0 2 0) fun h3 => kLet (hset h3 x0 3 0) fun h4 => kLet (hset h4 x0 4 (-6)) fun h5 => kLet (hset h5 x0 5 0) fun h6 => kLet (hfill h6 (x0 + 1) 6 0) fun h7 => kLet (hfill h7 (x0 + 2) 12 (-6)) fun h8 => kLet (hfill h8 (x0 + 3) 12 (-6)) fun h9 => kLet (hfill h9 (x0 + 4) 12 (-6)) fun h10 => some h10
theorem j_I_begin {E : kE} {L : Nat} {xs : Nat → Int32} (hro : kRo E L xs) {K : List Nat} {h : kH} {x0 : Nat} {x1 : Int32} {x2 : Int32} (k0 : kIs x0 3) {h' : kH} (hf : f_I_begin h x0 x1 x2 = some h') : JM E m_I_begin [.ref x0, .int x1, .int x2] (mk K h) none (mk K h') := by
  unfold f_I_begin at hf
  refine JM.of pn_I (Nat.le_of_ble_eq_true rfl) ?_
  show kJ E m_I_begin none (mk K h') 0 0 0 [(0, .ref x0), (1, .int x1), (2, .int x2)] [] (mk K h)
  refine kJ_aload_n 1 0 d_I_begin_0 rfl rfl rfl rfl ?_
  refine kJ_iload_n 2 1 d_I_begin_1 rfl rfl rfl ?_
  refine kM_put 5 d_I_begin_2 l_I_24 (k0).x rfl rfl (kFit_int _) rfl ?_
  obtain ⟨h1, eh1, hf⟩ := kLet_e hf
  rw [← eh1]
  refine kJ_aload_n 6 0 d_I_begin_5 rfl rfl rfl rfl ?_
  refine kJ_iload_n 7 2 d_I_begin_6 rfl rfl rfl ?_
  refine kM_put 10 d_I_begin_7 l_I_28 (k0).x rfl rfl (kFit_int _) rfl ?_
  obtain ⟨h2, eh2, hf⟩ := kLet_e hf
  rw [← eh2]
  refine kJ_aload_n 11 0 d_I_begin_10 rfl rfl rfl rfl ?_
  refine kJ_iconst 12 0 d_I_begin_11 ki_0 rfl ?_
  refine kM_put 15 d_I_begin_12 l_I_31 (k0).x rfl rfl (kFit_int _) rfl ?_
  obtain ⟨h3, eh3, hf⟩ := kLet_e hf
  rw [← eh3]
  refine kJ_aload_n 16 0 d_I_begin_15 rfl rfl rfl rfl ?_
  refine kJ_iconst 17 0 d_I_begin_16 ki_0 rfl ?_
  refine kM_put 20 d_I_begin_17 l_I_34 (k0).x rfl rfl (kFit_int _) rfl ?_
  obtain ⟨h4, eh4, hf⟩ := kLet_e hf
  rw [← eh4]
  refine kJ_aload_n 21 0 d_I_begin_20 rfl rfl rfl rfl ?_
  refine kJ_bipush 23 (-6) d_I_begin_21 kb_m6 rfl ?_
  refine kM_put 26 d_I_begin_23 l_I_37 (k0).x rfl rfl (kFit_int _) rfl ?_
  obtain ⟨h5, eh5, hf⟩ := kLet_e hf
  rw [← eh5]
  refine kJ_aload_n 27 0 d_I_begin_26 rfl rfl rfl rfl ?_
  refine kJ_iconst 28 0 d_I_begin_27 ki_0 rfl ?_
  refine kM_put 31 d_I_begin_28 l_I_40 (k0).x rfl rfl (kFit_int _) rfl ?_
  obtain ⟨h6, eh6, hf⟩ := kLet_e hf
  rw [← eh6]
  refine kJ_aload_n 32 0 d_I_begin_31 rfl rfl rfl rfl ?_
  refine kM_getR 35 0 (x0 + 1) d_I_begin_32 l_I_9 (k0).x rfl rfl rfl rfl ?_
  refine kJ_iconst 36 0 d_I_begin_35 ki_0 rfl ?_
  refine kM_calls 39 m_JA_fill [.ref (x0 + 1), .int 0] [] d_I_begin_36 cl_I_43 w_365 rfl rfl (Nat.le_of_ble_eq_true rfl) ⟨Nat.le_of_ble_eq_true rfl, Nat.le_of_ble_eq_true rfl⟩ ⟨rfl, rfl⟩ ⟨Nat.zero_le _, Nat.zero_le _⟩ (j_JA_fill hro ((kk_3_6 k0)).x (n := 6) rfl (by decide)) rfl ?_
  obtain ⟨h7, eh7, hf⟩ := kLet_e hf
  rw [← eh7]
  refine kJ_aload_n 40 0 d_I_begin_39 rfl rfl rfl rfl ?_
  refine kM_getR 43 1 (x0 + 2) d_I_begin_40 l_I_15 (k0).x rfl rfl rfl rfl ?_
  refine kJ_bipush 45 (-6) d_I_begin_43 kb_m6 rfl ?_
  refine kM_calls 48 m_JA_fill [.ref (x0 + 2), .int (-6)] [] d_I_begin_45 cl_I_43 w_365 rfl rfl (Nat.le_of_ble_eq_true rfl) ⟨Nat.le_of_ble_eq_true rfl, Nat.le_of_ble_eq_true rfl⟩ ⟨rfl, rfl⟩ ⟨Nat.zero_le _, Nat.zero_le _⟩ (j_JA_fill hro ((kk_3_7 k0)).x (n := 12) rfl (by decide)) rfl ?_
  obtain ⟨h8, eh8, hf⟩ := kLet_e hf
  rw [← eh8]
  refine kJ_aload_n 49 0 d_I_begin_48 rfl rfl rfl rfl ?_
  refine kM_getR 52 2 (x0 + 3) d_I_begin_49 l_I_18 (k0).x rfl rfl rfl rfl ?_
  refine kJ_bipush 54 (-6) d_I_begin_52 kb_m6 rfl ?_
  refine kM_calls 57 m_JA_fill [.ref (x0 + 3), .int (-6)] [] d_I_begin_54 cl_I_43 w_365 rfl rfl (Nat.le_of_ble_eq_true rfl) ⟨Nat.le_of_ble_eq_true rfl, Nat.le_of_ble_eq_true rfl⟩ ⟨rfl, rfl⟩ ⟨Nat.zero_le _, Nat.zero_le _⟩ (j_JA_fill hro ((kk_3_8 k0)).x (n := 12) rfl (by decide)) rfl ?_
  obtain ⟨h9, eh9, hf⟩ := kLet_e hf
  rw [← eh9]
  refine kJ_aload_n 58 0 d_I_begin_57 rfl rfl rfl rfl ?_
  refine kM_getR 61 3 (x0 + 4) d_I_begin_58 l_I_21 (k0).x rfl rfl rfl rfl ?_
  refine kJ_bipush 63 (-6) d_I_begin_61 kb_m6 rfl ?_
  refine kM_calls 66 m_JA_fill [.ref (x0 + 4), .int (-6)] [] d_I_begin_63 cl_I_43 w_365 rfl rfl (Nat.le_of_ble_eq_true rfl) ⟨Nat.le_of_ble_eq_true rfl, Nat.le_of_ble_eq_true rfl⟩ ⟨rfl, rfl⟩ ⟨Nat.zero_le _, Nat.zero_le _⟩ (j_JA_fill hro ((kk_3_9 k0)).x (n := 12) rfl (by decide)) rfl ?_
  obtain ⟨h10, eh10, hf⟩ := kLet_e hf
  rw [← eh10]
  cases hf
  exact kJ_ret d_I_begin_66 rfl (Nat.zero_le _) (Nat.zero_le _)
def f_C_addItem (h : kH) (x0 : Nat) (x1 : Int32) (x2 : Int32) : Option (Int32 × kH) := if x1 < 0 then (some ((-2), h)) else (if 2 < x1 then (some ((-2), h)) else (if x2 < 0 then (some ((-2), h)) else (if x2 ≤ 15 then (if (h x0 2) < 12 then (kG (h x0 2) 12 (kBi (f_I_begin h (x0 + 10 + 5 * kx (h x0 2)) x1 x2) fun h2 => kLet (hset h2 x0 2 ((h2 x0 2) + 1)) fun h3 => some ((h2 x0 2), h3))) else (some ((-4), h))) else (some ((-2), h)))))
theorem j_C_addItem {E : kE} {L : Nat} {xs : Nat → Int32} (hro : kRo E L xs) {K : List Nat} {h : kH} {x0 : Nat} {x1 : Int32} {x2 : Int32} (k0 : kIs x0 0) {r : Int32} {h' : kH} (hf : f_C_addItem h x0 x1 x2 = some (r, h')) : JM E m_C_addItem [.ref x0, .int x1, .int x2] (mk K h) (some r) (mk K h') := by
  unfold f_C_addItem at hf
  refine JM.of pn_C (Nat.le_of_ble_eq_true rfl) ?_
  show kJ E m_C_addItem (some r) (mk K h') 0 0 0 [(0, .ref x0), (1, .int x1), (2, .int x2)] [] (mk K h)
  refine kJ_iload_n 1 1 d_C_addItem_0 rfl rfl rfl ?_
  refine kJ_if_lt 4 19 d_C_addItem_1 rfl rfl (fun hc => ?_) (fun hc => ?_)
  · have hf := kIf_t hf hc
    refine kJ_bipush 21 (-2) d_C_addItem_19 kb_m2 rfl ?_
    cases hf
    exact kJ_iret d_C_addItem_21 rfl rfl (Nat.zero_le _) (Nat.zero_le _)
  · have hf := kIf_f hf hc
    refine kJ_iload_n 5 1 d_C_addItem_4 rfl rfl rfl ?_
    refine kJ_iconst 6 2 d_C_addItem_5 ki_2 rfl ?_
    refine kJ_icmp_gt 9 19 d_C_addItem_6 rfl rfl (fun hc => ?_) (fun hc => ?_)
    · have hf := kIf_t hf hc
      refine kJ_bipush 21 (-2) d_C_addItem_19 kb_m2 rfl ?_
      cases hf
      exact kJ_iret d_C_addItem_21 rfl rfl (Nat.zero_le _) (Nat.zero_le _)
    · have hf := kIf_f hf hc
      refine kJ_iload_n 10 2 d_C_addItem_9 rfl rfl rfl ?_
      refine kJ_if_lt 13 19 d_C_addItem_10 rfl rfl (fun hc => ?_) (fun hc => ?_)
      · have hf := kIf_t hf hc
        refine kJ_bipush 21 (-2) d_C_addItem_19 kb_m2 rfl ?_
        cases hf
        exact kJ_iret d_C_addItem_21 rfl rfl (Nat.zero_le _) (Nat.zero_le _)
      · have hf := kIf_f hf hc
        refine kJ_iload_n 14 2 d_C_addItem_13 rfl rfl rfl ?_
        refine kJ_bipush 16 15 d_C_addItem_14 kb_15 rfl ?_
        refine kJ_icmp_le 19 22 d_C_addItem_16 rfl rfl (fun hc => ?_) (fun hc => ?_)
        · have hf := kIf_t hf hc
          refine kJ_aload_n 23 0 d_C_addItem_22 rfl rfl rfl rfl ?_
          refine kM_getI 26 d_C_addItem_23 l_C_57 (k0).x rfl rfl rfl ?_
          refine kJ_bipush 28 12 d_C_addItem_26 kb_12 rfl ?_
          refine kJ_icmp_lt 31 34 d_C_addItem_28 rfl rfl (fun hc => ?_) (fun hc => ?_)
          · have hf := kIf_t hf hc
            refine kJ_aload_n 35 0 d_C_addItem_34 rfl rfl rfl rfl ?_
            refine kM_getR 38 4 (x0 + 5) d_C_addItem_35 l_C_30 (k0).x rfl rfl rfl rfl ?_
            refine kJ_aload_n 39 0 d_C_addItem_38 rfl rfl rfl rfl ?_
            refine kM_getI 42 d_C_addItem_39 l_C_57 (k0).x rfl rfl rfl ?_
            obtain ⟨hg1, hf⟩ := kG_some hf
            refine kM_aald 43 12 5 5 (x0 + 10 + 5 * kx (h x0 2)) d_C_addItem_42 ((kk_0_9 k0)).x rfl (by decide) (Or.inl rfl) hg1 (by simp only [Nat.add_assoc, kx]; try omega) rfl ?_
            refine kJ_iload_n 44 1 d_C_addItem_43 rfl rfl rfl ?_
            refine kJ_iload_n 45 2 d_C_addItem_44 rfl rfl rfl ?_
            obtain ⟨h2, eh2, hf⟩ := kBi_some hf
            refine kM_callv 48 m_I_begin [.int x1, .int x2] [] d_C_addItem_45 cl_C_101 ⟨w_362, w_8⟩ ((kC_item k0 (kIn_lt hg1))).x ⟨rfl, by decide⟩ ⟨_, _, rfl⟩ rfl rfl (Nat.le_of_ble_eq_true rfl) ⟨Nat.le_of_ble_eq_true rfl, Nat.le_of_ble_eq_true rfl⟩ ⟨rfl, rfl⟩ ⟨Nat.zero_le _, Nat.zero_le _⟩ (j_I_begin hro (kC_item k0 (kIn_lt hg1)) eh2) rfl ?_
            refine kJ_aload_n 49 0 d_C_addItem_48 rfl rfl rfl rfl ?_
            refine kJ_dup 50 d_C_addItem_49 rfl rfl ?_
            refine kM_getI 53 d_C_addItem_50 l_C_57 (k0).x rfl rfl rfl ?_
            refine kJ_dup_x1 54 d_C_addItem_53 rfl rfl rfl ?_
            refine kJ_iconst 55 1 d_C_addItem_54 ki_1 rfl ?_
            refine kJ_iadd 56 d_C_addItem_55 rfl ?_
            refine kM_put 59 d_C_addItem_56 l_C_57 (k0).x rfl rfl (kFit_int _) rfl ?_
            obtain ⟨h3, eh3, hf⟩ := kLet_e hf
            rw [← eh3]
            cases hf
            exact kJ_iret d_C_addItem_59 rfl rfl (Nat.zero_le _) (Nat.zero_le _)
          · have hf := kIf_f hf hc
            refine kJ_bipush 33 (-4) d_C_addItem_31 kb_m4 rfl ?_
            cases hf
            exact kJ_iret d_C_addItem_33 rfl rfl (Nat.zero_le _) (Nat.zero_le _)
        · have hf := kIf_f hf hc
          refine kJ_bipush 21 (-2) d_C_addItem_19 kb_m2 rfl ?_
          cases hf
          exact kJ_iret d_C_addItem_21 rfl rfl (Nat.zero_le _) (Nat.zero_le _)
def f_P_item (h : kH) (x1 : Int32) (x2 : Int32) : Option (Int32 × kH) := kBi (f_Y_note h 145 1) fun h1 => kBd (f_C_addItem h1 1 x1 x2) fun v3 h2 => kBd (f_Y_settle h2 145 v3) fun v5 h4 => some (v5, h4)
theorem j_P_item {E : kE} {L : Nat} {xs : Nat → Int32} (hro : kRo E L xs) {K : List Nat} {h : kH} {x1 : Int32} {x2 : Int32} {r : Int32} {h' : kH} (hf : f_P_item h x1 x2 = some (r, h')) : JM E m_P_item [.ref 0, .int x1, .int x2] (mk K h) (some r) (mk K h') := by
  unfold f_P_item at hf
  refine JM.of pn_P (Nat.le_of_ble_eq_true rfl) ?_
  show kJ E m_P_item (some r) (mk K h') 0 0 0 [(0, .ref 0), (1, .int x1), (2, .int x2)] [] (mk K h)
  refine kJ_aload_n 1 0 d_P_item_0 rfl rfl rfl rfl ?_
  refine kM_getR 4 144 145 d_P_item_1 l_P_29 (kp_0).x rfl rfl rfl rfl ?_
  refine kJ_aload_n 5 0 d_P_item_4 rfl rfl rfl rfl ?_
  refine kM_getR 8 0 1 d_P_item_5 l_P_10 (kp_0).x rfl rfl rfl rfl ?_
  obtain ⟨h1, eh1, hf⟩ := kBi_some hf
  refine kM_callv 11 m_Y_note [.ref 1] [] d_P_item_8 cl_P_55 ⟨w_312, w_0⟩ (kp_145).x ⟨rfl, by decide⟩ ⟨_, _, rfl⟩ rfl rfl (Nat.le_of_ble_eq_true rfl) ⟨Nat.le_of_ble_eq_true rfl, Nat.le_of_ble_eq_true rfl⟩ ⟨rfl, rfl⟩ ⟨Nat.zero_le _, Nat.zero_le _⟩ (j_Y_note hro kp_145 kp_1 eh1) rfl ?_
  refine kJ_aload_n 12 0 d_P_item_11 rfl rfl rfl rfl ?_
  refine kM_getR 15 144 145 d_P_item_12 l_P_29 (kp_0).x rfl rfl rfl rfl ?_
  refine kJ_aload_n 16 0 d_P_item_15 rfl rfl rfl rfl ?_
  refine kM_getR 19 0 1 d_P_item_16 l_P_10 (kp_0).x rfl rfl rfl rfl ?_
  refine kJ_iload_n 20 1 d_P_item_19 rfl rfl rfl ?_
  refine kJ_iload_n 21 2 d_P_item_20 rfl rfl rfl ?_
  obtain ⟨v3, h2, ev3, hf⟩ := kBd_some hf
  refine kM_callv 24 m_C_addItem [.int x1, .int x2] [.ref 145] d_P_item_21 cl_P_70 ⟨w_358, w_7⟩ (kp_1).x ⟨rfl, by decide⟩ ⟨_, _, rfl⟩ rfl rfl (Nat.le_of_ble_eq_true rfl) ⟨Nat.le_of_ble_eq_true rfl, Nat.le_of_ble_eq_true rfl⟩ ⟨rfl, rfl⟩ ⟨Nat.zero_le _, Nat.zero_le _⟩ (j_C_addItem hro kp_1 ev3) rfl ?_
  obtain ⟨v5, h4, ev5, hf⟩ := kBd_some hf
  refine kM_callv 27 m_Y_settle [.int v3] [] d_P_item_24 cl_P_63 ⟨w_336, w_5⟩ (kp_145).x ⟨rfl, by decide⟩ ⟨_, _, rfl⟩ rfl rfl (Nat.le_of_ble_eq_true rfl) ⟨Nat.le_of_ble_eq_true rfl, Nat.le_of_ble_eq_true rfl⟩ ⟨rfl, rfl⟩ ⟨Nat.zero_le _, Nat.zero_le _⟩ (j_Y_settle hro kp_145 ev5) rfl ?_
  cases hf
  exact kJ_iret d_P_item_27 rfl rfl (Nat.zero_le _) (Nat.zero_le _)
def f_C_hasMember (h : kH) (x0 : Nat) (x1 : Int32) : Bool := if x1 < 0 then false else (if (h x0 1) ≤ x1 then false else true)
theorem j_C_hasMember {E : kE} {L : Nat} {xs : Nat → Int32} (hro : kRo E L xs) {K : List Nat} {h : kH} {x0 : Nat} {x1 : Int32} (k0 : kIs x0 0) {r : Bool} (hf : f_C_hasMember h x0 x1 = r) : JM E m_C_hasMember [.ref x0, .int x1] (mk K h) (some (kB2 r)) (mk K h) := by
  unfold f_C_hasMember at hf
  refine JM.of pn_C (Nat.le_of_ble_eq_true rfl) ?_
  show kJ E m_C_hasMember (some (kB2 r)) (mk K h) 0 0 0 [(0, .ref x0), (1, .int x1)] [] (mk K h)
  refine kJ_iload_n 1 1 d_C_hasMember_0 rfl rfl rfl ?_
  refine kJ_if_lt 4 16 d_C_hasMember_1 rfl rfl (fun hc => ?_) (fun hc => ?_)
  · have hf := kIf_t hf hc
    refine kJ_iconst 17 0 d_C_hasMember_16 ki_0 rfl ?_
    subst hf
    exact kJ_iret d_C_hasMember_17 rfl (kB2_z _) (Nat.zero_le _) (Nat.zero_le _)
  · have hf := kIf_f hf hc
    refine kJ_iload_n 5 1 d_C_hasMember_4 rfl rfl rfl ?_
    refine kJ_aload_n 6 0 d_C_hasMember_5 rfl rfl rfl rfl ?_
    refine kM_getI 9 d_C_hasMember_6 l_C_54 (k0).x rfl rfl rfl ?_
    refine kJ_icmp_ge 12 16 d_C_hasMember_9 rfl rfl (fun hc => ?_) (fun hc => ?_)
    · have hf := kIf_t hf hc
      refine kJ_iconst 17 0 d_C_hasMember_16 ki_0 rfl ?_
      subst hf
      exact kJ_iret d_C_hasMember_17 rfl (kB2_z _) (Nat.zero_le _) (Nat.zero_le _)
    · have hf := kIf_f hf hc
      refine kJ_iconst 13 1 d_C_hasMember_12 ki_1 rfl ?_
      refine kJ_goto 17 d_C_hasMember_13 rfl ?_
      subst hf
      exact kJ_iret d_C_hasMember_17 rfl (kB2_z _) (Nat.zero_le _) (Nat.zero_le _)
def f_C_nameChair (h : kH) (x0 : Nat) (x1 : Int32) : Option (Int32 × kH) := if (f_C_hasMember h x0 x1) = true then (kLet (hset h x0 4 x1) fun h1 => some ((h x0 4), h1)) else (some ((-1), h))
theorem j_C_nameChair {E : kE} {L : Nat} {xs : Nat → Int32} (hro : kRo E L xs) {K : List Nat} {h : kH} {x0 : Nat} {x1 : Int32} (k0 : kIs x0 0) {r : Int32} {h' : kH} (hf : f_C_nameChair h x0 x1 = some (r, h')) : JM E m_C_nameChair [.ref x0, .int x1] (mk K h) (some r) (mk K h') := by
  unfold f_C_nameChair at hf
  refine JM.of pn_C (Nat.le_of_ble_eq_true rfl) ?_
  show kJ E m_C_nameChair (some r) (mk K h') 0 0 0 [(0, .ref x0), (1, .int x1)] [] (mk K h)
  refine kJ_aload_n 1 0 d_C_nameChair_0 rfl rfl rfl rfl ?_
  refine kJ_iload_n 2 1 d_C_nameChair_1 rfl rfl rfl ?_
  refine kM_callv 5 m_C_hasMember [.int x1] [] d_C_nameChair_2 cl_C_105 ⟨w_377, w_10⟩ (k0).x ⟨rfl, by decide⟩ ⟨_, _, rfl⟩ rfl rfl (Nat.le_of_ble_eq_true rfl) ⟨Nat.le_of_ble_eq_true rfl, Nat.le_of_ble_eq_true rfl⟩ ⟨rfl, rfl⟩ ⟨Nat.zero_le _, Nat.zero_le _⟩ (j_C_hasMember hro k0 rfl) rfl ?_
  refine kJ_if_ne 8 10 d_C_nameChair_5 rfl rfl (fun hc => ?_) (fun hc => ?_)
  · have hf := kIf_t hf (kB2_1 hc)
    refine kJ_aload_n 11 0 d_C_nameChair_10 rfl rfl rfl rfl ?_
    refine kM_getI 14 d_C_nameChair_11 l_C_9 (k0).x rfl rfl rfl ?_
    refine kJ_istore_n 15 [(2, .int (h x0 4)), (0, .ref x0), (1, .int x1)] d_C_nameChair_14 rfl (Nat.le_of_ble_eq_true rfl) rfl rfl ?_
    refine kJ_aload_n 16 1 d_C_nameChair_15 rfl rfl rfl rfl ?_
    refine kJ_iload_n 17 2 d_C_nameChair_16 rfl rfl rfl ?_
    refine kM_put 20 d_C_nameChair_17 l_C_9 (k0).x rfl rfl (kFit_int _) rfl ?_
    obtain ⟨h1, eh1, hf⟩ := kLet_e hf
    rw [← eh1]
    refine kJ_iload_n 21 0 d_C_nameChair_20 rfl rfl rfl ?_
    cases hf
    exact kJ_iret d_C_nameChair_21 rfl rfl (Nat.zero_le _) (Nat.zero_le _)
  · have hf := kIf_f hf (kB2_0 hc)
    refine kJ_iconst 9 (-1) d_C_nameChair_8 ki_m1 rfl ?_
    cases hf
    exact kJ_iret d_C_nameChair_9 rfl rfl (Nat.zero_le _) (Nat.zero_le _)
def f_P_chair (h : kH) (x1 : Int32) : Option (Int32 × kH) := kBi (f_Y_note h 145 1) fun h1 => kBd (f_C_nameChair h1 1 x1) fun v3 h2 => kBd (f_Y_settle h2 145 v3) fun v5 h4 => some (v5, h4)
theorem j_P_chair {E : kE} {L : Nat} {xs : Nat → Int32} (hro : kRo E L xs) {K : List Nat} {h : kH} {x1 : Int32} {r : Int32} {h' : kH} (hf : f_P_chair h x1 = some (r, h')) : JM E m_P_chair [.ref 0, .int x1] (mk K h) (some r) (mk K h') := by
  unfold f_P_chair at hf
  refine JM.of pn_P (Nat.le_of_ble_eq_true rfl) ?_
  show kJ E m_P_chair (some r) (mk K h') 0 0 0 [(0, .ref 0), (1, .int x1)] [] (mk K h)
  refine kJ_aload_n 1 0 d_P_chair_0 rfl rfl rfl rfl ?_
  refine kM_getR 4 144 145 d_P_chair_1 l_P_29 (kp_0).x rfl rfl rfl rfl ?_
  refine kJ_aload_n 5 0 d_P_chair_4 rfl rfl rfl rfl ?_
  refine kM_getR 8 0 1 d_P_chair_5 l_P_10 (kp_0).x rfl rfl rfl rfl ?_
  obtain ⟨h1, eh1, hf⟩ := kBi_some hf
  refine kM_callv 11 m_Y_note [.ref 1] [] d_P_chair_8 cl_P_55 ⟨w_312, w_0⟩ (kp_145).x ⟨rfl, by decide⟩ ⟨_, _, rfl⟩ rfl rfl (Nat.le_of_ble_eq_true rfl) ⟨Nat.le_of_ble_eq_true rfl, Nat.le_of_ble_eq_true rfl⟩ ⟨rfl, rfl⟩ ⟨Nat.zero_le _, Nat.zero_le _⟩ (j_Y_note hro kp_145 kp_1 eh1) rfl ?_
  refine kJ_aload_n 12 0 d_P_chair_11 rfl rfl rfl rfl ?_
  refine kM_getR 15 144 145 d_P_chair_12 l_P_29 (kp_0).x rfl rfl rfl rfl ?_
  refine kJ_aload_n 16 0 d_P_chair_15 rfl rfl rfl rfl ?_
  refine kM_getR 19 0 1 d_P_chair_16 l_P_10 (kp_0).x rfl rfl rfl rfl ?_
  refine kJ_iload_n 20 1 d_P_chair_19 rfl rfl rfl ?_
  obtain ⟨v3, h2, ev3, hf⟩ := kBd_some hf
  refine kM_callv 23 m_C_nameChair [.int x1] [.ref 145] d_P_chair_20 cl_P_73 ⟨w_373, w_9⟩ (kp_1).x ⟨rfl, by decide⟩ ⟨_, _, rfl⟩ rfl rfl (Nat.le_of_ble_eq_true rfl) ⟨Nat.le_of_ble_eq_true rfl, Nat.le_of_ble_eq_true rfl⟩ ⟨rfl, rfl⟩ ⟨Nat.zero_le _, Nat.zero_le _⟩ (j_C_nameChair hro kp_1 ev3) rfl ?_
  obtain ⟨v5, h4, ev5, hf⟩ := kBd_some hf
  refine kM_callv 26 m_Y_settle [.int v3] [] d_P_chair_23 cl_P_63 ⟨w_336, w_5⟩ (kp_145).x ⟨rfl, by decide⟩ ⟨_, _, rfl⟩ rfl rfl (Nat.le_of_ble_eq_true rfl) ⟨Nat.le_of_ble_eq_true rfl, Nat.le_of_ble_eq_true rfl⟩ ⟨rfl, rfl⟩ ⟨Nat.zero_le _, Nat.zero_le _⟩ (j_Y_settle hro kp_145 ev5) rfl ?_
  cases hf
  exact kJ_iret d_P_chair_26 rfl rfl (Nat.zero_le _) (Nat.zero_le _)
def f_C_isPresent (h : kH) (x0 : Nat) (x1 : Int32) : Bool := if (((h x0 3) >>> (x1 &&& 31)) &&& 1) = 1 then true else false
theorem j_C_isPresent {E : kE} {L : Nat} {xs : Nat → Int32} (hro : kRo E L xs) {K : List Nat} {h : kH} {x0 : Nat} {x1 : Int32} (k0 : kIs x0 0) {r : Bool} (hf : f_C_isPresent h x0 x1 = r) : JM E m_C_isPresent [.ref x0, .int x1] (mk K h) (some (kB2 r)) (mk K h) := by
  unfold f_C_isPresent at hf
  refine JM.of pn_C (Nat.le_of_ble_eq_true rfl) ?_
  show kJ E m_C_isPresent (some (kB2 r)) (mk K h) 0 0 0 [(0, .ref x0), (1, .int x1)] [] (mk K h)
  refine kJ_aload_n 1 0 d_C_isPresent_0 rfl rfl rfl rfl ?_
  refine kM_getI 4 d_C_isPresent_1 l_C_60 (k0).x rfl rfl rfl ?_
  refine kJ_iload_n 5 1 d_C_isPresent_4 rfl rfl rfl ?_
  refine kJ_ishr 6 d_C_isPresent_5 rfl ?_
  refine kJ_iconst 7 1 d_C_isPresent_6 ki_1 rfl ?_
  refine kJ_iand 8 d_C_isPresent_7 rfl ?_
  refine kJ_iconst 9 1 d_C_isPresent_8 ki_1 rfl ?_
  refine kJ_icmp_ne 12 16 d_C_isPresent_9 rfl rfl (fun hc => ?_) (fun hc => ?_)
  · have hf := kIf_f hf hc
    refine kJ_iconst 17 0 d_C_isPresent_16 ki_0 rfl ?_
    subst hf
    exact kJ_iret d_C_isPresent_17 rfl (kB2_z _) (Nat.zero_le _) (Nat.zero_le _)
  · have hf := kIf_t hf hc
    refine kJ_iconst 13 1 d_C_isPresent_12 ki_1 rfl ?_
    refine kJ_goto 17 d_C_isPresent_13 rfl ?_
    subst hf
    exact kJ_iret d_C_isPresent_17 rfl (kB2_z _) (Nat.zero_le _) (Nat.zero_le _)
def b_C_votesOf_4 (h : kH) (x0 : Nat) (x1 : Int32) : Nat → Int32 → Int32 → Option Int32
  | 0, _, _ => none
  | n + 1, x2, x3 => (fun rec4 => if (h x0 2) ≤ x3 then (some x2) else (kG x3 12 (kG x1 12 (if (h ((x0 + 10 + 5 * kx x3) + 2) (kx x1)) = (-6) then (rec4 x2 (x3 + 1)) else (rec4 (x2 + 1) (x3 + 1)))))) (fun x2' x3' => b_C_votesOf_4 h x0 x1 n x2' x3')
theorem c_C_votesOf_4 {E : kE} {L : Nat} {xs : Nat → Int32} (hro : kRo E L xs) {K : List Nat} {h : kH} {x0 : Nat} {x1 : Int32} (k0 : kIs x0 0) {r : Int32} : ∀ (n : Nat) (x2 : Int32) (x3 : Int32), b_C_votesOf_4 h x0 x1 n x2 x3 = some r → kJ E m_C_votesOf (some r) (mk K h) 0 0 4 [(0, .ref x0), (1, .int x1), (2, .int x2), (3, .int x3)] [] (mk K h) := by
  intro n
  induction n with
  | zero =>
    intro x2 x3 hf
    have hf : (none : Option Int32) = some r := hf
    cases hf
  | succ n hrec4 =>
    intro x2 x3 hf
    rw [b_C_votesOf_4] at hf
    dsimp only at hf
    refine kJ_iload_n 5 3 d_C_votesOf_4 rfl rfl rfl ?_
    refine kJ_aload_n 6 0 d_C_votesOf_5 rfl rfl rfl rfl ?_
    refine kM_getI 9 d_C_votesOf_6 l_C_57 (k0).x rfl rfl rfl ?_
    refine kJ_icmp_ge 12 37 d_C_votesOf_9 rfl rfl (fun hc => ?_) (fun hc => ?_)
    · have hf := kIf_t hf hc
      refine kJ_iload_n 38 2 d_C_votesOf_37 rfl rfl rfl ?_
      cases hf
      exact kJ_iret d_C_votesOf_38 rfl rfl (Nat.zero_le _) (Nat.zero_le _)
    · have hf := kIf_f hf hc
      refine kJ_aload_n 13 0 d_C_votesOf_12 rfl rfl rfl rfl ?_
      refine kM_getR 16 4 (x0 + 5) d_C_votesOf_13 l_C_30 (k0).x rfl rfl rfl rfl ?_
      refine kJ_iload_n 17 3 d_C_votesOf_16 rfl rfl rfl ?_
      obtain ⟨hg1, hf⟩ := kG_some hf
      refine kM_aald 18 12 5 5 (x0 + 10 + 5 * kx x3) d_C_votesOf_17 ((kk_0_9 k0)).x rfl (by decide) (Or.inl rfl) hg1 (by simp only [Nat.add_assoc, kx]; try omega) rfl ?_
      refine kM_getR 21 1 ((x0 + 10 + 5 * kx x3) + 2) d_C_votesOf_18 l_C_92 ((kC_item k0 (kIn_lt hg1))).x rfl rfl rfl rfl ?_
      refine kJ_iload_n 22 1 d_C_votesOf_21 rfl rfl rfl ?_
      obtain ⟨hg, hf⟩ := kG_some hf
      refine kM_iald 23 12 d_C_votesOf_22 ((kk_3_7 (kC_item k0 (kIn_lt hg1)))).x rfl hg rfl ?_
      refine kJ_bipush 25 (-6) d_C_votesOf_23 kb_m6 rfl ?_
      refine kJ_icmp_eq 28 31 d_C_votesOf_25 rfl rfl (fun hc => ?_) (fun hc => ?_)
      · have hf := kIf_t hf hc
        refine kJ_iinc 34 3 [(3, .int (x3 + 1)), (0, .ref x0), (1, .int x1), (2, .int x2)] d_C_votesOf_31 rfl ki_1 (Nat.le_of_ble_eq_true rfl) rfl rfl ?_
        refine kJ_goto 4 d_C_votesOf_34 rfl ?_
        refine kJ_sub [1, 2, 3, 0] rfl ?_
        exact hrec4 x2 (x3 + 1) hf
      · have hf := kIf_f hf hc
        refine kJ_iinc 31 2 [(2, .int (x2 + 1)), (0, .ref x0), (1, .int x1), (3, .int x3)] d_C_votesOf_28 rfl ki_1 (Nat.le_of_ble_eq_true rfl) rfl rfl ?_
        refine kJ_iinc 34 3 [(3, .int (x3 + 1)), (2, .int (x2 + 1)), (0, .ref x0), (1, .int x1)] d_C_votesOf_31 rfl ki_1 (Nat.le_of_ble_eq_true rfl) rfl rfl ?_
        refine kJ_goto 4 d_C_votesOf_34 rfl ?_
        refine kJ_sub [2, 3, 1, 0] rfl ?_
        exact hrec4 (x2 + 1) (x3 + 1) hf
def f_C_votesOf (h : kH) (x0 : Nat) (x1 : Int32) : Option Int32 := b_C_votesOf_4 h x0 x1 kFuel 0 0
theorem j_C_votesOf {E : kE} {L : Nat} {xs : Nat → Int32} (hro : kRo E L xs) {K : List Nat} {h : kH} {x0 : Nat} {x1 : Int32} (k0 : kIs x0 0) {r : Int32} (hf : f_C_votesOf h x0 x1 = some r) : JM E m_C_votesOf [.ref x0, .int x1] (mk K h) (some r) (mk K h) := by
  unfold f_C_votesOf at hf
  refine JM.of pn_C (Nat.le_of_ble_eq_true rfl) ?_
  show kJ E m_C_votesOf (some r) (mk K h) 0 0 0 [(0, .ref x0), (1, .int x1)] [] (mk K h)
  refine kJ_iconst 1 0 d_C_votesOf_0 ki_0 rfl ?_
  refine kJ_istore_n 2 [(2, .int 0), (0, .ref x0), (1, .int x1)] d_C_votesOf_1 rfl (Nat.le_of_ble_eq_true rfl) rfl rfl ?_
  refine kJ_iconst 3 0 d_C_votesOf_2 ki_0 rfl ?_
  refine kJ_istore_n 4 [(3, .int 0), (2, .int 0), (0, .ref x0), (1, .int x1)] d_C_votesOf_3 rfl (Nat.le_of_ble_eq_true rfl) rfl rfl ?_
  refine kJ_sub [2, 3, 1, 0] rfl ?_
  exact c_C_votesOf_4 hro k0 kFuel 0 0 hf
def b_C_tiesBrokenBy_4 (h : kH) (x0 : Nat) (x1 : Int32) : Nat → Int32 → Int32 → Option Int32
  | 0, _, _ => none
  | n + 1, x2, x3 => (fun rec4 => if (h x0 2) ≤ x3 then (some x2) else (kG x3 12 (if (h (x0 + 10 + 5 * kx x3) 4) = x1 then (rec4 (x2 + 1) (x3 + 1)) else (rec4 x2 (x3 + 1))))) (fun x2' x3' => b_C_tiesBrokenBy_4 h x0 x1 n x2' x3')
theorem c_C_tiesBrokenBy_4 {E : kE} {L : Nat} {xs : Nat → Int32} (hro : kRo E L xs) {K : List Nat} {h : kH} {x0 : Nat} {x1 : Int32} (k0 : kIs x0 0) {r : Int32} : ∀ (n : Nat) (x2 : Int32) (x3 : Int32), b_C_tiesBrokenBy_4 h x0 x1 n x2 x3 = some r → kJ E m_C_tiesBrokenBy (some r) (mk K h) 0 0 4 [(0, .ref x0), (1, .int x1), (2, .int x2), (3, .int x3)] [] (mk K h) := by
  intro n
  induction n with
  | zero =>
    intro x2 x3 hf
    have hf : (none : Option Int32) = some r := hf
    cases hf
  | succ n hrec4 =>
    intro x2 x3 hf
    rw [b_C_tiesBrokenBy_4] at hf
    dsimp only at hf
    refine kJ_iload_n 5 3 d_C_tiesBrokenBy_4 rfl rfl rfl ?_
    refine kJ_aload_n 6 0 d_C_tiesBrokenBy_5 rfl rfl rfl rfl ?_
    refine kM_getI 9 d_C_tiesBrokenBy_6 l_C_57 (k0).x rfl rfl rfl ?_
    refine kJ_icmp_ge 12 34 d_C_tiesBrokenBy_9 rfl rfl (fun hc => ?_) (fun hc => ?_)
    · have hf := kIf_t hf hc
      refine kJ_iload_n 35 2 d_C_tiesBrokenBy_34 rfl rfl rfl ?_
      cases hf
      exact kJ_iret d_C_tiesBrokenBy_35 rfl rfl (Nat.zero_le _) (Nat.zero_le _)
    · have hf := kIf_f hf hc
      refine kJ_aload_n 13 0 d_C_tiesBrokenBy_12 rfl rfl rfl rfl ?_
      refine kM_getR 16 4 (x0 + 5) d_C_tiesBrokenBy_13 l_C_30 (k0).x rfl rfl rfl rfl ?_
      refine kJ_iload_n 17 3 d_C_tiesBrokenBy_16 rfl rfl rfl ?_
      obtain ⟨hg1, hf⟩ := kG_some hf
      refine kM_aald 18 12 5 5 (x0 + 10 + 5 * kx x3) d_C_tiesBrokenBy_17 ((kk_0_9 k0)).x rfl (by decide) (Or.inl rfl) hg1 (by simp only [Nat.add_assoc, kx]; try omega) rfl ?_
      refine kM_getI 21 d_C_tiesBrokenBy_18 l_C_95 ((kC_item k0 (kIn_lt hg1))).x rfl rfl rfl ?_
      refine kJ_iload_n 22 1 d_C_tiesBrokenBy_21 rfl rfl rfl ?_
      refine kJ_icmp_ne 25 28 d_C_tiesBrokenBy_22 rfl rfl (fun hc => ?_) (fun hc => ?_)
      · have hf := kIf_f hf hc
        refine kJ_iinc 31 3 [(3, .int (x3 + 1)), (0, .ref x0), (1, .int x1), (2, .int x2)] d_C_tiesBrokenBy_28 rfl ki_1 (Nat.le_of_ble_eq_true rfl) rfl rfl ?_
        refine kJ_goto 4 d_C_tiesBrokenBy_31 rfl ?_
        refine kJ_sub [1, 2, 3, 0] rfl ?_
        exact hrec4 x2 (x3 + 1) hf
      · have hf := kIf_t hf hc
        refine kJ_iinc 28 2 [(2, .int (x2 + 1)), (0, .ref x0), (1, .int x1), (3, .int x3)] d_C_tiesBrokenBy_25 rfl ki_1 (Nat.le_of_ble_eq_true rfl) rfl rfl ?_
        refine kJ_iinc 31 3 [(3, .int (x3 + 1)), (2, .int (x2 + 1)), (0, .ref x0), (1, .int x1)] d_C_tiesBrokenBy_28 rfl ki_1 (Nat.le_of_ble_eq_true rfl) rfl rfl ?_
        refine kJ_goto 4 d_C_tiesBrokenBy_31 rfl ?_
        refine kJ_sub [2, 3, 1, 0] rfl ?_
        exact hrec4 (x2 + 1) (x3 + 1) hf
def f_C_tiesBrokenBy (h : kH) (x0 : Nat) (x1 : Int32) : Option Int32 := b_C_tiesBrokenBy_4 h x0 x1 kFuel 0 0
theorem j_C_tiesBrokenBy {E : kE} {L : Nat} {xs : Nat → Int32} (hro : kRo E L xs) {K : List Nat} {h : kH} {x0 : Nat} {x1 : Int32} (k0 : kIs x0 0) {r : Int32} (hf : f_C_tiesBrokenBy h x0 x1 = some r) : JM E m_C_tiesBrokenBy [.ref x0, .int x1] (mk K h) (some r) (mk K h) := by
  unfold f_C_tiesBrokenBy at hf
  refine JM.of pn_C (Nat.le_of_ble_eq_true rfl) ?_
  show kJ E m_C_tiesBrokenBy (some r) (mk K h) 0 0 0 [(0, .ref x0), (1, .int x1)] [] (mk K h)
  refine kJ_iconst 1 0 d_C_tiesBrokenBy_0 ki_0 rfl ?_
  refine kJ_istore_n 2 [(2, .int 0), (0, .ref x0), (1, .int x1)] d_C_tiesBrokenBy_1 rfl (Nat.le_of_ble_eq_true rfl) rfl rfl ?_
  refine kJ_iconst 3 0 d_C_tiesBrokenBy_2 ki_0 rfl ?_
  refine kJ_istore_n 4 [(3, .int 0), (2, .int 0), (0, .ref x0), (1, .int x1)] d_C_tiesBrokenBy_3 rfl (Nat.le_of_ble_eq_true rfl) rfl rfl ?_
  refine kJ_sub [2, 3, 1, 0] rfl ?_
  exact c_C_tiesBrokenBy_4 hro k0 kFuel 0 0 hf
def f_P_ofMember (h : kH) (x1 : Int32) (x2 : Int32) : Option Int32 := if (f_C_hasMember h 1 x1) = true then (if x2 = 0 then (kG x1 12 (some (h 3 (kx x1)))) else (if x2 = 1 then (kG x1 12 (some (h 4 (kx x1)))) else (if x2 = 2 then (if (f_C_isPresent h 1 x1) = true then (some 1) else (some 0)) else (if x2 = 3 then (kG x1 12 (some (h 5 (kx x1)))) else (if x2 = 4 then (kBi (f_C_votesOf h 1 x1) fun v2 => some v2) else (if x2 = 5 then (kBi (f_C_tiesBrokenBy h 1 x1) fun v3 => some v3) else (some (-2)))))))) else (some (-1))
theorem j_P_ofMember {E : kE} {L : Nat} {xs : Nat → Int32} (hro : kRo E L xs) {K : List Nat} {h : kH} {x1 : Int32} {x2 : Int32} {r : Int32} (hf : f_P_ofMember h x1 x2 = some r) : JM E m_P_ofMember [.ref 0, .int x1, .int x2] (mk K h) (some r) (mk K h) := by
  unfold f_P_ofMember at hf
  refine JM.of pn_P (Nat.le_of_ble_eq_true rfl) ?_
  show kJ E m_P_ofMember (some r) (mk K h) 0 0 0 [(0, .ref 0), (1, .int x1), (2, .int x2)] [] (mk K h)
  refine kJ_aload_n 1 0 d_P_ofMember_0 rfl rfl rfl rfl ?_
  refine kM_getR 4 0 1 d_P_ofMember_1 l_P_10 (kp_0).x rfl rfl rfl rfl ?_
  refine kJ_iload_n 5 1 d_P_ofMember_4 rfl rfl rfl ?_
  refine kM_callv 8 m_C_hasMember [.int x1] [] d_P_ofMember_5 cl_P_112 ⟨w_377, w_10⟩ (kp_1).x ⟨rfl, by decide⟩ ⟨_, _, rfl⟩ rfl rfl (Nat.le_of_ble_eq_true rfl) ⟨Nat.le_of_ble_eq_true rfl, Nat.le_of_ble_eq_true rfl⟩ ⟨rfl, rfl⟩ ⟨Nat.zero_le _, Nat.zero_le _⟩ (j_C_hasMember hro kp_1 rfl) rfl ?_
  refine kJ_if_ne 11 13 d_P_ofMember_8 rfl rfl (fun hc => ?_) (fun hc => ?_)
  · have hf := kIf_t hf (kB2_1 hc)
    refine kJ_iload_n 14 2 d_P_ofMember_13 rfl rfl rfl ?_
    by_cases c0 : x2 = 0
    · have hf := kIf_t hf c0
      refine kJ_tabIn 52 d_P_ofMember_14 (by rw [c0]; try decide) (by rw [c0]; try decide) (by rw [c0]; try rfl) rfl ?_
      refine kJ_aload_n 53 0 d_P_ofMember_52 rfl rfl rfl rfl ?_
      refine kM_getR 56 0 1 d_P_ofMember_53 l_P_10 (kp_0).x rfl rfl rfl rfl ?_
      refine kM_getR 59 1 3 d_P_ofMember_56 l_P_116 (kp_1).x rfl rfl rfl rfl ?_
      refine kJ_iload_n 60 1 d_P_ofMember_59 rfl rfl rfl ?_
      obtain ⟨hg, hf⟩ := kG_some hf
      refine kM_iald 61 12 d_P_ofMember_60 ((kk_0_6 kp_1)).x rfl hg rfl ?_
      cases hf
      exact kJ_iret d_P_ofMember_61 rfl rfl (Nat.zero_le _) (Nat.zero_le _)
    · have hf := kIf_f hf c0
      by_cases c1 : x2 = 1
      · have hf := kIf_t hf c1
        refine kJ_tabIn 62 d_P_ofMember_14 (by rw [c1]; try decide) (by rw [c1]; try decide) (by rw [c1]; try rfl) rfl ?_
        refine kJ_aload_n 63 0 d_P_ofMember_62 rfl rfl rfl rfl ?_
        refine kM_getR 66 0 1 d_P_ofMember_63 l_P_10 (kp_0).x rfl rfl rfl rfl ?_
        refine kM_getR 69 2 4 d_P_ofMember_66 l_P_119 (kp_1).x rfl rfl rfl rfl ?_
        refine kJ_iload_n 70 1 d_P_ofMember_69 rfl rfl rfl ?_
        obtain ⟨hg, hf⟩ := kG_some hf
        refine kM_iald 71 12 d_P_ofMember_70 ((kk_0_7 kp_1)).x rfl hg rfl ?_
        cases hf
        exact kJ_iret d_P_ofMember_71 rfl rfl (Nat.zero_le _) (Nat.zero_le _)
      · have hf := kIf_f hf c1
        by_cases c2 : x2 = 2
        · have hf := kIf_t hf c2
          refine kJ_tabIn 72 d_P_ofMember_14 (by rw [c2]; try decide) (by rw [c2]; try decide) (by rw [c2]; try rfl) rfl ?_
          refine kJ_aload_n 73 0 d_P_ofMember_72 rfl rfl rfl rfl ?_
          refine kM_getR 76 0 1 d_P_ofMember_73 l_P_10 (kp_0).x rfl rfl rfl rfl ?_
          refine kJ_iload_n 77 1 d_P_ofMember_76 rfl rfl rfl ?_
          refine kM_callv 80 m_C_isPresent [.int x1] [] d_P_ofMember_77 cl_P_122 ⟨w_386, w_11⟩ (kp_1).x ⟨rfl, by decide⟩ ⟨_, _, rfl⟩ rfl rfl (Nat.le_of_ble_eq_true rfl) ⟨Nat.le_of_ble_eq_true rfl, Nat.le_of_ble_eq_true rfl⟩ ⟨rfl, rfl⟩ ⟨Nat.zero_le _, Nat.zero_le _⟩ (j_C_isPresent hro kp_1 rfl) rfl ?_
          refine kJ_if_eq 83 87 d_P_ofMember_80 rfl rfl (fun hc => ?_) (fun hc => ?_)
          · have hf := kIf_f hf (kB2_0 hc)
            refine kJ_iconst 88 0 d_P_ofMember_87 ki_0 rfl ?_
            cases hf
            exact kJ_iret d_P_ofMember_88 rfl rfl (Nat.zero_le _) (Nat.zero_le _)
          · have hf := kIf_t hf (kB2_1 hc)
            refine kJ_iconst 84 1 d_P_ofMember_83 ki_1 rfl ?_
            refine kJ_goto 88 d_P_ofMember_84 rfl ?_
            cases hf
            exact kJ_iret d_P_ofMember_88 rfl rfl (Nat.zero_le _) (Nat.zero_le _)
        · have hf := kIf_f hf c2
          by_cases c3 : x2 = 3
          · have hf := kIf_t hf c3
            refine kJ_tabIn 89 d_P_ofMember_14 (by rw [c3]; try decide) (by rw [c3]; try decide) (by rw [c3]; try rfl) rfl ?_
            refine kJ_aload_n 90 0 d_P_ofMember_89 rfl rfl rfl rfl ?_
            refine kM_getR 93 0 1 d_P_ofMember_90 l_P_10 (kp_0).x rfl rfl rfl rfl ?_
            refine kM_getR 96 3 5 d_P_ofMember_93 l_P_125 (kp_1).x rfl rfl rfl rfl ?_
            refine kJ_iload_n 97 1 d_P_ofMember_96 rfl rfl rfl ?_
            obtain ⟨hg, hf⟩ := kG_some hf
            refine kM_iald 98 12 d_P_ofMember_97 ((kk_0_8 kp_1)).x rfl hg rfl ?_
            cases hf
            exact kJ_iret d_P_ofMember_98 rfl rfl (Nat.zero_le _) (Nat.zero_le _)
          · have hf := kIf_f hf c3
            by_cases c4 : x2 = 4
            · have hf := kIf_t hf c4
              refine kJ_tabIn 99 d_P_ofMember_14 (by rw [c4]; try decide) (by rw [c4]; try decide) (by rw [c4]; try rfl) rfl ?_
              refine kJ_aload_n 100 0 d_P_ofMember_99 rfl rfl rfl rfl ?_
              refine kM_getR 103 0 1 d_P_ofMember_100 l_P_10 (kp_0).x rfl rfl rfl rfl ?_
              refine kJ_iload_n 104 1 d_P_ofMember_103 rfl rfl rfl ?_
              obtain ⟨v2, ev2, hf⟩ := kBi_some hf
              refine kM_callv 107 m_C_votesOf [.int x1] [] d_P_ofMember_104 cl_P_128 ⟨w_390, w_12⟩ (kp_1).x ⟨rfl, by decide⟩ ⟨_, _, rfl⟩ rfl rfl (Nat.le_of_ble_eq_true rfl) ⟨Nat.le_of_ble_eq_true rfl, Nat.le_of_ble_eq_true rfl⟩ ⟨rfl, rfl⟩ ⟨Nat.zero_le _, Nat.zero_le _⟩ (j_C_votesOf hro kp_1 ev2) rfl ?_
              cases hf
              exact kJ_iret d_P_ofMember_107 rfl rfl (Nat.zero_le _) (Nat.zero_le _)
            · have hf := kIf_f hf c4
              by_cases c5 : x2 = 5
              · have hf := kIf_t hf c5
                refine kJ_tabIn 108 d_P_ofMember_14 (by rw [c5]; try decide) (by rw [c5]; try decide) (by rw [c5]; try rfl) rfl ?_
                refine kJ_aload_n 109 0 d_P_ofMember_108 rfl rfl rfl rfl ?_
                refine kM_getR 112 0 1 d_P_ofMember_109 l_P_10 (kp_0).x rfl rfl rfl rfl ?_
                refine kJ_iload_n 113 1 d_P_ofMember_112 rfl rfl rfl ?_
                obtain ⟨v3, ev3, hf⟩ := kBi_some hf
                refine kM_callv 116 m_C_tiesBrokenBy [.int x1] [] d_P_ofMember_113 cl_P_131 ⟨w_394, w_13⟩ (kp_1).x ⟨rfl, by decide⟩ ⟨_, _, rfl⟩ rfl rfl (Nat.le_of_ble_eq_true rfl) ⟨Nat.le_of_ble_eq_true rfl, Nat.le_of_ble_eq_true rfl⟩ ⟨rfl, rfl⟩ ⟨Nat.zero_le _, Nat.zero_le _⟩ (j_C_tiesBrokenBy hro kp_1 ev3) rfl ?_
                cases hf
                exact kJ_iret d_P_ofMember_116 rfl rfl (Nat.zero_le _) (Nat.zero_le _)
              · have hf := kIf_f hf c5
                refine kJ_tabOut 117 d_P_ofMember_14 (by have t0 := kne 0 c0 rfl; have t1 := kne 1 c1 rfl; have t2 := kne 2 c2 rfl; have t3 := kne 3 c3 rfl; have t4 := kne 4 c4 rfl; have t5 := kne 5 c5 rfl; omega) rfl ?_
                refine kJ_bipush 119 (-2) d_P_ofMember_117 kb_m2 rfl ?_
                cases hf
                exact kJ_iret d_P_ofMember_119 rfl rfl (Nat.zero_le _) (Nat.zero_le _)
  · have hf := kIf_f hf (kB2_0 hc)
    refine kJ_iconst 12 (-1) d_P_ofMember_11 ki_m1 rfl ?_
    cases hf
    exact kJ_iret d_P_ofMember_12 rfl rfl (Nat.zero_le _) (Nat.zero_le _)
def b_C_itemsIn_4 (h : kH) (x0 : Nat) (x1 : Int32) : Nat → Int32 → Int32 → Option Int32
  | 0, _, _ => none
  | n + 1, x2, x3 => (fun rec4 => if (h x0 2) ≤ x3 then (some x2) else (kG x3 12 (if (h (x0 + 10 + 5 * kx x3) 2) = x1 then (rec4 (x2 + 1) (x3 + 1)) else (rec4 x2 (x3 + 1))))) (fun x2' x3' => b_C_itemsIn_4 h x0 x1 n x2' x3')
theorem c_C_itemsIn_4 {E : kE} {L : Nat} {xs : Nat → Int32} (hro : kRo E L xs) {K : List Nat} {h : kH} {x0 : Nat} {x1 : Int32} (k0 : kIs x0 0) {r : Int32} : ∀ (n : Nat) (x2 : Int32) (x3 : Int32), b_C_itemsIn_4 h x0 x1 n x2 x3 = some r → kJ E m_C_itemsIn (some r) (mk K h) 0 0 4 [(0, .ref x0), (1, .int x1), (2, .int x2), (3, .int x3)] [] (mk K h) := by
  intro n
  induction n with
  | zero =>
    intro x2 x3 hf
    have hf : (none : Option Int32) = some r := hf
    cases hf
  | succ n hrec4 =>
    intro x2 x3 hf
    rw [b_C_itemsIn_4] at hf
    dsimp only at hf
    refine kJ_iload_n 5 3 d_C_itemsIn_4 rfl rfl rfl ?_
    refine kJ_aload_n 6 0 d_C_itemsIn_5 rfl rfl rfl rfl ?_
    refine kM_getI 9 d_C_itemsIn_6 l_C_57 (k0).x rfl rfl rfl ?_
    refine kJ_icmp_ge 12 34 d_C_itemsIn_9 rfl rfl (fun hc => ?_) (fun hc => ?_)
    · have hf := kIf_t hf hc
      refine kJ_iload_n 35 2 d_C_itemsIn_34 rfl rfl rfl ?_
      cases hf
      exact kJ_iret d_C_itemsIn_35 rfl rfl (Nat.zero_le _) (Nat.zero_le _)
    · have hf := kIf_f hf hc
      refine kJ_aload_n 13 0 d_C_itemsIn_12 rfl rfl rfl rfl ?_
      refine kM_getR 16 4 (x0 + 5) d_C_itemsIn_13 l_C_30 (k0).x rfl rfl rfl rfl ?_
      refine kJ_iload_n 17 3 d_C_itemsIn_16 rfl rfl rfl ?_
      obtain ⟨hg1, hf⟩ := kG_some hf
      refine kM_aald 18 12 5 5 (x0 + 10 + 5 * kx x3) d_C_itemsIn_17 ((kk_0_9 k0)).x rfl (by decide) (Or.inl rfl) hg1 (by simp only [Nat.add_assoc, kx]; try omega) rfl ?_
      refine kM_getI 21 d_C_itemsIn_18 l_C_89 ((kC_item k0 (kIn_lt hg1))).x rfl rfl rfl ?_
      refine kJ_iload_n 22 1 d_C_itemsIn_21 rfl rfl rfl ?_
      refine kJ_icmp_ne 25 28 d_C_itemsIn_22 rfl rfl (fun hc => ?_) (fun hc => ?_)
      · have hf := kIf_f hf hc
        refine kJ_iinc 31 3 [(3, .int (x3 + 1)), (0, .ref x0), (1, .int x1), (2, .int x2)] d_C_itemsIn_28 rfl ki_1 (Nat.le_of_ble_eq_true rfl) rfl rfl ?_
        refine kJ_goto 4 d_C_itemsIn_31 rfl ?_
        refine kJ_sub [1, 2, 3, 0] rfl ?_
        exact hrec4 x2 (x3 + 1) hf
      · have hf := kIf_t hf hc
        refine kJ_iinc 28 2 [(2, .int (x2 + 1)), (0, .ref x0), (1, .int x1), (3, .int x3)] d_C_itemsIn_25 rfl ki_1 (Nat.le_of_ble_eq_true rfl) rfl rfl ?_
        refine kJ_iinc 31 3 [(3, .int (x3 + 1)), (2, .int (x2 + 1)), (0, .ref x0), (1, .int x1)] d_C_itemsIn_28 rfl ki_1 (Nat.le_of_ble_eq_true rfl) rfl rfl ?_
        refine kJ_goto 4 d_C_itemsIn_31 rfl ?_
        refine kJ_sub [2, 3, 1, 0] rfl ?_
        exact hrec4 (x2 + 1) (x3 + 1) hf
def f_C_itemsIn (h : kH) (x0 : Nat) (x1 : Int32) : Option Int32 := b_C_itemsIn_4 h x0 x1 kFuel 0 0
theorem j_C_itemsIn {E : kE} {L : Nat} {xs : Nat → Int32} (hro : kRo E L xs) {K : List Nat} {h : kH} {x0 : Nat} {x1 : Int32} (k0 : kIs x0 0) {r : Int32} (hf : f_C_itemsIn h x0 x1 = some r) : JM E m_C_itemsIn [.ref x0, .int x1] (mk K h) (some r) (mk K h) := by
  unfold f_C_itemsIn at hf
  refine JM.of pn_C (Nat.le_of_ble_eq_true rfl) ?_
  show kJ E m_C_itemsIn (some r) (mk K h) 0 0 0 [(0, .ref x0), (1, .int x1)] [] (mk K h)
  refine kJ_iconst 1 0 d_C_itemsIn_0 ki_0 rfl ?_
  refine kJ_istore_n 2 [(2, .int 0), (0, .ref x0), (1, .int x1)] d_C_itemsIn_1 rfl (Nat.le_of_ble_eq_true rfl) rfl rfl ?_
  refine kJ_iconst 3 0 d_C_itemsIn_2 ki_0 rfl ?_
  refine kJ_istore_n 4 [(3, .int 0), (2, .int 0), (0, .ref x0), (1, .int x1)] d_C_itemsIn_3 rfl (Nat.le_of_ble_eq_true rfl) rfl rfl ?_
  refine kJ_sub [2, 3, 1, 0] rfl ?_
  exact c_C_itemsIn_4 hro k0 kFuel 0 0 hf
def b_C_firstIn_2 (h : kH) (x0 : Nat) (x1 : Int32) : Nat → Int32 → Option Int32
  | 0, _ => none
  | n + 1, x2 => (fun rec2 => if (h x0 2) ≤ x2 then (some (-6)) else (kG x2 12 (if (h (x0 + 10 + 5 * kx x2) 2) = x1 then (some x2) else (rec2 (x2 + 1))))) (fun x2' => b_C_firstIn_2 h x0 x1 n x2')
theorem c_C_firstIn_2 {E : kE} {L : Nat} {xs : Nat → Int32} (hro : kRo E L xs) {K : List Nat} {h : kH} {x0 : Nat} {x1 : Int32} (k0 : kIs x0 0) {r : Int32} : ∀ (n : Nat) (x2 : Int32), b_C_firstIn_2 h x0 x1 n x2 = some r → kJ E m_C_firstIn (some r) (mk K h) 0 0 2 [(0, .ref x0), (1, .int x1), (2, .int x2)] [] (mk K h) := by
  intro n
  induction n with
  | zero =>
    intro x2 hf
    have hf : (none : Option Int32) = some r := hf
    cases hf
  | succ n hrec2 =>
    intro x2 hf
    rw [b_C_firstIn_2] at hf
    dsimp only at hf
    refine kJ_iload_n 3 2 d_C_firstIn_2 rfl rfl rfl ?_
    refine kJ_aload_n 4 0 d_C_firstIn_3 rfl rfl rfl rfl ?_
    refine kM_getI 7 d_C_firstIn_4 l_C_57 (k0).x rfl rfl rfl ?_
    refine kJ_icmp_ge 10 31 d_C_firstIn_7 rfl rfl (fun hc => ?_) (fun hc => ?_)
    · have hf := kIf_t hf hc
      refine kJ_bipush 33 (-6) d_C_firstIn_31 kb_m6 rfl ?_
      cases hf
      exact kJ_iret d_C_firstIn_33 rfl rfl (Nat.zero_le _) (Nat.zero_le _)
    · have hf := kIf_f hf hc
      refine kJ_aload_n 11 0 d_C_firstIn_10 rfl rfl rfl rfl ?_
      refine kM_getR 14 4 (x0 + 5) d_C_firstIn_11 l_C_30 (k0).x rfl rfl rfl rfl ?_
      refine kJ_iload_n 15 2 d_C_firstIn_14 rfl rfl rfl ?_
      obtain ⟨hg1, hf⟩ := kG_some hf
      refine kM_aald 16 12 5 5 (x0 + 10 + 5 * kx x2) d_C_firstIn_15 ((kk_0_9 k0)).x rfl (by decide) (Or.inl rfl) hg1 (by simp only [Nat.add_assoc, kx]; try omega) rfl ?_
      refine kM_getI 19 d_C_firstIn_16 l_C_89 ((kC_item k0 (kIn_lt hg1))).x rfl rfl rfl ?_
      refine kJ_iload_n 20 1 d_C_firstIn_19 rfl rfl rfl ?_
      refine kJ_icmp_ne 23 25 d_C_firstIn_20 rfl rfl (fun hc => ?_) (fun hc => ?_)
      · have hf := kIf_f hf hc
        refine kJ_iinc 28 2 [(2, .int (x2 + 1)), (0, .ref x0), (1, .int x1)] d_C_firstIn_25 rfl ki_1 (Nat.le_of_ble_eq_true rfl) rfl rfl ?_
        refine kJ_goto 2 d_C_firstIn_28 rfl ?_
        refine kJ_sub [1, 2, 0] rfl ?_
        exact hrec2 (x2 + 1) hf
      · have hf := kIf_t hf hc
        refine kJ_iload_n 24 2 d_C_firstIn_23 rfl rfl rfl ?_
        cases hf
        exact kJ_iret d_C_firstIn_24 rfl rfl (Nat.zero_le _) (Nat.zero_le _)
def f_C_firstIn (h : kH) (x0 : Nat) (x1 : Int32) : Option Int32 := b_C_firstIn_2 h x0 x1 kFuel 0
theorem j_C_firstIn {E : kE} {L : Nat} {xs : Nat → Int32} (hro : kRo E L xs) {K : List Nat} {h : kH} {x0 : Nat} {x1 : Int32} (k0 : kIs x0 0) {r : Int32} (hf : f_C_firstIn h x0 x1 = some r) : JM E m_C_firstIn [.ref x0, .int x1] (mk K h) (some r) (mk K h) := by
  unfold f_C_firstIn at hf
  refine JM.of pn_C (Nat.le_of_ble_eq_true rfl) ?_
  show kJ E m_C_firstIn (some r) (mk K h) 0 0 0 [(0, .ref x0), (1, .int x1)] [] (mk K h)
  refine kJ_iconst 1 0 d_C_firstIn_0 ki_0 rfl ?_
  refine kJ_istore_n 2 [(2, .int 0), (0, .ref x0), (1, .int x1)] d_C_firstIn_1 rfl (Nat.le_of_ble_eq_true rfl) rfl rfl ?_
  refine kJ_sub [1, 2, 0] rfl ?_
  exact c_C_firstIn_2 hro k0 kFuel 0 hf
def b_C_chairOfTheMoment_27 (h : kH) (x0 : Nat) : Nat → Int32 → Option Int32
  | 0, _ => none
  | n + 1, x1 => (fun rec27 => if (h x0 1) ≤ x1 then (some (-6)) else (if (f_C_isPresent h x0 x1) = true then (some x1) else (rec27 (x1 + 1)))) (fun x1' => b_C_chairOfTheMoment_27 h x0 n x1')
theorem c_C_chairOfTheMoment_27 {E : kE} {L : Nat} {xs : Nat → Int32} (hro : kRo E L xs) {K : List Nat} {h : kH} {x0 : Nat} (k0 : kIs x0 0) {r : Int32} : ∀ (n : Nat) (x1 : Int32), b_C_chairOfTheMoment_27 h x0 n x1 = some r → kJ E m_C_chairOfTheMoment (some r) (mk K h) 0 0 27 [(0, .ref x0), (1, .int x1)] [] (mk K h) := by
  intro n
  induction n with
  | zero =>
    intro x1 hf
    have hf : (none : Option Int32) = some r := hf
    cases hf
  | succ n hrec27 =>
    intro x1 hf
    rw [b_C_chairOfTheMoment_27] at hf
    dsimp only at hf
    refine kJ_iload_n 28 1 d_C_chairOfTheMoment_27 rfl rfl rfl ?_
    refine kJ_aload_n 29 0 d_C_chairOfTheMoment_28 rfl rfl rfl rfl ?_
    refine kM_getI 32 d_C_chairOfTheMoment_29 l_C_54 (k0).x rfl rfl rfl ?_
    refine kJ_icmp_ge 35 51 d_C_chairOfTheMoment_32 rfl rfl (fun hc => ?_) (fun hc => ?_)
    · have hf := kIf_t hf hc
      refine kJ_bipush 53 (-6) d_C_chairOfTheMoment_51 kb_m6 rfl ?_
      cases hf
      exact kJ_iret d_C_chairOfTheMoment_53 rfl rfl (Nat.zero_le _) (Nat.zero_le _)
    · have hf := kIf_f hf hc
      refine kJ_aload_n 36 0 d_C_chairOfTheMoment_35 rfl rfl rfl rfl ?_
      refine kJ_iload_n 37 1 d_C_chairOfTheMoment_36 rfl rfl rfl ?_
      refine kM_callv 40 m_C_isPresent [.int x1] [] d_C_chairOfTheMoment_37 cl_C_76 ⟨w_386, w_11⟩ (k0).x ⟨rfl, by decide⟩ ⟨_, _, rfl⟩ rfl rfl (Nat.le_of_ble_eq_true rfl) ⟨Nat.le_of_ble_eq_true rfl, Nat.le_of_ble_eq_true rfl⟩ ⟨rfl, rfl⟩ ⟨Nat.zero_le _, Nat.zero_le _⟩ (j_C_isPresent hro k0 rfl) rfl ?_
      refine kJ_if_eq 43 45 d_C_chairOfTheMoment_40 rfl rfl (fun hc => ?_) (fun hc => ?_)
      · have hf := kIf_f hf (kB2_0 hc)
        refine kJ_iinc 48 1 [(1, .int (x1 + 1)), (0, .ref x0)] d_C_chairOfTheMoment_45 rfl ki_1 (Nat.le_of_ble_eq_true rfl) rfl rfl ?_
        refine kJ_goto 27 d_C_chairOfTheMoment_48 rfl ?_
        refine kJ_sub [1, 0] rfl ?_
        exact hrec27 (x1 + 1) hf
      · have hf := kIf_t hf (kB2_1 hc)
        refine kJ_iload_n 44 1 d_C_chairOfTheMoment_43 rfl rfl rfl ?_
        cases hf
        exact kJ_iret d_C_chairOfTheMoment_44 rfl rfl (Nat.zero_le _) (Nat.zero_le _)
def f_C_chairOfTheMoment (h : kH) (x0 : Nat) : Option Int32 := if (h x0 4) = (-6) then (b_C_chairOfTheMoment_27 h x0 kFuel 0) else (if (f_C_isPresent h x0 (h x0 4)) = true then (some (h x0 4)) else (b_C_chairOfTheMoment_27 h x0 kFuel 0))
theorem j_C_chairOfTheMoment {E : kE} {L : Nat} {xs : Nat → Int32} (hro : kRo E L xs) {K : List Nat} {h : kH} {x0 : Nat} (k0 : kIs x0 0) {r : Int32} (hf : f_C_chairOfTheMoment h x0 = some r) : JM E m_C_chairOfTheMoment [.ref x0] (mk K h) (some r) (mk K h) := by
  unfold f_C_chairOfTheMoment at hf
  refine JM.of pn_C (Nat.le_of_ble_eq_true rfl) ?_
  show kJ E m_C_chairOfTheMoment (some r) (mk K h) 0 0 0 [(0, .ref x0)] [] (mk K h)
  refine kJ_aload_n 1 0 d_C_chairOfTheMoment_0 rfl rfl rfl rfl ?_
  refine kM_getI 4 d_C_chairOfTheMoment_1 l_C_9 (k0).x rfl rfl rfl ?_
  refine kJ_bipush 6 (-6) d_C_chairOfTheMoment_4 kb_m6 rfl ?_
  refine kJ_icmp_eq 9 25 d_C_chairOfTheMoment_6 rfl rfl (fun hc => ?_) (fun hc => ?_)
  · have hf := kIf_t hf hc
    refine kJ_iconst 26 0 d_C_chairOfTheMoment_25 ki_0 rfl ?_
    refine kJ_istore_n 27 [(1, .int 0), (0, .ref x0)] d_C_chairOfTheMoment_26 rfl (Nat.le_of_ble_eq_true rfl) rfl rfl ?_
    refine kJ_sub [1, 0] rfl ?_
    exact c_C_chairOfTheMoment_27 hro k0 kFuel 0 hf
  · have hf := kIf_f hf hc
    refine kJ_aload_n 10 0 d_C_chairOfTheMoment_9 rfl rfl rfl rfl ?_
    refine kJ_aload_n 11 0 d_C_chairOfTheMoment_10 rfl rfl rfl rfl ?_
    refine kM_getI 14 d_C_chairOfTheMoment_11 l_C_9 (k0).x rfl rfl rfl ?_
    refine kM_callv 17 m_C_isPresent [.int (h x0 4)] [] d_C_chairOfTheMoment_14 cl_C_76 ⟨w_386, w_11⟩ (k0).x ⟨rfl, by decide⟩ ⟨_, _, rfl⟩ rfl rfl (Nat.le_of_ble_eq_true rfl) ⟨Nat.le_of_ble_eq_true rfl, Nat.le_of_ble_eq_true rfl⟩ ⟨rfl, rfl⟩ ⟨Nat.zero_le _, Nat.zero_le _⟩ (j_C_isPresent hro k0 rfl) rfl ?_
    refine kJ_if_eq 20 25 d_C_chairOfTheMoment_17 rfl rfl (fun hc => ?_) (fun hc => ?_)
    · have hf := kIf_f hf (kB2_0 hc)
      refine kJ_iconst 26 0 d_C_chairOfTheMoment_25 ki_0 rfl ?_
      refine kJ_istore_n 27 [(1, .int 0), (0, .ref x0)] d_C_chairOfTheMoment_26 rfl (Nat.le_of_ble_eq_true rfl) rfl rfl ?_
      refine kJ_sub [1, 0] rfl ?_
      exact c_C_chairOfTheMoment_27 hro k0 kFuel 0 hf
    · have hf := kIf_t hf (kB2_1 hc)
      refine kJ_aload_n 21 0 d_C_chairOfTheMoment_20 rfl rfl rfl rfl ?_
      refine kM_getI 24 d_C_chairOfTheMoment_21 l_C_9 (k0).x rfl rfl rfl ?_
      cases hf
      exact kJ_iret d_C_chairOfTheMoment_24 rfl rfl (Nat.zero_le _) (Nat.zero_le _)
