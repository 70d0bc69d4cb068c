/-! CODE of the methods as functions, with certificates: printed by wip/whole/emit.py. -/
def b_M_set_32 (h : kH) (x1 : Int32) (x2 : Int32) (s0 : Int32) : Option (Int32 × kH) := if (f_M_in x1 0 5) = true then (if (f_M_in x2 0 s0) = true then (kBi (f_M_record h) fun h1 => kG x1 760 (kG x1 760 (kLet (hset h1 787 (kx x1) x2) fun h2 => some ((h1 787 (kx x1)), h2)))) else (some ((-2), h))) else (some ((-2), h))
theorem c_M_set_32 {E : kE} {L : Nat} {xs : Nat → Int32} (hro : kRo E L xs) {h : kH} {x1 : Int32} {x2 : Int32} {s0 : Int32} {r : Int32} {h' : kH} (hf : b_M_set_32 h x1 x2 s0 = some (r, h')) : kJ E m_M_set (some r) (mk h') 0 0 32 [(0, .ref 786), (1, .int x1), (2, .int x2)] [.int s0] (mk h) := by
  unfold b_M_set_32 at hf
  refine kJ_istore_n 33 [(3, .int s0), (0, .ref 786), (1, .int x1), (2, .int x2)] d_M_set_32 rfl (Nat.le_of_ble_eq_true rfl) rfl rfl ?_
  refine kJ_iload_n 34 2 d_M_set_33 rfl rfl rfl ?_
  refine kJ_iconst 35 0 d_M_set_34 ki_0 rfl ?_
  refine kJ_iconst 36 5 d_M_set_35 ki_5 rfl ?_
  refine kM_calls 39 m_M_in [.int x1, .int 0, .int 5] [] d_M_set_36 cl_M_49 w_869 rfl rfl (Nat.le_of_ble_eq_true rfl) ⟨Nat.le_of_ble_eq_true rfl, Nat.le_of_ble_eq_true rfl⟩ ⟨rfl, rfl⟩ ⟨Nat.zero_le _, Nat.zero_le _⟩ (j_M_in hro rfl) rfl ?_
  refine kJ_if_eq 42 51 d_M_set_39 rfl rfl (fun hc => ?_) (fun hc => ?_)
  · have hf := kIf_f hf (kB2_0 hc)
    refine kJ_bipush 53 (-2) d_M_set_51 kb_m2 rfl ?_
    cases hf
    exact kJ_iret d_M_set_53 rfl rfl (Nat.zero_le _) (Nat.zero_le _)
  · have hf := kIf_t hf (kB2_1 hc)
    refine kJ_iload_n 43 3 d_M_set_42 rfl rfl rfl ?_
    refine kJ_iconst 44 0 d_M_set_43 ki_0 rfl ?_
    refine kJ_iload_n 45 0 d_M_set_44 rfl rfl rfl ?_
    refine kM_calls 48 m_M_in [.int x2, .int 0, .int s0] [] d_M_set_45 cl_M_49 w_869 rfl rfl (Nat.le_of_ble_eq_true rfl) ⟨Nat.le_of_ble_eq_true rfl, Nat.le_of_ble_eq_true rfl⟩ ⟨rfl, rfl⟩ ⟨Nat.zero_le _, Nat.zero_le _⟩ (j_M_in hro rfl) rfl ?_
    refine kJ_if_ne 51 54 d_M_set_48 rfl rfl (fun hc => ?_) (fun hc => ?_)
    · have hf := kIf_t hf (kB2_1 hc)
      refine kJ_aload_n 55 1 d_M_set_54 rfl rfl rfl rfl ?_
      obtain ⟨h1, eh1, hf⟩ := kBi_some hf
      refine kM_callv 58 m_M_record [] [] d_M_set_55 cl_M_53 ⟨w_873, w_65⟩ km_786 ⟨rfl, by decide⟩ ⟨_, _, rfl⟩ rfl rfl (Nat.le_of_ble_eq_true rfl) ⟨Nat.le_of_ble_eq_true rfl, Nat.le_of_ble_eq_true rfl⟩ ⟨rfl, rfl⟩ ⟨Nat.zero_le _, Nat.zero_le _⟩ (j_M_record hro eh1) rfl ?_
      refine kJ_aload_n 59 1 d_M_set_58 rfl rfl rfl rfl ?_
      refine kM_getR 62 0 787 d_M_set_59 l_M_7 km_786 rfl rfl rfl rfl ?_
      refine kJ_iload_n 63 2 d_M_set_62 rfl rfl rfl ?_
      obtain ⟨hg, hf⟩ := kG_some hf
      refine kM_iald 64 760 d_M_set_63 km_787 rfl hg rfl ?_
      refine kJ_istore 66 [(4, .int (h1 787 (kx x1))), (3, .int s0), (0, .ref 786), (1, .int x1), (2, .int x2)] d_M_set_64 (Nat.le_of_ble_eq_true rfl) rfl rfl ?_
      refine kJ_aload_n 67 2 d_M_set_66 rfl rfl rfl rfl ?_
      refine kM_getR 70 0 787 d_M_set_67 l_M_7 km_786 rfl rfl rfl rfl ?_
      refine kJ_iload_n 71 3 d_M_set_70 rfl rfl rfl ?_
      refine kJ_iload_n 72 4 d_M_set_71 rfl rfl rfl ?_
      obtain ⟨hg, hf⟩ := kG_some hf
      refine kM_iast 73 760 d_M_set_72 km_787 rfl hg rfl ?_
      obtain ⟨h2, eh2, hf⟩ := kLet_e hf
      rw [← eh2]
      refine kJ_iload 75 0 d_M_set_73 rfl rfl ?_
      cases hf
      exact kJ_iret d_M_set_75 rfl rfl (Nat.zero_le _) (Nat.zero_le _)
    · have hf := kIf_f hf (kB2_0 hc)
      refine kJ_bipush 53 (-2) d_M_set_51 kb_m2 rfl ?_
      cases hf
      exact kJ_iret d_M_set_53 rfl rfl (Nat.zero_le _) (Nat.zero_le _)
def f_M_set (h : kH) (x1 : Int32) (x2 : Int32) : Option (Int32 × kH) := if 2 ≤ x1 then (if x1 = 2 then (b_M_set_32 h x1 x2 600) else (if x1 = 3 then (b_M_set_32 h x1 x2 6) else (b_M_set_32 h x1 x2 1))) else (b_M_set_32 h x1 x2 100)
theorem j_M_set {E : kE} {L : Nat} {xs : Nat → Int32} (hro : kRo E L xs) {h : kH} {x1 : Int32} {x2 : Int32} {r : Int32} {h' : kH} (hf : f_M_set h x1 x2 = some (r, h')) : JM E m_M_set [.ref 786, .int x1, .int x2] (mk h) (some r) (mk h') := by
  unfold f_M_set at hf
  refine JM.of pn_M (Nat.le_of_ble_eq_true rfl) ?_
  show kJ E m_M_set (some r) (mk h') 0 0 0 [(0, .ref 786), (1, .int x1), (2, .int x2)] [] (mk h)
  refine kJ_iload_n 1 1 d_M_set_0 rfl rfl rfl ?_
  refine kJ_iconst 2 2 d_M_set_1 ki_2 rfl ?_
  refine kJ_icmp_ge 5 10 d_M_set_2 rfl rfl (fun hc => ?_) (fun hc => ?_)
  · have hf := kIf_t hf hc
    refine kJ_iload_n 11 1 d_M_set_10 rfl rfl rfl ?_
    refine kJ_iconst 12 2 d_M_set_11 ki_2 rfl ?_
    refine kJ_icmp_ne 15 21 d_M_set_12 rfl rfl (fun hc => ?_) (fun hc => ?_)
    · have hf := kIf_f hf hc
      refine kJ_iload_n 22 1 d_M_set_21 rfl rfl rfl ?_
      refine kJ_iconst 23 3 d_M_set_22 ki_3 rfl ?_
      refine kJ_icmp_ne 26 31 d_M_set_23 rfl rfl (fun hc => ?_) (fun hc => ?_)
      · have hf := kIf_f hf hc
        refine kJ_iconst 32 1 d_M_set_31 ki_1 rfl ?_
        refine kJ_sub [0, 1, 2] rfl ?_
        exact c_M_set_32 hro hf
      · have hf := kIf_t hf hc
        refine kJ_bipush 28 6 d_M_set_26 kb_6 rfl ?_
        refine kJ_goto 32 d_M_set_28 rfl ?_
        refine kJ_sub [0, 1, 2] rfl ?_
        exact c_M_set_32 hro hf
    · have hf := kIf_t hf hc
      refine kJ_sipush 18 600 d_M_set_15 ks_600 rfl ?_
      refine kJ_goto 32 d_M_set_18 rfl ?_
      refine kJ_sub [0, 1, 2] rfl ?_
      exact c_M_set_32 hro hf
  · have hf := kIf_f hf hc
    refine kJ_bipush 7 100 d_M_set_5 kb_100 rfl ?_
    refine kJ_goto 32 d_M_set_7 rfl ?_
    refine kJ_sub [0, 1, 2] rfl ?_
    exact c_M_set_32 hro hf
def b_M_member_98 (h : kH) (s0 : Nat) (s1 : Int32) (s2 : Int32) : Option (Int32 × kH) := kG s1 760 (kLet (hset h s0 (kx s1) s2) fun h5 => kG 7 760 (kG 7 760 (kLet (hset h5 787 (kx 7) ((h5 787 (kx 7)) + 1)) fun h6 => kG 7 760 (some (((h6 787 (kx 7)) - 1), h6)))))
theorem c_M_member_98 {E : kE} {L : Nat} {xs : Nat → Int32} (hro : kRo E L xs) {h : kH} {s0 : Nat} {s1 : Int32} {s2 : Int32} (ks0 : kIs s0 13) {r : Int32} {h' : kH} (hf : b_M_member_98 h s0 s1 s2 = some (r, h')) : kJ E m_M_member (some r) (mk h') 0 0 98 [(0, .ref 786)] [.int s2, .int s1, .ref s0] (mk h) := by
  unfold b_M_member_98 at hf
  obtain ⟨hg, hf⟩ := kG_some hf
  refine kM_iast 99 760 d_M_member_98 ks0 rfl hg rfl ?_
  obtain ⟨h5, eh5, hf⟩ := kLet_e hf
  rw [← eh5]
  refine kJ_aload_n 100 0 d_M_member_99 rfl rfl rfl rfl ?_
  refine kM_getR 103 0 787 d_M_member_100 l_M_7 km_786 rfl rfl rfl rfl ?_
  refine kJ_bipush 105 7 d_M_member_103 kb_7 rfl ?_
  refine kJ_dup2 106 d_M_member_105 rfl rfl rfl ?_
  obtain ⟨hg, hf⟩ := kG_some hf
  refine kM_iald 107 760 d_M_member_106 km_787 rfl hg rfl ?_
  refine kJ_iconst 108 1 d_M_member_107 ki_1 rfl ?_
  refine kJ_iadd 109 d_M_member_108 rfl ?_
  obtain ⟨hg, hf⟩ := kG_some hf
  refine kM_iast 110 760 d_M_member_109 km_787 rfl hg rfl ?_
  obtain ⟨h6, eh6, hf⟩ := kLet_e hf
  rw [← eh6]
  refine kJ_aload_n 111 0 d_M_member_110 rfl rfl rfl rfl ?_
  refine kM_getR 114 0 787 d_M_member_111 l_M_7 km_786 rfl rfl rfl rfl ?_
  refine kJ_bipush 116 7 d_M_member_114 kb_7 rfl ?_
  obtain ⟨hg, hf⟩ := kG_some hf
  refine kM_iald 117 760 d_M_member_116 km_787 rfl hg rfl ?_
  refine kJ_iconst 118 1 d_M_member_117 ki_1 rfl ?_
  refine kJ_isub 119 d_M_member_118 rfl ?_
  cases hf
  exact kJ_iret d_M_member_119 rfl rfl (Nat.zero_le _) (Nat.zero_le _)
def f_M_member (h : kH) (x1 : Int32) (x2 : Int32) : Option (Int32 × kH) := if (f_M_in x1 1 9) = true then (if (f_M_in x2 0 3) = true then (kG 7 760 (if (h 787 (kx 7)) = 12 then (some ((-4), h)) else (kBi (f_M_record h) fun h1 => kG 7 760 (kLet (20 + (6 * (h1 787 (kx 7)))) fun v2 => kG v2 760 (kLet (hset h1 787 (kx v2) x1) fun h3 => kG (v2 + 1) 760 (kLet (hset h3 787 (kx (v2 + 1)) x2) fun h4 => kG 7 760 (if (h4 787 (kx 7)) = 0 then (b_M_member_98 h4 787 9 0) else (kG 9 760 (b_M_member_98 h4 787 9 (h4 787 (kx 9))))))))))) else (some ((-2), h))) else (some ((-2), h))
theorem j_M_member {E : kE} {L : Nat} {xs : Nat → Int32} (hro : kRo E L xs) {h : kH} {x1 : Int32} {x2 : Int32} {r : Int32} {h' : kH} (hf : f_M_member h x1 x2 = some (r, h')) : JM E m_M_member [.ref 786, .int x1, .int x2] (mk h) (some r) (mk h') := by
  unfold f_M_member at hf
  refine JM.of pn_M (Nat.le_of_ble_eq_true rfl) ?_
  show kJ E m_M_member (some r) (mk h') 0 0 0 [(0, .ref 786), (1, .int x1), (2, .int x2)] [] (mk h)
  refine kJ_iload_n 1 1 d_M_member_0 rfl rfl rfl ?_
  refine kJ_iconst 2 1 d_M_member_1 ki_1 rfl ?_
  refine kJ_bipush 4 9 d_M_member_2 kb_9 rfl ?_
  refine kM_calls 7 m_M_in [.int x1, .int 1, .int 9] [] d_M_member_4 cl_M_49 w_869 rfl rfl (Nat.le_of_ble_eq_true rfl) ⟨Nat.le_of_ble_eq_true rfl, Nat.le_of_ble_eq_true rfl⟩ ⟨rfl, rfl⟩ ⟨Nat.zero_le _, Nat.zero_le _⟩ (j_M_in hro rfl) rfl ?_
  refine kJ_if_eq 10 19 d_M_member_7 rfl rfl (fun hc => ?_) (fun hc => ?_)
  · have hf := kIf_f hf (kB2_0 hc)
    refine kJ_bipush 21 (-2) d_M_member_19 kb_m2 rfl ?_
    cases hf
    exact kJ_iret d_M_member_21 rfl rfl (Nat.zero_le _) (Nat.zero_le _)
  · have hf := kIf_t hf (kB2_1 hc)
    refine kJ_iload_n 11 2 d_M_member_10 rfl rfl rfl ?_
    refine kJ_iconst 12 0 d_M_member_11 ki_0 rfl ?_
    refine kJ_iconst 13 3 d_M_member_12 ki_3 rfl ?_
    refine kM_calls 16 m_M_in [.int x2, .int 0, .int 3] [] d_M_member_13 cl_M_49 w_869 rfl rfl (Nat.le_of_ble_eq_true rfl) ⟨Nat.le_of_ble_eq_true rfl, Nat.le_of_ble_eq_true rfl⟩ ⟨rfl, rfl⟩ ⟨Nat.zero_le _, Nat.zero_le _⟩ (j_M_in hro rfl) rfl ?_
    refine kJ_if_ne 19 22 d_M_member_16 rfl rfl (fun hc => ?_) (fun hc => ?_)
    · have hf := kIf_t hf (kB2_1 hc)
      refine kJ_aload_n 23 0 d_M_member_22 rfl rfl rfl rfl ?_
      refine kM_getR 26 0 787 d_M_member_23 l_M_7 km_786 rfl rfl rfl rfl ?_
      refine kJ_bipush 28 7 d_M_member_26 kb_7 rfl ?_
      obtain ⟨hg, hf⟩ := kG_some hf
      refine kM_iald 29 760 d_M_member_28 km_787 rfl hg rfl ?_
      refine kJ_bipush 31 12 d_M_member_29 kb_12 rfl ?_
      refine kJ_icmp_ne 34 37 d_M_member_31 rfl rfl (fun hc => ?_) (fun hc => ?_)
      · have hf := kIf_f hf hc
        refine kJ_aload_n 38 0 d_M_member_37 rfl rfl rfl rfl ?_
        obtain ⟨h1, eh1, hf⟩ := kBi_some hf
        refine kM_callv 41 m_M_record [] [] d_M_member_38 cl_M_53 ⟨w_873, w_65⟩ km_786 ⟨rfl, by decide⟩ ⟨_, _, rfl⟩ rfl rfl (Nat.le_of_ble_eq_true rfl) ⟨Nat.le_of_ble_eq_true rfl, Nat.le_of_ble_eq_true rfl⟩ ⟨rfl, rfl⟩ ⟨Nat.zero_le _, Nat.zero_le _⟩ (j_M_record hro eh1) rfl ?_
        refine kJ_bipush 43 20 d_M_member_41 kb_20 rfl ?_
        refine kJ_bipush 45 6 d_M_member_43 kb_6 rfl ?_
        refine kJ_aload_n 46 0 d_M_member_45 rfl rfl rfl rfl ?_
        refine kM_getR 49 0 787 d_M_member_46 l_M_7 km_786 rfl rfl rfl rfl ?_
        refine kJ_bipush 51 7 d_M_member_49 kb_7 rfl ?_
        obtain ⟨hg, hf⟩ := kG_some hf
        refine kM_iald 52 760 d_M_member_51 km_787 rfl hg rfl ?_
        refine kJ_imul 53 d_M_member_52 rfl ?_
        refine kJ_iadd 54 d_M_member_53 rfl ?_
        obtain ⟨v2, ev2, hf⟩ := kLet_e hf
        rw [← ev2]
        refine kJ_istore_n 55 [(3, .int v2), (0, .ref 786), (1, .int x1), (2, .int x2)] d_M_member_54 rfl (Nat.le_of_ble_eq_true rfl) rfl rfl ?_
        refine kJ_aload_n 56 1 d_M_member_55 rfl rfl rfl rfl ?_
        refine kM_getR 59 0 787 d_M_member_56 l_M_7 km_786 rfl rfl rfl rfl ?_
        refine kJ_iload_n 60 0 d_M_member_59 rfl rfl rfl ?_
        refine kJ_iload_n 61 2 d_M_member_60 rfl rfl rfl ?_
        obtain ⟨hg, hf⟩ := kG_some hf
        refine kM_iast 62 760 d_M_member_61 km_787 rfl hg rfl ?_
        obtain ⟨h3, eh3, hf⟩ := kLet_e hf
        rw [← eh3]
        refine kJ_aload_n 63 1 d_M_member_62 rfl rfl rfl rfl ?_
        refine kM_getR 66 0 787 d_M_member_63 l_M_7 km_786 rfl rfl rfl rfl ?_
        refine kJ_iload_n 67 0 d_M_member_66 rfl rfl rfl ?_
        refine kJ_iconst 68 1 d_M_member_67 ki_1 rfl ?_
        refine kJ_iadd 69 d_M_member_68 rfl ?_
        refine kJ_iload_n 70 3 d_M_member_69 rfl rfl rfl ?_
        obtain ⟨hg, hf⟩ := kG_some hf
        refine kM_iast 71 760 d_M_member_70 km_787 rfl hg rfl ?_
        obtain ⟨h4, eh4, hf⟩ := kLet_e hf
        rw [← eh4]
        refine kJ_aload_n 72 1 d_M_member_71 rfl rfl rfl rfl ?_
        refine kM_getR 75 0 787 d_M_member_72 l_M_7 km_786 rfl rfl rfl rfl ?_
        refine kJ_bipush 77 9 d_M_member_75 kb_9 rfl ?_
        refine kJ_aload_n 78 1 d_M_member_77 rfl rfl rfl rfl ?_
        refine kM_getR 81 0 787 d_M_member_78 l_M_7 km_786 rfl rfl rfl rfl ?_
        refine kJ_bipush 83 7 d_M_member_81 kb_7 rfl ?_
        obtain ⟨hg, hf⟩ := kG_some hf
        refine kM_iald 84 760 d_M_member_83 km_787 rfl hg rfl ?_
        refine kJ_if_ne 87 91 d_M_member_84 rfl rfl (fun hc => ?_) (fun hc => ?_)
        · have hf := kIf_f hf hc
          refine kJ_aload_n 92 1 d_M_member_91 rfl rfl rfl rfl ?_
          refine kM_getR 95 0 787 d_M_member_92 l_M_7 km_786 rfl rfl rfl rfl ?_
          refine kJ_bipush 97 9 d_M_member_95 kb_9 rfl ?_
          obtain ⟨hg, hf⟩ := kG_some hf
          refine kM_iald 98 760 d_M_member_97 km_787 rfl hg rfl ?_
          refine kJ_sub [1] rfl ?_
          exact c_M_member_98 hro km_787 hf
        · have hf := kIf_t hf hc
          refine kJ_iconst 88 0 d_M_member_87 ki_0 rfl ?_
          refine kJ_goto 98 d_M_member_88 rfl ?_
          refine kJ_sub [1] rfl ?_
          exact c_M_member_98 hro km_787 hf
      · have hf := kIf_t hf hc
        refine kJ_bipush 36 (-4) d_M_member_34 kb_m4 rfl ?_
        cases hf
        exact kJ_iret d_M_member_36 rfl rfl (Nat.zero_le _) (Nat.zero_le _)
    · have hf := kIf_f hf (kB2_0 hc)
      refine kJ_bipush 21 (-2) d_M_member_19 kb_m2 rfl ?_
      cases hf
      exact kJ_iret d_M_member_21 rfl rfl (Nat.zero_le _) (Nat.zero_le _)
def f_M_item (h : kH) (x1 : Int32) (x2 : Int32) : Option (Int32 × kH) := if (f_M_in x1 0 2) = true then (if (f_M_in x2 0 15) = true then (kG 8 760 (if (h 787 (kx 8)) = 12 then (some ((-4), h)) else (kBi (f_M_record h) fun h1 => kG 8 760 (kLet (100 + (12 * (h1 787 (kx 8)))) fun v2 => kG v2 760 (kLet (hset h1 787 (kx v2) x1) fun h3 => kG (v2 + 1) 760 (kLet (hset h3 787 (kx (v2 + 1)) x2) fun h4 => kG 8 760 (kG 8 760 (kLet (hset h4 787 (kx 8) ((h4 787 (kx 8)) + 1)) fun h5 => kG 8 760 (some (((h5 787 (kx 8)) - 1), h5)))))))))) else (some ((-2), h))) else (some ((-2), h))
theorem j_M_item {E : kE} {L : Nat} {xs : Nat → Int32} (hro : kRo E L xs) {h : kH} {x1 : Int32} {x2 : Int32} {r : Int32} {h' : kH} (hf : f_M_item h x1 x2 = some (r, h')) : JM E m_M_item [.ref 786, .int x1, .int x2] (mk h) (some r) (mk h') := by
  unfold f_M_item at hf
  refine JM.of pn_M (Nat.le_of_ble_eq_true rfl) ?_
  show kJ E m_M_item (some r) (mk h') 0 0 0 [(0, .ref 786), (1, .int x1), (2, .int x2)] [] (mk h)
  refine kJ_iload_n 1 1 d_M_item_0 rfl rfl rfl ?_
  refine kJ_iconst 2 0 d_M_item_1 ki_0 rfl ?_
  refine kJ_iconst 3 2 d_M_item_2 ki_2 rfl ?_
  refine kM_calls 6 m_M_in [.int x1, .int 0, .int 2] [] d_M_item_3 cl_M_49 w_869 rfl rfl (Nat.le_of_ble_eq_true rfl) ⟨Nat.le_of_ble_eq_true rfl, Nat.le_of_ble_eq_true rfl⟩ ⟨rfl, rfl⟩ ⟨Nat.zero_le _, Nat.zero_le _⟩ (j_M_in hro rfl) rfl ?_
  refine kJ_if_eq 9 19 d_M_item_6 rfl rfl (fun hc => ?_) (fun hc => ?_)
  · have hf := kIf_f hf (kB2_0 hc)
    refine kJ_bipush 21 (-2) d_M_item_19 kb_m2 rfl ?_
    cases hf
    exact kJ_iret d_M_item_21 rfl rfl (Nat.zero_le _) (Nat.zero_le _)
  · have hf := kIf_t hf (kB2_1 hc)
    refine kJ_iload_n 10 2 d_M_item_9 rfl rfl rfl ?_
    refine kJ_iconst 11 0 d_M_item_10 ki_0 rfl ?_
    refine kJ_bipush 13 15 d_M_item_11 kb_15 rfl ?_
    refine kM_calls 16 m_M_in [.int x2, .int 0, .int 15] [] d_M_item_13 cl_M_49 w_869 rfl rfl (Nat.le_of_ble_eq_true rfl) ⟨Nat.le_of_ble_eq_true rfl, Nat.le_of_ble_eq_true rfl⟩ ⟨rfl, rfl⟩ ⟨Nat.zero_le _, Nat.zero_le _⟩ (j_M_in hro rfl) rfl ?_
    refine kJ_if_ne 19 22 d_M_item_16 rfl rfl (fun hc => ?_) (fun hc => ?_)
    · have hf := kIf_t hf (kB2_1 hc)
      refine kJ_aload_n 23 0 d_M_item_22 rfl rfl rfl rfl ?_
      refine kM_getR 26 0 787 d_M_item_23 l_M_7 km_786 rfl rfl rfl rfl ?_
      refine kJ_bipush 28 8 d_M_item_26 kb_8 rfl ?_
      obtain ⟨hg, hf⟩ := kG_some hf
      refine kM_iald 29 760 d_M_item_28 km_787 rfl hg rfl ?_
      refine kJ_bipush 31 12 d_M_item_29 kb_12 rfl ?_
      refine kJ_icmp_ne 34 37 d_M_item_31 rfl rfl (fun hc => ?_) (fun hc => ?_)
      · have hf := kIf_f hf hc
        refine kJ_aload_n 38 0 d_M_item_37 rfl rfl rfl rfl ?_
        obtain ⟨h1, eh1, hf⟩ := kBi_some hf
        refine kM_callv 41 m_M_record [] [] d_M_item_38 cl_M_53 ⟨w_873, w_65⟩ km_786 ⟨rfl, by decide⟩ ⟨_, _, rfl⟩ rfl rfl (Nat.le_of_ble_eq_true rfl) ⟨Nat.le_of_ble_eq_true rfl, Nat.le_of_ble_eq_true rfl⟩ ⟨rfl, rfl⟩ ⟨Nat.zero_le _, Nat.zero_le _⟩ (j_M_record hro eh1) rfl ?_
        refine kJ_bipush 43 100 d_M_item_41 kb_100 rfl ?_
        refine kJ_bipush 45 12 d_M_item_43 kb_12 rfl ?_
        refine kJ_aload_n 46 0 d_M_item_45 rfl rfl rfl rfl ?_
        refine kM_getR 49 0 787 d_M_item_46 l_M_7 km_786 rfl rfl rfl rfl ?_
        refine kJ_bipush 51 8 d_M_item_49 kb_8 rfl ?_
        obtain ⟨hg, hf⟩ := kG_some hf
        refine kM_iald 52 760 d_M_item_51 km_787 rfl hg rfl ?_
        refine kJ_imul 53 d_M_item_52 rfl ?_
        refine kJ_iadd 54 d_M_item_53 rfl ?_
        obtain ⟨v2, ev2, hf⟩ := kLet_e hf
        rw [← ev2]
        refine kJ_istore_n 55 [(3, .int v2), (0, .ref 786), (1, .int x1), (2, .int x2)] d_M_item_54 rfl (Nat.le_of_ble_eq_true rfl) rfl rfl ?_
        refine kJ_aload_n 56 1 d_M_item_55 rfl rfl rfl rfl ?_
        refine kM_getR 59 0 787 d_M_item_56 l_M_7 km_786 rfl rfl rfl rfl ?_
        refine kJ_iload_n 60 0 d_M_item_59 rfl rfl rfl ?_
        refine kJ_iload_n 61 2 d_M_item_60 rfl rfl rfl ?_
        obtain ⟨hg, hf⟩ := kG_some hf
        refine kM_iast 62 760 d_M_item_61 km_787 rfl hg rfl ?_
        obtain ⟨h3, eh3, hf⟩ := kLet_e hf
        rw [← eh3]
        refine kJ_aload_n 63 1 d_M_item_62 rfl rfl rfl rfl ?_
        refine kM_getR 66 0 787 d_M_item_63 l_M_7 km_786 rfl rfl rfl rfl ?_
        refine kJ_iload_n 67 0 d_M_item_66 rfl rfl rfl ?_
        refine kJ_iconst 68 1 d_M_item_67 ki_1 rfl ?_
        refine kJ_iadd 69 d_M_item_68 rfl ?_
        refine kJ_iload_n 70 3 d_M_item_69 rfl rfl rfl ?_
        obtain ⟨hg, hf⟩ := kG_some hf
        refine kM_iast 71 760 d_M_item_70 km_787 rfl hg rfl ?_
        obtain ⟨h4, eh4, hf⟩ := kLet_e hf
        rw [← eh4]
        refine kJ_aload_n 72 1 d_M_item_71 rfl rfl rfl rfl ?_
        refine kM_getR 75 0 787 d_M_item_72 l_M_7 km_786 rfl rfl rfl rfl ?_
        refine kJ_bipush 77 8 d_M_item_75 kb_8 rfl ?_
        refine kJ_dup2 78 d_M_item_77 rfl rfl rfl ?_
        obtain ⟨hg, hf⟩ := kG_some hf
        refine kM_iald 79 760 d_M_item_78 km_787 rfl hg rfl ?_
        refine kJ_iconst 80 1 d_M_item_79 ki_1 rfl ?_
        refine kJ_iadd 81 d_M_item_80 rfl ?_
        obtain ⟨hg, hf⟩ := kG_some hf
        refine kM_iast 82 760 d_M_item_81 km_787 rfl hg rfl ?_
        obtain ⟨h5, eh5, hf⟩ := kLet_e hf
        rw [← eh5]
        refine kJ_aload_n 83 1 d_M_item_82 rfl rfl rfl rfl ?_
        refine kM_getR 86 0 787 d_M_item_83 l_M_7 km_786 rfl rfl rfl rfl ?_
        refine kJ_bipush 88 8 d_M_item_86 kb_8 rfl ?_
        obtain ⟨hg, hf⟩ := kG_some hf
        refine kM_iald 89 760 d_M_item_88 km_787 rfl hg rfl ?_
        refine kJ_iconst 90 1 d_M_item_89 ki_1 rfl ?_
        refine kJ_isub 91 d_M_item_90 rfl ?_
        cases hf
        exact kJ_iret d_M_item_91 rfl rfl (Nat.zero_le _) (Nat.zero_le _)
      · have hf := kIf_t hf hc
        refine kJ_bipush 36 (-4) d_M_item_34 kb_m4 rfl ?_
        cases hf
        exact kJ_iret d_M_item_36 rfl rfl (Nat.zero_le _) (Nat.zero_le _)
    · have hf := kIf_f hf (kB2_0 hc)
      refine kJ_bipush 21 (-2) d_M_item_19 kb_m2 rfl ?_
      cases hf
      exact kJ_iret d_M_item_21 rfl rfl (Nat.zero_le _) (Nat.zero_le _)
def f_M_isMember (h : kH) (x1 : Int32) : Option Bool := kG 7 760 (some (f_M_in x1 0 ((h 787 (kx 7)) - 1)))
theorem j_M_isMember {E : kE} {L : Nat} {xs : Nat → Int32} (hro : kRo E L xs) {h : kH} {x1 : Int32} {r : Bool} (hf : f_M_isMember h x1 = some r) : JM E m_M_isMember [.ref 786, .int x1] (mk h) (some (kB2 r)) (mk h) := by
  unfold f_M_isMember at hf
  refine JM.of pn_M (Nat.le_of_ble_eq_true rfl) ?_
  show kJ E m_M_isMember (some (kB2 r)) (mk h) 0 0 0 [(0, .ref 786), (1, .int x1)] [] (mk h)
  refine kJ_iload_n 1 1 d_M_isMember_0 rfl rfl rfl ?_
  refine kJ_iconst 2 0 d_M_isMember_1 ki_0 rfl ?_
  refine kJ_aload_n 3 0 d_M_isMember_2 rfl rfl rfl rfl ?_
  refine kM_getR 6 0 787 d_M_isMember_3 l_M_7 km_786 rfl rfl rfl rfl ?_
  refine kJ_bipush 8 7 d_M_isMember_6 kb_7 rfl ?_
  obtain ⟨hg, hf⟩ := kG_some hf
  refine kM_iald 9 760 d_M_isMember_8 km_787 rfl hg rfl ?_
  refine kJ_iconst 10 1 d_M_isMember_9 ki_1 rfl ?_
  refine kJ_isub 11 d_M_isMember_10 rfl ?_
  refine kM_calls 14 m_M_in [.int x1, .int 0, .int ((h 787 (kx 7)) - 1)] [] d_M_isMember_11 cl_M_49 w_869 rfl rfl (Nat.le_of_ble_eq_true rfl) ⟨Nat.le_of_ble_eq_true rfl, Nat.le_of_ble_eq_true rfl⟩ ⟨rfl, rfl⟩ ⟨Nat.zero_le _, Nat.zero_le _⟩ (j_M_in hro rfl) rfl ?_
  cases hf
  exact kJ_iret d_M_isMember_14 rfl (kB2_z _) (Nat.zero_le _) (Nat.zero_le _)
def f_M_chair (h : kH) (x1 : Int32) : Option (Int32 × kH) := kBi (f_M_isMember h x1) fun v1 => if v1 = true then (kBi (f_M_record h) fun h2 => kG 9 760 (kG 9 760 (kLet (hset h2 787 (kx 9) x1) fun h3 => some ((h2 787 (kx 9)), h3)))) else (some ((-1), h))
theorem j_M_chair {E : kE} {L : Nat} {xs : Nat → Int32} (hro : kRo E L xs) {h : kH} {x1 : Int32} {r : Int32} {h' : kH} (hf : f_M_chair h x1 = some (r, h')) : JM E m_M_chair [.ref 786, .int x1] (mk h) (some r) (mk h') := by
  unfold f_M_chair at hf
  refine JM.of pn_M (Nat.le_of_ble_eq_true rfl) ?_
  show kJ E m_M_chair (some r) (mk h') 0 0 0 [(0, .ref 786), (1, .int x1)] [] (mk h)
  refine kJ_aload_n 1 0 d_M_chair_0 rfl rfl rfl rfl ?_
  refine kJ_iload_n 2 1 d_M_chair_1 rfl rfl rfl ?_
  obtain ⟨v1, ev1, hf⟩ := kBi_some hf
  refine kM_callv 5 m_M_isMember [.int x1] [] d_M_chair_2 cl_M_56 ⟨w_889, w_66⟩ km_786 ⟨rfl, by decide⟩ ⟨_, _, rfl⟩ rfl rfl (Nat.le_of_ble_eq_true rfl) ⟨Nat.le_of_ble_eq_true rfl, Nat.le_of_ble_eq_true rfl⟩ ⟨rfl, rfl⟩ ⟨Nat.zero_le _, Nat.zero_le _⟩ (j_M_isMember hro ev1) rfl ?_
  refine kJ_if_ne 8 10 d_M_chair_5 rfl rfl (fun hc => ?_) (fun hc => ?_)
  · have hf := kIf_t hf (kB2_1 hc)
    refine kJ_aload_n 11 0 d_M_chair_10 rfl rfl rfl rfl ?_
    obtain ⟨h2, eh2, hf⟩ := kBi_some hf
    refine kM_callv 14 m_M_record [] [] d_M_chair_11 cl_M_53 ⟨w_873, w_65⟩ km_786 ⟨rfl, by decide⟩ ⟨_, _, rfl⟩ rfl rfl (Nat.le_of_ble_eq_true rfl) ⟨Nat.le_of_ble_eq_true rfl, Nat.le_of_ble_eq_true rfl⟩ ⟨rfl, rfl⟩ ⟨Nat.zero_le _, Nat.zero_le _⟩ (j_M_record hro eh2) rfl ?_
    refine kJ_aload_n 15 0 d_M_chair_14 rfl rfl rfl rfl ?_
    refine kM_getR 18 0 787 d_M_chair_15 l_M_7 km_786 rfl rfl rfl rfl ?_
    refine kJ_bipush 20 9 d_M_chair_18 kb_9 rfl ?_
    obtain ⟨hg, hf⟩ := kG_some hf
    refine kM_iald 21 760 d_M_chair_20 km_787 rfl hg rfl ?_
    refine kJ_istore_n 22 [(2, .int (h2 787 (kx 9))), (0, .ref 786), (1, .int x1)] d_M_chair_21 rfl (Nat.le_of_ble_eq_true rfl) rfl rfl ?_
    refine kJ_aload_n 23 1 d_M_chair_22 rfl rfl rfl rfl ?_
    refine kM_getR 26 0 787 d_M_chair_23 l_M_7 km_786 rfl rfl rfl rfl ?_
    refine kJ_bipush 28 9 d_M_chair_26 kb_9 rfl ?_
    refine kJ_iload_n 29 2 d_M_chair_28 rfl rfl rfl ?_
    obtain ⟨hg, hf⟩ := kG_some hf
    refine kM_iast 30 760 d_M_chair_29 km_787 rfl hg rfl ?_
    obtain ⟨h3, eh3, hf⟩ := kLet_e hf
    rw [← eh3]
    refine kJ_iload_n 31 0 d_M_chair_30 rfl rfl rfl ?_
    cases hf
    exact kJ_iret d_M_chair_31 rfl rfl (Nat.zero_le _) (Nat.zero_le _)
  · have hf := kIf_f hf (kB2_0 hc)
    refine kJ_iconst 9 (-1) d_M_chair_8 ki_m1 rfl ?_
    cases hf
    exact kJ_iret d_M_chair_9 rfl rfl (Nat.zero_le _) (Nat.zero_le _)
def f_M_ofOne (h : kH) (x1 : Int32) (x2 : Int32) : Option Int32 := kG ((20 + (6 * x1)) + x2) 760 (some (h 787 (kx ((20 + (6 * x1)) + x2))))
theorem j_M_ofOne {E : kE} {L : Nat} {xs : Nat → Int32} (hro : kRo E L xs) {h : kH} {x1 : Int32} {x2 : Int32} {r : Int32} (hf : f_M_ofOne h x1 x2 = some r) : JM E m_M_ofOne [.ref 786, .int x1, .int x2] (mk h) (some r) (mk h) := by
  unfold f_M_ofOne at hf
  refine JM.of pn_M (Nat.le_of_ble_eq_true rfl) ?_
  show kJ E m_M_ofOne (some r) (mk h) 0 0 0 [(0, .ref 786), (1, .int x1), (2, .int x2)] [] (mk h)
  refine kJ_aload_n 1 0 d_M_ofOne_0 rfl rfl rfl rfl ?_
  refine kM_getR 4 0 787 d_M_ofOne_1 l_M_7 km_786 rfl rfl rfl rfl ?_
  refine kJ_bipush 6 20 d_M_ofOne_4 kb_20 rfl ?_
  refine kJ_bipush 8 6 d_M_ofOne_6 kb_6 rfl ?_
  refine kJ_iload_n 9 1 d_M_ofOne_8 rfl rfl rfl ?_
  refine kJ_imul 10 d_M_ofOne_9 rfl ?_
  refine kJ_iadd 11 d_M_ofOne_10 rfl ?_
  refine kJ_iload_n 12 2 d_M_ofOne_11 rfl rfl rfl ?_
  refine kJ_iadd 13 d_M_ofOne_12 rfl ?_
  obtain ⟨hg, hf⟩ := kG_some hf
  refine kM_iald 14 760 d_M_ofOne_13 km_787 rfl hg rfl ?_
  cases hf
  exact kJ_iret d_M_ofOne_14 rfl rfl (Nat.zero_le _) (Nat.zero_le _)
def f_M_isPresent (h : kH) (x1 : Int32) : Option Bool := kBi (f_M_ofOne h x1 2) fun v1 => if v1 = 1 then (some true) else (some false)
theorem j_M_isPresent {E : kE} {L : Nat} {xs : Nat → Int32} (hro : kRo E L xs) {h : kH} {x1 : Int32} {r : Bool} (hf : f_M_isPresent h x1 = some r) : JM E m_M_isPresent [.ref 786, .int x1] (mk h) (some (kB2 r)) (mk h) := by
  unfold f_M_isPresent at hf
  refine JM.of pn_M (Nat.le_of_ble_eq_true rfl) ?_
  show kJ E m_M_isPresent (some (kB2 r)) (mk h) 0 0 0 [(0, .ref 786), (1, .int x1)] [] (mk h)
  refine kJ_aload_n 1 0 d_M_isPresent_0 rfl rfl rfl rfl ?_
  refine kJ_iload_n 2 1 d_M_isPresent_1 rfl rfl rfl ?_
  refine kJ_iconst 3 2 d_M_isPresent_2 ki_2 rfl ?_
  obtain ⟨v1, ev1, hf⟩ := kBi_some hf
  refine kM_callv 6 m_M_ofOne [.int x1, .int 2] [] d_M_isPresent_3 cl_M_60 ⟨w_901, w_68⟩ km_786 ⟨rfl, by decide⟩ ⟨_, _, rfl⟩ rfl rfl (Nat.le_of_ble_eq_true rfl) ⟨Nat.le_of_ble_eq_true rfl, Nat.le_of_ble_eq_true rfl⟩ ⟨rfl, rfl⟩ ⟨Nat.zero_le _, Nat.zero_le _⟩ (j_M_ofOne hro ev1) rfl ?_
  refine kJ_iconst 7 1 d_M_isPresent_6 ki_1 rfl ?_
  refine kJ_icmp_ne 10 14 d_M_isPresent_7 rfl rfl (fun hc => ?_) (fun hc => ?_)
  · have hf := kIf_f hf hc
    refine kJ_iconst 15 0 d_M_isPresent_14 ki_0 rfl ?_
    cases hf
    exact kJ_iret d_M_isPresent_15 rfl (kB2_z _) (Nat.zero_le _) (Nat.zero_le _)
  · have hf := kIf_t hf hc
    refine kJ_iconst 11 1 d_M_isPresent_10 ki_1 rfl ?_
    refine kJ_goto 15 d_M_isPresent_11 rfl ?_
    cases hf
    exact kJ_iret d_M_isPresent_15 rfl (kB2_z _) (Nat.zero_le _) (Nat.zero_le _)
def b_M_present_4 (h : kH) : Nat → Int32 → Int32 → Option Int32
  | 0, _, _ => none
  | n + 1, x1, x2 => (fun rec4 => kG 7 760 (if (h 787 (kx 7)) ≤ x2 then (some x1) else (kBi (f_M_isPresent h x2) fun v1 => if v1 = true then (kLet (x1 ||| (1 <<< (x2 &&& 31))) fun v2 => rec4 v2 (x2 + 1)) else (rec4 (x1 ||| 0) (x2 + 1))))) (fun x1' x2' => b_M_present_4 h n x1' x2')
theorem c_M_present_4 {E : kE} {L : Nat} {xs : Nat → Int32} (hro : kRo E L xs) {h : kH} {r : Int32} : ∀ (n : Nat) (x1 : Int32) (x2 : Int32), b_M_present_4 h n x1 x2 = some r → kJ E m_M_present (some r) (mk h) 0 0 4 [(0, .ref 786), (1, .int x1), (2, .int x2)] [] (mk h) := by
  intro n
  induction n with
  | zero =>
    intro x1 x2 hf
    have hf : (none : Option Int32) = some r := hf
    cases hf
  | succ n hrec4 =>
    intro x1 x2 hf
    rw [b_M_present_4] at hf
    dsimp only at hf
    refine kJ_iload_n 5 2 d_M_present_4 rfl rfl rfl ?_
    refine kJ_aload_n 6 0 d_M_present_5 rfl rfl rfl rfl ?_
    refine kM_getR 9 0 787 d_M_present_6 l_M_7 km_786 rfl rfl rfl rfl ?_
    refine kJ_bipush 11 7 d_M_present_9 kb_7 rfl ?_
    obtain ⟨hg, hf⟩ := kG_some hf
    refine kM_iald 12 760 d_M_present_11 km_787 rfl hg rfl ?_
    refine kJ_icmp_ge 15 39 d_M_present_12 rfl rfl (fun hc => ?_) (fun hc => ?_)
    · have hf := kIf_t hf hc
      refine kJ_iload_n 40 1 d_M_present_39 rfl rfl rfl ?_
      cases hf
      exact kJ_iret d_M_present_40 rfl rfl (Nat.zero_le _) (Nat.zero_le _)
    · have hf := kIf_f hf hc
      refine kJ_iload_n 16 1 d_M_present_15 rfl rfl rfl ?_
      refine kJ_aload_n 17 0 d_M_present_16 rfl rfl rfl rfl ?_
      refine kJ_iload_n 18 2 d_M_present_17 rfl rfl rfl ?_
      obtain ⟨v1, ev1, hf⟩ := kBi_some hf
      refine kM_callv 21 m_M_isPresent [.int x2] [.int x1] d_M_present_18 cl_M_64 ⟨w_909, w_70⟩ km_786 ⟨rfl, by decide⟩ ⟨_, _, rfl⟩ rfl rfl (Nat.le_of_ble_eq_true rfl) ⟨Nat.le_of_ble_eq_true rfl, Nat.le_of_ble_eq_true rfl⟩ ⟨rfl, rfl⟩ ⟨Nat.zero_le _, Nat.zero_le _⟩ (j_M_isPresent hro ev1) rfl ?_
      refine kJ_if_eq 24 30 d_M_present_21 rfl rfl (fun hc => ?_) (fun hc => ?_)
      · have hf := kIf_f hf (kB2_0 hc)
        refine kJ_iconst 31 0 d_M_present_30 ki_0 rfl ?_
        refine kJ_ior 32 d_M_present_31 rfl ?_
        refine kJ_istore_n 33 [(1, .int (x1 ||| 0)), (0, .ref 786), (2, .int x2)] d_M_present_32 rfl (Nat.le_of_ble_eq_true rfl) rfl rfl ?_
        refine kJ_iinc 36 2 [(2, .int (x2 + 1)), (1, .int (x1 ||| 0)), (0, .ref 786)] d_M_present_33 rfl ki_1 (Nat.le_of_ble_eq_true rfl) rfl rfl ?_
        refine kJ_goto 4 d_M_present_36 rfl ?_
        refine kJ_sub [2, 1, 0] rfl ?_
        exact hrec4 (x1 ||| 0) (x2 + 1) hf
      · have hf := kIf_t hf (kB2_1 hc)
        refine kJ_iconst 25 1 d_M_present_24 ki_1 rfl ?_
        refine kJ_iload_n 26 2 d_M_present_25 rfl rfl rfl ?_
        refine kJ_ishl 27 d_M_present_26 rfl ?_
        refine kJ_goto 31 d_M_present_27 rfl ?_
        refine kJ_ior 32 d_M_present_31 rfl ?_
        obtain ⟨v2, ev2, hf⟩ := kLet_e hf
        rw [← ev2]
        refine kJ_istore_n 33 [(1, .int v2), (0, .ref 786), (2, .int x2)] d_M_present_32 rfl (Nat.le_of_ble_eq_true rfl) rfl rfl ?_
        refine kJ_iinc 36 2 [(2, .int (x2 + 1)), (1, .int v2), (0, .ref 786)] d_M_present_33 rfl ki_1 (Nat.le_of_ble_eq_true rfl) rfl rfl ?_
        refine kJ_goto 4 d_M_present_36 rfl ?_
        refine kJ_sub [2, 1, 0] rfl ?_
        exact hrec4 v2 (x2 + 1) hf
def f_M_present (h : kH) : Option Int32 := b_M_present_4 h kFuel 0 0
theorem j_M_present {E : kE} {L : Nat} {xs : Nat → Int32} (hro : kRo E L xs) {h : kH} {r : Int32} (hf : f_M_present h = some r) : JM E m_M_present [.ref 786] (mk h) (some r) (mk h) := by
  unfold f_M_present at hf
  refine JM.of pn_M (Nat.le_of_ble_eq_true rfl) ?_
  show kJ E m_M_present (some r) (mk h) 0 0 0 [(0, .ref 786)] [] (mk h)
  refine kJ_iconst 1 0 d_M_present_0 ki_0 rfl ?_
  refine kJ_istore_n 2 [(1, .int 0), (0, .ref 786)] d_M_present_1 rfl (Nat.le_of_ble_eq_true rfl) rfl rfl ?_
  refine kJ_iconst 3 0 d_M_present_2 ki_0 rfl ?_
  refine kJ_istore_n 4 [(2, .int 0), (1, .int 0), (0, .ref 786)] d_M_present_3 rfl (Nat.le_of_ble_eq_true rfl) rfl rfl ?_
  refine kJ_sub [2, 1, 0] rfl ?_
  exact c_M_present_4 hro kFuel 0 0 hf
def b_M_bits_4 (x0 : Int32) : Nat → Int32 → Int32 → Option Int32
  | 0, _, _ => none
  | n + 1, x1, x2 => (fun rec4 => if 12 ≤ x2 then (some x1) else (kLet (x1 + ((x0 >>> (x2 &&& 31)) &&& 1)) fun v1 => rec4 v1 (x2 + 1))) (fun x1' x2' => b_M_bits_4 x0 n x1' x2')
theorem c_M_bits_4 {E : kE} {L : Nat} {xs : Nat → Int32} (hro : kRo E L xs) {h0 : kH} {x0 : Int32} {r : Int32} : ∀ (n : Nat) (x1 : Int32) (x2 : Int32), b_M_bits_4 x0 n x1 x2 = some r → kJ E m_M_bits (some r) (mk h0) 0 0 4 [(0, .int x0), (1, .int x1), (2, .int x2)] [] (mk h0) := by
  intro n
  induction n with
  | zero =>
    intro x1 x2 hf
    have hf : (none : Option Int32) = some r := hf
    cases hf
  | succ n hrec4 =>
    intro x1 x2 hf
    rw [b_M_bits_4] at hf
    dsimp only at hf
    refine kJ_iload_n 5 2 d_M_bits_4 rfl rfl rfl ?_
    refine kJ_bipush 7 12 d_M_bits_5 kb_12 rfl ?_
    refine kJ_icmp_ge 10 24 d_M_bits_7 rfl rfl (fun hc => ?_) (fun hc => ?_)
    · have hf := kIf_t hf hc
      refine kJ_iload_n 25 1 d_M_bits_24 rfl rfl rfl ?_
      cases hf
      exact kJ_iret d_M_bits_25 rfl rfl (Nat.zero_le _) (Nat.zero_le _)
    · have hf := kIf_f hf hc
      refine kJ_iload_n 11 1 d_M_bits_10 rfl rfl rfl ?_
      refine kJ_iload_n 12 0 d_M_bits_11 rfl rfl rfl ?_
      refine kJ_iload_n 13 2 d_M_bits_12 rfl rfl rfl ?_
      refine kJ_ishr 14 d_M_bits_13 rfl ?_
      refine kJ_iconst 15 1 d_M_bits_14 ki_1 rfl ?_
      refine kJ_iand 16 d_M_bits_15 rfl ?_
      refine kJ_iadd 17 d_M_bits_16 rfl ?_
      obtain ⟨v1, ev1, hf⟩ := kLet_e hf
      rw [← ev1]
      refine kJ_istore_n 18 [(1, .int v1), (0, .int x0), (2, .int x2)] d_M_bits_17 rfl (Nat.le_of_ble_eq_true rfl) rfl rfl ?_
      refine kJ_iinc 21 2 [(2, .int (x2 + 1)), (1, .int v1), (0, .int x0)] d_M_bits_18 rfl ki_1 (Nat.le_of_ble_eq_true rfl) rfl rfl ?_
      refine kJ_goto 4 d_M_bits_21 rfl ?_
      refine kJ_sub [2, 1, 0] rfl ?_
      exact hrec4 v1 (x2 + 1) hf
def f_M_bits (x0 : Int32) : Option Int32 := b_M_bits_4 x0 kFuel 0 0
theorem j_M_bits {E : kE} {L : Nat} {xs : Nat → Int32} (hro : kRo E L xs) {h0 : kH} {x0 : Int32} {r : Int32} (hf : f_M_bits x0 = some r) : JM E m_M_bits [.int x0] (mk h0) (some r) (mk h0) := by
  unfold f_M_bits at hf
  refine JM.of pn_M (Nat.le_of_ble_eq_true rfl) ?_
  show kJ E m_M_bits (some r) (mk h0) 0 0 0 [(0, .int x0)] [] (mk h0)
  refine kJ_iconst 1 0 d_M_bits_0 ki_0 rfl ?_
  refine kJ_istore_n 2 [(1, .int 0), (0, .int x0)] d_M_bits_1 rfl (Nat.le_of_ble_eq_true rfl) rfl rfl ?_
  refine kJ_iconst 3 0 d_M_bits_2 ki_0 rfl ?_
  refine kJ_istore_n 4 [(2, .int 0), (1, .int 0), (0, .int x0)] d_M_bits_3 rfl (Nat.le_of_ble_eq_true rfl) rfl rfl ?_
  refine kJ_sub [2, 1, 0] rfl ?_
  exact c_M_bits_4 hro kFuel 0 0 hf
def f_M_turnTo (h : kH) (x1 : Int32) (x2 : Int32) : Option (Int32 × kH) := kBi (f_M_isMember h x1) fun v1 => if v1 = true then (kBi (f_M_ofOne h x1 2) fun v2 => if v2 = x2 then (some ((-5), h)) else (kBi (f_M_record h) fun h3 => kG ((20 + (6 * x1)) + 2) 760 (kLet (hset h3 787 (kx ((20 + (6 * x1)) + 2)) x2) fun h4 => kBi (f_M_present h4) fun v5 => kBi (f_M_bits v5) fun v6 => some (v6, h4)))) else (some ((-1), h))
theorem j_M_turnTo {E : kE} {L : Nat} {xs : Nat → Int32} (hro : kRo E L xs) {h : kH} {x1 : Int32} {x2 : Int32} {r : Int32} {h' : kH} (hf : f_M_turnTo h x1 x2 = some (r, h')) : JM E m_M_turnTo [.ref 786, .int x1, .int x2] (mk h) (some r) (mk h') := by
  unfold f_M_turnTo at hf
  refine JM.of pn_M (Nat.le_of_ble_eq_true rfl) ?_
  show kJ E m_M_turnTo (some r) (mk h') 0 0 0 [(0, .ref 786), (1, .int x1), (2, .int x2)] [] (mk h)
  refine kJ_aload_n 1 0 d_M_turnTo_0 rfl rfl rfl rfl ?_
  refine kJ_iload_n 2 1 d_M_turnTo_1 rfl rfl rfl ?_
  obtain ⟨v1, ev1, hf⟩ := kBi_some hf
  refine kM_callv 5 m_M_isMember [.int x1] [] d_M_turnTo_2 cl_M_56 ⟨w_889, w_66⟩ km_786 ⟨rfl, by decide⟩ ⟨_, _, rfl⟩ rfl rfl (Nat.le_of_ble_eq_true rfl) ⟨Nat.le_of_ble_eq_true rfl, Nat.le_of_ble_eq_true rfl⟩ ⟨rfl, rfl⟩ ⟨Nat.zero_le _, Nat.zero_le _⟩ (j_M_isMember hro ev1) rfl ?_
  refine kJ_if_ne 8 10 d_M_turnTo_5 rfl rfl (fun hc => ?_) (fun hc => ?_)
  · have hf := kIf_t hf (kB2_1 hc)
    refine kJ_aload_n 11 0 d_M_turnTo_10 rfl rfl rfl rfl ?_
    refine kJ_iload_n 12 1 d_M_turnTo_11 rfl rfl rfl ?_
    refine kJ_iconst 13 2 d_M_turnTo_12 ki_2 rfl ?_
    obtain ⟨v2, ev2, hf⟩ := kBi_some hf
    refine kM_callv 16 m_M_ofOne [.int x1, .int 2] [] d_M_turnTo_13 cl_M_60 ⟨w_901, w_68⟩ km_786 ⟨rfl, by decide⟩ ⟨_, _, rfl⟩ rfl rfl (Nat.le_of_ble_eq_true rfl) ⟨Nat.le_of_ble_eq_true rfl, Nat.le_of_ble_eq_true rfl⟩ ⟨rfl, rfl⟩ ⟨Nat.zero_le _, Nat.zero_le _⟩ (j_M_ofOne hro ev2) rfl ?_
    refine kJ_iload_n 17 2 d_M_turnTo_16 rfl rfl rfl ?_
    refine kJ_icmp_ne 20 23 d_M_turnTo_17 rfl rfl (fun hc => ?_) (fun hc => ?_)
    · have hf := kIf_f hf hc
      refine kJ_aload_n 24 0 d_M_turnTo_23 rfl rfl rfl rfl ?_
      obtain ⟨h3, eh3, hf⟩ := kBi_some hf
      refine kM_callv 27 m_M_record [] [] d_M_turnTo_24 cl_M_53 ⟨w_873, w_65⟩ km_786 ⟨rfl, by decide⟩ ⟨_, _, rfl⟩ rfl rfl (Nat.le_of_ble_eq_true rfl) ⟨Nat.le_of_ble_eq_true rfl, Nat.le_of_ble_eq_true rfl⟩ ⟨rfl, rfl⟩ ⟨Nat.zero_le _, Nat.zero_le _⟩ (j_M_record hro eh3) rfl ?_
      refine kJ_aload_n 28 0 d_M_turnTo_27 rfl rfl rfl rfl ?_
      refine kM_getR 31 0 787 d_M_turnTo_28 l_M_7 km_786 rfl rfl rfl rfl ?_
      refine kJ_bipush 33 20 d_M_turnTo_31 kb_20 rfl ?_
      refine kJ_bipush 35 6 d_M_turnTo_33 kb_6 rfl ?_
      refine kJ_iload_n 36 1 d_M_turnTo_35 rfl rfl rfl ?_
      refine kJ_imul 37 d_M_turnTo_36 rfl ?_
      refine kJ_iadd 38 d_M_turnTo_37 rfl ?_
      refine kJ_iconst 39 2 d_M_turnTo_38 ki_2 rfl ?_
      refine kJ_iadd 40 d_M_turnTo_39 rfl ?_
      refine kJ_iload_n 41 2 d_M_turnTo_40 rfl rfl rfl ?_
      obtain ⟨hg, hf⟩ := kG_some hf
      refine kM_iast 42 760 d_M_turnTo_41 km_787 rfl hg rfl ?_
      obtain ⟨h4, eh4, hf⟩ := kLet_e hf
      rw [← eh4]
      refine kJ_aload_n 43 0 d_M_turnTo_42 rfl rfl rfl rfl ?_
      obtain ⟨v5, ev5, hf⟩ := kBi_some hf
      refine kM_callv 46 m_M_present [] [] d_M_turnTo_43 cl_M_67 ⟨w_905, w_69⟩ km_786 ⟨rfl, by decide⟩ ⟨_, _, rfl⟩ rfl rfl (Nat.le_of_ble_eq_true rfl) ⟨Nat.le_of_ble_eq_true rfl, Nat.le_of_ble_eq_true rfl⟩ ⟨rfl, rfl⟩ ⟨Nat.zero_le _, Nat.zero_le _⟩ (j_M_present hro ev5) rfl ?_
      obtain ⟨v6, ev6, hf⟩ := kBi_some hf
      refine kM_calls 49 m_M_bits [.int v5] [] d_M_turnTo_46 cl_M_71 w_912 rfl rfl (Nat.le_of_ble_eq_true rfl) ⟨Nat.le_of_ble_eq_true rfl, Nat.le_of_ble_eq_true rfl⟩ ⟨rfl, rfl⟩ ⟨Nat.zero_le _, Nat.zero_le _⟩ (j_M_bits hro ev6) rfl ?_
      cases hf
      exact kJ_iret d_M_turnTo_49 rfl rfl (Nat.zero_le _) (Nat.zero_le _)
    · have hf := kIf_t hf hc
      refine kJ_bipush 22 (-5) d_M_turnTo_20 kb_m5 rfl ?_
      cases hf
      exact kJ_iret d_M_turnTo_22 rfl rfl (Nat.zero_le _) (Nat.zero_le _)
  · have hf := kIf_f hf (kB2_0 hc)
    refine kJ_iconst 9 (-1) d_M_turnTo_8 ki_m1 rfl ?_
    cases hf
    exact kJ_iret d_M_turnTo_9 rfl rfl (Nat.zero_le _) (Nat.zero_le _)
def f_M_come (h : kH) (x1 : Int32) : Option (Int32 × kH) := kBd (f_M_turnTo h x1 1) fun v2 h1 => some (v2, h1)
theorem j_M_come {E : kE} {L : Nat} {xs : Nat → Int32} (hro : kRo E L xs) {h : kH} {x1 : Int32} {r : Int32} {h' : kH} (hf : f_M_come h x1 = some (r, h')) : JM E m_M_come [.ref 786, .int x1] (mk h) (some r) (mk h') := by
  unfold f_M_come at hf
  refine JM.of pn_M (Nat.le_of_ble_eq_true rfl) ?_
  show kJ E m_M_come (some r) (mk h') 0 0 0 [(0, .ref 786), (1, .int x1)] [] (mk h)
  refine kJ_aload_n 1 0 d_M_come_0 rfl rfl rfl rfl ?_
  refine kJ_iload_n 2 1 d_M_come_1 rfl rfl rfl ?_
  refine kJ_iconst 3 1 d_M_come_2 ki_1 rfl ?_
  obtain ⟨v2, h1, ev2, hf⟩ := kBd_some hf
  refine kM_callv 6 m_M_turnTo [.int x1, .int 1] [] d_M_come_3 cl_M_75 ⟨w_897, w_67⟩ km_786 ⟨rfl, by decide⟩ ⟨_, _, rfl⟩ rfl rfl (Nat.le_of_ble_eq_true rfl) ⟨Nat.le_of_ble_eq_true rfl, Nat.le_of_ble_eq_true rfl⟩ ⟨rfl, rfl⟩ ⟨Nat.zero_le _, Nat.zero_le _⟩ (j_M_turnTo hro ev2) rfl ?_
  cases hf
  exact kJ_iret d_M_come_6 rfl rfl (Nat.zero_le _) (Nat.zero_le _)
def f_M_go (h : kH) (x1 : Int32) : Option (Int32 × kH) := kBd (f_M_turnTo h x1 0) fun v2 h1 => some (v2, h1)
theorem j_M_go {E : kE} {L : Nat} {xs : Nat → Int32} (hro : kRo E L xs) {h : kH} {x1 : Int32} {r : Int32} {h' : kH} (hf : f_M_go h x1 = some (r, h')) : JM E m_M_go [.ref 786, .int x1] (mk h) (some r) (mk h') := by
  unfold f_M_go at hf
  refine JM.of pn_M (Nat.le_of_ble_eq_true rfl) ?_
  show kJ E m_M_go (some r) (mk h') 0 0 0 [(0, .ref 786), (1, .int x1)] [] (mk h)
  refine kJ_aload_n 1 0 d_M_go_0 rfl rfl rfl rfl ?_
  refine kJ_iload_n 2 1 d_M_go_1 rfl rfl rfl ?_
  refine kJ_iconst 3 0 d_M_go_2 ki_0 rfl ?_
  obtain ⟨v2, h1, ev2, hf⟩ := kBd_some hf
  refine kM_callv 6 m_M_turnTo [.int x1, .int 0] [] d_M_go_3 cl_M_75 ⟨w_897, w_67⟩ km_786 ⟨rfl, by decide⟩ ⟨_, _, rfl⟩ rfl rfl (Nat.le_of_ble_eq_true rfl) ⟨Nat.le_of_ble_eq_true rfl, Nat.le_of_ble_eq_true rfl⟩ ⟨rfl, rfl⟩ ⟨Nat.zero_le _, Nat.zero_le _⟩ (j_M_turnTo hro ev2) rfl ?_
  cases hf
  exact kJ_iret d_M_go_6 rfl rfl (Nat.zero_le _) (Nat.zero_le _)
def f_M_later (h : kH) (x1 : Int32) (x2 : Int32) (x3 : Int32) : Option (Int32 × kH) := kBi (f_M_isMember h x2) fun v1 => if v1 = true then (kG 6 760 (kG 6 760 (if (f_M_in x1 ((h 787 (kx 6)) + 1) ((h 787 (kx 6)) + 600)) = true then (if (f_M_in x3 0 1) = true then (kG 10 760 (if (h 787 (kx 10)) = 20 then (some ((-4), h)) else (kBi (f_M_record h) fun h2 => kG 10 760 (kLet (690 + (3 * (h2 787 (kx 10)))) fun v3 => kG v3 760 (kLet (hset h2 787 (kx v3) x1) fun h4 => kG (v3 + 1) 760 (kLet (hset h4 787 (kx (v3 + 1)) x2) fun h5 => kG (v3 + 2) 760 (kLet (hset h5 787 (kx (v3 + 2)) x3) fun h6 => kG 10 760 (kG 10 760 (kLet (hset h6 787 (kx 10) ((h6 787 (kx 10)) + 1)) fun h7 => kG 10 760 (some ((h7 787 (kx 10)), h7))))))))))) else (some ((-2), h))) else (some ((-2), h))))) else (some ((-1), h))
theorem j_M_later {E : kE} {L : Nat} {xs : Nat → Int32} (hro : kRo E L xs) {h : kH} {x1 : Int32} {x2 : Int32} {x3 : Int32} {r : Int32} {h' : kH} (hf : f_M_later h x1 x2 x3 = some (r, h')) : JM E m_M_later [.ref 786, .int x1, .int x2, .int x3] (mk h) (some r) (mk h') := by
  unfold f_M_later at hf
  refine JM.of pn_M (Nat.le_of_ble_eq_true rfl) ?_
  show kJ E m_M_later (some r) (mk h') 0 0 0 [(0, .ref 786), (1, .int x1), (2, .int x2), (3, .int x3)] [] (mk h)
  refine kJ_aload_n 1 0 d_M_later_0 rfl rfl rfl rfl ?_
  refine kJ_iload_n 2 2 d_M_later_1 rfl rfl rfl ?_
  obtain ⟨v1, ev1, hf⟩ := kBi_some hf
  refine kM_callv 5 m_M_isMember [.int x2] [] d_M_later_2 cl_M_56 ⟨w_889, w_66⟩ km_786 ⟨rfl, by decide⟩ ⟨_, _, rfl⟩ rfl rfl (Nat.le_of_ble_eq_true rfl) ⟨Nat.le_of_ble_eq_true rfl, Nat.le_of_ble_eq_true rfl⟩ ⟨rfl, rfl⟩ ⟨Nat.zero_le _, Nat.zero_le _⟩ (j_M_isMember hro ev1) rfl ?_
  refine kJ_if_ne 8 10 d_M_later_5 rfl rfl (fun hc => ?_) (fun hc => ?_)
  · have hf := kIf_t hf (kB2_1 hc)
    refine kJ_iload_n 11 1 d_M_later_10 rfl rfl rfl ?_
    refine kJ_aload_n 12 0 d_M_later_11 rfl rfl rfl rfl ?_
    refine kM_getR 15 0 787 d_M_later_12 l_M_7 km_786 rfl rfl rfl rfl ?_
    refine kJ_bipush 17 6 d_M_later_15 kb_6 rfl ?_
    obtain ⟨hg, hf⟩ := kG_some hf
    refine kM_iald 18 760 d_M_later_17 km_787 rfl hg rfl ?_
    refine kJ_iconst 19 1 d_M_later_18 ki_1 rfl ?_
    refine kJ_iadd 20 d_M_later_19 rfl ?_
    refine kJ_aload_n 21 0 d_M_later_20 rfl rfl rfl rfl ?_
    refine kM_getR 24 0 787 d_M_later_21 l_M_7 km_786 rfl rfl rfl rfl ?_
    refine kJ_bipush 26 6 d_M_later_24 kb_6 rfl ?_
    obtain ⟨hg, hf⟩ := kG_some hf
    refine kM_iald 27 760 d_M_later_26 km_787 rfl hg rfl ?_
    refine kJ_sipush 30 600 d_M_later_27 ks_600 rfl ?_
    refine kJ_iadd 31 d_M_later_30 rfl ?_
    refine kM_calls 34 m_M_in [.int x1, .int ((h 787 (kx 6)) + 1), .int ((h 787 (kx 6)) + 600)] [] d_M_later_31 cl_M_49 w_869 rfl rfl (Nat.le_of_ble_eq_true rfl) ⟨Nat.le_of_ble_eq_true rfl, Nat.le_of_ble_eq_true rfl⟩ ⟨rfl, rfl⟩ ⟨Nat.zero_le _, Nat.zero_le _⟩ (j_M_in hro rfl) rfl ?_
    refine kJ_if_eq 37 46 d_M_later_34 rfl rfl (fun hc => ?_) (fun hc => ?_)
    · have hf := kIf_f hf (kB2_0 hc)
      refine kJ_bipush 48 (-2) d_M_later_46 kb_m2 rfl ?_
      cases hf
      exact kJ_iret d_M_later_48 rfl rfl (Nat.zero_le _) (Nat.zero_le _)
    · have hf := kIf_t hf (kB2_1 hc)
      refine kJ_iload_n 38 3 d_M_later_37 rfl rfl rfl ?_
      refine kJ_iconst 39 0 d_M_later_38 ki_0 rfl ?_
      refine kJ_iconst 40 1 d_M_later_39 ki_1 rfl ?_
      refine kM_calls 43 m_M_in [.int x3, .int 0, .int 1] [] d_M_later_40 cl_M_49 w_869 rfl rfl (Nat.le_of_ble_eq_true rfl) ⟨Nat.le_of_ble_eq_true rfl, Nat.le_of_ble_eq_true rfl⟩ ⟨rfl, rfl⟩ ⟨Nat.zero_le _, Nat.zero_le _⟩ (j_M_in hro rfl) rfl ?_
      refine kJ_if_ne 46 49 d_M_later_43 rfl rfl (fun hc => ?_) (fun hc => ?_)
      · have hf := kIf_t hf (kB2_1 hc)
        refine kJ_aload_n 50 0 d_M_later_49 rfl rfl rfl rfl ?_
        refine kM_getR 53 0 787 d_M_later_50 l_M_7 km_786 rfl rfl rfl rfl ?_
        refine kJ_bipush 55 10 d_M_later_53 kb_10 rfl ?_
        obtain ⟨hg, hf⟩ := kG_some hf
        refine kM_iald 56 760 d_M_later_55 km_787 rfl hg rfl ?_
        refine kJ_bipush 58 20 d_M_later_56 kb_20 rfl ?_
        refine kJ_icmp_ne 61 64 d_M_later_58 rfl rfl (fun hc => ?_) (fun hc => ?_)
        · have hf := kIf_f hf hc
          refine kJ_aload_n 65 0 d_M_later_64 rfl rfl rfl rfl ?_
          obtain ⟨h2, eh2, hf⟩ := kBi_some hf
          refine kM_callv 68 m_M_record [] [] d_M_later_65 cl_M_53 ⟨w_873, w_65⟩ km_786 ⟨rfl, by decide⟩ ⟨_, _, rfl⟩ rfl rfl (Nat.le_of_ble_eq_true rfl) ⟨Nat.le_of_ble_eq_true rfl, Nat.le_of_ble_eq_true rfl⟩ ⟨rfl, rfl⟩ ⟨Nat.zero_le _, Nat.zero_le _⟩ (j_M_record hro eh2) rfl ?_
          refine kJ_sipush 71 690 d_M_later_68 ks_690 rfl ?_
          refine kJ_iconst 72 3 d_M_later_71 ki_3 rfl ?_
          refine kJ_aload_n 73 0 d_M_later_72 rfl rfl rfl rfl ?_
          refine kM_getR 76 0 787 d_M_later_73 l_M_7 km_786 rfl rfl rfl rfl ?_
          refine kJ_bipush 78 10 d_M_later_76 kb_10 rfl ?_
          obtain ⟨hg, hf⟩ := kG_some hf
          refine kM_iald 79 760 d_M_later_78 km_787 rfl hg rfl ?_
          refine kJ_imul 80 d_M_later_79 rfl ?_
          refine kJ_iadd 81 d_M_later_80 rfl ?_
          obtain ⟨v3, ev3, hf⟩ := kLet_e hf
          rw [← ev3]
          refine kJ_istore 83 [(4, .int v3), (0, .ref 786), (1, .int x1), (2, .int x2), (3, .int x3)] d_M_later_81 (Nat.le_of_ble_eq_true rfl) rfl rfl ?_
          refine kJ_aload_n 84 1 d_M_later_83 rfl rfl rfl rfl ?_
          refine kM_getR 87 0 787 d_M_later_84 l_M_7 km_786 rfl rfl rfl rfl ?_
          refine kJ_iload 89 0 d_M_later_87 rfl rfl ?_
          refine kJ_iload_n 90 2 d_M_later_89 rfl rfl rfl ?_
          obtain ⟨hg, hf⟩ := kG_some hf
          refine kM_iast 91 760 d_M_later_90 km_787 rfl hg rfl ?_
          obtain ⟨h4, eh4, hf⟩ := kLet_e hf
          rw [← eh4]
          refine kJ_aload_n 92 1 d_M_later_91 rfl rfl rfl rfl ?_
          refine kM_getR 95 0 787 d_M_later_92 l_M_7 km_786 rfl rfl rfl rfl ?_
          refine kJ_iload 97 0 d_M_later_95 rfl rfl ?_
          refine kJ_iconst 98 1 d_M_later_97 ki_1 rfl ?_
          refine kJ_iadd 99 d_M_later_98 rfl ?_
          refine kJ_iload_n 100 3 d_M_later_99 rfl rfl rfl ?_
          obtain ⟨hg, hf⟩ := kG_some hf
          refine kM_iast 101 760 d_M_later_100 km_787 rfl hg rfl ?_
          obtain ⟨h5, eh5, hf⟩ := kLet_e hf
          rw [← eh5]
          refine kJ_aload_n 102 1 d_M_later_101 rfl rfl rfl rfl ?_
          refine kM_getR 105 0 787 d_M_later_102 l_M_7 km_786 rfl rfl rfl rfl ?_
          refine kJ_iload 107 0 d_M_later_105 rfl rfl ?_
          refine kJ_iconst 108 2 d_M_later_107 ki_2 rfl ?_
          refine kJ_iadd 109 d_M_later_108 rfl ?_
          refine kJ_iload_n 110 4 d_M_later_109 rfl rfl rfl ?_
          obtain ⟨hg, hf⟩ := kG_some hf
          refine kM_iast 111 760 d_M_later_110 km_787 rfl hg rfl ?_
          obtain ⟨h6, eh6, hf⟩ := kLet_e hf
          rw [← eh6]
          refine kJ_aload_n 112 1 d_M_later_111 rfl rfl rfl rfl ?_
          refine kM_getR 115 0 787 d_M_later_112 l_M_7 km_786 rfl rfl rfl rfl ?_
          refine kJ_bipush 117 10 d_M_later_115 kb_10 rfl ?_
          refine kJ_dup2 118 d_M_later_117 rfl rfl rfl ?_
          obtain ⟨hg, hf⟩ := kG_some hf
          refine kM_iald 119 760 d_M_later_118 km_787 rfl hg rfl ?_
          refine kJ_iconst 120 1 d_M_later_119 ki_1 rfl ?_
          refine kJ_iadd 121 d_M_later_120 rfl ?_
          obtain ⟨hg, hf⟩ := kG_some hf
          refine kM_iast 122 760 d_M_later_121 km_787 rfl hg rfl ?_
          obtain ⟨h7, eh7, hf⟩ := kLet_e hf
          rw [← eh7]
          refine kJ_aload_n 123 1 d_M_later_122 rfl rfl rfl rfl ?_
          refine kM_getR 126 0 787 d_M_later_123 l_M_7 km_786 rfl rfl rfl rfl ?_
          refine kJ_bipush 128 10 d_M_later_126 kb_10 rfl ?_
          obtain ⟨hg, hf⟩ := kG_some hf
          refine kM_iald 129 760 d_M_later_128 km_787 rfl hg rfl ?_
          cases hf
          exact kJ_iret d_M_later_129 rfl rfl (Nat.zero_le _) (Nat.zero_le _)
        · have hf := kIf_t hf hc
          refine kJ_bipush 63 (-4) d_M_later_61 kb_m4 rfl ?_
          cases hf
          exact kJ_iret d_M_later_63 rfl rfl (Nat.zero_le _) (Nat.zero_le _)
      · have hf := kIf_f hf (kB2_0 hc)
        refine kJ_bipush 48 (-2) d_M_later_46 kb_m2 rfl ?_
        cases hf
        exact kJ_iret d_M_later_48 rfl rfl (Nat.zero_le _) (Nat.zero_le _)
  · have hf := kIf_f hf (kB2_0 hc)
    refine kJ_iconst 9 (-1) d_M_later_8 ki_m1 rfl ?_
    cases hf
    exact kJ_iret d_M_later_9 rfl rfl (Nat.zero_le _) (Nat.zero_le _)
def f_M_isItem (h : kH) (x1 : Int32) : Option Bool := kG 8 760 (some (f_M_in x1 0 ((h 787 (kx 8)) - 1)))
theorem j_M_isItem {E : kE} {L : Nat} {xs : Nat → Int32} (hro : kRo E L xs) {h : kH} {x1 : Int32} {r : Bool} (hf : f_M_isItem h x1 = some r) : JM E m_M_isItem [.ref 786, .int x1] (mk h) (some (kB2 r)) (mk h) := by
  unfold f_M_isItem at hf
  refine JM.of pn_M (Nat.le_of_ble_eq_true rfl) ?_
  show kJ E m_M_isItem (some (kB2 r)) (mk h) 0 0 0 [(0, .ref 786), (1, .int x1)] [] (mk h)
  refine kJ_iload_n 1 1 d_M_isItem_0 rfl rfl rfl ?_
  refine kJ_iconst 2 0 d_M_isItem_1 ki_0 rfl ?_
  refine kJ_aload_n 3 0 d_M_isItem_2 rfl rfl rfl rfl ?_
  refine kM_getR 6 0 787 d_M_isItem_3 l_M_7 km_786 rfl rfl rfl rfl ?_
  refine kJ_bipush 8 8 d_M_isItem_6 kb_8 rfl ?_
  obtain ⟨hg, hf⟩ := kG_some hf
  refine kM_iald 9 760 d_M_isItem_8 km_787 rfl hg rfl ?_
  refine kJ_iconst 10 1 d_M_isItem_9 ki_1 rfl ?_
  refine kJ_isub 11 d_M_isItem_10 rfl ?_
  refine kM_calls 14 m_M_in [.int x1, .int 0, .int ((h 787 (kx 8)) - 1)] [] d_M_isItem_11 cl_M_49 w_869 rfl rfl (Nat.le_of_ble_eq_true rfl) ⟨Nat.le_of_ble_eq_true rfl, Nat.le_of_ble_eq_true rfl⟩ ⟨rfl, rfl⟩ ⟨Nat.zero_le _, Nat.zero_le _⟩ (j_M_in hro rfl) rfl ?_
  cases hf
  exact kJ_iret d_M_isItem_14 rfl (kB2_z _) (Nat.zero_le _) (Nat.zero_le _)
def b_M_proxy_75 (h : kH) (x3 : Int32) (s0 : Int32) : Option (Int32 × kH) := kG s0 760 (kG s0 760 (kLet (hset h 787 (kx s0) x3) fun h3 => some ((h 787 (kx s0)), h3)))
theorem c_M_proxy_75 {E : kE} {L : Nat} {xs : Nat → Int32} (hro : kRo E L xs) {h : kH} {x3 : Int32} {s0 : Int32} {r : Int32} {h' : kH} (hf : b_M_proxy_75 h x3 s0 = some (r, h')) : kJ E m_M_proxy (some r) (mk h') 0 0 75 [(0, .ref 786), (3, .int x3)] [.int s0] (mk h) := by
  unfold b_M_proxy_75 at hf
  refine kJ_istore 77 [(4, .int s0), (0, .ref 786), (3, .int x3)] d_M_proxy_75 (Nat.le_of_ble_eq_true rfl) rfl rfl ?_
  refine kJ_aload_n 78 1 d_M_proxy_77 rfl rfl rfl rfl ?_
  refine kM_getR 81 0 787 d_M_proxy_78 l_M_7 km_786 rfl rfl rfl rfl ?_
  refine kJ_iload 83 0 d_M_proxy_81 rfl rfl ?_
  obtain ⟨hg, hf⟩ := kG_some hf
  refine kM_iald 84 760 d_M_proxy_83 km_787 rfl hg rfl ?_
  refine kJ_istore 86 [(5, .int (h 787 (kx s0))), (4, .int s0), (0, .ref 786), (3, .int x3)] d_M_proxy_84 (Nat.le_of_ble_eq_true rfl) rfl rfl ?_
  refine kJ_aload_n 87 2 d_M_proxy_86 rfl rfl rfl rfl ?_
  refine kM_getR 90 0 787 d_M_proxy_87 l_M_7 km_786 rfl rfl rfl rfl ?_
  refine kJ_iload 92 1 d_M_proxy_90 rfl rfl ?_
  refine kJ_iload_n 93 3 d_M_proxy_92 rfl rfl rfl ?_
  obtain ⟨hg, hf⟩ := kG_some hf
  refine kM_iast 94 760 d_M_proxy_93 km_787 rfl hg rfl ?_
  obtain ⟨h3, eh3, hf⟩ := kLet_e hf
  rw [← eh3]
  refine kJ_iload 96 0 d_M_proxy_94 rfl rfl ?_
  cases hf
  exact kJ_iret d_M_proxy_96 rfl rfl (Nat.zero_le _) (Nat.zero_le _)
def b_M_proxy_36 (h : kH) (x1 : Int32) (x2 : Int32) (x3 : Int32) : Option (Int32 × kH) := if x3 = x1 then (some ((-1), h)) else (kBi (f_M_record h) fun h2 => if 0 ≤ x2 then (b_M_proxy_75 h2 x3 (250 + (3 * ((12 * x2) + x1)))) else (b_M_proxy_75 h2 x3 ((20 + (6 * x1)) + 3)))
theorem c_M_proxy_36 {E : kE} {L : Nat} {xs : Nat → Int32} (hro : kRo E L xs) {h : kH} {x1 : Int32} {x2 : Int32} {x3 : Int32} {r : Int32} {h' : kH} (hf : b_M_proxy_36 h x1 x2 x3 = some (r, h')) : kJ E m_M_proxy (some r) (mk h') 0 0 36 [(0, .ref 786), (1, .int x1), (2, .int x2), (3, .int x3)] [] (mk h) := by
  unfold b_M_proxy_36 at hf
  refine kJ_iload_n 37 3 d_M_proxy_36 rfl rfl rfl ?_
  refine kJ_iload_n 38 1 d_M_proxy_37 rfl rfl rfl ?_
  refine kJ_icmp_ne 41 43 d_M_proxy_38 rfl rfl (fun hc => ?_) (fun hc => ?_)
  · have hf := kIf_f hf hc
    refine kJ_aload_n 44 0 d_M_proxy_43 rfl rfl rfl rfl ?_
    obtain ⟨h2, eh2, hf⟩ := kBi_some hf
    refine kM_callv 47 m_M_record [] [] d_M_proxy_44 cl_M_53 ⟨w_873, w_65⟩ km_786 ⟨rfl, by decide⟩ ⟨_, _, rfl⟩ rfl rfl (Nat.le_of_ble_eq_true rfl) ⟨Nat.le_of_ble_eq_true rfl, Nat.le_of_ble_eq_true rfl⟩ ⟨rfl, rfl⟩ ⟨Nat.zero_le _, Nat.zero_le _⟩ (j_M_record hro eh2) rfl ?_
    refine kJ_iload_n 48 2 d_M_proxy_47 rfl rfl rfl ?_
    refine kJ_if_ge 51 63 d_M_proxy_48 rfl rfl (fun hc => ?_) (fun hc => ?_)
    · have hf := kIf_t hf hc
      refine kJ_sipush 66 250 d_M_proxy_63 ks_250 rfl ?_
      refine kJ_iconst 67 3 d_M_proxy_66 ki_3 rfl ?_
      refine kJ_bipush 69 12 d_M_proxy_67 kb_12 rfl ?_
      refine kJ_iload_n 70 2 d_M_proxy_69 rfl rfl rfl ?_
      refine kJ_imul 71 d_M_proxy_70 rfl ?_
      refine kJ_iload_n 72 1 d_M_proxy_71 rfl rfl rfl ?_
      refine kJ_iadd 73 d_M_proxy_72 rfl ?_
      refine kJ_imul 74 d_M_proxy_73 rfl ?_
      refine kJ_iadd 75 d_M_proxy_74 rfl ?_
      refine kJ_sub [0, 3] rfl ?_
      exact c_M_proxy_75 hro hf
    · have hf := kIf_f hf hc
      refine kJ_bipush 53 20 d_M_proxy_51 kb_20 rfl ?_
      refine kJ_bipush 55 6 d_M_proxy_53 kb_6 rfl ?_
      refine kJ_iload_n 56 1 d_M_proxy_55 rfl rfl rfl ?_
      refine kJ_imul 57 d_M_proxy_56 rfl ?_
      refine kJ_iadd 58 d_M_proxy_57 rfl ?_
      refine kJ_iconst 59 3 d_M_proxy_58 ki_3 rfl ?_
      refine kJ_iadd 60 d_M_proxy_59 rfl ?_
      refine kJ_goto 75 d_M_proxy_60 rfl ?_
      refine kJ_sub [0, 3] rfl ?_
      exact c_M_proxy_75 hro hf
  · have hf := kIf_t hf hc
    refine kJ_iconst 42 (-1) d_M_proxy_41 ki_m1 rfl ?_
    cases hf
    exact kJ_iret d_M_proxy_42 rfl rfl (Nat.zero_le _) (Nat.zero_le _)
def b_M_proxy_22 (h : kH) (x1 : Int32) (x2 : Int32) (x3 : Int32) : Option (Int32 × kH) := if x3 = (-6) then (b_M_proxy_36 h x1 x2 x3) else (kBi (f_M_isMember h x3) fun v4 => if v4 = true then (b_M_proxy_36 h x1 x2 x3) else (some ((-1), h)))
theorem c_M_proxy_22 {E : kE} {L : Nat} {xs : Nat → Int32} (hro : kRo E L xs) {h : kH} {x1 : Int32} {x2 : Int32} {x3 : Int32} {r : Int32} {h' : kH} (hf : b_M_proxy_22 h x1 x2 x3 = some (r, h')) : kJ E m_M_proxy (some r) (mk h') 0 0 22 [(0, .ref 786), (1, .int x1), (2, .int x2), (3, .int x3)] [] (mk h) := by
  unfold b_M_proxy_22 at hf
  refine kJ_iload_n 23 3 d_M_proxy_22 rfl rfl rfl ?_
  refine kJ_bipush 25 (-6) d_M_proxy_23 kb_m6 rfl ?_
  refine kJ_icmp_eq 28 36 d_M_proxy_25 rfl rfl (fun hc => ?_) (fun hc => ?_)
  · have hf := kIf_t hf hc
    refine kJ_sub [0, 1, 2, 3] rfl ?_
    exact c_M_proxy_36 hro hf
  · have hf := kIf_f hf hc
    refine kJ_aload_n 29 0 d_M_proxy_28 rfl rfl rfl rfl ?_
    refine kJ_iload_n 30 3 d_M_proxy_29 rfl rfl rfl ?_
    obtain ⟨v4, ev4, hf⟩ := kBi_some hf
    refine kM_callv 33 m_M_isMember [.int x3] [] d_M_proxy_30 cl_M_56 ⟨w_889, w_66⟩ km_786 ⟨rfl, by decide⟩ ⟨_, _, rfl⟩ rfl rfl (Nat.le_of_ble_eq_true rfl) ⟨Nat.le_of_ble_eq_true rfl, Nat.le_of_ble_eq_true rfl⟩ ⟨rfl, rfl⟩ ⟨Nat.zero_le _, Nat.zero_le _⟩ (j_M_isMember hro ev4) rfl ?_
    refine kJ_if_eq 36 41 d_M_proxy_33 rfl rfl (fun hc => ?_) (fun hc => ?_)
    · have hf := kIf_f hf (kB2_0 hc)
      refine kJ_iconst 42 (-1) d_M_proxy_41 ki_m1 rfl ?_
      cases hf
      exact kJ_iret d_M_proxy_42 rfl rfl (Nat.zero_le _) (Nat.zero_le _)
    · have hf := kIf_t hf (kB2_1 hc)
      refine kJ_sub [0, 1, 2, 3] rfl ?_
      exact c_M_proxy_36 hro hf
def f_M_proxy (h : kH) (x1 : Int32) (x2 : Int32) (x3 : Int32) : Option (Int32 × kH) := kBi (f_M_isMember h x1) fun v1 => if v1 = true then (if x2 = (-6) then (b_M_proxy_22 h x1 x2 x3) else (kBi (f_M_isItem h x2) fun v5 => if v5 = true then (b_M_proxy_22 h x1 x2 x3) else (some ((-1), h)))) else (some ((-1), h))
theorem j_M_proxy {E : kE} {L : Nat} {xs : Nat → Int32} (hro : kRo E L xs) {h : kH} {x1 : Int32} {x2 : Int32} {x3 : Int32} {r : Int32} {h' : kH} (hf : f_M_proxy h x1 x2 x3 = some (r, h')) : JM E m_M_proxy [.ref 786, .int x1, .int x2, .int x3] (mk h) (some r) (mk h') := by
  unfold f_M_proxy at hf
  refine JM.of pn_M (Nat.le_of_ble_eq_true rfl) ?_
  show kJ E m_M_proxy (some r) (mk h') 0 0 0 [(0, .ref 786), (1, .int x1), (2, .int x2), (3, .int x3)] [] (mk h)
  refine kJ_aload_n 1 0 d_M_proxy_0 rfl rfl rfl rfl ?_
  refine kJ_iload_n 2 1 d_M_proxy_1 rfl rfl rfl ?_
  obtain ⟨v1, ev1, hf⟩ := kBi_some hf
  refine kM_callv 5 m_M_isMember [.int x1] [] d_M_proxy_2 cl_M_56 ⟨w_889, w_66⟩ km_786 ⟨rfl, by decide⟩ ⟨_, _, rfl⟩ rfl rfl (Nat.le_of_ble_eq_true rfl) ⟨Nat.le_of_ble_eq_true rfl, Nat.le_of_ble_eq_true rfl⟩ ⟨rfl, rfl⟩ ⟨Nat.zero_le _, Nat.zero_le _⟩ (j_M_isMember hro ev1) rfl ?_
  refine kJ_if_eq 8 41 d_M_proxy_5 rfl rfl (fun hc => ?_) (fun hc => ?_)
  · have hf := kIf_f hf (kB2_0 hc)
    refine kJ_iconst 42 (-1) d_M_proxy_41 ki_m1 rfl ?_
    cases hf
    exact kJ_iret d_M_proxy_42 rfl rfl (Nat.zero_le _) (Nat.zero_le _)
  · have hf := kIf_t hf (kB2_1 hc)
    refine kJ_iload_n 9 2 d_M_proxy_8 rfl rfl rfl ?_
    refine kJ_bipush 11 (-6) d_M_proxy_9 kb_m6 rfl ?_
    refine kJ_icmp_eq 14 22 d_M_proxy_11 rfl rfl (fun hc => ?_) (fun hc => ?_)
    · have hf := kIf_t hf hc
      refine kJ_sub [0, 1, 2, 3] rfl ?_
      exact c_M_proxy_22 hro hf
    · have hf := kIf_f hf hc
      refine kJ_aload_n 15 0 d_M_proxy_14 rfl rfl rfl rfl ?_
      refine kJ_iload_n 16 2 d_M_proxy_15 rfl rfl rfl ?_
      obtain ⟨v5, ev5, hf⟩ := kBi_some hf
      refine kM_callv 19 m_M_isItem [.int x2] [] d_M_proxy_16 cl_M_78 ⟨w_928, w_71⟩ km_786 ⟨rfl, by decide⟩ ⟨_, _, rfl⟩ rfl rfl (Nat.le_of_ble_eq_true rfl) ⟨Nat.le_of_ble_eq_true rfl, Nat.le_of_ble_eq_true rfl⟩ ⟨rfl, rfl⟩ ⟨Nat.zero_le _, Nat.zero_le _⟩ (j_M_isItem hro ev5) rfl ?_
      refine kJ_if_eq 22 41 d_M_proxy_19 rfl rfl (fun hc => ?_) (fun hc => ?_)
      · have hf := kIf_f hf (kB2_0 hc)
        refine kJ_iconst 42 (-1) d_M_proxy_41 ki_m1 rfl ?_
        cases hf
        exact kJ_iret d_M_proxy_42 rfl rfl (Nat.zero_le _) (Nat.zero_le _)
      · have hf := kIf_t hf (kB2_1 hc)
        refine kJ_sub [0, 1, 2, 3] rfl ?_
        exact c_M_proxy_22 hro hf
def f_M_stateOf (h : kH) (x1 : Int32) : Option Int32 := kG ((100 + (12 * x1)) + 2) 760 (some (h 787 (kx ((100 + (12 * x1)) + 2))))
theorem j_M_stateOf {E : kE} {L : Nat} {xs : Nat → Int32} (hro : kRo E L xs) {h : kH} {x1 : Int32} {r : Int32} (hf : f_M_stateOf h x1 = some r) : JM E m_M_stateOf [.ref 786, .int x1] (mk h) (some r) (mk h) := by
  unfold f_M_stateOf at hf
  refine JM.of pn_M (Nat.le_of_ble_eq_true rfl) ?_
  show kJ E m_M_stateOf (some r) (mk h) 0 0 0 [(0, .ref 786), (1, .int x1)] [] (mk h)
  refine kJ_aload_n 1 0 d_M_stateOf_0 rfl rfl rfl rfl ?_
  refine kM_getR 4 0 787 d_M_stateOf_1 l_M_7 km_786 rfl rfl rfl rfl ?_
  refine kJ_bipush 6 100 d_M_stateOf_4 kb_100 rfl ?_
  refine kJ_bipush 8 12 d_M_stateOf_6 kb_12 rfl ?_
  refine kJ_iload_n 9 1 d_M_stateOf_8 rfl rfl rfl ?_
  refine kJ_imul 10 d_M_stateOf_9 rfl ?_
  refine kJ_iadd 11 d_M_stateOf_10 rfl ?_
  refine kJ_iconst 12 2 d_M_stateOf_11 ki_2 rfl ?_
  refine kJ_iadd 13 d_M_stateOf_12 rfl ?_
  obtain ⟨hg, hf⟩ := kG_some hf
  refine kM_iald 14 760 d_M_stateOf_13 km_787 rfl hg rfl ?_
  cases hf
  exact kJ_iret d_M_stateOf_14 rfl rfl (Nat.zero_le _) (Nat.zero_le _)
def f_M_isAhead (h : kH) (x1 : Int32) : Option Bool := kBi (f_M_stateOf h x1) fun v1 => if 2 ≤ v1 then (some false) else (some true)
theorem j_M_isAhead {E : kE} {L : Nat} {xs : Nat → Int32} (hro : kRo E L xs) {h : kH} {x1 : Int32} {r : Bool} (hf : f_M_isAhead h x1 = some r) : JM E m_M_isAhead [.ref 786, .int x1] (mk h) (some (kB2 r)) (mk h) := by
  unfold f_M_isAhead at hf
  refine JM.of pn_M (Nat.le_of_ble_eq_true rfl) ?_
  show kJ E m_M_isAhead (some (kB2 r)) (mk h) 0 0 0 [(0, .ref 786), (1, .int x1)] [] (mk h)
  refine kJ_aload_n 1 0 d_M_isAhead_0 rfl rfl rfl rfl ?_
  refine kJ_iload_n 2 1 d_M_isAhead_1 rfl rfl rfl ?_
  obtain ⟨v1, ev1, hf⟩ := kBi_some hf
  refine kM_callv 5 m_M_stateOf [.int x1] [] d_M_isAhead_2 cl_M_81 ⟨w_940, w_73⟩ km_786 ⟨rfl, by decide⟩ ⟨_, _, rfl⟩ rfl rfl (Nat.le_of_ble_eq_true rfl) ⟨Nat.le_of_ble_eq_true rfl, Nat.le_of_ble_eq_true rfl⟩ ⟨rfl, rfl⟩ ⟨Nat.zero_le _, Nat.zero_le _⟩ (j_M_stateOf hro ev1) rfl ?_
  refine kJ_iconst 6 2 d_M_isAhead_5 ki_2 rfl ?_
  refine kJ_icmp_ge 9 13 d_M_isAhead_6 rfl rfl (fun hc => ?_) (fun hc => ?_)
  · have hf := kIf_t hf hc
    refine kJ_iconst 14 0 d_M_isAhead_13 ki_0 rfl ?_
    cases hf
    exact kJ_iret d_M_isAhead_14 rfl (kB2_z _) (Nat.zero_le _) (Nat.zero_le _)
  · have hf := kIf_f hf hc
    refine kJ_iconst 10 1 d_M_isAhead_9 ki_1 rfl ?_
    refine kJ_goto 14 d_M_isAhead_10 rfl ?_
    cases hf
    exact kJ_iret d_M_isAhead_14 rfl (kB2_z _) (Nat.zero_le _) (Nat.zero_le _)
def b_M_tell_36 (h : kH) (x1 : Int32) (x2 : Int32) (x3 : Int32) : Option (Int32 × kH) := kBi (f_M_isAhead h x2) fun v3 => if v3 = true then (kBi (f_M_record h) fun h4 => kLet ((250 + (3 * ((12 * x2) + x1))) + 2) fun v5 => kG v5 760 (kG v5 760 (kLet (hset h4 787 (kx v5) x3) fun h6 => some ((h4 787 (kx v5)), h6)))) else (some ((-5), h))
theorem c_M_tell_36 {E : kE} {L : Nat} {xs : Nat → Int32} (hro : kRo E L xs) {h : kH} {x1 : Int32} {x2 : Int32} {x3 : Int32} {r : Int32} {h' : kH} (hf : b_M_tell_36 h x1 x2 x3 = some (r, h')) : kJ E m_M_tell (some r) (mk h') 0 0 36 [(0, .ref 786), (1, .int x1), (2, .int x2), (3, .int x3)] [] (mk h) := by
  unfold b_M_tell_36 at hf
  refine kJ_aload_n 37 0 d_M_tell_36 rfl rfl rfl rfl ?_
  refine kJ_iload_n 38 2 d_M_tell_37 rfl rfl rfl ?_
  obtain ⟨v3, ev3, hf⟩ := kBi_some hf
  refine kM_callv 41 m_M_isAhead [.int x2] [] d_M_tell_38 cl_M_84 ⟨w_936, w_72⟩ km_786 ⟨rfl, by decide⟩ ⟨_, _, rfl⟩ rfl rfl (Nat.le_of_ble_eq_true rfl) ⟨Nat.le_of_ble_eq_true rfl, Nat.le_of_ble_eq_true rfl⟩ ⟨rfl, rfl⟩ ⟨Nat.zero_le _, Nat.zero_le _⟩ (j_M_isAhead hro ev3) rfl ?_
  refine kJ_if_ne 44 47 d_M_tell_41 rfl rfl (fun hc => ?_) (fun hc => ?_)
  · have hf := kIf_t hf (kB2_1 hc)
    refine kJ_aload_n 48 0 d_M_tell_47 rfl rfl rfl rfl ?_
    obtain ⟨h4, eh4, hf⟩ := kBi_some hf
    refine kM_callv 51 m_M_record [] [] d_M_tell_48 cl_M_53 ⟨w_873, w_65⟩ km_786 ⟨rfl, by decide⟩ ⟨_, _, rfl⟩ rfl rfl (Nat.le_of_ble_eq_true rfl) ⟨Nat.le_of_ble_eq_true rfl, Nat.le_of_ble_eq_true rfl⟩ ⟨rfl, rfl⟩ ⟨Nat.zero_le _, Nat.zero_le _⟩ (j_M_record hro eh4) rfl ?_
    refine kJ_sipush 54 250 d_M_tell_51 ks_250 rfl ?_
    refine kJ_iconst 55 3 d_M_tell_54 ki_3 rfl ?_
    refine kJ_bipush 57 12 d_M_tell_55 kb_12 rfl ?_
    refine kJ_iload_n 58 2 d_M_tell_57 rfl rfl rfl ?_
    refine kJ_imul 59 d_M_tell_58 rfl ?_
    refine kJ_iload_n 60 1 d_M_tell_59 rfl rfl rfl ?_
    refine kJ_iadd 61 d_M_tell_60 rfl ?_
    refine kJ_imul 62 d_M_tell_61 rfl ?_
    refine kJ_iadd 63 d_M_tell_62 rfl ?_
    refine kJ_iconst 64 2 d_M_tell_63 ki_2 rfl ?_
    refine kJ_iadd 65 d_M_tell_64 rfl ?_
    obtain ⟨v5, ev5, hf⟩ := kLet_e hf
    rw [← ev5]
    refine kJ_istore 67 [(4, .int v5), (0, .ref 786), (1, .int x1), (2, .int x2), (3, .int x3)] d_M_tell_65 (Nat.le_of_ble_eq_true rfl) rfl rfl ?_
    refine kJ_aload_n 68 1 d_M_tell_67 rfl rfl rfl rfl ?_
    refine kM_getR 71 0 787 d_M_tell_68 l_M_7 km_786 rfl rfl rfl rfl ?_
    refine kJ_iload 73 0 d_M_tell_71 rfl rfl ?_
    obtain ⟨hg, hf⟩ := kG_some hf
    refine kM_iald 74 760 d_M_tell_73 km_787 rfl hg rfl ?_
    refine kJ_istore 76 [(5, .int (h4 787 (kx v5))), (4, .int v5), (0, .ref 786), (1, .int x1), (2, .int x2), (3, .int x3)] d_M_tell_74 (Nat.le_of_ble_eq_true rfl) rfl rfl ?_
    refine kJ_aload_n 77 2 d_M_tell_76 rfl rfl rfl rfl ?_
    refine kM_getR 80 0 787 d_M_tell_77 l_M_7 km_786 rfl rfl rfl rfl ?_
    refine kJ_iload 82 1 d_M_tell_80 rfl rfl ?_
    refine kJ_iload_n 83 5 d_M_tell_82 rfl rfl rfl ?_
    obtain ⟨hg, hf⟩ := kG_some hf
    refine kM_iast 84 760 d_M_tell_83 km_787 rfl hg rfl ?_
    obtain ⟨h6, eh6, hf⟩ := kLet_e hf
    rw [← eh6]
    refine kJ_iload 86 0 d_M_tell_84 rfl rfl ?_
    cases hf
    exact kJ_iret d_M_tell_86 rfl rfl (Nat.zero_le _) (Nat.zero_le _)
  · have hf := kIf_f hf (kB2_0 hc)
    refine kJ_bipush 46 (-5) d_M_tell_44 kb_m5 rfl ?_
    cases hf
    exact kJ_iret d_M_tell_46 rfl rfl (Nat.zero_le _) (Nat.zero_le _)
def f_M_tell (h : kH) (x1 : Int32) (x2 : Int32) (x3 : Int32) : Option (Int32 × kH) := kBi (f_M_isMember h x1) fun v1 => if v1 = true then (kBi (f_M_isItem h x2) fun v2 => if v2 = true then (if x3 = (-6) then (b_M_tell_36 h x1 x2 x3) else (if (f_M_in x3 0 2) = true then (b_M_tell_36 h x1 x2 x3) else (some ((-2), h)))) else (some ((-1), h))) else (some ((-1), h))
theorem j_M_tell {E : kE} {L : Nat} {xs : Nat → Int32} (hro : kRo E L xs) {h : kH} {x1 : Int32} {x2 : Int32} {x3 : Int32} {r : Int32} {h' : kH} (hf : f_M_tell h x1 x2 x3 = some (r, h')) : JM E m_M_tell [.ref 786, .int x1, .int x2, .int x3] (mk h) (some r) (mk h') := by
  unfold f_M_tell at hf
  refine JM.of pn_M (Nat.le_of_ble_eq_true rfl) ?_
  show kJ E m_M_tell (some r) (mk h') 0 0 0 [(0, .ref 786), (1, .int x1), (2, .int x2), (3, .int x3)] [] (mk h)
  refine kJ_aload_n 1 0 d_M_tell_0 rfl rfl rfl rfl ?_
  refine kJ_iload_n 2 1 d_M_tell_1 rfl rfl rfl ?_
  obtain ⟨v1, ev1, hf⟩ := kBi_some hf
  refine kM_callv 5 m_M_isMember [.int x1] [] d_M_tell_2 cl_M_56 ⟨w_889, w_66⟩ km_786 ⟨rfl, by decide⟩ ⟨_, _, rfl⟩ rfl rfl (Nat.le_of_ble_eq_true rfl) ⟨Nat.le_of_ble_eq_true rfl, Nat.le_of_ble_eq_true rfl⟩ ⟨rfl, rfl⟩ ⟨Nat.zero_le _, Nat.zero_le _⟩ (j_M_isMember hro ev1) rfl ?_
  refine kJ_if_eq 8 16 d_M_tell_5 rfl rfl (fun hc => ?_) (fun hc => ?_)
  · have hf := kIf_f hf (kB2_0 hc)
    refine kJ_iconst 17 (-1) d_M_tell_16 ki_m1 rfl ?_
    cases hf
    exact kJ_iret d_M_tell_17 rfl rfl (Nat.zero_le _) (Nat.zero_le _)
  · have hf := kIf_t hf (kB2_1 hc)
    refine kJ_aload_n 9 0 d_M_tell_8 rfl rfl rfl rfl ?_
    refine kJ_iload_n 10 2 d_M_tell_9 rfl rfl rfl ?_
    obtain ⟨v2, ev2, hf⟩ := kBi_some hf
    refine kM_callv 13 m_M_isItem [.int x2] [] d_M_tell_10 cl_M_78 ⟨w_928, w_71⟩ km_786 ⟨rfl, by decide⟩ ⟨_, _, rfl⟩ rfl rfl (Nat.le_of_ble_eq_true rfl) ⟨Nat.le_of_ble_eq_true rfl, Nat.le_of_ble_eq_true rfl⟩ ⟨rfl, rfl⟩ ⟨Nat.zero_le _, Nat.zero_le _⟩ (j_M_isItem hro ev2) rfl ?_
    refine kJ_if_ne 16 18 d_M_tell_13 rfl rfl (fun hc => ?_) (fun hc => ?_)
    · have hf := kIf_t hf (kB2_1 hc)
      refine kJ_iload_n 19 3 d_M_tell_18 rfl rfl rfl ?_
      refine kJ_bipush 21 (-6) d_M_tell_19 kb_m6 rfl ?_
      refine kJ_icmp_eq 24 36 d_M_tell_21 rfl rfl (fun hc => ?_) (fun hc => ?_)
      · have hf := kIf_t hf hc
        refine kJ_sub [0, 1, 2, 3] rfl ?_
        exact c_M_tell_36 hro hf
      · have hf := kIf_f hf hc
        refine kJ_iload_n 25 3 d_M_tell_24 rfl rfl rfl ?_
        refine kJ_iconst 26 0 d_M_tell_25 ki_0 rfl ?_
        refine kJ_iconst 27 2 d_M_tell_26 ki_2 rfl ?_
        refine kM_calls 30 m_M_in [.int x3, .int 0, .int 2] [] d_M_tell_27 cl_M_49 w_869 rfl rfl (Nat.le_of_ble_eq_true rfl) ⟨Nat.le_of_ble_eq_true rfl, Nat.le_of_ble_eq_true rfl⟩ ⟨rfl, rfl⟩ ⟨Nat.zero_le _, Nat.zero_le _⟩ (j_M_in hro rfl) rfl ?_
        refine kJ_if_ne 33 36 d_M_tell_30 rfl rfl (fun hc => ?_) (fun hc => ?_)
        · have hf := kIf_t hf (kB2_1 hc)
          refine kJ_sub [0, 1, 2, 3] rfl ?_
          exact c_M_tell_36 hro hf
        · have hf := kIf_f hf (kB2_0 hc)
          refine kJ_bipush 35 (-2) d_M_tell_33 kb_m2 rfl ?_
          cases hf
          exact kJ_iret d_M_tell_35 rfl rfl (Nat.zero_le _) (Nat.zero_le _)
    · have hf := kIf_f hf (kB2_0 hc)
      refine kJ_iconst 17 (-1) d_M_tell_16 ki_m1 rfl ?_
      cases hf
      exact kJ_iret d_M_tell_17 rfl rfl (Nat.zero_le _) (Nat.zero_le _)
def f_M_has (x0 : Int32) (x1 : Int32) : Bool := if ((x0 >>> (x1 &&& 31)) &&& 1) = 1 then true else false
theorem j_M_has {E : kE} {L : Nat} {xs : Nat → Int32} (hro : kRo E L xs) {h0 : kH} {x0 : Int32} {x1 : Int32} {r : Bool} (hf : f_M_has x0 x1 = r) : JM E m_M_has [.int x0, .int x1] (mk h0) (some (kB2 r)) (mk h0) := by
  unfold f_M_has at hf
  refine JM.of pn_M (Nat.le_of_ble_eq_true rfl) ?_
  show kJ E m_M_has (some (kB2 r)) (mk h0) 0 0 0 [(0, .int x0), (1, .int x1)] [] (mk h0)
  refine kJ_iload_n 1 0 d_M_has_0 rfl rfl rfl ?_
  refine kJ_iload_n 2 1 d_M_has_1 rfl rfl rfl ?_
  refine kJ_ishr 3 d_M_has_2 rfl ?_
  refine kJ_iconst 4 1 d_M_has_3 ki_1 rfl ?_
  refine kJ_iand 5 d_M_has_4 rfl ?_
  refine kJ_iconst 6 1 d_M_has_5 ki_1 rfl ?_
  refine kJ_icmp_ne 9 13 d_M_has_6 rfl rfl (fun hc => ?_) (fun hc => ?_)
  · have hf := kIf_f hf hc
    refine kJ_iconst 14 0 d_M_has_13 ki_0 rfl ?_
    subst hf
    exact kJ_iret d_M_has_14 rfl (kB2_z _) (Nat.zero_le _) (Nat.zero_le _)
  · have hf := kIf_t hf hc
    refine kJ_iconst 10 1 d_M_has_9 ki_1 rfl ?_
    refine kJ_goto 14 d_M_has_10 rfl ?_
    subst hf
    exact kJ_iret d_M_has_14 rfl (kB2_z _) (Nat.zero_le _) (Nat.zero_le _)
def f_M_isRecused (h : kH) (x1 : Int32) (x2 : Int32) : Option Bool := kG ((100 + (12 * x2)) + 1) 760 (kBi (f_M_ofOne h x1 1) fun v1 => if (f_M_has (h 787 (kx ((100 + (12 * x2)) + 1))) v1) = true then (some true) else (kG ((100 + (12 * x2)) + 11) 760 (if (f_M_has (h 787 (kx ((100 + (12 * x2)) + 11))) x1) = true then (some true) else (some false))))
theorem j_M_isRecused {E : kE} {L : Nat} {xs : Nat → Int32} (hro : kRo E L xs) {h : kH} {x1 : Int32} {x2 : Int32} {r : Bool} (hf : f_M_isRecused h x1 x2 = some r) : JM E m_M_isRecused [.ref 786, .int x1, .int x2] (mk h) (some (kB2 r)) (mk h) := by
  unfold f_M_isRecused at hf
  refine JM.of pn_M (Nat.le_of_ble_eq_true rfl) ?_
  show kJ E m_M_isRecused (some (kB2 r)) (mk h) 0 0 0 [(0, .ref 786), (1, .int x1), (2, .int x2)] [] (mk h)
  refine kJ_bipush 2 100 d_M_isRecused_0 kb_100 rfl ?_
  refine kJ_bipush 4 12 d_M_isRecused_2 kb_12 rfl ?_
  refine kJ_iload_n 5 2 d_M_isRecused_4 rfl rfl rfl ?_
  refine kJ_imul 6 d_M_isRecused_5 rfl ?_
  refine kJ_iadd 7 d_M_isRecused_6 rfl ?_
  refine kJ_istore_n 8 [(3, .int (100 + (12 * x2))), (0, .ref 786), (1, .int x1), (2, .int x2)] d_M_isRecused_7 rfl (Nat.le_of_ble_eq_true rfl) rfl rfl ?_
  refine kJ_aload_n 9 1 d_M_isRecused_8 rfl rfl rfl rfl ?_
  refine kM_getR 12 0 787 d_M_isRecused_9 l_M_7 km_786 rfl rfl rfl rfl ?_
  refine kJ_iload_n 13 0 d_M_isRecused_12 rfl rfl rfl ?_
  refine kJ_iconst 14 1 d_M_isRecused_13 ki_1 rfl ?_
  refine kJ_iadd 15 d_M_isRecused_14 rfl ?_
  obtain ⟨hg, hf⟩ := kG_some hf
  refine kM_iald 16 760 d_M_isRecused_15 km_787 rfl hg rfl ?_
  refine kJ_aload_n 17 1 d_M_isRecused_16 rfl rfl rfl rfl ?_
  refine kJ_iload_n 18 2 d_M_isRecused_17 rfl rfl rfl ?_
  refine kJ_iconst 19 1 d_M_isRecused_18 ki_1 rfl ?_
  obtain ⟨v1, ev1, hf⟩ := kBi_some hf
  refine kM_callv 22 m_M_ofOne [.int x1, .int 1] [.int (h 787 (kx ((100 + (12 * x2)) + 1)))] d_M_isRecused_19 cl_M_60 ⟨w_901, w_68⟩ km_786 ⟨rfl, by decide⟩ ⟨_, _, rfl⟩ rfl rfl (Nat.le_of_ble_eq_true rfl) ⟨Nat.le_of_ble_eq_true rfl, Nat.le_of_ble_eq_true rfl⟩ ⟨rfl, rfl⟩ ⟨Nat.zero_le _, Nat.zero_le _⟩ (j_M_ofOne hro ev1) rfl ?_
  refine kM_calls 25 m_M_has [.int (h 787 (kx ((100 + (12 * x2)) + 1))), .int v1] [] d_M_isRecused_22 cl_M_87 w_951 rfl rfl (Nat.le_of_ble_eq_true rfl) ⟨Nat.le_of_ble_eq_true rfl, Nat.le_of_ble_eq_true rfl⟩ ⟨rfl, rfl⟩ ⟨Nat.zero_le _, Nat.zero_le _⟩ (j_M_has hro rfl) rfl ?_
  refine kJ_if_ne 28 44 d_M_isRecused_25 rfl rfl (fun hc => ?_) (fun hc => ?_)
  · have hf := kIf_t hf (kB2_1 hc)
    refine kJ_iconst 45 1 d_M_isRecused_44 ki_1 rfl ?_
    refine kJ_goto 49 d_M_isRecused_45 rfl ?_
    cases hf
    exact kJ_iret d_M_isRecused_49 rfl (kB2_z _) (Nat.zero_le _) (Nat.zero_le _)
  · have hf := kIf_f hf (kB2_0 hc)
    refine kJ_aload_n 29 1 d_M_isRecused_28 rfl rfl rfl rfl ?_
    refine kM_getR 32 0 787 d_M_isRecused_29 l_M_7 km_786 rfl rfl rfl rfl ?_
    refine kJ_iload_n 33 0 d_M_isRecused_32 rfl rfl rfl ?_
    refine kJ_bipush 35 11 d_M_isRecused_33 kb_11 rfl ?_
    refine kJ_iadd 36 d_M_isRecused_35 rfl ?_
    obtain ⟨hg, hf⟩ := kG_some hf
    refine kM_iald 37 760 d_M_isRecused_36 km_787 rfl hg rfl ?_
    refine kJ_iload_n 38 2 d_M_isRecused_37 rfl rfl rfl ?_
    refine kM_calls 41 m_M_has [.int (h 787 (kx ((100 + (12 * x2)) + 11))), .int x1] [] d_M_isRecused_38 cl_M_87 w_951 rfl rfl (Nat.le_of_ble_eq_true rfl) ⟨Nat.le_of_ble_eq_true rfl, Nat.le_of_ble_eq_true rfl⟩ ⟨rfl, rfl⟩ ⟨Nat.zero_le _, Nat.zero_le _⟩ (j_M_has hro rfl) rfl ?_
    refine kJ_if_eq 44 48 d_M_isRecused_41 rfl rfl (fun hc => ?_) (fun hc => ?_)
    · have hf := kIf_f hf (kB2_0 hc)
      refine kJ_iconst 49 0 d_M_isRecused_48 ki_0 rfl ?_
      cases hf
      exact kJ_iret d_M_isRecused_49 rfl (kB2_z _) (Nat.zero_le _) (Nat.zero_le _)
    · have hf := kIf_t hf (kB2_1 hc)
      refine kJ_iconst 45 1 d_M_isRecused_44 ki_1 rfl ?_
      refine kJ_goto 49 d_M_isRecused_45 rfl ?_
      cases hf
      exact kJ_iret d_M_isRecused_49 rfl (kB2_z _) (Nat.zero_le _) (Nat.zero_le _)
def f_M_recuse (h : kH) (x1 : Int32) (x2 : Int32) (x3 : Int32) : Option (Int32 × kH) := kBi (f_M_isMember h x1) fun v1 => if v1 = true then (kBi (f_M_isItem h x2) fun v2 => if v2 = true then (if (f_M_in x3 0 1) = true then (kBi (f_M_isAhead h x2) fun v3 => if v3 = true then (kBi (f_M_record h) fun h4 => kG ((100 + (12 * x2)) + 11) 760 (kG ((100 + (12 * x2)) + 11) 760 (kLet (hset h4 787 (kx ((100 + (12 * x2)) + 11)) (((h4 787 (kx ((100 + (12 * x2)) + 11))) &&& ((1 <<< (x1 &&& 31)) ^^^ (-1))) ||| (x3 <<< (x1 &&& 31)))) fun h5 => kBi (f_M_isRecused h5 x1 x2) fun v6 => if v6 = true then (some (1, h5)) else (some (0, h5))))) else (some ((-5), h))) else (some ((-2), h))) else (some ((-1), h))) else (some ((-1), h))
theorem j_M_recuse {E : kE} {L : Nat} {xs : Nat → Int32} (hro : kRo E L xs) {h : kH} {x1 : Int32} {x2 : Int32} {x3 : Int32} {r : Int32} {h' : kH} (hf : f_M_recuse h x1 x2 x3 = some (r, h')) : JM E m_M_recuse [.ref 786, .int x1, .int x2, .int x3] (mk h) (some r) (mk h') := by
  unfold f_M_recuse at hf
  refine JM.of pn_M (Nat.le_of_ble_eq_true rfl) ?_
  show kJ E m_M_recuse (some r) (mk h') 0 0 0 [(0, .ref 786), (1, .int x1), (2, .int x2), (3, .int x3)] [] (mk h)
  refine kJ_aload_n 1 0 d_M_recuse_0 rfl rfl rfl rfl ?_
  refine kJ_iload_n 2 1 d_M_recuse_1 rfl rfl rfl ?_
  obtain ⟨v1, ev1, hf⟩ := kBi_some hf
  refine kM_callv 5 m_M_isMember [.int x1] [] d_M_recuse_2 cl_M_56 ⟨w_889, w_66⟩ km_786 ⟨rfl, by decide⟩ ⟨_, _, rfl⟩ rfl rfl (Nat.le_of_ble_eq_true rfl) ⟨Nat.le_of_ble_eq_true rfl, Nat.le_of_ble_eq_true rfl⟩ ⟨rfl, rfl⟩ ⟨Nat.zero_le _, Nat.zero_le _⟩ (j_M_isMember hro ev1) rfl ?_
  refine kJ_if_eq 8 16 d_M_recuse_5 rfl rfl (fun hc => ?_) (fun hc => ?_)
  · have hf := kIf_f hf (kB2_0 hc)
    refine kJ_iconst 17 (-1) d_M_recuse_16 ki_m1 rfl ?_
    cases hf
    exact kJ_iret d_M_recuse_17 rfl rfl (Nat.zero_le _) (Nat.zero_le _)
  · have hf := kIf_t hf (kB2_1 hc)
    refine kJ_aload_n 9 0 d_M_recuse_8 rfl rfl rfl rfl ?_
    refine kJ_iload_n 10 2 d_M_recuse_9 rfl rfl rfl ?_
    obtain ⟨v2, ev2, hf⟩ := kBi_some hf
    refine kM_callv 13 m_M_isItem [.int x2] [] d_M_recuse_10 cl_M_78 ⟨w_928, w_71⟩ km_786 ⟨rfl, by decide⟩ ⟨_, _, rfl⟩ rfl rfl (Nat.le_of_ble_eq_true rfl) ⟨Nat.le_of_ble_eq_true rfl, Nat.le_of_ble_eq_true rfl⟩ ⟨rfl, rfl⟩ ⟨Nat.zero_le _, Nat.zero_le _⟩ (j_M_isItem hro ev2) rfl ?_
    refine kJ_if_ne 16 18 d_M_recuse_13 rfl rfl (fun hc => ?_) (fun hc => ?_)
    · have hf := kIf_t hf (kB2_1 hc)
      refine kJ_iload_n 19 3 d_M_recuse_18 rfl rfl rfl ?_
      refine kJ_iconst 20 0 d_M_recuse_19 ki_0 rfl ?_
      refine kJ_iconst 21 1 d_M_recuse_20 ki_1 rfl ?_
      refine kM_calls 24 m_M_in [.int x3, .int 0, .int 1] [] d_M_recuse_21 cl_M_49 w_869 rfl rfl (Nat.le_of_ble_eq_true rfl) ⟨Nat.le_of_ble_eq_true rfl, Nat.le_of_ble_eq_true rfl⟩ ⟨rfl, rfl⟩ ⟨Nat.zero_le _, Nat.zero_le _⟩ (j_M_in hro rfl) rfl ?_
      refine kJ_if_ne 27 30 d_M_recuse_24 rfl rfl (fun hc => ?_) (fun hc => ?_)
      · have hf := kIf_t hf (kB2_1 hc)
        refine kJ_aload_n 31 0 d_M_recuse_30 rfl rfl rfl rfl ?_
        refine kJ_iload_n 32 2 d_M_recuse_31 rfl rfl rfl ?_
        obtain ⟨v3, ev3, hf⟩ := kBi_some hf
        refine kM_callv 35 m_M_isAhead [.int x2] [] d_M_recuse_32 cl_M_84 ⟨w_936, w_72⟩ km_786 ⟨rfl, by decide⟩ ⟨_, _, rfl⟩ rfl rfl (Nat.le_of_ble_eq_true rfl) ⟨Nat.le_of_ble_eq_true rfl, Nat.le_of_ble_eq_true rfl⟩ ⟨rfl, rfl⟩ ⟨Nat.zero_le _, Nat.zero_le _⟩ (j_M_isAhead hro ev3) rfl ?_
        refine kJ_if_ne 38 41 d_M_recuse_35 rfl rfl (fun hc => ?_) (fun hc => ?_)
        · have hf := kIf_t hf (kB2_1 hc)
          refine kJ_aload_n 42 0 d_M_recuse_41 rfl rfl rfl rfl ?_
          obtain ⟨h4, eh4, hf⟩ := kBi_some hf
          refine kM_callv 45 m_M_record [] [] d_M_recuse_42 cl_M_53 ⟨w_873, w_65⟩ km_786 ⟨rfl, by decide⟩ ⟨_, _, rfl⟩ rfl rfl (Nat.le_of_ble_eq_true rfl) ⟨Nat.le_of_ble_eq_true rfl, Nat.le_of_ble_eq_true rfl⟩ ⟨rfl, rfl⟩ ⟨Nat.zero_le _, Nat.zero_le _⟩ (j_M_record hro eh4) rfl ?_
          refine kJ_bipush 47 100 d_M_recuse_45 kb_100 rfl ?_
          refine kJ_bipush 49 12 d_M_recuse_47 kb_12 rfl ?_
          refine kJ_iload_n 50 2 d_M_recuse_49 rfl rfl rfl ?_
          refine kJ_imul 51 d_M_recuse_50 rfl ?_
          refine kJ_iadd 52 d_M_recuse_51 rfl ?_
          refine kJ_bipush 54 11 d_M_recuse_52 kb_11 rfl ?_
          refine kJ_iadd 55 d_M_recuse_54 rfl ?_
          refine kJ_istore 57 [(4, .int ((100 + (12 * x2)) + 11)), (0, .ref 786), (1, .int x1), (2, .int x2), (3, .int x3)] d_M_recuse_55 (Nat.le_of_ble_eq_true rfl) rfl rfl ?_
          refine kJ_aload_n 58 1 d_M_recuse_57 rfl rfl rfl rfl ?_
          refine kM_getR 61 0 787 d_M_recuse_58 l_M_7 km_786 rfl rfl rfl rfl ?_
          refine kJ_iload 63 0 d_M_recuse_61 rfl rfl ?_
          refine kJ_aload_n 64 1 d_M_recuse_63 rfl rfl rfl rfl ?_
          refine kM_getR 67 0 787 d_M_recuse_64 l_M_7 km_786 rfl rfl rfl rfl ?_
          refine kJ_iload 69 0 d_M_recuse_67 rfl rfl ?_
          obtain ⟨hg, hf⟩ := kG_some hf
          refine kM_iald 70 760 d_M_recuse_69 km_787 rfl hg rfl ?_
          refine kJ_iconst 71 1 d_M_recuse_70 ki_1 rfl ?_
          refine kJ_iload_n 72 2 d_M_recuse_71 rfl rfl rfl ?_
          refine kJ_ishl 73 d_M_recuse_72 rfl ?_
          refine kJ_iconst 74 (-1) d_M_recuse_73 ki_m1 rfl ?_
          refine kJ_ixor 75 d_M_recuse_74 rfl ?_
          refine kJ_iand 76 d_M_recuse_75 rfl ?_
          refine kJ_iload_n 77 4 d_M_recuse_76 rfl rfl rfl ?_
          refine kJ_iload_n 78 2 d_M_recuse_77 rfl rfl rfl ?_
          refine kJ_ishl 79 d_M_recuse_78 rfl ?_
          refine kJ_ior 80 d_M_recuse_79 rfl ?_
          obtain ⟨hg, hf⟩ := kG_some hf
          refine kM_iast 81 760 d_M_recuse_80 km_787 rfl hg rfl ?_
          obtain ⟨h5, eh5, hf⟩ := kLet_e hf
          rw [← eh5]
          refine kJ_aload_n 82 1 d_M_recuse_81 rfl rfl rfl rfl ?_
          refine kJ_iload_n 83 2 d_M_recuse_82 rfl rfl rfl ?_
          refine kJ_iload_n 84 3 d_M_recuse_83 rfl rfl rfl ?_
          obtain ⟨v6, ev6, hf⟩ := kBi_some hf
          refine kM_callv 87 m_M_isRecused [.int x1, .int x2] [] d_M_recuse_84 cl_M_91 ⟨w_948, w_74⟩ km_786 ⟨rfl, by decide⟩ ⟨_, _, rfl⟩ rfl rfl (Nat.le_of_ble_eq_true rfl) ⟨Nat.le_of_ble_eq_true rfl, Nat.le_of_ble_eq_true rfl⟩ ⟨rfl, rfl⟩ ⟨Nat.zero_le _, Nat.zero_le _⟩ (j_M_isRecused hro ev6) rfl ?_
          refine kJ_if_eq 90 94 d_M_recuse_87 rfl rfl (fun hc => ?_) (fun hc => ?_)
          · have hf := kIf_f hf (kB2_0 hc)
            refine kJ_iconst 95 0 d_M_recuse_94 ki_0 rfl ?_
            cases hf
            exact kJ_iret d_M_recuse_95 rfl rfl (Nat.zero_le _) (Nat.zero_le _)
          · have hf := kIf_t hf (kB2_1 hc)
            refine kJ_iconst 91 1 d_M_recuse_90 ki_1 rfl ?_
            refine kJ_goto 95 d_M_recuse_91 rfl ?_
            cases hf
            exact kJ_iret d_M_recuse_95 rfl rfl (Nat.zero_le _) (Nat.zero_le _)
        · have hf := kIf_f hf (kB2_0 hc)
          refine kJ_bipush 40 (-5) d_M_recuse_38 kb_m5 rfl ?_
          cases hf
          exact kJ_iret d_M_recuse_40 rfl rfl (Nat.zero_le _) (Nat.zero_le _)
      · have hf := kIf_f hf (kB2_0 hc)
        refine kJ_bipush 29 (-2) d_M_recuse_27 kb_m2 rfl ?_
        cases hf
        exact kJ_iret d_M_recuse_29 rfl rfl (Nat.zero_le _) (Nat.zero_le _)
    · have hf := kIf_f hf (kB2_0 hc)
      refine kJ_iconst 17 (-1) d_M_recuse_16 ki_m1 rfl ?_
      cases hf
      exact kJ_iret d_M_recuse_17 rfl rfl (Nat.zero_le _) (Nat.zero_le _)
def b_M_itemIn_13 (h : kH) (x1 : Int32) : Nat → Int32 → Int32 → Option Int32
  | 0, _, _ => none
  | n + 1, x2, x3 => (fun rec13 => if x3 < 0 then (some x2) else (kBi (f_M_stateOf h x3) fun v1 => if v1 = x1 then (rec13 x3 (x3 + (-1))) else (rec13 x2 (x3 + (-1))))) (fun x2' x3' => b_M_itemIn_13 h x1 n x2' x3')
theorem c_M_itemIn_13 {E : kE} {L : Nat} {xs : Nat → Int32} (hro : kRo E L xs) {h : kH} {x1 : Int32} {r : Int32} : ∀ (n : Nat) (x2 : Int32) (x3 : Int32), b_M_itemIn_13 h x1 n x2 x3 = some r → kJ E m_M_itemIn (some r) (mk h) 0 0 13 [(0, .ref 786), (1, .int x1), (2, .int x2), (3, .int x3)] [] (mk h) := by
  intro n
  induction n with
  | zero =>
    intro x2 x3 hf
    have hf : (none : Option Int32) = some r := hf
    cases hf
  | succ n hrec13 =>
    intro x2 x3 hf
    rw [b_M_itemIn_13] at hf
    dsimp only at hf
    refine kJ_iload_n 14 3 d_M_itemIn_13 rfl rfl rfl ?_
    refine kJ_if_lt 17 38 d_M_itemIn_14 rfl rfl (fun hc => ?_) (fun hc => ?_)
    · have hf := kIf_t hf hc
      refine kJ_iload_n 39 2 d_M_itemIn_38 rfl rfl rfl ?_
      cases hf
      exact kJ_iret d_M_itemIn_39 rfl rfl (Nat.zero_le _) (Nat.zero_le _)
    · have hf := kIf_f hf hc
      refine kJ_aload_n 18 0 d_M_itemIn_17 rfl rfl rfl rfl ?_
      refine kJ_iload_n 19 3 d_M_itemIn_18 rfl rfl rfl ?_
      obtain ⟨v1, ev1, hf⟩ := kBi_some hf
      refine kM_callv 22 m_M_stateOf [.int x3] [] d_M_itemIn_19 cl_M_81 ⟨w_940, w_73⟩ km_786 ⟨rfl, by decide⟩ ⟨_, _, rfl⟩ rfl rfl (Nat.le_of_ble_eq_true rfl) ⟨Nat.le_of_ble_eq_true rfl, Nat.le_of_ble_eq_true rfl⟩ ⟨rfl, rfl⟩ ⟨Nat.zero_le _, Nat.zero_le _⟩ (j_M_stateOf hro ev1) rfl ?_
      refine kJ_iload_n 23 1 d_M_itemIn_22 rfl rfl rfl ?_
      refine kJ_icmp_ne 26 30 d_M_itemIn_23 rfl rfl (fun hc => ?_) (fun hc => ?_)
      · have hf := kIf_f hf hc
        refine kJ_iload_n 31 2 d_M_itemIn_30 rfl rfl rfl ?_
        refine kJ_istore_n 32 [(2, .int x2), (0, .ref 786), (1, .int x1), (3, .int x3)] d_M_itemIn_31 rfl (Nat.le_of_ble_eq_true rfl) rfl rfl ?_
        refine kJ_iinc 35 3 [(3, .int (x3 + (-1))), (2, .int x2), (0, .ref 786), (1, .int x1)] d_M_itemIn_32 rfl ki_m1 (Nat.le_of_ble_eq_true rfl) rfl rfl ?_
        refine kJ_goto 13 d_M_itemIn_35 rfl ?_
        refine kJ_sub [2, 3, 1, 0] rfl ?_
        exact hrec13 x2 (x3 + (-1)) hf
      · have hf := kIf_t hf hc
        refine kJ_iload_n 27 3 d_M_itemIn_26 rfl rfl rfl ?_
        refine kJ_goto 31 d_M_itemIn_27 rfl ?_
        refine kJ_istore_n 32 [(2, .int x3), (0, .ref 786), (1, .int x1), (3, .int x3)] d_M_itemIn_31 rfl (Nat.le_of_ble_eq_true rfl) rfl rfl ?_
        refine kJ_iinc 35 3 [(3, .int (x3 + (-1))), (2, .int x3), (0, .ref 786), (1, .int x1)] d_M_itemIn_32 rfl ki_m1 (Nat.le_of_ble_eq_true rfl) rfl rfl ?_
        refine kJ_goto 13 d_M_itemIn_35 rfl ?_
        refine kJ_sub [2, 3, 1, 0] rfl ?_
        exact hrec13 x3 (x3 + (-1)) hf
def f_M_itemIn (h : kH) (x1 : Int32) : Option Int32 := kG 8 760 (b_M_itemIn_13 h x1 kFuel (-6) ((h 787 (kx 8)) - 1))
theorem j_M_itemIn {E : kE} {L : Nat} {xs : Nat → Int32} (hro : kRo E L xs) {h : kH} {x1 : Int32} {r : Int32} (hf : f_M_itemIn h x1 = some r) : JM E m_M_itemIn [.ref 786, .int x1] (mk h) (some r) (mk h) := by
  unfold f_M_itemIn at hf
  refine JM.of pn_M (Nat.le_of_ble_eq_true rfl) ?_
  show kJ E m_M_itemIn (some r) (mk h) 0 0 0 [(0, .ref 786), (1, .int x1)] [] (mk h)
  refine kJ_bipush 2 (-6) d_M_itemIn_0 kb_m6 rfl ?_
  refine kJ_istore_n 3 [(2, .int (-6)), (0, .ref 786), (1, .int x1)] d_M_itemIn_2 rfl (Nat.le_of_ble_eq_true rfl) rfl rfl ?_
  refine kJ_aload_n 4 1 d_M_itemIn_3 rfl rfl rfl rfl ?_
  refine kM_getR 7 0 787 d_M_itemIn_4 l_M_7 km_786 rfl rfl rfl rfl ?_
  refine kJ_bipush 9 8 d_M_itemIn_7 kb_8 rfl ?_
  obtain ⟨hg, hf⟩ := kG_some hf
  refine kM_iald 10 760 d_M_itemIn_9 km_787 rfl hg rfl ?_
  refine kJ_iconst 11 1 d_M_itemIn_10 ki_1 rfl ?_
  refine kJ_isub 12 d_M_itemIn_11 rfl ?_
  refine kJ_istore_n 13 [(3, .int ((h 787 (kx 8)) - 1)), (2, .int (-6)), (0, .ref 786), (1, .int x1)] d_M_itemIn_12 rfl (Nat.le_of_ble_eq_true rfl) rfl rfl ?_
  refine kJ_sub [2, 3, 1, 0] rfl ?_
  exact c_M_itemIn_13 hro kFuel (-6) ((h 787 (kx 8)) - 1) hf
def f_M_pair (h : kH) (x1 : Int32) (x2 : Int32) (x3 : Int32) : Option Int32 := kG ((250 + (3 * ((12 * x1) + x2))) + x3) 760 (some (h 787 (kx ((250 + (3 * ((12 * x1) + x2))) + x3))))
theorem j_M_pair {E : kE} {L : Nat} {xs : Nat → Int32} (hro : kRo E L xs) {h : kH} {x1 : Int32} {x2 : Int32} {x3 : Int32} {r : Int32} (hf : f_M_pair h x1 x2 x3 = some r) : JM E m_M_pair [.ref 786, .int x1, .int x2, .int x3] (mk h) (some r) (mk h) := by
  unfold f_M_pair at hf
  refine JM.of pn_M (Nat.le_of_ble_eq_true rfl) ?_
  show kJ E m_M_pair (some r) (mk h) 0 0 0 [(0, .ref 786), (1, .int x1), (2, .int x2), (3, .int x3)] [] (mk h)
  refine kJ_aload_n 1 0 d_M_pair_0 rfl rfl rfl rfl ?_
  refine kM_getR 4 0 787 d_M_pair_1 l_M_7 km_786 rfl rfl rfl rfl ?_
  refine kJ_sipush 7 250 d_M_pair_4 ks_250 rfl ?_
  refine kJ_iconst 8 3 d_M_pair_7 ki_3 rfl ?_
  refine kJ_bipush 10 12 d_M_pair_8 kb_12 rfl ?_
  refine kJ_iload_n 11 1 d_M_pair_10 rfl rfl rfl ?_
  refine kJ_imul 12 d_M_pair_11 rfl ?_
  refine kJ_iload_n 13 2 d_M_pair_12 rfl rfl rfl ?_
  refine kJ_iadd 14 d_M_pair_13 rfl ?_
  refine kJ_imul 15 d_M_pair_14 rfl ?_
  refine kJ_iadd 16 d_M_pair_15 rfl ?_
  refine kJ_iload_n 17 3 d_M_pair_16 rfl rfl rfl ?_
  refine kJ_iadd 18 d_M_pair_17 rfl ?_
  obtain ⟨hg, hf⟩ := kG_some hf
  refine kM_iald 19 760 d_M_pair_18 km_787 rfl hg rfl ?_
  cases hf
  exact kJ_iret d_M_pair_19 rfl rfl (Nat.zero_le _) (Nat.zero_le _)
def f_M_holderOf (h : kH) (x1 : Int32) (x2 : Int32) : Option Int32 := kBi (f_M_pair h x2 x1 0) fun v1 => if v1 < 0 then (kBi (f_M_ofOne h x1 3) fun v2 => some v2) else (kBi (f_M_pair h x2 x1 0) fun v3 => some v3)
theorem j_M_holderOf {E : kE} {L : Nat} {xs : Nat → Int32} (hro : kRo E L xs) {h : kH} {x1 : Int32} {x2 : Int32} {r : Int32} (hf : f_M_holderOf h x1 x2 = some r) : JM E m_M_holderOf [.ref 786, .int x1, .int x2] (mk h) (some r) (mk h) := by
  unfold f_M_holderOf at hf
  refine JM.of pn_M (Nat.le_of_ble_eq_true rfl) ?_
  show kJ E m_M_holderOf (some r) (mk h) 0 0 0 [(0, .ref 786), (1, .int x1), (2, .int x2)] [] (mk h)
  refine kJ_aload_n 1 0 d_M_holderOf_0 rfl rfl rfl rfl ?_
  refine kJ_iload_n 2 2 d_M_holderOf_1 rfl rfl rfl ?_
  refine kJ_iload_n 3 1 d_M_holderOf_2 rfl rfl rfl ?_
  refine kJ_iconst 4 0 d_M_holderOf_3 ki_0 rfl ?_
  obtain ⟨v1, ev1, hf⟩ := kBi_some hf
  refine kM_callv 7 m_M_pair [.int x2, .int x1, .int 0] [] d_M_holderOf_4 cl_M_94 ⟨w_983, w_81⟩ km_786 ⟨rfl, by decide⟩ ⟨_, _, rfl⟩ rfl rfl (Nat.le_of_ble_eq_true rfl) ⟨Nat.le_of_ble_eq_true rfl, Nat.le_of_ble_eq_true rfl⟩ ⟨rfl, rfl⟩ ⟨Nat.zero_le _, Nat.zero_le _⟩ (j_M_pair hro ev1) rfl ?_
  refine kJ_if_lt 10 20 d_M_holderOf_7 rfl rfl (fun hc => ?_) (fun hc => ?_)
  · have hf := kIf_t hf hc
    refine kJ_aload_n 21 0 d_M_holderOf_20 rfl rfl rfl rfl ?_
    refine kJ_iload_n 22 1 d_M_holderOf_21 rfl rfl rfl ?_
    refine kJ_iconst 23 3 d_M_holderOf_22 ki_3 rfl ?_
    obtain ⟨v2, ev2, hf⟩ := kBi_some hf
    refine kM_callv 26 m_M_ofOne [.int x1, .int 3] [] d_M_holderOf_23 cl_M_60 ⟨w_901, w_68⟩ km_786 ⟨rfl, by decide⟩ ⟨_, _, rfl⟩ rfl rfl (Nat.le_of_ble_eq_true rfl) ⟨Nat.le_of_ble_eq_true rfl, Nat.le_of_ble_eq_true rfl⟩ ⟨rfl, rfl⟩ ⟨Nat.zero_le _, Nat.zero_le _⟩ (j_M_ofOne hro ev2) rfl ?_
    cases hf
    exact kJ_iret d_M_holderOf_26 rfl rfl (Nat.zero_le _) (Nat.zero_le _)
  · have hf := kIf_f hf hc
    refine kJ_aload_n 11 0 d_M_holderOf_10 rfl rfl rfl rfl ?_
    refine kJ_iload_n 12 2 d_M_holderOf_11 rfl rfl rfl ?_
    refine kJ_iload_n 13 1 d_M_holderOf_12 rfl rfl rfl ?_
    refine kJ_iconst 14 0 d_M_holderOf_13 ki_0 rfl ?_
    obtain ⟨v3, ev3, hf⟩ := kBi_some hf
    refine kM_callv 17 m_M_pair [.int x2, .int x1, .int 0] [] d_M_holderOf_14 cl_M_94 ⟨w_983, w_81⟩ km_786 ⟨rfl, by decide⟩ ⟨_, _, rfl⟩ rfl rfl (Nat.le_of_ble_eq_true rfl) ⟨Nat.le_of_ble_eq_true rfl, Nat.le_of_ble_eq_true rfl⟩ ⟨rfl, rfl⟩ ⟨Nat.zero_le _, Nat.zero_le _⟩ (j_M_pair hro ev3) rfl ?_
    refine kJ_goto 26 d_M_holderOf_17 rfl ?_
    cases hf
    exact kJ_iret d_M_holderOf_26 rfl rfl (Nat.zero_le _) (Nat.zero_le _)
