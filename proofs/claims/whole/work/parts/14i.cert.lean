/-! CODE of the methods as functions, with certificates: printed by wip/whole/emit.py. -/
def f_M_cast (h : kH) (x1 : Int32) : Option (Int32 × kH) := if (f_M_in x1 1 2) = true then (kBi (f_M_itemIn h 2) fun v1 => kBi (f_M_chairNow h) fun v2 => if v1 < 0 then (some ((-5), h)) else (if v2 < 0 then (some ((-5), h)) else (kBi (f_M_isRecused h v2 v1) fun v3 => if v3 = true then (some ((-5), h)) else (kBi (f_M_record h) fun h4 => kG ((100 + (12 * v1)) + 2) 760 (kLet (hset h4 787 (kx ((100 + (12 * v1)) + 2)) (2 + x1)) fun h5 => kG ((100 + (12 * v1)) + 9) 760 (kLet (hset h5 787 (kx ((100 + (12 * v1)) + 9)) v2) fun h6 => kG ((20 + (6 * v2)) + 4) 760 (kG ((20 + (6 * v2)) + 4) 760 (kLet (hset h6 787 (kx ((20 + (6 * v2)) + 4)) ((h6 787 (kx ((20 + (6 * v2)) + 4))) + 1)) fun h7 => some ((2 + x1), h7))))))))) else (some ((-2), h))
theorem j_M_cast {E : kE} {L : Nat} {xs : Nat → Int32} (hro : kRo E L xs) {h : kH} {x1 : Int32} {r : Int32} {h' : kH} (hf : f_M_cast h x1 = some (r, h')) : JM E m_M_cast [.ref 786, .int x1] (mk h) (some r) (mk h') := by
  unfold f_M_cast at hf
  refine JM.of pn_M (Nat.le_of_ble_eq_true rfl) ?_
  show kJ E m_M_cast (some r) (mk h') 0 0 0 [(0, .ref 786), (1, .int x1)] [] (mk h)
  refine kJ_iload_n 1 1 d_M_cast_0 rfl rfl rfl ?_
  refine kJ_iconst 2 1 d_M_cast_1 ki_1 rfl ?_
  refine kJ_iconst 3 2 d_M_cast_2 ki_2 rfl ?_
  refine kM_calls 6 m_M_in [.int x1, .int 1, .int 2] [] d_M_cast_3 cl_M_49 w_869 rfl rfl (Nat.le_of_ble_eq_true rfl) ⟨Nat.le_of_ble_eq_true rfl, Nat.le_of_ble_eq_true rfl⟩ ⟨rfl, rfl⟩ ⟨Nat.zero_le _, Nat.zero_le _⟩ (j_M_in hro rfl) rfl ?_
  refine kJ_if_ne 9 12 d_M_cast_6 rfl rfl (fun hc => ?_) (fun hc => ?_)
  · have hf := kIf_t hf (kB2_1 hc)
    refine kJ_aload_n 13 0 d_M_cast_12 rfl rfl rfl rfl ?_
    refine kJ_iconst 14 2 d_M_cast_13 ki_2 rfl ?_
    obtain ⟨v1, ev1, hf⟩ := kBi_some hf
    refine kM_callv 17 m_M_itemIn [.int 2] [] d_M_cast_14 cl_M_120 ⟨w_959, w_75⟩ km_786 ⟨rfl, by decide⟩ ⟨_, _, rfl⟩ rfl rfl (Nat.le_of_ble_eq_true rfl) ⟨Nat.le_of_ble_eq_true rfl, Nat.le_of_ble_eq_true rfl⟩ ⟨rfl, rfl⟩ ⟨Nat.zero_le _, Nat.zero_le _⟩ (j_M_itemIn hro ev1) rfl ?_
    refine kJ_istore_n 18 [(2, .int v1), (0, .ref 786), (1, .int x1)] d_M_cast_17 rfl (Nat.le_of_ble_eq_true rfl) rfl rfl ?_
    refine kJ_aload_n 19 1 d_M_cast_18 rfl rfl rfl rfl ?_
    obtain ⟨v2, ev2, hf⟩ := kBi_some hf
    refine kM_callv 22 m_M_chairNow [] [] d_M_cast_19 cl_M_129 ⟨w_1015, w_86⟩ km_786 ⟨rfl, by decide⟩ ⟨_, _, rfl⟩ rfl rfl (Nat.le_of_ble_eq_true rfl) ⟨Nat.le_of_ble_eq_true rfl, Nat.le_of_ble_eq_true rfl⟩ ⟨rfl, rfl⟩ ⟨Nat.zero_le _, Nat.zero_le _⟩ (j_M_chairNow hro ev2) rfl ?_
    refine kJ_istore_n 23 [(3, .int v2), (2, .int v1), (0, .ref 786), (1, .int x1)] d_M_cast_22 rfl (Nat.le_of_ble_eq_true rfl) rfl rfl ?_
    refine kJ_iload_n 24 1 d_M_cast_23 rfl rfl rfl ?_
    refine kJ_if_lt 27 40 d_M_cast_24 rfl rfl (fun hc => ?_) (fun hc => ?_)
    · have hf := kIf_t hf hc
      refine kJ_bipush 42 (-5) d_M_cast_40 kb_m5 rfl ?_
      cases hf
      exact kJ_iret d_M_cast_42 rfl rfl (Nat.zero_le _) (Nat.zero_le _)
    · have hf := kIf_f hf hc
      refine kJ_iload_n 28 0 d_M_cast_27 rfl rfl rfl ?_
      refine kJ_if_lt 31 40 d_M_cast_28 rfl rfl (fun hc => ?_) (fun hc => ?_)
      · have hf := kIf_t hf hc
        refine kJ_bipush 42 (-5) d_M_cast_40 kb_m5 rfl ?_
        cases hf
        exact kJ_iret d_M_cast_42 rfl rfl (Nat.zero_le _) (Nat.zero_le _)
      · have hf := kIf_f hf hc
        refine kJ_aload_n 32 2 d_M_cast_31 rfl rfl rfl rfl ?_
        refine kJ_iload_n 33 0 d_M_cast_32 rfl rfl rfl ?_
        refine kJ_iload_n 34 1 d_M_cast_33 rfl rfl rfl ?_
        obtain ⟨v3, ev3, hf⟩ := kBi_some hf
        refine kM_callv 37 m_M_isRecused [.int v2, .int v1] [] d_M_cast_34 cl_M_91 ⟨w_948, w_74⟩ km_786 ⟨rfl, by decide⟩ ⟨_, _, rfl⟩ rfl rfl (Nat.le_of_ble_eq_true rfl) ⟨Nat.le_of_ble_eq_true rfl, Nat.le_of_ble_eq_true rfl⟩ ⟨rfl, rfl⟩ ⟨Nat.zero_le _, Nat.zero_le _⟩ (j_M_isRecused hro ev3) rfl ?_
        refine kJ_if_eq 40 43 d_M_cast_37 rfl rfl (fun hc => ?_) (fun hc => ?_)
        · have hf := kIf_f hf (kB2_0 hc)
          refine kJ_aload_n 44 2 d_M_cast_43 rfl rfl rfl rfl ?_
          obtain ⟨h4, eh4, hf⟩ := kBi_some hf
          refine kM_callv 47 m_M_record [] [] d_M_cast_44 cl_M_53 ⟨w_873, w_65⟩ km_786 ⟨rfl, by decide⟩ ⟨_, _, rfl⟩ rfl rfl (Nat.le_of_ble_eq_true rfl) ⟨Nat.le_of_ble_eq_true rfl, Nat.le_of_ble_eq_true rfl⟩ ⟨rfl, rfl⟩ ⟨Nat.zero_le _, Nat.zero_le _⟩ (j_M_record hro eh4) rfl ?_
          refine kJ_aload_n 48 2 d_M_cast_47 rfl rfl rfl rfl ?_
          refine kM_getR 51 0 787 d_M_cast_48 l_M_7 km_786 rfl rfl rfl rfl ?_
          refine kJ_bipush 53 100 d_M_cast_51 kb_100 rfl ?_
          refine kJ_bipush 55 12 d_M_cast_53 kb_12 rfl ?_
          refine kJ_iload_n 56 1 d_M_cast_55 rfl rfl rfl ?_
          refine kJ_imul 57 d_M_cast_56 rfl ?_
          refine kJ_iadd 58 d_M_cast_57 rfl ?_
          refine kJ_iconst 59 2 d_M_cast_58 ki_2 rfl ?_
          refine kJ_iadd 60 d_M_cast_59 rfl ?_
          refine kJ_iconst 61 2 d_M_cast_60 ki_2 rfl ?_
          refine kJ_iload_n 62 3 d_M_cast_61 rfl rfl rfl ?_
          refine kJ_iadd 63 d_M_cast_62 rfl ?_
          obtain ⟨hg, hf⟩ := kG_some hf
          refine kM_iast 64 760 d_M_cast_63 km_787 rfl hg rfl ?_
          obtain ⟨h5, eh5, hf⟩ := kLet_e hf
          rw [← eh5]
          refine kJ_aload_n 65 2 d_M_cast_64 rfl rfl rfl rfl ?_
          refine kM_getR 68 0 787 d_M_cast_65 l_M_7 km_786 rfl rfl rfl rfl ?_
          refine kJ_bipush 70 100 d_M_cast_68 kb_100 rfl ?_
          refine kJ_bipush 72 12 d_M_cast_70 kb_12 rfl ?_
          refine kJ_iload_n 73 1 d_M_cast_72 rfl rfl rfl ?_
          refine kJ_imul 74 d_M_cast_73 rfl ?_
          refine kJ_iadd 75 d_M_cast_74 rfl ?_
          refine kJ_bipush 77 9 d_M_cast_75 kb_9 rfl ?_
          refine kJ_iadd 78 d_M_cast_77 rfl ?_
          refine kJ_iload_n 79 0 d_M_cast_78 rfl rfl rfl ?_
          obtain ⟨hg, hf⟩ := kG_some hf
          refine kM_iast 80 760 d_M_cast_79 km_787 rfl hg rfl ?_
          obtain ⟨h6, eh6, hf⟩ := kLet_e hf
          rw [← eh6]
          refine kJ_aload_n 81 2 d_M_cast_80 rfl rfl rfl rfl ?_
          refine kM_getR 84 0 787 d_M_cast_81 l_M_7 km_786 rfl rfl rfl rfl ?_
          refine kJ_bipush 86 20 d_M_cast_84 kb_20 rfl ?_
          refine kJ_bipush 88 6 d_M_cast_86 kb_6 rfl ?_
          refine kJ_iload_n 89 0 d_M_cast_88 rfl rfl rfl ?_
          refine kJ_imul 90 d_M_cast_89 rfl ?_
          refine kJ_iadd 91 d_M_cast_90 rfl ?_
          refine kJ_iconst 92 4 d_M_cast_91 ki_4 rfl ?_
          refine kJ_iadd 93 d_M_cast_92 rfl ?_
          refine kJ_dup2 94 d_M_cast_93 rfl rfl rfl ?_
          obtain ⟨hg, hf⟩ := kG_some hf
          refine kM_iald 95 760 d_M_cast_94 km_787 rfl hg rfl ?_
          refine kJ_iconst 96 1 d_M_cast_95 ki_1 rfl ?_
          refine kJ_iadd 97 d_M_cast_96 rfl ?_
          obtain ⟨hg, hf⟩ := kG_some hf
          refine kM_iast 98 760 d_M_cast_97 km_787 rfl hg rfl ?_
          obtain ⟨h7, eh7, hf⟩ := kLet_e hf
          rw [← eh7]
          refine kJ_iconst 99 2 d_M_cast_98 ki_2 rfl ?_
          refine kJ_iload_n 100 3 d_M_cast_99 rfl rfl rfl ?_
          refine kJ_iadd 101 d_M_cast_100 rfl ?_
          cases hf
          exact kJ_iret d_M_cast_101 rfl rfl (Nat.zero_le _) (Nat.zero_le _)
        · have hf := kIf_t hf (kB2_1 hc)
          refine kJ_bipush 42 (-5) d_M_cast_40 kb_m5 rfl ?_
          cases hf
          exact kJ_iret d_M_cast_42 rfl rfl (Nat.zero_le _) (Nat.zero_le _)
  · have hf := kIf_f hf (kB2_0 hc)
    refine kJ_bipush 11 (-2) d_M_cast_9 kb_m2 rfl ?_
    cases hf
    exact kJ_iret d_M_cast_11 rfl rfl (Nat.zero_le _) (Nat.zero_le _)
def b_M_nextMinute_85 (rec15 : kH → Int32 → Int32 → Option (kH)) (x1 : Int32) (x2 : Int32) (x3 : Int32) : Nat → kH → Int32 → Option (kH)
  | 0, _, _ => none
  | n + 1, h, x4 => (fun rec85 => if 3 ≤ x4 then (rec15 h (x1 + 1) (x2 + 1)) else (kG (x3 + x4) 760 (kG ((690 + (3 * x1)) + x4) 760 (kLet (hset h 787 (kx ((690 + (3 * x1)) + x4)) (h 787 (kx (x3 + x4)))) fun h3 => rec85 h3 (x4 + 1))))) (fun h' x4' => b_M_nextMinute_85 rec15 x1 x2 x3 n h' x4')
theorem c_M_nextMinute_85 {E : kE} {L : Nat} {xs : Nat → Int32} (hro : kRo E L xs) {rec15 : kH → Int32 → Int32 → Option (kH)} {x1 : Int32} {x2 : Int32} {x3 : Int32} {h' : kH} (hrec15 : ∀ (h : kH) (x1 : Int32) (x2 : Int32), rec15 h x1 x2 = some h' → kJ E m_M_nextMinute none (mk h') 0 0 15 [(0, .ref 786), (1, .int x1), (2, .int x2)] [] (mk h)) : ∀ (n : Nat) (h : kH) (x4 : Int32), b_M_nextMinute_85 rec15 x1 x2 x3 n h x4 = some h' → kJ E m_M_nextMinute none (mk h') 0 0 85 [(0, .ref 786), (1, .int x1), (2, .int x2), (3, .int x3), (4, .int x4)] [] (mk h) := by
  intro n
  induction n with
  | zero =>
    intro h x4 hf
    have hf : (none : Option (kH)) = some h' := hf
    cases hf
  | succ n hrec85 =>
    intro h x4 hf
    rw [b_M_nextMinute_85] at hf
    dsimp only at hf
    refine kJ_iload 87 4 d_M_nextMinute_85 rfl rfl ?_
    refine kJ_iconst 88 3 d_M_nextMinute_87 ki_3 rfl ?_
    refine kJ_icmp_ge 91 121 d_M_nextMinute_88 rfl rfl (fun hc => ?_) (fun hc => ?_)
    · have hf := kIf_t hf hc
      refine kJ_iinc 124 1 [(1, .int (x1 + 1)), (0, .ref 786), (2, .int x2), (3, .int x3), (4, .int x4)] d_M_nextMinute_121 rfl ki_1 (Nat.le_of_ble_eq_true rfl) rfl rfl ?_
      refine kJ_iinc 127 2 [(2, .int (x2 + 1)), (1, .int (x1 + 1)), (0, .ref 786), (3, .int x3), (4, .int x4)] d_M_nextMinute_124 rfl ki_1 (Nat.le_of_ble_eq_true rfl) rfl rfl ?_
      refine kJ_goto 15 d_M_nextMinute_127 rfl ?_
      refine kJ_sub [2, 1, 0] rfl ?_
      exact hrec15 h (x1 + 1) (x2 + 1) hf
    · have hf := kIf_f hf hc
      refine kJ_aload_n 92 0 d_M_nextMinute_91 rfl rfl rfl rfl ?_
      refine kM_getR 95 0 787 d_M_nextMinute_92 l_M_7 km_786 rfl rfl rfl rfl ?_
      refine kJ_sipush 98 690 d_M_nextMinute_95 ks_690 rfl ?_
      refine kJ_iconst 99 3 d_M_nextMinute_98 ki_3 rfl ?_
      refine kJ_iload_n 100 1 d_M_nextMinute_99 rfl rfl rfl ?_
      refine kJ_imul 101 d_M_nextMinute_100 rfl ?_
      refine kJ_iadd 102 d_M_nextMinute_101 rfl ?_
      refine kJ_iload 104 4 d_M_nextMinute_102 rfl rfl ?_
      refine kJ_iadd 105 d_M_nextMinute_104 rfl ?_
      refine kJ_aload_n 106 0 d_M_nextMinute_105 rfl rfl rfl rfl ?_
      refine kM_getR 109 0 787 d_M_nextMinute_106 l_M_7 km_786 rfl rfl rfl rfl ?_
      refine kJ_iload_n 110 3 d_M_nextMinute_109 rfl rfl rfl ?_
      refine kJ_iload 112 4 d_M_nextMinute_110 rfl rfl ?_
      refine kJ_iadd 113 d_M_nextMinute_112 rfl ?_
      obtain ⟨hg, hf⟩ := kG_some hf
      refine kM_iald 114 760 d_M_nextMinute_113 km_787 rfl hg rfl ?_
      obtain ⟨hg, hf⟩ := kG_some hf
      refine kM_iast 115 760 d_M_nextMinute_114 km_787 rfl hg rfl ?_
      obtain ⟨h3, eh3, hf⟩ := kLet_e hf
      rw [← eh3]
      refine kJ_iinc 118 4 [(4, .int (x4 + 1)), (0, .ref 786), (1, .int x1), (2, .int x2), (3, .int x3)] d_M_nextMinute_115 rfl ki_1 (Nat.le_of_ble_eq_true rfl) rfl rfl ?_
      refine kJ_goto 85 d_M_nextMinute_118 rfl ?_
      refine kJ_sub [1, 2, 3, 4, 0] rfl ?_
      exact hrec85 h3 (x4 + 1) hf
def b_M_nextMinute_15 : Nat → kH → Int32 → Int32 → Option (kH)
  | 0, _, _, _ => none
  | n + 1, h, x1, x2 => (fun rec15 => kG 10 760 (if (h 787 (kx 10)) ≤ x2 then (kG 10 760 (kLet (hset h 787 (kx 10) x1) fun h2 => some h2)) else (kG (690 + (3 * x2)) 760 (kG 6 760 (if (h 787 (kx (690 + (3 * x2)))) = (h 787 (kx 6)) then (kG ((690 + (3 * x2)) + 1) 760 (kG ((690 + (3 * x2)) + 2) 760 (kG ((20 + (6 * (h 787 (kx ((690 + (3 * x2)) + 1))))) + 2) 760 (kLet (hset h 787 (kx ((20 + (6 * (h 787 (kx ((690 + (3 * x2)) + 1))))) + 2)) (h 787 (kx ((690 + (3 * x2)) + 2)))) fun h4 => rec15 h4 x1 (x2 + 1))))) else (b_M_nextMinute_85 rec15 x1 x2 (690 + (3 * x2)) kFuel h 0)))))) (fun h' x1' x2' => b_M_nextMinute_15 n h' x1' x2')
theorem c_M_nextMinute_15 {E : kE} {L : Nat} {xs : Nat → Int32} (hro : kRo E L xs) {h' : kH} : ∀ (n : Nat) (h : kH) (x1 : Int32) (x2 : Int32), b_M_nextMinute_15 n h x1 x2 = some h' → kJ E m_M_nextMinute none (mk h') 0 0 15 [(0, .ref 786), (1, .int x1), (2, .int x2)] [] (mk h) := by
  intro n
  induction n with
  | zero =>
    intro h x1 x2 hf
    have hf : (none : Option (kH)) = some h' := hf
    cases hf
  | succ n hrec15 =>
    intro h x1 x2 hf
    rw [b_M_nextMinute_15] at hf
    dsimp only at hf
    refine kJ_iload_n 16 2 d_M_nextMinute_15 rfl rfl rfl ?_
    refine kJ_aload_n 17 0 d_M_nextMinute_16 rfl rfl rfl rfl ?_
    refine kM_getR 20 0 787 d_M_nextMinute_17 l_M_7 km_786 rfl rfl rfl rfl ?_
    refine kJ_bipush 22 10 d_M_nextMinute_20 kb_10 rfl ?_
    obtain ⟨hg, hf⟩ := kG_some hf
    refine kM_iald 23 760 d_M_nextMinute_22 km_787 rfl hg rfl ?_
    refine kJ_icmp_ge 26 130 d_M_nextMinute_23 rfl rfl (fun hc => ?_) (fun hc => ?_)
    · have hf := kIf_t hf hc
      refine kJ_aload_n 131 0 d_M_nextMinute_130 rfl rfl rfl rfl ?_
      refine kM_getR 134 0 787 d_M_nextMinute_131 l_M_7 km_786 rfl rfl rfl rfl ?_
      refine kJ_bipush 136 10 d_M_nextMinute_134 kb_10 rfl ?_
      refine kJ_iload_n 137 1 d_M_nextMinute_136 rfl rfl rfl ?_
      obtain ⟨hg, hf⟩ := kG_some hf
      refine kM_iast 138 760 d_M_nextMinute_137 km_787 rfl hg rfl ?_
      obtain ⟨h2, eh2, hf⟩ := kLet_e hf
      rw [← eh2]
      cases hf
      exact kJ_ret d_M_nextMinute_138 rfl (Nat.zero_le _) (Nat.zero_le _)
    · have hf := kIf_f hf hc
      refine kJ_sipush 29 690 d_M_nextMinute_26 ks_690 rfl ?_
      refine kJ_iconst 30 3 d_M_nextMinute_29 ki_3 rfl ?_
      refine kJ_iload_n 31 2 d_M_nextMinute_30 rfl rfl rfl ?_
      refine kJ_imul 32 d_M_nextMinute_31 rfl ?_
      refine kJ_iadd 33 d_M_nextMinute_32 rfl ?_
      refine kJ_istore_n 34 [(3, .int (690 + (3 * x2))), (0, .ref 786), (1, .int x1), (2, .int x2)] d_M_nextMinute_33 rfl (Nat.le_of_ble_eq_true rfl) rfl rfl ?_
      refine kJ_aload_n 35 1 d_M_nextMinute_34 rfl rfl rfl rfl ?_
      refine kM_getR 38 0 787 d_M_nextMinute_35 l_M_7 km_786 rfl rfl rfl rfl ?_
      refine kJ_iload_n 39 0 d_M_nextMinute_38 rfl rfl rfl ?_
      obtain ⟨hg, hf⟩ := kG_some hf
      refine kM_iald 40 760 d_M_nextMinute_39 km_787 rfl hg rfl ?_
      refine kJ_aload_n 41 1 d_M_nextMinute_40 rfl rfl rfl rfl ?_
      refine kM_getR 44 0 787 d_M_nextMinute_41 l_M_7 km_786 rfl rfl rfl rfl ?_
      refine kJ_bipush 46 6 d_M_nextMinute_44 kb_6 rfl ?_
      obtain ⟨hg, hf⟩ := kG_some hf
      refine kM_iald 47 760 d_M_nextMinute_46 km_787 rfl hg rfl ?_
      refine kJ_icmp_ne 50 82 d_M_nextMinute_47 rfl rfl (fun hc => ?_) (fun hc => ?_)
      · have hf := kIf_f hf hc
        refine kJ_iconst 83 0 d_M_nextMinute_82 ki_0 rfl ?_
        refine kJ_istore 85 [(4, .int 0), (3, .int (690 + (3 * x2))), (0, .ref 786), (1, .int x1), (2, .int x2)] d_M_nextMinute_83 (Nat.le_of_ble_eq_true rfl) rfl rfl ?_
        refine kJ_sub [2, 3, 4, 1, 0] rfl ?_
        exact c_M_nextMinute_85 hro hrec15 kFuel h 0 hf
      · have hf := kIf_t hf hc
        refine kJ_aload_n 51 1 d_M_nextMinute_50 rfl rfl rfl rfl ?_
        refine kM_getR 54 0 787 d_M_nextMinute_51 l_M_7 km_786 rfl rfl rfl rfl ?_
        refine kJ_bipush 56 20 d_M_nextMinute_54 kb_20 rfl ?_
        refine kJ_bipush 58 6 d_M_nextMinute_56 kb_6 rfl ?_
        refine kJ_aload_n 59 1 d_M_nextMinute_58 rfl rfl rfl rfl ?_
        refine kM_getR 62 0 787 d_M_nextMinute_59 l_M_7 km_786 rfl rfl rfl rfl ?_
        refine kJ_iload_n 63 0 d_M_nextMinute_62 rfl rfl rfl ?_
        refine kJ_iconst 64 1 d_M_nextMinute_63 ki_1 rfl ?_
        refine kJ_iadd 65 d_M_nextMinute_64 rfl ?_
        obtain ⟨hg, hf⟩ := kG_some hf
        refine kM_iald 66 760 d_M_nextMinute_65 km_787 rfl hg rfl ?_
        refine kJ_imul 67 d_M_nextMinute_66 rfl ?_
        refine kJ_iadd 68 d_M_nextMinute_67 rfl ?_
        refine kJ_iconst 69 2 d_M_nextMinute_68 ki_2 rfl ?_
        refine kJ_iadd 70 d_M_nextMinute_69 rfl ?_
        refine kJ_aload_n 71 1 d_M_nextMinute_70 rfl rfl rfl rfl ?_
        refine kM_getR 74 0 787 d_M_nextMinute_71 l_M_7 km_786 rfl rfl rfl rfl ?_
        refine kJ_iload_n 75 0 d_M_nextMinute_74 rfl rfl rfl ?_
        refine kJ_iconst 76 2 d_M_nextMinute_75 ki_2 rfl ?_
        refine kJ_iadd 77 d_M_nextMinute_76 rfl ?_
        obtain ⟨hg, hf⟩ := kG_some hf
        refine kM_iald 78 760 d_M_nextMinute_77 km_787 rfl hg rfl ?_
        obtain ⟨hg, hf⟩ := kG_some hf
        refine kM_iast 79 760 d_M_nextMinute_78 km_787 rfl hg rfl ?_
        obtain ⟨h4, eh4, hf⟩ := kLet_e hf
        rw [← eh4]
        refine kJ_goto 124 d_M_nextMinute_79 rfl ?_
        refine kJ_iinc 127 3 [(2, .int (x2 + 1)), (3, .int (690 + (3 * x2))), (0, .ref 786), (1, .int x1)] d_M_nextMinute_124 rfl ki_1 (Nat.le_of_ble_eq_true rfl) rfl rfl ?_
        refine kJ_goto 15 d_M_nextMinute_127 rfl ?_
        refine kJ_sub [2, 3, 0] rfl ?_
        exact hrec15 h4 x1 (x2 + 1) hf
def f_M_nextMinute (h : kH) : Option (kH) := kG 6 760 (kG 6 760 (kLet (hset h 787 (kx 6) ((h 787 (kx 6)) + 1)) fun h1 => b_M_nextMinute_15  kFuel h1 0 0))
theorem j_M_nextMinute {E : kE} {L : Nat} {xs : Nat → Int32} (hro : kRo E L xs) {h : kH} {h' : kH} (hf : f_M_nextMinute h = some h') : JM E m_M_nextMinute [.ref 786] (mk h) none (mk h') := by
  unfold f_M_nextMinute at hf
  refine JM.of pn_M (Nat.le_of_ble_eq_true rfl) ?_
  show kJ E m_M_nextMinute none (mk h') 0 0 0 [(0, .ref 786)] [] (mk h)
  refine kJ_aload_n 1 0 d_M_nextMinute_0 rfl rfl rfl rfl ?_
  refine kM_getR 4 0 787 d_M_nextMinute_1 l_M_7 km_786 rfl rfl rfl rfl ?_
  refine kJ_bipush 6 6 d_M_nextMinute_4 kb_6 rfl ?_
  refine kJ_dup2 7 d_M_nextMinute_6 rfl rfl rfl ?_
  obtain ⟨hg, hf⟩ := kG_some hf
  refine kM_iald 8 760 d_M_nextMinute_7 km_787 rfl hg rfl ?_
  refine kJ_iconst 9 1 d_M_nextMinute_8 ki_1 rfl ?_
  refine kJ_iadd 10 d_M_nextMinute_9 rfl ?_
  obtain ⟨hg, hf⟩ := kG_some hf
  refine kM_iast 11 760 d_M_nextMinute_10 km_787 rfl hg rfl ?_
  obtain ⟨h1, eh1, hf⟩ := kLet_e hf
  rw [← eh1]
  refine kJ_iconst 12 0 d_M_nextMinute_11 ki_0 rfl ?_
  refine kJ_istore_n 13 [(1, .int 0), (0, .ref 786)] d_M_nextMinute_12 rfl (Nat.le_of_ble_eq_true rfl) rfl rfl ?_
  refine kJ_iconst 14 0 d_M_nextMinute_13 ki_0 rfl ?_
  refine kJ_istore_n 15 [(2, .int 0), (1, .int 0), (0, .ref 786)] d_M_nextMinute_14 rfl (Nat.le_of_ble_eq_true rfl) rfl rfl ?_
  refine kJ_sub [2, 1, 0] rfl ?_
  exact c_M_nextMinute_15 hro kFuel h1 0 0 hf
def b_M_pass_38 (x1 : Int32) : Nat → kH → Int32 → Option (Int32 × kH)
  | 0, _, _ => none
  | n + 1, h, x2 => (fun rec38 => if x1 ≤ x2 then (kG 6 760 (some ((h 787 (kx 6)), h))) else (kBi (f_M_nextMinute h) fun h2 => rec38 h2 (x2 + 1))) (fun h' x2' => b_M_pass_38 x1 n h' x2')
theorem c_M_pass_38 {E : kE} {L : Nat} {xs : Nat → Int32} (hro : kRo E L xs) {x1 : Int32} {r : Int32} {h' : kH} : ∀ (n : Nat) (h : kH) (x2 : Int32), b_M_pass_38 x1 n h x2 = some (r, h') → kJ E m_M_pass (some r) (mk h') 0 0 38 [(0, .ref 786), (1, .int x1), (2, .int x2)] [] (mk h) := by
  intro n
  induction n with
  | zero =>
    intro h x2 hf
    have hf : (none : Option (Int32 × kH)) = some (r, h') := hf
    cases hf
  | succ n hrec38 =>
    intro h x2 hf
    rw [b_M_pass_38] at hf
    dsimp only at hf
    refine kJ_iload_n 39 2 d_M_pass_38 rfl rfl rfl ?_
    refine kJ_iload_n 40 1 d_M_pass_39 rfl rfl rfl ?_
    refine kJ_icmp_ge 43 53 d_M_pass_40 rfl rfl (fun hc => ?_) (fun hc => ?_)
    · have hf := kIf_t hf hc
      refine kJ_aload_n 54 0 d_M_pass_53 rfl rfl rfl rfl ?_
      refine kM_getR 57 0 787 d_M_pass_54 l_M_7 km_786 rfl rfl rfl rfl ?_
      refine kJ_bipush 59 6 d_M_pass_57 kb_6 rfl ?_
      obtain ⟨hg, hf⟩ := kG_some hf
      refine kM_iald 60 760 d_M_pass_59 km_787 rfl hg rfl ?_
      cases hf
      exact kJ_iret d_M_pass_60 rfl rfl (Nat.zero_le _) (Nat.zero_le _)
    · have hf := kIf_f hf hc
      refine kJ_aload_n 44 0 d_M_pass_43 rfl rfl rfl rfl ?_
      obtain ⟨h2, eh2, hf⟩ := kBi_some hf
      refine kM_callv 47 m_M_nextMinute [] [] d_M_pass_44 cl_M_132 ⟨w_1023, w_87⟩ km_786 ⟨rfl, by decide⟩ ⟨_, _, rfl⟩ rfl rfl (Nat.le_of_ble_eq_true rfl) ⟨Nat.le_of_ble_eq_true rfl, Nat.le_of_ble_eq_true rfl⟩ ⟨rfl, rfl⟩ ⟨Nat.zero_le _, Nat.zero_le _⟩ (j_M_nextMinute hro eh2) rfl ?_
      refine kJ_iinc 50 2 [(2, .int (x2 + 1)), (0, .ref 786), (1, .int x1)] d_M_pass_47 rfl ki_1 (Nat.le_of_ble_eq_true rfl) rfl rfl ?_
      refine kJ_goto 38 d_M_pass_50 rfl ?_
      refine kJ_sub [1, 2, 0] rfl ?_
      exact hrec38 h2 (x2 + 1) hf
def f_M_pass (h : kH) (x1 : Int32) : Option (Int32 × kH) := if (f_M_in x1 1 600) = true then (kG 6 760 (if ((h 787 (kx 6)) + x1) ≤ 9000 then (kBi (f_M_record h) fun h1 => b_M_pass_38 x1 kFuel h1 0) else (some ((-5), h)))) else (some ((-2), h))
theorem j_M_pass {E : kE} {L : Nat} {xs : Nat → Int32} (hro : kRo E L xs) {h : kH} {x1 : Int32} {r : Int32} {h' : kH} (hf : f_M_pass h x1 = some (r, h')) : JM E m_M_pass [.ref 786, .int x1] (mk h) (some r) (mk h') := by
  unfold f_M_pass at hf
  refine JM.of pn_M (Nat.le_of_ble_eq_true rfl) ?_
  show kJ E m_M_pass (some r) (mk h') 0 0 0 [(0, .ref 786), (1, .int x1)] [] (mk h)
  refine kJ_iload_n 1 1 d_M_pass_0 rfl rfl rfl ?_
  refine kJ_iconst 2 1 d_M_pass_1 ki_1 rfl ?_
  refine kJ_sipush 5 600 d_M_pass_2 ks_600 rfl ?_
  refine kM_calls 8 m_M_in [.int x1, .int 1, .int 600] [] d_M_pass_5 cl_M_49 w_869 rfl rfl (Nat.le_of_ble_eq_true rfl) ⟨Nat.le_of_ble_eq_true rfl, Nat.le_of_ble_eq_true rfl⟩ ⟨rfl, rfl⟩ ⟨Nat.zero_le _, Nat.zero_le _⟩ (j_M_in hro rfl) rfl ?_
  refine kJ_if_ne 11 14 d_M_pass_8 rfl rfl (fun hc => ?_) (fun hc => ?_)
  · have hf := kIf_t hf (kB2_1 hc)
    refine kJ_aload_n 15 0 d_M_pass_14 rfl rfl rfl rfl ?_
    refine kM_getR 18 0 787 d_M_pass_15 l_M_7 km_786 rfl rfl rfl rfl ?_
    refine kJ_bipush 20 6 d_M_pass_18 kb_6 rfl ?_
    obtain ⟨hg, hf⟩ := kG_some hf
    refine kM_iald 21 760 d_M_pass_20 km_787 rfl hg rfl ?_
    refine kJ_iload_n 22 1 d_M_pass_21 rfl rfl rfl ?_
    refine kJ_iadd 23 d_M_pass_22 rfl ?_
    refine kJ_sipush 26 9000 d_M_pass_23 ks_9000 rfl ?_
    refine kJ_icmp_le 29 32 d_M_pass_26 rfl rfl (fun hc => ?_) (fun hc => ?_)
    · have hf := kIf_t hf hc
      refine kJ_aload_n 33 0 d_M_pass_32 rfl rfl rfl rfl ?_
      obtain ⟨h1, eh1, hf⟩ := kBi_some hf
      refine kM_callv 36 m_M_record [] [] d_M_pass_33 cl_M_53 ⟨w_873, w_65⟩ km_786 ⟨rfl, by decide⟩ ⟨_, _, rfl⟩ rfl rfl (Nat.le_of_ble_eq_true rfl) ⟨Nat.le_of_ble_eq_true rfl, Nat.le_of_ble_eq_true rfl⟩ ⟨rfl, rfl⟩ ⟨Nat.zero_le _, Nat.zero_le _⟩ (j_M_record hro eh1) rfl ?_
      refine kJ_iconst 37 0 d_M_pass_36 ki_0 rfl ?_
      refine kJ_istore_n 38 [(2, .int 0), (0, .ref 786), (1, .int x1)] d_M_pass_37 rfl (Nat.le_of_ble_eq_true rfl) rfl rfl ?_
      refine kJ_sub [1, 2, 0] rfl ?_
      exact c_M_pass_38 hro kFuel h1 0 hf
    · have hf := kIf_f hf hc
      refine kJ_bipush 31 (-5) d_M_pass_29 kb_m5 rfl ?_
      cases hf
      exact kJ_iret d_M_pass_31 rfl rfl (Nat.zero_le _) (Nat.zero_le _)
  · have hf := kIf_f hf (kB2_0 hc)
    refine kJ_bipush 13 (-2) d_M_pass_11 kb_m2 rfl ?_
    cases hf
    exact kJ_iret d_M_pass_13 rfl rfl (Nat.zero_le _) (Nat.zero_le _)
def b_M_votesOf_4 (h : kH) (x1 : Int32) : Nat → Int32 → Int32 → Option Int32
  | 0, _, _ => none
  | n + 1, x2, x3 => (fun rec4 => kG 8 760 (if (h 787 (kx 8)) ≤ x3 then (some x2) else (kBi (f_M_pair h x3 x1 1) fun v1 => if v1 < 0 then (rec4 (x2 + 0) (x3 + 1)) else (rec4 (x2 + 1) (x3 + 1))))) (fun x2' x3' => b_M_votesOf_4 h x1 n x2' x3')
theorem c_M_votesOf_4 {E : kE} {L : Nat} {xs : Nat → Int32} (hro : kRo E L xs) {h : kH} {x1 : Int32} {r : Int32} : ∀ (n : Nat) (x2 : Int32) (x3 : Int32), b_M_votesOf_4 h x1 n x2 x3 = some r → kJ E m_M_votesOf (some r) (mk h) 0 0 4 [(0, .ref 786), (1, .int x1), (2, .int x2), (3, .int x3)] [] (mk h) := by
  intro n
  induction n with
  | zero =>
    intro x2 x3 hf
    have hf : (none : Option Int32) = some r := hf
    cases hf
  | succ n hrec4 =>
    intro x2 x3 hf
    rw [b_M_votesOf_4] at hf
    dsimp only at hf
    refine kJ_iload_n 5 3 d_M_votesOf_4 rfl rfl rfl ?_
    refine kJ_aload_n 6 0 d_M_votesOf_5 rfl rfl rfl rfl ?_
    refine kM_getR 9 0 787 d_M_votesOf_6 l_M_7 km_786 rfl rfl rfl rfl ?_
    refine kJ_bipush 11 8 d_M_votesOf_9 kb_8 rfl ?_
    obtain ⟨hg, hf⟩ := kG_some hf
    refine kM_iald 12 760 d_M_votesOf_11 km_787 rfl hg rfl ?_
    refine kJ_icmp_ge 15 39 d_M_votesOf_12 rfl rfl (fun hc => ?_) (fun hc => ?_)
    · have hf := kIf_t hf hc
      refine kJ_iload_n 40 2 d_M_votesOf_39 rfl rfl rfl ?_
      cases hf
      exact kJ_iret d_M_votesOf_40 rfl rfl (Nat.zero_le _) (Nat.zero_le _)
    · have hf := kIf_f hf hc
      refine kJ_iload_n 16 2 d_M_votesOf_15 rfl rfl rfl ?_
      refine kJ_aload_n 17 0 d_M_votesOf_16 rfl rfl rfl rfl ?_
      refine kJ_iload_n 18 3 d_M_votesOf_17 rfl rfl rfl ?_
      refine kJ_iload_n 19 1 d_M_votesOf_18 rfl rfl rfl ?_
      refine kJ_iconst 20 1 d_M_votesOf_19 ki_1 rfl ?_
      obtain ⟨v1, ev1, hf⟩ := kBi_some hf
      refine kM_callv 23 m_M_pair [.int x3, .int x1, .int 1] [.int x2] d_M_votesOf_20 cl_M_94 ⟨w_983, w_81⟩ km_786 ⟨rfl, by decide⟩ ⟨_, _, rfl⟩ rfl rfl (Nat.le_of_ble_eq_true rfl) ⟨Nat.le_of_ble_eq_true rfl, Nat.le_of_ble_eq_true rfl⟩ ⟨rfl, rfl⟩ ⟨Nat.zero_le _, Nat.zero_le _⟩ (j_M_pair hro ev1) rfl ?_
      refine kJ_if_lt 26 30 d_M_votesOf_23 rfl rfl (fun hc => ?_) (fun hc => ?_)
      · have hf := kIf_t hf hc
        refine kJ_iconst 31 0 d_M_votesOf_30 ki_0 rfl ?_
        refine kJ_iadd 32 d_M_votesOf_31 rfl ?_
        refine kJ_istore_n 33 [(2, .int (x2 + 0)), (0, .ref 786), (1, .int x1), (3, .int x3)] d_M_votesOf_32 rfl (Nat.le_of_ble_eq_true rfl) rfl rfl ?_
        refine kJ_iinc 36 3 [(3, .int (x3 + 1)), (2, .int (x2 + 0)), (0, .ref 786), (1, .int x1)] d_M_votesOf_33 rfl ki_1 (Nat.le_of_ble_eq_true rfl) rfl rfl ?_
        refine kJ_goto 4 d_M_votesOf_36 rfl ?_
        refine kJ_sub [2, 3, 1, 0] rfl ?_
        exact hrec4 (x2 + 0) (x3 + 1) hf
      · have hf := kIf_f hf hc
        refine kJ_iconst 27 1 d_M_votesOf_26 ki_1 rfl ?_
        refine kJ_goto 31 d_M_votesOf_27 rfl ?_
        refine kJ_iadd 32 d_M_votesOf_31 rfl ?_
        refine kJ_istore_n 33 [(2, .int (x2 + 1)), (0, .ref 786), (1, .int x1), (3, .int x3)] d_M_votesOf_32 rfl (Nat.le_of_ble_eq_true rfl) rfl rfl ?_
        refine kJ_iinc 36 3 [(3, .int (x3 + 1)), (2, .int (x2 + 1)), (0, .ref 786), (1, .int x1)] d_M_votesOf_33 rfl ki_1 (Nat.le_of_ble_eq_true rfl) rfl rfl ?_
        refine kJ_goto 4 d_M_votesOf_36 rfl ?_
        refine kJ_sub [2, 3, 1, 0] rfl ?_
        exact hrec4 (x2 + 1) (x3 + 1) hf
def f_M_votesOf (h : kH) (x1 : Int32) : Option Int32 := b_M_votesOf_4 h x1 kFuel 0 0
theorem j_M_votesOf {E : kE} {L : Nat} {xs : Nat → Int32} (hro : kRo E L xs) {h : kH} {x1 : Int32} {r : Int32} (hf : f_M_votesOf h x1 = some r) : JM E m_M_votesOf [.ref 786, .int x1] (mk h) (some r) (mk h) := by
  unfold f_M_votesOf at hf
  refine JM.of pn_M (Nat.le_of_ble_eq_true rfl) ?_
  show kJ E m_M_votesOf (some r) (mk h) 0 0 0 [(0, .ref 786), (1, .int x1)] [] (mk h)
  refine kJ_iconst 1 0 d_M_votesOf_0 ki_0 rfl ?_
  refine kJ_istore_n 2 [(2, .int 0), (0, .ref 786), (1, .int x1)] d_M_votesOf_1 rfl (Nat.le_of_ble_eq_true rfl) rfl rfl ?_
  refine kJ_iconst 3 0 d_M_votesOf_2 ki_0 rfl ?_
  refine kJ_istore_n 4 [(3, .int 0), (2, .int 0), (0, .ref 786), (1, .int x1)] d_M_votesOf_3 rfl (Nat.le_of_ble_eq_true rfl) rfl rfl ?_
  refine kJ_sub [2, 3, 1, 0] rfl ?_
  exact c_M_votesOf_4 hro kFuel 0 0 hf
def f_M_ofMember (h : kH) (x1 : Int32) (x2 : Int32) : Option Int32 := kBi (f_M_isMember h x1) fun v1 => if v1 = true then (if (f_M_in x2 0 3) = true then (kBi (f_M_ofOne h x1 x2) fun v4 => some v4) else (if x2 = 4 then (kBi (f_M_votesOf h x1) fun v3 => some v3) else (if x2 = 5 then (kBi (f_M_ofOne h x1 4) fun v2 => some v2) else (some (-2))))) else (some (-1))
theorem j_M_ofMember {E : kE} {L : Nat} {xs : Nat → Int32} (hro : kRo E L xs) {h : kH} {x1 : Int32} {x2 : Int32} {r : Int32} (hf : f_M_ofMember h x1 x2 = some r) : JM E m_M_ofMember [.ref 786, .int x1, .int x2] (mk h) (some r) (mk h) := by
  unfold f_M_ofMember at hf
  refine JM.of pn_M (Nat.le_of_ble_eq_true rfl) ?_
  show kJ E m_M_ofMember (some r) (mk h) 0 0 0 [(0, .ref 786), (1, .int x1), (2, .int x2)] [] (mk h)
  refine kJ_aload_n 1 0 d_M_ofMember_0 rfl rfl rfl rfl ?_
  refine kJ_iload_n 2 1 d_M_ofMember_1 rfl rfl rfl ?_
  obtain ⟨v1, ev1, hf⟩ := kBi_some hf
  refine kM_callv 5 m_M_isMember [.int x1] [] d_M_ofMember_2 cl_M_56 ⟨w_889, w_66⟩ km_786 ⟨rfl, by decide⟩ ⟨_, _, rfl⟩ rfl rfl (Nat.le_of_ble_eq_true rfl) ⟨Nat.le_of_ble_eq_true rfl, Nat.le_of_ble_eq_true rfl⟩ ⟨rfl, rfl⟩ ⟨Nat.zero_le _, Nat.zero_le _⟩ (j_M_isMember hro ev1) rfl ?_
  refine kJ_if_ne 8 10 d_M_ofMember_5 rfl rfl (fun hc => ?_) (fun hc => ?_)
  · have hf := kIf_t hf (kB2_1 hc)
    refine kJ_iload_n 11 2 d_M_ofMember_10 rfl rfl rfl ?_
    refine kJ_iconst 12 0 d_M_ofMember_11 ki_0 rfl ?_
    refine kJ_iconst 13 3 d_M_ofMember_12 ki_3 rfl ?_
    refine kM_calls 16 m_M_in [.int x2, .int 0, .int 3] [] d_M_ofMember_13 cl_M_49 w_869 rfl rfl (Nat.le_of_ble_eq_true rfl) ⟨Nat.le_of_ble_eq_true rfl, Nat.le_of_ble_eq_true rfl⟩ ⟨rfl, rfl⟩ ⟨Nat.zero_le _, Nat.zero_le _⟩ (j_M_in hro rfl) rfl ?_
    refine kJ_if_eq 19 28 d_M_ofMember_16 rfl rfl (fun hc => ?_) (fun hc => ?_)
    · have hf := kIf_f hf (kB2_0 hc)
      refine kJ_iload_n 29 2 d_M_ofMember_28 rfl rfl rfl ?_
      refine kJ_iconst 30 4 d_M_ofMember_29 ki_4 rfl ?_
      refine kJ_icmp_ne 33 41 d_M_ofMember_30 rfl rfl (fun hc => ?_) (fun hc => ?_)
      · have hf := kIf_f hf hc
        refine kJ_iload_n 42 2 d_M_ofMember_41 rfl rfl rfl ?_
        refine kJ_iconst 43 5 d_M_ofMember_42 ki_5 rfl ?_
        refine kJ_icmp_ne 46 55 d_M_ofMember_43 rfl rfl (fun hc => ?_) (fun hc => ?_)
        · have hf := kIf_f hf hc
          refine kJ_bipush 57 (-2) d_M_ofMember_55 kb_m2 rfl ?_
          cases hf
          exact kJ_iret d_M_ofMember_57 rfl rfl (Nat.zero_le _) (Nat.zero_le _)
        · have hf := kIf_t hf hc
          refine kJ_aload_n 47 0 d_M_ofMember_46 rfl rfl rfl rfl ?_
          refine kJ_iload_n 48 1 d_M_ofMember_47 rfl rfl rfl ?_
          refine kJ_iconst 49 4 d_M_ofMember_48 ki_4 rfl ?_
          obtain ⟨v2, ev2, hf⟩ := kBi_some hf
          refine kM_callv 52 m_M_ofOne [.int x1, .int 4] [] d_M_ofMember_49 cl_M_60 ⟨w_901, w_68⟩ km_786 ⟨rfl, by decide⟩ ⟨_, _, rfl⟩ rfl rfl (Nat.le_of_ble_eq_true rfl) ⟨Nat.le_of_ble_eq_true rfl, Nat.le_of_ble_eq_true rfl⟩ ⟨rfl, rfl⟩ ⟨Nat.zero_le _, Nat.zero_le _⟩ (j_M_ofOne hro ev2) rfl ?_
          refine kJ_goto 57 d_M_ofMember_52 rfl ?_
          cases hf
          exact kJ_iret d_M_ofMember_57 rfl rfl (Nat.zero_le _) (Nat.zero_le _)
      · have hf := kIf_t hf hc
        refine kJ_aload_n 34 0 d_M_ofMember_33 rfl rfl rfl rfl ?_
        refine kJ_iload_n 35 1 d_M_ofMember_34 rfl rfl rfl ?_
        obtain ⟨v3, ev3, hf⟩ := kBi_some hf
        refine kM_callv 38 m_M_votesOf [.int x1] [] d_M_ofMember_35 cl_M_135 ⟨w_1031, w_88⟩ km_786 ⟨rfl, by decide⟩ ⟨_, _, rfl⟩ rfl rfl (Nat.le_of_ble_eq_true rfl) ⟨Nat.le_of_ble_eq_true rfl, Nat.le_of_ble_eq_true rfl⟩ ⟨rfl, rfl⟩ ⟨Nat.zero_le _, Nat.zero_le _⟩ (j_M_votesOf hro ev3) rfl ?_
        refine kJ_goto 57 d_M_ofMember_38 rfl ?_
        cases hf
        exact kJ_iret d_M_ofMember_57 rfl rfl (Nat.zero_le _) (Nat.zero_le _)
    · have hf := kIf_t hf (kB2_1 hc)
      refine kJ_aload_n 20 0 d_M_ofMember_19 rfl rfl rfl rfl ?_
      refine kJ_iload_n 21 1 d_M_ofMember_20 rfl rfl rfl ?_
      refine kJ_iload_n 22 2 d_M_ofMember_21 rfl rfl rfl ?_
      obtain ⟨v4, ev4, hf⟩ := kBi_some hf
      refine kM_callv 25 m_M_ofOne [.int x1, .int x2] [] d_M_ofMember_22 cl_M_60 ⟨w_901, w_68⟩ km_786 ⟨rfl, by decide⟩ ⟨_, _, rfl⟩ rfl rfl (Nat.le_of_ble_eq_true rfl) ⟨Nat.le_of_ble_eq_true rfl, Nat.le_of_ble_eq_true rfl⟩ ⟨rfl, rfl⟩ ⟨Nat.zero_le _, Nat.zero_le _⟩ (j_M_ofOne hro ev4) rfl ?_
      refine kJ_goto 57 d_M_ofMember_25 rfl ?_
      cases hf
      exact kJ_iret d_M_ofMember_57 rfl rfl (Nat.zero_le _) (Nat.zero_le _)
  · have hf := kIf_f hf (kB2_0 hc)
    refine kJ_iconst 9 (-1) d_M_ofMember_8 ki_m1 rfl ?_
    cases hf
    exact kJ_iret d_M_ofMember_9 rfl rfl (Nat.zero_le _) (Nat.zero_le _)
def b_M_ofItem_42 (h : kH) (x1 : Int32) (x2 : Int32) : Option (Int32 × kH) := if (f_M_in x2 0 10) = true then (kG ((100 + (12 * x1)) + x2) 760 (some ((h 787 (kx ((100 + (12 * x1)) + x2))), h))) else (if x2 = 11 then (kBd (f_M_isQuorum h x1) fun v3 h2 => if v3 = true then (some (1, h2)) else (some (0, h2))) else (some ((-2), h)))
theorem c_M_ofItem_42 {E : kE} {L : Nat} {xs : Nat → Int32} (hro : kRo E L xs) {h : kH} {x1 : Int32} {x2 : Int32} {r : Int32} {h' : kH} (hf : b_M_ofItem_42 h x1 x2 = some (r, h')) : kJ E m_M_ofItem (some r) (mk h') 0 0 42 [(0, .ref 786), (1, .int x1), (2, .int x2)] [] (mk h) := by
  unfold b_M_ofItem_42 at hf
  refine kJ_iload_n 43 2 d_M_ofItem_42 rfl rfl rfl ?_
  refine kJ_iconst 44 0 d_M_ofItem_43 ki_0 rfl ?_
  refine kJ_bipush 46 10 d_M_ofItem_44 kb_10 rfl ?_
  refine kM_calls 49 m_M_in [.int x2, .int 0, .int 10] [] d_M_ofItem_46 cl_M_49 w_869 rfl rfl (Nat.le_of_ble_eq_true rfl) ⟨Nat.le_of_ble_eq_true rfl, Nat.le_of_ble_eq_true rfl⟩ ⟨rfl, rfl⟩ ⟨Nat.zero_le _, Nat.zero_le _⟩ (j_M_in hro rfl) rfl ?_
  refine kJ_if_eq 52 69 d_M_ofItem_49 rfl rfl (fun hc => ?_) (fun hc => ?_)
  · have hf := kIf_f hf (kB2_0 hc)
    refine kJ_iload_n 70 2 d_M_ofItem_69 rfl rfl rfl ?_
    refine kJ_bipush 72 11 d_M_ofItem_70 kb_11 rfl ?_
    refine kJ_icmp_eq 75 80 d_M_ofItem_72 rfl rfl (fun hc => ?_) (fun hc => ?_)
    · have hf := kIf_t hf hc
      refine kJ_aload_n 81 0 d_M_ofItem_80 rfl rfl rfl rfl ?_
      refine kJ_iload_n 82 1 d_M_ofItem_81 rfl rfl rfl ?_
      obtain ⟨v3, h2, ev3, hf⟩ := kBd_some hf
      refine kM_callv 85 m_M_isQuorum [.int x1] [] d_M_ofItem_82 cl_M_123 ⟨w_963, w_76⟩ km_786 ⟨rfl, by decide⟩ ⟨_, _, rfl⟩ rfl rfl (Nat.le_of_ble_eq_true rfl) ⟨Nat.le_of_ble_eq_true rfl, Nat.le_of_ble_eq_true rfl⟩ ⟨rfl, rfl⟩ ⟨Nat.zero_le _, Nat.zero_le _⟩ (j_M_isQuorum hro ev3) rfl ?_
      refine kJ_if_eq 88 92 d_M_ofItem_85 rfl rfl (fun hc => ?_) (fun hc => ?_)
      · have hf := kIf_f hf (kB2_0 hc)
        refine kJ_iconst 93 0 d_M_ofItem_92 ki_0 rfl ?_
        cases hf
        exact kJ_iret d_M_ofItem_93 rfl rfl (Nat.zero_le _) (Nat.zero_le _)
      · have hf := kIf_t hf (kB2_1 hc)
        refine kJ_iconst 89 1 d_M_ofItem_88 ki_1 rfl ?_
        refine kJ_goto 93 d_M_ofItem_89 rfl ?_
        cases hf
        exact kJ_iret d_M_ofItem_93 rfl rfl (Nat.zero_le _) (Nat.zero_le _)
    · have hf := kIf_f hf hc
      refine kJ_bipush 77 (-2) d_M_ofItem_75 kb_m2 rfl ?_
      refine kJ_goto 93 d_M_ofItem_77 rfl ?_
      cases hf
      exact kJ_iret d_M_ofItem_93 rfl rfl (Nat.zero_le _) (Nat.zero_le _)
  · have hf := kIf_t hf (kB2_1 hc)
    refine kJ_aload_n 53 0 d_M_ofItem_52 rfl rfl rfl rfl ?_
    refine kM_getR 56 0 787 d_M_ofItem_53 l_M_7 km_786 rfl rfl rfl rfl ?_
    refine kJ_bipush 58 100 d_M_ofItem_56 kb_100 rfl ?_
    refine kJ_bipush 60 12 d_M_ofItem_58 kb_12 rfl ?_
    refine kJ_iload_n 61 1 d_M_ofItem_60 rfl rfl rfl ?_
    refine kJ_imul 62 d_M_ofItem_61 rfl ?_
    refine kJ_iadd 63 d_M_ofItem_62 rfl ?_
    refine kJ_iload_n 64 2 d_M_ofItem_63 rfl rfl rfl ?_
    refine kJ_iadd 65 d_M_ofItem_64 rfl ?_
    obtain ⟨hg, hf⟩ := kG_some hf
    refine kM_iald 66 760 d_M_ofItem_65 km_787 rfl hg rfl ?_
    refine kJ_goto 93 d_M_ofItem_66 rfl ?_
    cases hf
    exact kJ_iret d_M_ofItem_93 rfl rfl (Nat.zero_le _) (Nat.zero_le _)
def f_M_ofItem (h : kH) (x1 : Int32) (x2 : Int32) : Option (Int32 × kH) := kBi (f_M_isItem h x1) fun v1 => if v1 = true then (if (f_M_in x2 3 8) = true then (kBi (f_M_isAhead h x1) fun v4 => if v4 = true then (kBi (f_M_count6 h x1) fun h5 => kG (x2 - 3) 6 (some ((h5 795 (kx (x2 - 3))), h5))) else (b_M_ofItem_42 h x1 x2)) else (b_M_ofItem_42 h x1 x2)) else (some ((-1), h))
theorem j_M_ofItem {E : kE} {L : Nat} {xs : Nat → Int32} (hro : kRo E L xs) {h : kH} {x1 : Int32} {x2 : Int32} {r : Int32} {h' : kH} (hf : f_M_ofItem h x1 x2 = some (r, h')) : JM E m_M_ofItem [.ref 786, .int x1, .int x2] (mk h) (some r) (mk h') := by
  unfold f_M_ofItem at hf
  refine JM.of pn_M (Nat.le_of_ble_eq_true rfl) ?_
  show kJ E m_M_ofItem (some r) (mk h') 0 0 0 [(0, .ref 786), (1, .int x1), (2, .int x2)] [] (mk h)
  refine kJ_aload_n 1 0 d_M_ofItem_0 rfl rfl rfl rfl ?_
  refine kJ_iload_n 2 1 d_M_ofItem_1 rfl rfl rfl ?_
  obtain ⟨v1, ev1, hf⟩ := kBi_some hf
  refine kM_callv 5 m_M_isItem [.int x1] [] d_M_ofItem_2 cl_M_78 ⟨w_928, w_71⟩ km_786 ⟨rfl, by decide⟩ ⟨_, _, rfl⟩ rfl rfl (Nat.le_of_ble_eq_true rfl) ⟨Nat.le_of_ble_eq_true rfl, Nat.le_of_ble_eq_true rfl⟩ ⟨rfl, rfl⟩ ⟨Nat.zero_le _, Nat.zero_le _⟩ (j_M_isItem hro ev1) rfl ?_
  refine kJ_if_ne 8 10 d_M_ofItem_5 rfl rfl (fun hc => ?_) (fun hc => ?_)
  · have hf := kIf_t hf (kB2_1 hc)
    refine kJ_iload_n 11 2 d_M_ofItem_10 rfl rfl rfl ?_
    refine kJ_iconst 12 3 d_M_ofItem_11 ki_3 rfl ?_
    refine kJ_bipush 14 8 d_M_ofItem_12 kb_8 rfl ?_
    refine kM_calls 17 m_M_in [.int x2, .int 3, .int 8] [] d_M_ofItem_14 cl_M_49 w_869 rfl rfl (Nat.le_of_ble_eq_true rfl) ⟨Nat.le_of_ble_eq_true rfl, Nat.le_of_ble_eq_true rfl⟩ ⟨rfl, rfl⟩ ⟨Nat.zero_le _, Nat.zero_le _⟩ (j_M_in hro rfl) rfl ?_
    refine kJ_if_eq 20 42 d_M_ofItem_17 rfl rfl (fun hc => ?_) (fun hc => ?_)
    · have hf := kIf_f hf (kB2_0 hc)
      refine kJ_sub [0, 1, 2] rfl ?_
      exact c_M_ofItem_42 hro hf
    · have hf := kIf_t hf (kB2_1 hc)
      refine kJ_aload_n 21 0 d_M_ofItem_20 rfl rfl rfl rfl ?_
      refine kJ_iload_n 22 1 d_M_ofItem_21 rfl rfl rfl ?_
      obtain ⟨v4, ev4, hf⟩ := kBi_some hf
      refine kM_callv 25 m_M_isAhead [.int x1] [] d_M_ofItem_22 cl_M_84 ⟨w_936, w_72⟩ km_786 ⟨rfl, by decide⟩ ⟨_, _, rfl⟩ rfl rfl (Nat.le_of_ble_eq_true rfl) ⟨Nat.le_of_ble_eq_true rfl, Nat.le_of_ble_eq_true rfl⟩ ⟨rfl, rfl⟩ ⟨Nat.zero_le _, Nat.zero_le _⟩ (j_M_isAhead hro ev4) rfl ?_
      refine kJ_if_eq 28 42 d_M_ofItem_25 rfl rfl (fun hc => ?_) (fun hc => ?_)
      · have hf := kIf_f hf (kB2_0 hc)
        refine kJ_sub [0, 1, 2] rfl ?_
        exact c_M_ofItem_42 hro hf
      · have hf := kIf_t hf (kB2_1 hc)
        refine kJ_aload_n 29 0 d_M_ofItem_28 rfl rfl rfl rfl ?_
        refine kJ_iload_n 30 1 d_M_ofItem_29 rfl rfl rfl ?_
        obtain ⟨h5, eh5, hf⟩ := kBi_some hf
        refine kM_callv 33 m_M_count6 [.int x1] [] d_M_ofItem_30 cl_M_117 ⟨w_1003, w_84⟩ km_786 ⟨rfl, by decide⟩ ⟨_, _, rfl⟩ rfl rfl (Nat.le_of_ble_eq_true rfl) ⟨Nat.le_of_ble_eq_true rfl, Nat.le_of_ble_eq_true rfl⟩ ⟨rfl, rfl⟩ ⟨Nat.zero_le _, Nat.zero_le _⟩ (j_M_count6 hro eh5) rfl ?_
        refine kJ_aload_n 34 0 d_M_ofItem_33 rfl rfl rfl rfl ?_
        refine kM_getR 37 8 795 d_M_ofItem_34 l_M_35 km_786 rfl rfl rfl rfl ?_
        refine kJ_iload_n 38 2 d_M_ofItem_37 rfl rfl rfl ?_
        refine kJ_iconst 39 3 d_M_ofItem_38 ki_3 rfl ?_
        refine kJ_isub 40 d_M_ofItem_39 rfl ?_
        obtain ⟨hg, hf⟩ := kG_some hf
        refine kM_iald 41 6 d_M_ofItem_40 km_795 rfl hg rfl ?_
        cases hf
        exact kJ_iret d_M_ofItem_41 rfl rfl (Nat.zero_le _) (Nat.zero_le _)
  · have hf := kIf_f hf (kB2_0 hc)
    refine kJ_iconst 9 (-1) d_M_ofItem_8 ki_m1 rfl ?_
    cases hf
    exact kJ_iret d_M_ofItem_9 rfl rfl (Nat.zero_le _) (Nat.zero_le _)
def f_M_at (h : kH) (x1 : Int32) (x2 : Int32) (x3 : Int32) : Option (Int32 × kH) := kBi (f_M_isMember h x1) fun v1 => if v1 = true then (kBi (f_M_isItem h x2) fun v2 => if v2 = true then (kBi (f_M_layVoices h x2) fun h3 => if x3 = 0 then (kG x1 12 (some ((h3 793 (kx x1)), h3))) else (if x3 = 1 then (kBi (f_M_pair h3 x2 x1 1) fun v5 => some (v5, h3)) else (if x3 = 2 then (kBi (f_M_pair h3 x2 x1 2) fun v6 => some (v6, h3)) else (if x3 = 3 then (kBi (f_M_wayOf h3 x1 x2) fun v7 => some (v7, h3)) else (if x3 = 4 then (kBi (f_M_pair h3 x2 x1 0) fun v8 => some (v8, h3)) else (if x3 = 5 then (kBi (f_M_isRecused h3 x1 x2) fun v9 => if v9 = true then (some (1, h3)) else (some (0, h3))) else (if x3 = 6 then (kG x1 12 (some ((h3 794 (kx x1)), h3))) else (some ((-2), h3))))))))) else (some ((-1), h))) else (some ((-1), h))
theorem j_M_at {E : kE} {L : Nat} {xs : Nat → Int32} (hro : kRo E L xs) {h : kH} {x1 : Int32} {x2 : Int32} {x3 : Int32} {r : Int32} {h' : kH} (hf : f_M_at h x1 x2 x3 = some (r, h')) : JM E m_M_at [.ref 786, .int x1, .int x2, .int x3] (mk h) (some r) (mk h') := by
  unfold f_M_at at hf
  refine JM.of pn_M (Nat.le_of_ble_eq_true rfl) ?_
  show kJ E m_M_at (some r) (mk h') 0 0 0 [(0, .ref 786), (1, .int x1), (2, .int x2), (3, .int x3)] [] (mk h)
  refine kJ_aload_n 1 0 d_M_at_0 rfl rfl rfl rfl ?_
  refine kJ_iload_n 2 1 d_M_at_1 rfl rfl rfl ?_
  obtain ⟨v1, ev1, hf⟩ := kBi_some hf
  refine kM_callv 5 m_M_isMember [.int x1] [] d_M_at_2 cl_M_56 ⟨w_889, w_66⟩ km_786 ⟨rfl, by decide⟩ ⟨_, _, rfl⟩ rfl rfl (Nat.le_of_ble_eq_true rfl) ⟨Nat.le_of_ble_eq_true rfl, Nat.le_of_ble_eq_true rfl⟩ ⟨rfl, rfl⟩ ⟨Nat.zero_le _, Nat.zero_le _⟩ (j_M_isMember hro ev1) rfl ?_
  refine kJ_if_eq 8 16 d_M_at_5 rfl rfl (fun hc => ?_) (fun hc => ?_)
  · have hf := kIf_f hf (kB2_0 hc)
    refine kJ_iconst 17 (-1) d_M_at_16 ki_m1 rfl ?_
    cases hf
    exact kJ_iret d_M_at_17 rfl rfl (Nat.zero_le _) (Nat.zero_le _)
  · have hf := kIf_t hf (kB2_1 hc)
    refine kJ_aload_n 9 0 d_M_at_8 rfl rfl rfl rfl ?_
    refine kJ_iload_n 10 2 d_M_at_9 rfl rfl rfl ?_
    obtain ⟨v2, ev2, hf⟩ := kBi_some hf
    refine kM_callv 13 m_M_isItem [.int x2] [] d_M_at_10 cl_M_78 ⟨w_928, w_71⟩ km_786 ⟨rfl, by decide⟩ ⟨_, _, rfl⟩ rfl rfl (Nat.le_of_ble_eq_true rfl) ⟨Nat.le_of_ble_eq_true rfl, Nat.le_of_ble_eq_true rfl⟩ ⟨rfl, rfl⟩ ⟨Nat.zero_le _, Nat.zero_le _⟩ (j_M_isItem hro ev2) rfl ?_
    refine kJ_if_ne 16 18 d_M_at_13 rfl rfl (fun hc => ?_) (fun hc => ?_)
    · have hf := kIf_t hf (kB2_1 hc)
      refine kJ_aload_n 19 0 d_M_at_18 rfl rfl rfl rfl ?_
      refine kJ_iload_n 20 2 d_M_at_19 rfl rfl rfl ?_
      obtain ⟨h3, eh3, hf⟩ := kBi_some hf
      refine kM_callv 23 m_M_layVoices [.int x2] [] d_M_at_20 cl_M_104 ⟨w_971, w_78⟩ km_786 ⟨rfl, by decide⟩ ⟨_, _, rfl⟩ rfl rfl (Nat.le_of_ble_eq_true rfl) ⟨Nat.le_of_ble_eq_true rfl, Nat.le_of_ble_eq_true rfl⟩ ⟨rfl, rfl⟩ ⟨Nat.zero_le _, Nat.zero_le _⟩ (j_M_layVoices hro eh3) rfl ?_
      refine kJ_iload_n 24 3 d_M_at_23 rfl rfl rfl ?_
      by_cases c0 : x3 = 0
      · have hf := kIf_t hf c0
        refine kJ_tabIn 64 d_M_at_24 (by rw [c0]; try decide) (by rw [c0]; try decide) (by rw [c0]; try rfl) rfl ?_
        refine kJ_aload_n 65 0 d_M_at_64 rfl rfl rfl rfl ?_
        refine kM_getR 68 6 793 d_M_at_65 l_M_29 km_786 rfl rfl rfl rfl ?_
        refine kJ_iload_n 69 1 d_M_at_68 rfl rfl rfl ?_
        obtain ⟨hg, hf⟩ := kG_some hf
        refine kM_iald 70 12 d_M_at_69 km_793 rfl hg rfl ?_
        cases hf
        exact kJ_iret d_M_at_70 rfl rfl (Nat.zero_le _) (Nat.zero_le _)
      · have hf := kIf_f hf c0
        by_cases c1 : x3 = 1
        · have hf := kIf_t hf c1
          refine kJ_tabIn 71 d_M_at_24 (by rw [c1]; try decide) (by rw [c1]; try decide) (by rw [c1]; try rfl) rfl ?_
          refine kJ_aload_n 72 0 d_M_at_71 rfl rfl rfl rfl ?_
          refine kJ_iload_n 73 2 d_M_at_72 rfl rfl rfl ?_
          refine kJ_iload_n 74 1 d_M_at_73 rfl rfl rfl ?_
          refine kJ_iconst 75 1 d_M_at_74 ki_1 rfl ?_
          obtain ⟨v5, ev5, hf⟩ := kBi_some hf
          refine kM_callv 78 m_M_pair [.int x2, .int x1, .int 1] [] d_M_at_75 cl_M_94 ⟨w_983, w_81⟩ km_786 ⟨rfl, by decide⟩ ⟨_, _, rfl⟩ rfl rfl (Nat.le_of_ble_eq_true rfl) ⟨Nat.le_of_ble_eq_true rfl, Nat.le_of_ble_eq_true rfl⟩ ⟨rfl, rfl⟩ ⟨Nat.zero_le _, Nat.zero_le _⟩ (j_M_pair hro ev5) rfl ?_
          cases hf
          exact kJ_iret d_M_at_78 rfl rfl (Nat.zero_le _) (Nat.zero_le _)
        · have hf := kIf_f hf c1
          by_cases c2 : x3 = 2
          · have hf := kIf_t hf c2
            refine kJ_tabIn 79 d_M_at_24 (by rw [c2]; try decide) (by rw [c2]; try decide) (by rw [c2]; try rfl) rfl ?_
            refine kJ_aload_n 80 0 d_M_at_79 rfl rfl rfl rfl ?_
            refine kJ_iload_n 81 2 d_M_at_80 rfl rfl rfl ?_
            refine kJ_iload_n 82 1 d_M_at_81 rfl rfl rfl ?_
            refine kJ_iconst 83 2 d_M_at_82 ki_2 rfl ?_
            obtain ⟨v6, ev6, hf⟩ := kBi_some hf
            refine kM_callv 86 m_M_pair [.int x2, .int x1, .int 2] [] d_M_at_83 cl_M_94 ⟨w_983, w_81⟩ km_786 ⟨rfl, by decide⟩ ⟨_, _, rfl⟩ rfl rfl (Nat.le_of_ble_eq_true rfl) ⟨Nat.le_of_ble_eq_true rfl, Nat.le_of_ble_eq_true rfl⟩ ⟨rfl, rfl⟩ ⟨Nat.zero_le _, Nat.zero_le _⟩ (j_M_pair hro ev6) rfl ?_
            cases hf
            exact kJ_iret d_M_at_86 rfl rfl (Nat.zero_le _) (Nat.zero_le _)
          · have hf := kIf_f hf c2
            by_cases c3 : x3 = 3
            · have hf := kIf_t hf c3
              refine kJ_tabIn 87 d_M_at_24 (by rw [c3]; try decide) (by rw [c3]; try decide) (by rw [c3]; try rfl) rfl ?_
              refine kJ_aload_n 88 0 d_M_at_87 rfl rfl rfl rfl ?_
              refine kJ_iload_n 89 1 d_M_at_88 rfl rfl rfl ?_
              refine kJ_iload_n 90 2 d_M_at_89 rfl rfl rfl ?_
              obtain ⟨v7, ev7, hf⟩ := kBi_some hf
              refine kM_callv 93 m_M_wayOf [.int x1, .int x2] [] d_M_at_90 cl_M_108 ⟨w_1007, w_85⟩ km_786 ⟨rfl, by decide⟩ ⟨_, _, rfl⟩ rfl rfl (Nat.le_of_ble_eq_true rfl) ⟨Nat.le_of_ble_eq_true rfl, Nat.le_of_ble_eq_true rfl⟩ ⟨rfl, rfl⟩ ⟨Nat.zero_le _, Nat.zero_le _⟩ (j_M_wayOf hro ev7) rfl ?_
              cases hf
              exact kJ_iret d_M_at_93 rfl rfl (Nat.zero_le _) (Nat.zero_le _)
            · have hf := kIf_f hf c3
              by_cases c4 : x3 = 4
              · have hf := kIf_t hf c4
                refine kJ_tabIn 94 d_M_at_24 (by rw [c4]; try decide) (by rw [c4]; try decide) (by rw [c4]; try rfl) rfl ?_
                refine kJ_aload_n 95 0 d_M_at_94 rfl rfl rfl rfl ?_
                refine kJ_iload_n 96 2 d_M_at_95 rfl rfl rfl ?_
                refine kJ_iload_n 97 1 d_M_at_96 rfl rfl rfl ?_
                refine kJ_iconst 98 0 d_M_at_97 ki_0 rfl ?_
                obtain ⟨v8, ev8, hf⟩ := kBi_some hf
                refine kM_callv 101 m_M_pair [.int x2, .int x1, .int 0] [] d_M_at_98 cl_M_94 ⟨w_983, w_81⟩ km_786 ⟨rfl, by decide⟩ ⟨_, _, rfl⟩ rfl rfl (Nat.le_of_ble_eq_true rfl) ⟨Nat.le_of_ble_eq_true rfl, Nat.le_of_ble_eq_true rfl⟩ ⟨rfl, rfl⟩ ⟨Nat.zero_le _, Nat.zero_le _⟩ (j_M_pair hro ev8) rfl ?_
                cases hf
                exact kJ_iret d_M_at_101 rfl rfl (Nat.zero_le _) (Nat.zero_le _)
              · have hf := kIf_f hf c4
                by_cases c5 : x3 = 5
                · have hf := kIf_t hf c5
                  refine kJ_tabIn 102 d_M_at_24 (by rw [c5]; try decide) (by rw [c5]; try decide) (by rw [c5]; try rfl) rfl ?_
                  refine kJ_aload_n 103 0 d_M_at_102 rfl rfl rfl rfl ?_
                  refine kJ_iload_n 104 1 d_M_at_103 rfl rfl rfl ?_
                  refine kJ_iload_n 105 2 d_M_at_104 rfl rfl rfl ?_
                  obtain ⟨v9, ev9, hf⟩ := kBi_some hf
                  refine kM_callv 108 m_M_isRecused [.int x1, .int x2] [] d_M_at_105 cl_M_91 ⟨w_948, w_74⟩ km_786 ⟨rfl, by decide⟩ ⟨_, _, rfl⟩ rfl rfl (Nat.le_of_ble_eq_true rfl) ⟨Nat.le_of_ble_eq_true rfl, Nat.le_of_ble_eq_true rfl⟩ ⟨rfl, rfl⟩ ⟨Nat.zero_le _, Nat.zero_le _⟩ (j_M_isRecused hro ev9) rfl ?_
                  refine kJ_if_eq 111 115 d_M_at_108 rfl rfl (fun hc => ?_) (fun hc => ?_)
                  · have hf := kIf_f hf (kB2_0 hc)
                    refine kJ_iconst 116 0 d_M_at_115 ki_0 rfl ?_
                    cases hf
                    exact kJ_iret d_M_at_116 rfl rfl (Nat.zero_le _) (Nat.zero_le _)
                  · have hf := kIf_t hf (kB2_1 hc)
                    refine kJ_iconst 112 1 d_M_at_111 ki_1 rfl ?_
                    refine kJ_goto 116 d_M_at_112 rfl ?_
                    cases hf
                    exact kJ_iret d_M_at_116 rfl rfl (Nat.zero_le _) (Nat.zero_le _)
                · have hf := kIf_f hf c5
                  refine kJ_tabOut 117 d_M_at_24 (by have t0 := kne 0 c0 rfl; have t1 := kne 1 c1 rfl; have t2 := kne 2 c2 rfl; have t3 := kne 3 c3 rfl; have t4 := kne 4 c4 rfl; have t5 := kne 5 c5 rfl; omega) rfl ?_
                  refine kJ_iload_n 118 3 d_M_at_117 rfl rfl rfl ?_
                  refine kJ_bipush 120 6 d_M_at_118 kb_6 rfl ?_
                  refine kJ_icmp_ne 123 132 d_M_at_120 rfl rfl (fun hc => ?_) (fun hc => ?_)
                  · have hf := kIf_f hf hc
                    refine kJ_bipush 134 (-2) d_M_at_132 kb_m2 rfl ?_
                    cases hf
                    exact kJ_iret d_M_at_134 rfl rfl (Nat.zero_le _) (Nat.zero_le _)
                  · have hf := kIf_t hf hc
                    refine kJ_aload_n 124 0 d_M_at_123 rfl rfl rfl rfl ?_
                    refine kM_getR 127 7 794 d_M_at_124 l_M_32 km_786 rfl rfl rfl rfl ?_
                    refine kJ_iload_n 128 1 d_M_at_127 rfl rfl rfl ?_
                    obtain ⟨hg, hf⟩ := kG_some hf
                    refine kM_iald 129 12 d_M_at_128 km_794 rfl hg rfl ?_
                    refine kJ_goto 134 d_M_at_129 rfl ?_
                    cases hf
                    exact kJ_iret d_M_at_134 rfl rfl (Nat.zero_le _) (Nat.zero_le _)
    · have hf := kIf_f hf (kB2_0 hc)
      refine kJ_iconst 17 (-1) d_M_at_16 ki_m1 rfl ?_
      cases hf
      exact kJ_iret d_M_at_17 rfl rfl (Nat.zero_le _) (Nat.zero_le _)
def b_M_itemsIn_4 (h : kH) (x1 : Int32) : Nat → Int32 → Int32 → Option Int32
  | 0, _, _ => none
  | n + 1, x2, x3 => (fun rec4 => kG 8 760 (if (h 787 (kx 8)) ≤ x3 then (some x2) else (kBi (f_M_stateOf h x3) fun v1 => if v1 = x1 then (rec4 (x2 + 1) (x3 + 1)) else (rec4 (x2 + 0) (x3 + 1))))) (fun x2' x3' => b_M_itemsIn_4 h x1 n x2' x3')
theorem c_M_itemsIn_4 {E : kE} {L : Nat} {xs : Nat → Int32} (hro : kRo E L xs) {h : kH} {x1 : Int32} {r : Int32} : ∀ (n : Nat) (x2 : Int32) (x3 : Int32), b_M_itemsIn_4 h x1 n x2 x3 = some r → kJ E m_M_itemsIn (some r) (mk h) 0 0 4 [(0, .ref 786), (1, .int x1), (2, .int x2), (3, .int x3)] [] (mk h) := by
  intro n
  induction n with
  | zero =>
    intro x2 x3 hf
    have hf : (none : Option Int32) = some r := hf
    cases hf
  | succ n hrec4 =>
    intro x2 x3 hf
    rw [b_M_itemsIn_4] at hf
    dsimp only at hf
    refine kJ_iload_n 5 3 d_M_itemsIn_4 rfl rfl rfl ?_
    refine kJ_aload_n 6 0 d_M_itemsIn_5 rfl rfl rfl rfl ?_
    refine kM_getR 9 0 787 d_M_itemsIn_6 l_M_7 km_786 rfl rfl rfl rfl ?_
    refine kJ_bipush 11 8 d_M_itemsIn_9 kb_8 rfl ?_
    obtain ⟨hg, hf⟩ := kG_some hf
    refine kM_iald 12 760 d_M_itemsIn_11 km_787 rfl hg rfl ?_
    refine kJ_icmp_ge 15 38 d_M_itemsIn_12 rfl rfl (fun hc => ?_) (fun hc => ?_)
    · have hf := kIf_t hf hc
      refine kJ_iload_n 39 2 d_M_itemsIn_38 rfl rfl rfl ?_
      cases hf
      exact kJ_iret d_M_itemsIn_39 rfl rfl (Nat.zero_le _) (Nat.zero_le _)
    · have hf := kIf_f hf hc
      refine kJ_iload_n 16 2 d_M_itemsIn_15 rfl rfl rfl ?_
      refine kJ_aload_n 17 0 d_M_itemsIn_16 rfl rfl rfl rfl ?_
      refine kJ_iload_n 18 3 d_M_itemsIn_17 rfl rfl rfl ?_
      obtain ⟨v1, ev1, hf⟩ := kBi_some hf
      refine kM_callv 21 m_M_stateOf [.int x3] [.int x2] d_M_itemsIn_18 cl_M_81 ⟨w_940, w_73⟩ km_786 ⟨rfl, by decide⟩ ⟨_, _, rfl⟩ rfl rfl (Nat.le_of_ble_eq_true rfl) ⟨Nat.le_of_ble_eq_true rfl, Nat.le_of_ble_eq_true rfl⟩ ⟨rfl, rfl⟩ ⟨Nat.zero_le _, Nat.zero_le _⟩ (j_M_stateOf hro ev1) rfl ?_
      refine kJ_iload_n 22 1 d_M_itemsIn_21 rfl rfl rfl ?_
      refine kJ_icmp_ne 25 29 d_M_itemsIn_22 rfl rfl (fun hc => ?_) (fun hc => ?_)
      · have hf := kIf_f hf hc
        refine kJ_iconst 30 0 d_M_itemsIn_29 ki_0 rfl ?_
        refine kJ_iadd 31 d_M_itemsIn_30 rfl ?_
        refine kJ_istore_n 32 [(2, .int (x2 + 0)), (0, .ref 786), (1, .int x1), (3, .int x3)] d_M_itemsIn_31 rfl (Nat.le_of_ble_eq_true rfl) rfl rfl ?_
        refine kJ_iinc 35 3 [(3, .int (x3 + 1)), (2, .int (x2 + 0)), (0, .ref 786), (1, .int x1)] d_M_itemsIn_32 rfl ki_1 (Nat.le_of_ble_eq_true rfl) rfl rfl ?_
        refine kJ_goto 4 d_M_itemsIn_35 rfl ?_
        refine kJ_sub [2, 3, 1, 0] rfl ?_
        exact hrec4 (x2 + 0) (x3 + 1) hf
      · have hf := kIf_t hf hc
        refine kJ_iconst 26 1 d_M_itemsIn_25 ki_1 rfl ?_
        refine kJ_goto 30 d_M_itemsIn_26 rfl ?_
        refine kJ_iadd 31 d_M_itemsIn_30 rfl ?_
        refine kJ_istore_n 32 [(2, .int (x2 + 1)), (0, .ref 786), (1, .int x1), (3, .int x3)] d_M_itemsIn_31 rfl (Nat.le_of_ble_eq_true rfl) rfl rfl ?_
        refine kJ_iinc 35 3 [(3, .int (x3 + 1)), (2, .int (x2 + 1)), (0, .ref 786), (1, .int x1)] d_M_itemsIn_32 rfl ki_1 (Nat.le_of_ble_eq_true rfl) rfl rfl ?_
        refine kJ_goto 4 d_M_itemsIn_35 rfl ?_
        refine kJ_sub [2, 3, 1, 0] rfl ?_
        exact hrec4 (x2 + 1) (x3 + 1) hf
def f_M_itemsIn (h : kH) (x1 : Int32) : Option Int32 := b_M_itemsIn_4 h x1 kFuel 0 0
theorem j_M_itemsIn {E : kE} {L : Nat} {xs : Nat → Int32} (hro : kRo E L xs) {h : kH} {x1 : Int32} {r : Int32} (hf : f_M_itemsIn h x1 = some r) : JM E m_M_itemsIn [.ref 786, .int x1] (mk h) (some r) (mk h) := by
  unfold f_M_itemsIn at hf
  refine JM.of pn_M (Nat.le_of_ble_eq_true rfl) ?_
  show kJ E m_M_itemsIn (some r) (mk h) 0 0 0 [(0, .ref 786), (1, .int x1)] [] (mk h)
  refine kJ_iconst 1 0 d_M_itemsIn_0 ki_0 rfl ?_
  refine kJ_istore_n 2 [(2, .int 0), (0, .ref 786), (1, .int x1)] d_M_itemsIn_1 rfl (Nat.le_of_ble_eq_true rfl) rfl rfl ?_
  refine kJ_iconst 3 0 d_M_itemsIn_2 ki_0 rfl ?_
  refine kJ_istore_n 4 [(3, .int 0), (2, .int 0), (0, .ref 786), (1, .int x1)] d_M_itemsIn_3 rfl (Nat.le_of_ble_eq_true rfl) rfl rfl ?_
  refine kJ_sub [2, 3, 1, 0] rfl ?_
  exact c_M_itemsIn_4 hro kFuel 0 0 hf
def f_M_count (h : kH) (x1 : Int32) : Option Int32 := if (f_M_in x1 8 12) = true then (kBi (f_M_itemsIn h (x1 - 8)) fun v6 => some v6) else (if (f_M_in x1 16 21) = true then (kG (x1 - 16) 760 (some (h 787 (kx (x1 - 16))))) else (if x1 = 0 then (kG 6 760 (some (h 787 (kx 6)))) else (if x1 = 1 then (kG 7 760 (some (h 787 (kx 7)))) else (if x1 = 2 then (kG 8 760 (some (h 787 (kx 8)))) else (if x1 = 3 then (kBi (f_M_present h) fun v2 => some v2) else (if x1 = 4 then (kBi (f_M_itemIn h 1) fun v3 => some v3) else (if x1 = 5 then (kG 9 760 (some (h 787 (kx 9)))) else (if x1 = 6 then (kBi (f_M_chairNow h) fun v4 => some v4) else (if x1 = 7 then (kBi (f_M_allWeight h) fun v5 => some v5) else (if x1 = 8 then (if x1 = 15 then (some (h 786 3)) else (some (-2))) else (if x1 = 9 then (if x1 = 15 then (some (h 786 3)) else (some (-2))) else (if x1 = 10 then (if x1 = 15 then (some (h 786 3)) else (some (-2))) else (if x1 = 11 then (if x1 = 15 then (some (h 786 3)) else (some (-2))) else (if x1 = 12 then (if x1 = 15 then (some (h 786 3)) else (some (-2))) else (if x1 = 13 then (kG 10 760 (some (h 787 (kx 10)))) else (if x1 = 14 then (some (h 786 7)) else (if x1 = 15 then (some (h 786 3)) else (some (-2)))))))))))))))))))
theorem j_M_count {E : kE} {L : Nat} {xs : Nat → Int32} (hro : kRo E L xs) {h : kH} {x1 : Int32} {r : Int32} (hf : f_M_count h x1 = some r) : JM E m_M_count [.ref 786, .int x1] (mk h) (some r) (mk h) := by
  unfold f_M_count at hf
  refine JM.of pn_M (Nat.le_of_ble_eq_true rfl) ?_
  show kJ E m_M_count (some r) (mk h) 0 0 0 [(0, .ref 786), (1, .int x1)] [] (mk h)
  refine kJ_iload_n 1 1 d_M_count_0 rfl rfl rfl ?_
  refine kJ_bipush 3 8 d_M_count_1 kb_8 rfl ?_
  refine kJ_bipush 5 12 d_M_count_3 kb_12 rfl ?_
  refine kM_calls 8 m_M_in [.int x1, .int 8, .int 12] [] d_M_count_5 cl_M_49 w_869 rfl rfl (Nat.le_of_ble_eq_true rfl) ⟨Nat.le_of_ble_eq_true rfl, Nat.le_of_ble_eq_true rfl⟩ ⟨rfl, rfl⟩ ⟨Nat.zero_le _, Nat.zero_le _⟩ (j_M_in hro rfl) rfl ?_
  refine kJ_if_eq 11 20 d_M_count_8 rfl rfl (fun hc => ?_) (fun hc => ?_)
  · have hf := kIf_f hf (kB2_0 hc)
    refine kJ_iload_n 21 1 d_M_count_20 rfl rfl rfl ?_
    refine kJ_bipush 23 16 d_M_count_21 kb_16 rfl ?_
    refine kJ_bipush 25 21 d_M_count_23 kb_21 rfl ?_
    refine kM_calls 28 m_M_in [.int x1, .int 16, .int 21] [] d_M_count_25 cl_M_49 w_869 rfl rfl (Nat.le_of_ble_eq_true rfl) ⟨Nat.le_of_ble_eq_true rfl, Nat.le_of_ble_eq_true rfl⟩ ⟨rfl, rfl⟩ ⟨Nat.zero_le _, Nat.zero_le _⟩ (j_M_in hro rfl) rfl ?_
    refine kJ_if_eq 31 41 d_M_count_28 rfl rfl (fun hc => ?_) (fun hc => ?_)
    · have hf := kIf_f hf (kB2_0 hc)
      refine kJ_iload_n 42 1 d_M_count_41 rfl rfl rfl ?_
      by_cases c0 : x1 = 0
      · have hf := kIf_t hf c0
        refine kJ_tabIn 116 d_M_count_42 (by rw [c0]; try decide) (by rw [c0]; try decide) (by rw [c0]; try rfl) rfl ?_
        refine kJ_aload_n 117 0 d_M_count_116 rfl rfl rfl rfl ?_
        refine kM_getR 120 0 787 d_M_count_117 l_M_7 km_786 rfl rfl rfl rfl ?_
        refine kJ_bipush 122 6 d_M_count_120 kb_6 rfl ?_
        obtain ⟨hg, hf⟩ := kG_some hf
        refine kM_iald 123 760 d_M_count_122 km_787 rfl hg rfl ?_
        cases hf
        exact kJ_iret d_M_count_123 rfl rfl (Nat.zero_le _) (Nat.zero_le _)
      · have hf := kIf_f hf c0
        by_cases c1 : x1 = 1
        · have hf := kIf_t hf c1
          refine kJ_tabIn 124 d_M_count_42 (by rw [c1]; try decide) (by rw [c1]; try decide) (by rw [c1]; try rfl) rfl ?_
          refine kJ_aload_n 125 0 d_M_count_124 rfl rfl rfl rfl ?_
          refine kM_getR 128 0 787 d_M_count_125 l_M_7 km_786 rfl rfl rfl rfl ?_
          refine kJ_bipush 130 7 d_M_count_128 kb_7 rfl ?_
          obtain ⟨hg, hf⟩ := kG_some hf
          refine kM_iald 131 760 d_M_count_130 km_787 rfl hg rfl ?_
          cases hf
          exact kJ_iret d_M_count_131 rfl rfl (Nat.zero_le _) (Nat.zero_le _)
        · have hf := kIf_f hf c1
          by_cases c2 : x1 = 2
          · have hf := kIf_t hf c2
            refine kJ_tabIn 132 d_M_count_42 (by rw [c2]; try decide) (by rw [c2]; try decide) (by rw [c2]; try rfl) rfl ?_
            refine kJ_aload_n 133 0 d_M_count_132 rfl rfl rfl rfl ?_
            refine kM_getR 136 0 787 d_M_count_133 l_M_7 km_786 rfl rfl rfl rfl ?_
            refine kJ_bipush 138 8 d_M_count_136 kb_8 rfl ?_
            obtain ⟨hg, hf⟩ := kG_some hf
            refine kM_iald 139 760 d_M_count_138 km_787 rfl hg rfl ?_
            cases hf
            exact kJ_iret d_M_count_139 rfl rfl (Nat.zero_le _) (Nat.zero_le _)
          · have hf := kIf_f hf c2
            by_cases c3 : x1 = 3
            · have hf := kIf_t hf c3
              refine kJ_tabIn 140 d_M_count_42 (by rw [c3]; try decide) (by rw [c3]; try decide) (by rw [c3]; try rfl) rfl ?_
              refine kJ_aload_n 141 0 d_M_count_140 rfl rfl rfl rfl ?_
              obtain ⟨v2, ev2, hf⟩ := kBi_some hf
              refine kM_callv 144 m_M_present [] [] d_M_count_141 cl_M_67 ⟨w_905, w_69⟩ km_786 ⟨rfl, by decide⟩ ⟨_, _, rfl⟩ rfl rfl (Nat.le_of_ble_eq_true rfl) ⟨Nat.le_of_ble_eq_true rfl, Nat.le_of_ble_eq_true rfl⟩ ⟨rfl, rfl⟩ ⟨Nat.zero_le _, Nat.zero_le _⟩ (j_M_present hro ev2) rfl ?_
              cases hf
              exact kJ_iret d_M_count_144 rfl rfl (Nat.zero_le _) (Nat.zero_le _)
            · have hf := kIf_f hf c3
              by_cases c4 : x1 = 4
              · have hf := kIf_t hf c4
                refine kJ_tabIn 145 d_M_count_42 (by rw [c4]; try decide) (by rw [c4]; try decide) (by rw [c4]; try rfl) rfl ?_
                refine kJ_aload_n 146 0 d_M_count_145 rfl rfl rfl rfl ?_
                refine kJ_iconst 147 1 d_M_count_146 ki_1 rfl ?_
                obtain ⟨v3, ev3, hf⟩ := kBi_some hf
                refine kM_callv 150 m_M_itemIn [.int 1] [] d_M_count_147 cl_M_120 ⟨w_959, w_75⟩ km_786 ⟨rfl, by decide⟩ ⟨_, _, rfl⟩ rfl rfl (Nat.le_of_ble_eq_true rfl) ⟨Nat.le_of_ble_eq_true rfl, Nat.le_of_ble_eq_true rfl⟩ ⟨rfl, rfl⟩ ⟨Nat.zero_le _, Nat.zero_le _⟩ (j_M_itemIn hro ev3) rfl ?_
                cases hf
                exact kJ_iret d_M_count_150 rfl rfl (Nat.zero_le _) (Nat.zero_le _)
              · have hf := kIf_f hf c4
                by_cases c5 : x1 = 5
                · have hf := kIf_t hf c5
                  refine kJ_tabIn 151 d_M_count_42 (by rw [c5]; try decide) (by rw [c5]; try decide) (by rw [c5]; try rfl) rfl ?_
                  refine kJ_aload_n 152 0 d_M_count_151 rfl rfl rfl rfl ?_
                  refine kM_getR 155 0 787 d_M_count_152 l_M_7 km_786 rfl rfl rfl rfl ?_
                  refine kJ_bipush 157 9 d_M_count_155 kb_9 rfl ?_
                  obtain ⟨hg, hf⟩ := kG_some hf
                  refine kM_iald 158 760 d_M_count_157 km_787 rfl hg rfl ?_
                  cases hf
                  exact kJ_iret d_M_count_158 rfl rfl (Nat.zero_le _) (Nat.zero_le _)
                · have hf := kIf_f hf c5
                  by_cases c6 : x1 = 6
                  · have hf := kIf_t hf c6
                    refine kJ_tabIn 159 d_M_count_42 (by rw [c6]; try decide) (by rw [c6]; try decide) (by rw [c6]; try rfl) rfl ?_
                    refine kJ_aload_n 160 0 d_M_count_159 rfl rfl rfl rfl ?_
                    obtain ⟨v4, ev4, hf⟩ := kBi_some hf
                    refine kM_callv 163 m_M_chairNow [] [] d_M_count_160 cl_M_129 ⟨w_1015, w_86⟩ km_786 ⟨rfl, by decide⟩ ⟨_, _, rfl⟩ rfl rfl (Nat.le_of_ble_eq_true rfl) ⟨Nat.le_of_ble_eq_true rfl, Nat.le_of_ble_eq_true rfl⟩ ⟨rfl, rfl⟩ ⟨Nat.zero_le _, Nat.zero_le _⟩ (j_M_chairNow hro ev4) rfl ?_
                    cases hf
                    exact kJ_iret d_M_count_163 rfl rfl (Nat.zero_le _) (Nat.zero_le _)
                  · have hf := kIf_f hf c6
                    by_cases c7 : x1 = 7
                    · have hf := kIf_t hf c7
                      refine kJ_tabIn 164 d_M_count_42 (by rw [c7]; try decide) (by rw [c7]; try decide) (by rw [c7]; try rfl) rfl ?_
                      refine kJ_aload_n 165 0 d_M_count_164 rfl rfl rfl rfl ?_
                      obtain ⟨v5, ev5, hf⟩ := kBi_some hf
                      refine kM_callv 168 m_M_allWeight [] [] d_M_count_165 cl_M_114 ⟨w_987, w_82⟩ km_786 ⟨rfl, by decide⟩ ⟨_, _, rfl⟩ rfl rfl (Nat.le_of_ble_eq_true rfl) ⟨Nat.le_of_ble_eq_true rfl, Nat.le_of_ble_eq_true rfl⟩ ⟨rfl, rfl⟩ ⟨Nat.zero_le _, Nat.zero_le _⟩ (j_M_allWeight hro ev5) rfl ?_
                      cases hf
                      exact kJ_iret d_M_count_168 rfl rfl (Nat.zero_le _) (Nat.zero_le _)
                    · have hf := kIf_f hf c7
                      by_cases c8 : x1 = 8
                      · have hf := kIf_t hf c8
                        refine kJ_tabIn 182 d_M_count_42 (by rw [c8]; try decide) (by rw [c8]; try decide) (by rw [c8]; try rfl) rfl ?_
                        refine kJ_iload_n 183 1 d_M_count_182 rfl rfl rfl ?_
                        refine kJ_bipush 185 15 d_M_count_183 kb_15 rfl ?_
                        refine kJ_icmp_ne 188 195 d_M_count_185 rfl rfl (fun hc => ?_) (fun hc => ?_)
                        · have hf := kIf_f hf hc
                          refine kJ_bipush 197 (-2) d_M_count_195 kb_m2 rfl ?_
                          cases hf
                          exact kJ_iret d_M_count_197 rfl rfl (Nat.zero_le _) (Nat.zero_le _)
                        · have hf := kIf_t hf hc
                          refine kJ_aload_n 189 0 d_M_count_188 rfl rfl rfl rfl ?_
                          refine kM_getI 192 d_M_count_189 l_M_45 km_786 rfl rfl rfl ?_
                          refine kJ_goto 197 d_M_count_192 rfl ?_
                          cases hf
                          exact kJ_iret d_M_count_197 rfl rfl (Nat.zero_le _) (Nat.zero_le _)
                      · have hf := kIf_f hf c8
                        by_cases c9 : x1 = 9
                        · have hf := kIf_t hf c9
                          refine kJ_tabIn 182 d_M_count_42 (by rw [c9]; try decide) (by rw [c9]; try decide) (by rw [c9]; try rfl) rfl ?_
                          refine kJ_iload_n 183 1 d_M_count_182 rfl rfl rfl ?_
                          refine kJ_bipush 185 15 d_M_count_183 kb_15 rfl ?_
                          refine kJ_icmp_ne 188 195 d_M_count_185 rfl rfl (fun hc => ?_) (fun hc => ?_)
                          · have hf := kIf_f hf hc
                            refine kJ_bipush 197 (-2) d_M_count_195 kb_m2 rfl ?_
                            cases hf
                            exact kJ_iret d_M_count_197 rfl rfl (Nat.zero_le _) (Nat.zero_le _)
                          · have hf := kIf_t hf hc
                            refine kJ_aload_n 189 0 d_M_count_188 rfl rfl rfl rfl ?_
                            refine kM_getI 192 d_M_count_189 l_M_45 km_786 rfl rfl rfl ?_
                            refine kJ_goto 197 d_M_count_192 rfl ?_
                            cases hf
                            exact kJ_iret d_M_count_197 rfl rfl (Nat.zero_le _) (Nat.zero_le _)
                        · have hf := kIf_f hf c9
                          by_cases c10 : x1 = 10
                          · have hf := kIf_t hf c10
                            refine kJ_tabIn 182 d_M_count_42 (by rw [c10]; try decide) (by rw [c10]; try decide) (by rw [c10]; try rfl) rfl ?_
                            refine kJ_iload_n 183 1 d_M_count_182 rfl rfl rfl ?_
                            refine kJ_bipush 185 15 d_M_count_183 kb_15 rfl ?_
                            refine kJ_icmp_ne 188 195 d_M_count_185 rfl rfl (fun hc => ?_) (fun hc => ?_)
                            · have hf := kIf_f hf hc
                              refine kJ_bipush 197 (-2) d_M_count_195 kb_m2 rfl ?_
                              cases hf
                              exact kJ_iret d_M_count_197 rfl rfl (Nat.zero_le _) (Nat.zero_le _)
                            · have hf := kIf_t hf hc
                              refine kJ_aload_n 189 0 d_M_count_188 rfl rfl rfl rfl ?_
                              refine kM_getI 192 d_M_count_189 l_M_45 km_786 rfl rfl rfl ?_
                              refine kJ_goto 197 d_M_count_192 rfl ?_
                              cases hf
                              exact kJ_iret d_M_count_197 rfl rfl (Nat.zero_le _) (Nat.zero_le _)
                          · have hf := kIf_f hf c10
                            by_cases c11 : x1 = 11
                            · have hf := kIf_t hf c11
                              refine kJ_tabIn 182 d_M_count_42 (by rw [c11]; try decide) (by rw [c11]; try decide) (by rw [c11]; try rfl) rfl ?_
                              refine kJ_iload_n 183 1 d_M_count_182 rfl rfl rfl ?_
                              refine kJ_bipush 185 15 d_M_count_183 kb_15 rfl ?_
                              refine kJ_icmp_ne 188 195 d_M_count_185 rfl rfl (fun hc => ?_) (fun hc => ?_)
                              · have hf := kIf_f hf hc
                                refine kJ_bipush 197 (-2) d_M_count_195 kb_m2 rfl ?_
                                cases hf
                                exact kJ_iret d_M_count_197 rfl rfl (Nat.zero_le _) (Nat.zero_le _)
                              · have hf := kIf_t hf hc
                                refine kJ_aload_n 189 0 d_M_count_188 rfl rfl rfl rfl ?_
                                refine kM_getI 192 d_M_count_189 l_M_45 km_786 rfl rfl rfl ?_
                                refine kJ_goto 197 d_M_count_192 rfl ?_
                                cases hf
                                exact kJ_iret d_M_count_197 rfl rfl (Nat.zero_le _) (Nat.zero_le _)
                            · have hf := kIf_f hf c11
                              by_cases c12 : x1 = 12
                              · have hf := kIf_t hf c12
                                refine kJ_tabIn 182 d_M_count_42 (by rw [c12]; try decide) (by rw [c12]; try decide) (by rw [c12]; try rfl) rfl ?_
                                refine kJ_iload_n 183 1 d_M_count_182 rfl rfl rfl ?_
                                refine kJ_bipush 185 15 d_M_count_183 kb_15 rfl ?_
                                refine kJ_icmp_ne 188 195 d_M_count_185 rfl rfl (fun hc => ?_) (fun hc => ?_)
                                · have hf := kIf_f hf hc
                                  refine kJ_bipush 197 (-2) d_M_count_195 kb_m2 rfl ?_
                                  cases hf
                                  exact kJ_iret d_M_count_197 rfl rfl (Nat.zero_le _) (Nat.zero_le _)
                                · have hf := kIf_t hf hc
                                  refine kJ_aload_n 189 0 d_M_count_188 rfl rfl rfl rfl ?_
                                  refine kM_getI 192 d_M_count_189 l_M_45 km_786 rfl rfl rfl ?_
                                  refine kJ_goto 197 d_M_count_192 rfl ?_
                                  cases hf
                                  exact kJ_iret d_M_count_197 rfl rfl (Nat.zero_le _) (Nat.zero_le _)
                              · have hf := kIf_f hf c12
                                by_cases c13 : x1 = 13
                                · have hf := kIf_t hf c13
                                  refine kJ_tabIn 169 d_M_count_42 (by rw [c13]; try decide) (by rw [c13]; try decide) (by rw [c13]; try rfl) rfl ?_
                                  refine kJ_aload_n 170 0 d_M_count_169 rfl rfl rfl rfl ?_
                                  refine kM_getR 173 0 787 d_M_count_170 l_M_7 km_786 rfl rfl rfl rfl ?_
                                  refine kJ_bipush 175 10 d_M_count_173 kb_10 rfl ?_
                                  obtain ⟨hg, hf⟩ := kG_some hf
                                  refine kM_iald 176 760 d_M_count_175 km_787 rfl hg rfl ?_
                                  cases hf
                                  exact kJ_iret d_M_count_176 rfl rfl (Nat.zero_le _) (Nat.zero_le _)
                                · have hf := kIf_f hf c13
                                  by_cases c14 : x1 = 14
                                  · have hf := kIf_t hf c14
                                    refine kJ_tabIn 177 d_M_count_42 (by rw [c14]; try decide) (by rw [c14]; try decide) (by rw [c14]; try rfl) rfl ?_
                                    refine kJ_aload_n 178 0 d_M_count_177 rfl rfl rfl rfl ?_
                                    refine kM_getI 181 d_M_count_178 l_M_141 km_786 rfl rfl rfl ?_
                                    cases hf
                                    exact kJ_iret d_M_count_181 rfl rfl (Nat.zero_le _) (Nat.zero_le _)
                                  · have hf := kIf_f hf c14
                                    refine kJ_tabOut 182 d_M_count_42 (by have t0 := kne 0 c0 rfl; have t1 := kne 1 c1 rfl; have t2 := kne 2 c2 rfl; have t3 := kne 3 c3 rfl; have t4 := kne 4 c4 rfl; have t5 := kne 5 c5 rfl; have t6 := kne 6 c6 rfl; have t7 := kne 7 c7 rfl; have t8 := kne 8 c8 rfl; have t9 := kne 9 c9 rfl; have t10 := kne 10 c10 rfl; have t11 := kne 11 c11 rfl; have t12 := kne 12 c12 rfl; have t13 := kne 13 c13 rfl; have t14 := kne 14 c14 rfl; omega) rfl ?_
                                    refine kJ_iload_n 183 1 d_M_count_182 rfl rfl rfl ?_
                                    refine kJ_bipush 185 15 d_M_count_183 kb_15 rfl ?_
                                    refine kJ_icmp_ne 188 195 d_M_count_185 rfl rfl (fun hc => ?_) (fun hc => ?_)
                                    · have hf := kIf_f hf hc
                                      refine kJ_bipush 197 (-2) d_M_count_195 kb_m2 rfl ?_
                                      cases hf
                                      exact kJ_iret d_M_count_197 rfl rfl (Nat.zero_le _) (Nat.zero_le _)
                                    · have hf := kIf_t hf hc
                                      refine kJ_aload_n 189 0 d_M_count_188 rfl rfl rfl rfl ?_
                                      refine kM_getI 192 d_M_count_189 l_M_45 km_786 rfl rfl rfl ?_
                                      refine kJ_goto 197 d_M_count_192 rfl ?_
                                      cases hf
                                      exact kJ_iret d_M_count_197 rfl rfl (Nat.zero_le _) (Nat.zero_le _)
    · have hf := kIf_t hf (kB2_1 hc)
      refine kJ_aload_n 32 0 d_M_count_31 rfl rfl rfl rfl ?_
      refine kM_getR 35 0 787 d_M_count_32 l_M_7 km_786 rfl rfl rfl rfl ?_
      refine kJ_iload_n 36 1 d_M_count_35 rfl rfl rfl ?_
      refine kJ_bipush 38 16 d_M_count_36 kb_16 rfl ?_
      refine kJ_isub 39 d_M_count_38 rfl ?_
      obtain ⟨hg, hf⟩ := kG_some hf
      refine kM_iald 40 760 d_M_count_39 km_787 rfl hg rfl ?_
      cases hf
      exact kJ_iret d_M_count_40 rfl rfl (Nat.zero_le _) (Nat.zero_le _)
  · have hf := kIf_t hf (kB2_1 hc)
    refine kJ_aload_n 12 0 d_M_count_11 rfl rfl rfl rfl ?_
    refine kJ_iload_n 13 1 d_M_count_12 rfl rfl rfl ?_
    refine kJ_bipush 15 8 d_M_count_13 kb_8 rfl ?_
    refine kJ_isub 16 d_M_count_15 rfl ?_
    obtain ⟨v6, ev6, hf⟩ := kBi_some hf
    refine kM_callv 19 m_M_itemsIn [.int (x1 - 8)] [] d_M_count_16 cl_M_138 ⟨w_1047, w_89⟩ km_786 ⟨rfl, by decide⟩ ⟨_, _, rfl⟩ rfl rfl (Nat.le_of_ble_eq_true rfl) ⟨Nat.le_of_ble_eq_true rfl, Nat.le_of_ble_eq_true rfl⟩ ⟨rfl, rfl⟩ ⟨Nat.zero_le _, Nat.zero_le _⟩ (j_M_itemsIn hro ev6) rfl ?_
    cases hf
    exact kJ_iret d_M_count_19 rfl rfl (Nat.zero_le _) (Nat.zero_le _)
def f_M_wouldBe (h : kH) (x1 : Int32) : Option (Int32 × kH) := kBi (f_M_isItem h x1) fun v1 => if v1 = true then (kBi (f_M_isAhead h x1) fun v2 => if v2 = true then (kBd (f_M_outcome h x1) fun v4 h3 => some (v4, h3)) else (some ((-5), h))) else (some ((-1), h))
theorem j_M_wouldBe {E : kE} {L : Nat} {xs : Nat → Int32} (hro : kRo E L xs) {h : kH} {x1 : Int32} {r : Int32} {h' : kH} (hf : f_M_wouldBe h x1 = some (r, h')) : JM E m_M_wouldBe [.ref 786, .int x1] (mk h) (some r) (mk h') := by
  unfold f_M_wouldBe at hf
  refine JM.of pn_M (Nat.le_of_ble_eq_true rfl) ?_
  show kJ E m_M_wouldBe (some r) (mk h') 0 0 0 [(0, .ref 786), (1, .int x1)] [] (mk h)
  refine kJ_aload_n 1 0 d_M_wouldBe_0 rfl rfl rfl rfl ?_
  refine kJ_iload_n 2 1 d_M_wouldBe_1 rfl rfl rfl ?_
  obtain ⟨v1, ev1, hf⟩ := kBi_some hf
  refine kM_callv 5 m_M_isItem [.int x1] [] d_M_wouldBe_2 cl_M_78 ⟨w_928, w_71⟩ km_786 ⟨rfl, by decide⟩ ⟨_, _, rfl⟩ rfl rfl (Nat.le_of_ble_eq_true rfl) ⟨Nat.le_of_ble_eq_true rfl, Nat.le_of_ble_eq_true rfl⟩ ⟨rfl, rfl⟩ ⟨Nat.zero_le _, Nat.zero_le _⟩ (j_M_isItem hro ev1) rfl ?_
  refine kJ_if_ne 8 10 d_M_wouldBe_5 rfl rfl (fun hc => ?_) (fun hc => ?_)
  · have hf := kIf_t hf (kB2_1 hc)
    refine kJ_aload_n 11 0 d_M_wouldBe_10 rfl rfl rfl rfl ?_
    refine kJ_iload_n 12 1 d_M_wouldBe_11 rfl rfl rfl ?_
    obtain ⟨v2, ev2, hf⟩ := kBi_some hf
    refine kM_callv 15 m_M_isAhead [.int x1] [] d_M_wouldBe_12 cl_M_84 ⟨w_936, w_72⟩ km_786 ⟨rfl, by decide⟩ ⟨_, _, rfl⟩ rfl rfl (Nat.le_of_ble_eq_true rfl) ⟨Nat.le_of_ble_eq_true rfl, Nat.le_of_ble_eq_true rfl⟩ ⟨rfl, rfl⟩ ⟨Nat.zero_le _, Nat.zero_le _⟩ (j_M_isAhead hro ev2) rfl ?_
    refine kJ_if_eq 18 26 d_M_wouldBe_15 rfl rfl (fun hc => ?_) (fun hc => ?_)
    · have hf := kIf_f hf (kB2_0 hc)
      refine kJ_bipush 28 (-5) d_M_wouldBe_26 kb_m5 rfl ?_
      cases hf
      exact kJ_iret d_M_wouldBe_28 rfl rfl (Nat.zero_le _) (Nat.zero_le _)
    · have hf := kIf_t hf (kB2_1 hc)
      refine kJ_aload_n 19 0 d_M_wouldBe_18 rfl rfl rfl rfl ?_
      refine kJ_iload_n 20 1 d_M_wouldBe_19 rfl rfl rfl ?_
      obtain ⟨v4, h3, ev4, hf⟩ := kBd_some hf
      refine kM_callv 23 m_M_outcome [.int x1] [] d_M_wouldBe_20 cl_M_126 ⟨w_999, w_83⟩ km_786 ⟨rfl, by decide⟩ ⟨_, _, rfl⟩ rfl rfl (Nat.le_of_ble_eq_true rfl) ⟨Nat.le_of_ble_eq_true rfl, Nat.le_of_ble_eq_true rfl⟩ ⟨rfl, rfl⟩ ⟨Nat.zero_le _, Nat.zero_le _⟩ (j_M_outcome hro ev4) rfl ?_
      refine kJ_goto 28 d_M_wouldBe_23 rfl ?_
      cases hf
      exact kJ_iret d_M_wouldBe_28 rfl rfl (Nat.zero_le _) (Nat.zero_le _)
  · have hf := kIf_f hf (kB2_0 hc)
    refine kJ_iconst 9 (-1) d_M_wouldBe_8 ki_m1 rfl ?_
    cases hf
    exact kJ_iret d_M_wouldBe_9 rfl rfl (Nat.zero_le _) (Nat.zero_le _)
def f_M_canVote (h : kH) (x1 : Int32) (x2 : Int32) : Option Bool := kBi (f_M_isPresent h x1) fun v1 => if v1 = true then (kBi (f_M_isRecused h x1 x2) fun v2 => if v2 = true then (some false) else (some true)) else (some false)
theorem j_M_canVote {E : kE} {L : Nat} {xs : Nat → Int32} (hro : kRo E L xs) {h : kH} {x1 : Int32} {x2 : Int32} {r : Bool} (hf : f_M_canVote h x1 x2 = some r) : JM E m_M_canVote [.ref 786, .int x1, .int x2] (mk h) (some (kB2 r)) (mk h) := by
  unfold f_M_canVote at hf
  refine JM.of pn_M (Nat.le_of_ble_eq_true rfl) ?_
  show kJ E m_M_canVote (some (kB2 r)) (mk h) 0 0 0 [(0, .ref 786), (1, .int x1), (2, .int x2)] [] (mk h)
  refine kJ_aload_n 1 0 d_M_canVote_0 rfl rfl rfl rfl ?_
  refine kJ_iload_n 2 1 d_M_canVote_1 rfl rfl rfl ?_
  obtain ⟨v1, ev1, hf⟩ := kBi_some hf
  refine kM_callv 5 m_M_isPresent [.int x1] [] d_M_canVote_2 cl_M_64 ⟨w_909, w_70⟩ km_786 ⟨rfl, by decide⟩ ⟨_, _, rfl⟩ rfl rfl (Nat.le_of_ble_eq_true rfl) ⟨Nat.le_of_ble_eq_true rfl, Nat.le_of_ble_eq_true rfl⟩ ⟨rfl, rfl⟩ ⟨Nat.zero_le _, Nat.zero_le _⟩ (j_M_isPresent hro ev1) rfl ?_
  refine kJ_if_eq 8 21 d_M_canVote_5 rfl rfl (fun hc => ?_) (fun hc => ?_)
  · have hf := kIf_f hf (kB2_0 hc)
    refine kJ_iconst 22 0 d_M_canVote_21 ki_0 rfl ?_
    cases hf
    exact kJ_iret d_M_canVote_22 rfl (kB2_z _) (Nat.zero_le _) (Nat.zero_le _)
  · have hf := kIf_t hf (kB2_1 hc)
    refine kJ_aload_n 9 0 d_M_canVote_8 rfl rfl rfl rfl ?_
    refine kJ_iload_n 10 1 d_M_canVote_9 rfl rfl rfl ?_
    refine kJ_iload_n 11 2 d_M_canVote_10 rfl rfl rfl ?_
    obtain ⟨v2, ev2, hf⟩ := kBi_some hf
    refine kM_callv 14 m_M_isRecused [.int x1, .int x2] [] d_M_canVote_11 cl_M_91 ⟨w_948, w_74⟩ km_786 ⟨rfl, by decide⟩ ⟨_, _, rfl⟩ rfl rfl (Nat.le_of_ble_eq_true rfl) ⟨Nat.le_of_ble_eq_true rfl, Nat.le_of_ble_eq_true rfl⟩ ⟨rfl, rfl⟩ ⟨Nat.zero_le _, Nat.zero_le _⟩ (j_M_isRecused hro ev2) rfl ?_
    refine kJ_if_ne 17 21 d_M_canVote_14 rfl rfl (fun hc => ?_) (fun hc => ?_)
    · have hf := kIf_t hf (kB2_1 hc)
      refine kJ_iconst 22 0 d_M_canVote_21 ki_0 rfl ?_
      cases hf
      exact kJ_iret d_M_canVote_22 rfl (kB2_z _) (Nat.zero_le _) (Nat.zero_le _)
    · have hf := kIf_f hf (kB2_0 hc)
      refine kJ_iconst 18 1 d_M_canVote_17 ki_1 rfl ?_
      refine kJ_goto 22 d_M_canVote_18 rfl ?_
      cases hf
      exact kJ_iret d_M_canVote_22 rfl (kB2_z _) (Nat.zero_le _) (Nat.zero_le _)
