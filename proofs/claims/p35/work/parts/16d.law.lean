/-! CODE of the law as functions, with certificates: printed by wip/p35/emit.py. -/
def b_L_isPassed_73 (h : kH) (x1 : Int32) : Option (Bool × kH) := if x1 < 5 then (some (true, h)) else (kBi (f_P_count h 13) fun v9 => if v9 = 0 then (some (true, h)) else (some (false, h)))
theorem c_L_isPassed_73 {E : kE} {L : Nat} {xs : Nat → Int32} (hro : kRo E L xs) {K : List Nat} {h : kH} {x1 : Int32} {r : Bool} {h' : kH} (hf : b_L_isPassed_73 h x1 = some (r, h')) : kJ E m_L_isPassed (some (kB2 r)) (mk K h') 0 0 73 [(0, .ref 0), (1, .int x1)] [] (mk K h) := by
  unfold b_L_isPassed_73 at hf
  refine kJ_iload_n 74 1 d_L_isPassed_73 rfl rfl rfl ?_
  refine kJ_iconst 75 5 d_L_isPassed_74 ki_5 rfl ?_
  refine kJ_icmp_lt 78 87 d_L_isPassed_75 rfl rfl (fun hc => ?_) (fun hc => ?_)
  · have hf := kIf_t hf hc
    refine kJ_iconst 88 1 d_L_isPassed_87 ki_1 rfl ?_
    refine kJ_goto 92 d_L_isPassed_88 rfl ?_
    cases hf
    exact kJ_iret d_L_isPassed_92 rfl (kB2_z _) (Nat.zero_le _) (Nat.zero_le _)
  · have hf := kIf_f hf hc
    refine kJ_aload_n 79 0 d_L_isPassed_78 rfl rfl rfl rfl ?_
    refine kJ_bipush 81 13 d_L_isPassed_79 kb_13 rfl ?_
    obtain ⟨v9, ev9, hf⟩ := kBi_some hf
    refine kM_callv 84 m_P_count [.int 13] [] d_L_isPassed_81 cl_L_28 ⟨w_397, w_398⟩ (kp_0).x ⟨rfl, by decide⟩ ⟨_, _, rfl⟩ rfl rfl (Nat.le_of_ble_eq_true rfl) ⟨Nat.le_of_ble_eq_true rfl, Nat.le_of_ble_eq_true rfl⟩ ⟨rfl, rfl⟩ ⟨Nat.zero_le _, Nat.zero_le _⟩ (j_P_count hro ev9) rfl ?_
    refine kJ_if_ne 87 91 d_L_isPassed_84 rfl rfl (fun hc => ?_) (fun hc => ?_)
    · have hf := kIf_f hf hc
      refine kJ_iconst 92 0 d_L_isPassed_91 ki_0 rfl ?_
      cases hf
      exact kJ_iret d_L_isPassed_92 rfl (kB2_z _) (Nat.zero_le _) (Nat.zero_le _)
    · have hf := kIf_t hf hc
      refine kJ_iconst 88 1 d_L_isPassed_87 ki_1 rfl ?_
      refine kJ_goto 92 d_L_isPassed_88 rfl ?_
      cases hf
      exact kJ_iret d_L_isPassed_92 rfl (kB2_z _) (Nat.zero_le _) (Nat.zero_le _)
def f_L_isPassed (h : kH) (x1 : Int32) : Option (Bool × kH) := kBi (f_P_count h 0) fun v1 => kBi (f_P_count h 3) fun v2 => kBi (f_P_count h 13) fun v3 => kBd (f_P_pass h x1) fun v5 h4 => if v5 = (v1 + x1) then (kBi (f_P_count h4 0) fun v6 => if v6 = (v1 + x1) then (kBi (f_P_count h4 13) fun v7 => if v3 < v7 then (some (false, h4)) else (kBi (f_P_count h4 13) fun v8 => if v8 < v3 then (b_L_isPassed_73 h4 x1) else (kBi (f_P_count h4 3) fun v10 => if v10 = v2 then (b_L_isPassed_73 h4 x1) else (some (false, h4))))) else (some (false, h4))) else (some (false, h4))
theorem j_L_isPassed {E : kE} {L : Nat} {xs : Nat → Int32} (hro : kRo E L xs) {K : List Nat} {h : kH} {x1 : Int32} {r : Bool} {h' : kH} (hf : f_L_isPassed h x1 = some (r, h')) : JM E m_L_isPassed [.ref 0, .int x1] (mk K h) (some (kB2 r)) (mk K h') := by
  unfold f_L_isPassed at hf
  refine JM.of pn_L (Nat.le_of_ble_eq_true rfl) ?_
  show kJ E m_L_isPassed (some (kB2 r)) (mk K h') 0 0 0 [(0, .ref 0), (1, .int x1)] [] (mk K h)
  refine kJ_aload_n 1 0 d_L_isPassed_0 rfl rfl rfl rfl ?_
  refine kJ_iconst 2 0 d_L_isPassed_1 ki_0 rfl ?_
  obtain ⟨v1, ev1, hf⟩ := kBi_some hf
  refine kM_callv 5 m_P_count [.int 0] [] d_L_isPassed_2 cl_L_28 ⟨w_397, w_398⟩ (kp_0).x ⟨rfl, by decide⟩ ⟨_, _, rfl⟩ rfl rfl (Nat.le_of_ble_eq_true rfl) ⟨Nat.le_of_ble_eq_true rfl, Nat.le_of_ble_eq_true rfl⟩ ⟨rfl, rfl⟩ ⟨Nat.zero_le _, Nat.zero_le _⟩ (j_P_count hro ev1) rfl ?_
  refine kJ_istore_n 6 [(2, .int v1), (0, .ref 0), (1, .int x1)] d_L_isPassed_5 rfl (Nat.le_of_ble_eq_true rfl) rfl rfl ?_
  refine kJ_aload_n 7 1 d_L_isPassed_6 rfl rfl rfl rfl ?_
  refine kJ_iconst 8 3 d_L_isPassed_7 ki_3 rfl ?_
  obtain ⟨v2, ev2, hf⟩ := kBi_some hf
  refine kM_callv 11 m_P_count [.int 3] [] d_L_isPassed_8 cl_L_28 ⟨w_397, w_398⟩ (kp_0).x ⟨rfl, by decide⟩ ⟨_, _, rfl⟩ rfl rfl (Nat.le_of_ble_eq_true rfl) ⟨Nat.le_of_ble_eq_true rfl, Nat.le_of_ble_eq_true rfl⟩ ⟨rfl, rfl⟩ ⟨Nat.zero_le _, Nat.zero_le _⟩ (j_P_count hro ev2) rfl ?_
  refine kJ_istore_n 12 [(3, .int v2), (2, .int v1), (0, .ref 0), (1, .int x1)] d_L_isPassed_11 rfl (Nat.le_of_ble_eq_true rfl) rfl rfl ?_
  refine kJ_aload_n 13 2 d_L_isPassed_12 rfl rfl rfl rfl ?_
  refine kJ_bipush 15 13 d_L_isPassed_13 kb_13 rfl ?_
  obtain ⟨v3, ev3, hf⟩ := kBi_some hf
  refine kM_callv 18 m_P_count [.int 13] [] d_L_isPassed_15 cl_L_28 ⟨w_397, w_398⟩ (kp_0).x ⟨rfl, by decide⟩ ⟨_, _, rfl⟩ rfl rfl (Nat.le_of_ble_eq_true rfl) ⟨Nat.le_of_ble_eq_true rfl, Nat.le_of_ble_eq_true rfl⟩ ⟨rfl, rfl⟩ ⟨Nat.zero_le _, Nat.zero_le _⟩ (j_P_count hro ev3) rfl ?_
  refine kJ_istore 20 [(4, .int v3), (3, .int v2), (2, .int v1), (0, .ref 0), (1, .int x1)] d_L_isPassed_18 (Nat.le_of_ble_eq_true rfl) rfl rfl ?_
  refine kJ_aload_n 21 3 d_L_isPassed_20 rfl rfl rfl rfl ?_
  refine kJ_iload_n 22 4 d_L_isPassed_21 rfl rfl rfl ?_
  obtain ⟨v5, h4, ev5, hf⟩ := kBd_some hf
  refine kM_callv 25 m_P_pass [.int x1] [] d_L_isPassed_22 cl_L_130 ⟨w_667, w_668⟩ (kp_0).x ⟨rfl, by decide⟩ ⟨_, _, rfl⟩ rfl rfl (Nat.le_of_ble_eq_true rfl) ⟨Nat.le_of_ble_eq_true rfl, Nat.le_of_ble_eq_true rfl⟩ ⟨rfl, rfl⟩ ⟨Nat.zero_le _, Nat.zero_le _⟩ (j_P_pass hro ev5) rfl ?_
  refine kJ_iload_n 26 2 d_L_isPassed_25 rfl rfl rfl ?_
  refine kJ_iload_n 27 4 d_L_isPassed_26 rfl rfl rfl ?_
  refine kJ_iadd 28 d_L_isPassed_27 rfl ?_
  refine kJ_icmp_ne 31 91 d_L_isPassed_28 rfl rfl (fun hc => ?_) (fun hc => ?_)
  · have hf := kIf_f hf hc
    refine kJ_iconst 92 0 d_L_isPassed_91 ki_0 rfl ?_
    cases hf
    exact kJ_iret d_L_isPassed_92 rfl (kB2_z _) (Nat.zero_le _) (Nat.zero_le _)
  · have hf := kIf_t hf hc
    refine kJ_aload_n 32 3 d_L_isPassed_31 rfl rfl rfl rfl ?_
    refine kJ_iconst 33 0 d_L_isPassed_32 ki_0 rfl ?_
    obtain ⟨v6, ev6, hf⟩ := kBi_some hf
    refine kM_callv 36 m_P_count [.int 0] [] d_L_isPassed_33 cl_L_28 ⟨w_397, w_398⟩ (kp_0).x ⟨rfl, by decide⟩ ⟨_, _, rfl⟩ rfl rfl (Nat.le_of_ble_eq_true rfl) ⟨Nat.le_of_ble_eq_true rfl, Nat.le_of_ble_eq_true rfl⟩ ⟨rfl, rfl⟩ ⟨Nat.zero_le _, Nat.zero_le _⟩ (j_P_count hro ev6) rfl ?_
    refine kJ_iload_n 37 2 d_L_isPassed_36 rfl rfl rfl ?_
    refine kJ_iload_n 38 4 d_L_isPassed_37 rfl rfl rfl ?_
    refine kJ_iadd 39 d_L_isPassed_38 rfl ?_
    refine kJ_icmp_ne 42 91 d_L_isPassed_39 rfl rfl (fun hc => ?_) (fun hc => ?_)
    · have hf := kIf_f hf hc
      refine kJ_iconst 92 0 d_L_isPassed_91 ki_0 rfl ?_
      cases hf
      exact kJ_iret d_L_isPassed_92 rfl (kB2_z _) (Nat.zero_le _) (Nat.zero_le _)
    · have hf := kIf_t hf hc
      refine kJ_aload_n 43 3 d_L_isPassed_42 rfl rfl rfl rfl ?_
      refine kJ_bipush 45 13 d_L_isPassed_43 kb_13 rfl ?_
      obtain ⟨v7, ev7, hf⟩ := kBi_some hf
      refine kM_callv 48 m_P_count [.int 13] [] d_L_isPassed_45 cl_L_28 ⟨w_397, w_398⟩ (kp_0).x ⟨rfl, by decide⟩ ⟨_, _, rfl⟩ rfl rfl (Nat.le_of_ble_eq_true rfl) ⟨Nat.le_of_ble_eq_true rfl, Nat.le_of_ble_eq_true rfl⟩ ⟨rfl, rfl⟩ ⟨Nat.zero_le _, Nat.zero_le _⟩ (j_P_count hro ev7) rfl ?_
      refine kJ_iload 50 0 d_L_isPassed_48 rfl rfl ?_
      refine kJ_icmp_gt 53 91 d_L_isPassed_50 rfl rfl (fun hc => ?_) (fun hc => ?_)
      · have hf := kIf_t hf hc
        refine kJ_iconst 92 0 d_L_isPassed_91 ki_0 rfl ?_
        cases hf
        exact kJ_iret d_L_isPassed_92 rfl (kB2_z _) (Nat.zero_le _) (Nat.zero_le _)
      · have hf := kIf_f hf hc
        refine kJ_aload_n 54 3 d_L_isPassed_53 rfl rfl rfl rfl ?_
        refine kJ_bipush 56 13 d_L_isPassed_54 kb_13 rfl ?_
        obtain ⟨v8, ev8, hf⟩ := kBi_some hf
        refine kM_callv 59 m_P_count [.int 13] [] d_L_isPassed_56 cl_L_28 ⟨w_397, w_398⟩ (kp_0).x ⟨rfl, by decide⟩ ⟨_, _, rfl⟩ rfl rfl (Nat.le_of_ble_eq_true rfl) ⟨Nat.le_of_ble_eq_true rfl, Nat.le_of_ble_eq_true rfl⟩ ⟨rfl, rfl⟩ ⟨Nat.zero_le _, Nat.zero_le _⟩ (j_P_count hro ev8) rfl ?_
        refine kJ_iload 61 0 d_L_isPassed_59 rfl rfl ?_
        refine kJ_icmp_lt 64 73 d_L_isPassed_61 rfl rfl (fun hc => ?_) (fun hc => ?_)
        · have hf := kIf_t hf hc
          refine kJ_sub [3, 4] rfl ?_
          exact c_L_isPassed_73 hro hf
        · have hf := kIf_f hf hc
          refine kJ_aload_n 65 3 d_L_isPassed_64 rfl rfl rfl rfl ?_
          refine kJ_iconst 66 3 d_L_isPassed_65 ki_3 rfl ?_
          obtain ⟨v10, ev10, hf⟩ := kBi_some hf
          refine kM_callv 69 m_P_count [.int 3] [] d_L_isPassed_66 cl_L_28 ⟨w_397, w_398⟩ (kp_0).x ⟨rfl, by decide⟩ ⟨_, _, rfl⟩ rfl rfl (Nat.le_of_ble_eq_true rfl) ⟨Nat.le_of_ble_eq_true rfl, Nat.le_of_ble_eq_true rfl⟩ ⟨rfl, rfl⟩ ⟨Nat.zero_le _, Nat.zero_le _⟩ (j_P_count hro ev10) rfl ?_
          refine kJ_iload_n 70 1 d_L_isPassed_69 rfl rfl rfl ?_
          refine kJ_icmp_ne 73 91 d_L_isPassed_70 rfl rfl (fun hc => ?_) (fun hc => ?_)
          · have hf := kIf_f hf hc
            refine kJ_iconst 92 0 d_L_isPassed_91 ki_0 rfl ?_
            cases hf
            exact kJ_iret d_L_isPassed_92 rfl (kB2_z _) (Nat.zero_le _) (Nat.zero_le _)
          · have hf := kIf_t hf hc
            refine kJ_sub [3, 4] rfl ?_
            exact c_L_isPassed_73 hro hf
def b_L_isAct_126 (L : Nat) (xs : Nat → Int32) (K : List Nat) (h : kH) (s1 : Int32) (s2 : Bool) : Option (Bool × List Nat × kH) := kBd (f_L_isTurned h s1 (kB2 s2)) fun v9 h8 => some (v9, K, h8)
theorem c_L_isAct_126 {E : kE} {L : Nat} {xs : Nat → Int32} (hro : kRo E L xs) {K : List Nat} {h : kH} {s1 : Int32} {s2 : Bool} {r : Bool} {K' : List Nat} {h' : kH} (hf : b_L_isAct_126 L xs K h s1 s2 = some (r, K', h')) : kJ E m_L_isAct (some (kB2 r)) (mk K' h') 0 0 126 [] [.int (kB2 s2), .int s1, .ref 0] (mk K h) := by
  unfold b_L_isAct_126 at hf
  obtain ⟨v9, h8, ev9, hf⟩ := kBd_some hf
  refine kM_calls 129 m_L_isTurned [.ref 0, .int s1, .int (kB2 s2)] [] d_L_isAct_126 cl_L_97 w_526 rfl rfl (Nat.le_of_ble_eq_true rfl) ⟨Nat.le_of_ble_eq_true rfl, Nat.le_of_ble_eq_true rfl⟩ ⟨rfl, rfl⟩ ⟨Nat.zero_le _, Nat.zero_le _⟩ (j_L_isTurned hro ev9) rfl ?_
  cases hf
  exact kJ_iret d_L_isAct_129 rfl (kB2_z _) (Nat.zero_le _) (Nat.zero_le _)
def b_L_isAct_179 (L : Nat) (xs : Nat → Int32) (K : List Nat) (h : kH) (s1 : Int32) (s2 : Int32) (s3 : Int32) : Option (Bool × List Nat × kH) := kBd (f_L_isNamed h s1 s2 s3) fun v16 h15 => some (v16, K, h15)
theorem c_L_isAct_179 {E : kE} {L : Nat} {xs : Nat → Int32} (hro : kRo E L xs) {K : List Nat} {h : kH} {s1 : Int32} {s2 : Int32} {s3 : Int32} {r : Bool} {K' : List Nat} {h' : kH} (hf : b_L_isAct_179 L xs K h s1 s2 s3 = some (r, K', h')) : kJ E m_L_isAct (some (kB2 r)) (mk K' h') 0 0 179 [] [.int s3, .int s2, .int s1, .ref 0] (mk K h) := by
  unfold b_L_isAct_179 at hf
  obtain ⟨v16, h15, ev16, hf⟩ := kBd_some hf
  refine kM_calls 182 m_L_isNamed [.ref 0, .int s1, .int s2, .int s3] [] d_L_isAct_179 cl_L_101 w_554 rfl rfl (Nat.le_of_ble_eq_true rfl) ⟨Nat.le_of_ble_eq_true rfl, Nat.le_of_ble_eq_true rfl⟩ ⟨rfl, rfl⟩ ⟨Nat.zero_le _, Nat.zero_le _⟩ (j_L_isNamed hro ev16) rfl ?_
  cases hf
  exact kJ_iret d_L_isAct_182 rfl (kB2_z _) (Nat.zero_le _) (Nat.zero_le _)
def b_L_isAct_150 (L : Nat) (xs : Nat → Int32) (K : List Nat) (h : kH) (x2 : Int32) (s1 : Int32) (s2 : Int32) : Option (Bool × List Nat × kH) := kBi (f_L_cell L xs (x2 + 4) 6) fun v12 => if v12 = 0 then (b_L_isAct_179 L xs K h s1 s2 (-6)) else (kBi (f_P_count h 1) fun v13 => kBi (f_L_cell L xs (x2 + 4) v13) fun v14 => b_L_isAct_179 L xs K h s1 s2 v14)
theorem c_L_isAct_150 {E : kE} {L : Nat} {xs : Nat → Int32} (hro : kRo E L xs) {K : List Nat} {h : kH} {x2 : Int32} {s1 : Int32} {s2 : Int32} {r : Bool} {K' : List Nat} {h' : kH} (hf : b_L_isAct_150 L xs K h x2 s1 s2 = some (r, K', h')) : kJ E m_L_isAct (some (kB2 r)) (mk K' h') 0 0 150 [(0, .ref 0), (1, .retAddr 2), (2, .int x2)] [.int s2, .int s1, .ref 0] (mk K h) := by
  unfold b_L_isAct_150 at hf
  refine kJ_aload_n 151 1 d_L_isAct_150 rfl rfl rfl rfl ?_
  refine kJ_iload_n 152 2 d_L_isAct_151 rfl rfl rfl ?_
  refine kJ_iconst 153 4 d_L_isAct_152 ki_4 rfl ?_
  refine kJ_iadd 154 d_L_isAct_153 rfl ?_
  refine kJ_bipush 156 6 d_L_isAct_154 kb_6 rfl ?_
  obtain ⟨v12, ev12, hf⟩ := kBi_some hf
  refine kM_calls 159 m_L_cell [.retAddr 2, .int (x2 + 4), .int 6] [.int s2, .int s1, .ref 0] d_L_isAct_156 cl_L_93 w_418 rfl rfl (Nat.le_of_ble_eq_true rfl) ⟨Nat.le_of_ble_eq_true rfl, Nat.le_of_ble_eq_true rfl⟩ ⟨rfl, rfl⟩ ⟨Nat.zero_le _, Nat.zero_le _⟩ (j_L_cell hro ev12) rfl ?_
  refine kJ_if_ne 162 167 d_L_isAct_159 rfl rfl (fun hc => ?_) (fun hc => ?_)
  · have hf := kIf_f hf hc
    refine kJ_aload_n 168 1 d_L_isAct_167 rfl rfl rfl rfl ?_
    refine kJ_iload_n 169 2 d_L_isAct_168 rfl rfl rfl ?_
    refine kJ_iconst 170 4 d_L_isAct_169 ki_4 rfl ?_
    refine kJ_iadd 171 d_L_isAct_170 rfl ?_
    refine kJ_aload_n 172 0 d_L_isAct_171 rfl rfl rfl rfl ?_
    refine kJ_iconst 173 1 d_L_isAct_172 ki_1 rfl ?_
    obtain ⟨v13, ev13, hf⟩ := kBi_some hf
    refine kM_callv 176 m_P_count [.int 1] [.int (x2 + 4), .retAddr 2, .int s2, .int s1, .ref 0] d_L_isAct_173 cl_L_28 ⟨w_397, w_398⟩ (kp_0).x ⟨rfl, by decide⟩ ⟨_, _, rfl⟩ rfl rfl (Nat.le_of_ble_eq_true rfl) ⟨Nat.le_of_ble_eq_true rfl, Nat.le_of_ble_eq_true rfl⟩ ⟨rfl, rfl⟩ ⟨Nat.zero_le _, Nat.zero_le _⟩ (j_P_count hro ev13) rfl ?_
    obtain ⟨v14, ev14, hf⟩ := kBi_some hf
    refine kM_calls 179 m_L_cell [.retAddr 2, .int (x2 + 4), .int v13] [.int s2, .int s1, .ref 0] d_L_isAct_176 cl_L_93 w_418 rfl rfl (Nat.le_of_ble_eq_true rfl) ⟨Nat.le_of_ble_eq_true rfl, Nat.le_of_ble_eq_true rfl⟩ ⟨rfl, rfl⟩ ⟨Nat.zero_le _, Nat.zero_le _⟩ (j_L_cell hro ev14) rfl ?_
    refine kJ_sub [] rfl ?_
    exact c_L_isAct_179 hro hf
  · have hf := kIf_t hf hc
    refine kJ_bipush 164 (-6) d_L_isAct_162 kb_m6 rfl ?_
    refine kJ_goto 179 d_L_isAct_164 rfl ?_
    refine kJ_sub [] rfl ?_
    exact c_L_isAct_179 hro hf
def b_L_isAct_212 (L : Nat) (xs : Nat → Int32) (K : List Nat) (h : kH) (s1 : Int32) (s2 : Int32) (s3 : Int32) : Option (Bool × List Nat × kH) := kBd (f_L_isTold h s1 s2 s3) fun v21 h20 => some (v21, K, h20)
theorem c_L_isAct_212 {E : kE} {L : Nat} {xs : Nat → Int32} (hro : kRo E L xs) {K : List Nat} {h : kH} {s1 : Int32} {s2 : Int32} {s3 : Int32} {r : Bool} {K' : List Nat} {h' : kH} (hf : b_L_isAct_212 L xs K h s1 s2 s3 = some (r, K', h')) : kJ E m_L_isAct (some (kB2 r)) (mk K' h') 0 0 212 [] [.int s3, .int s2, .int s1, .ref 0] (mk K h) := by
  unfold b_L_isAct_212 at hf
  obtain ⟨v21, h20, ev21, hf⟩ := kBd_some hf
  refine kM_calls 215 m_L_isTold [.ref 0, .int s1, .int s2, .int s3] [] d_L_isAct_212 cl_L_105 w_566 rfl rfl (Nat.le_of_ble_eq_true rfl) ⟨Nat.le_of_ble_eq_true rfl, Nat.le_of_ble_eq_true rfl⟩ ⟨rfl, rfl⟩ ⟨Nat.zero_le _, Nat.zero_le _⟩ (j_L_isTold hro ev21) rfl ?_
  cases hf
  exact kJ_iret d_L_isAct_215 rfl (kB2_z _) (Nat.zero_le _) (Nat.zero_le _)
def b_L_isAct_330 (L : Nat) (xs : Nat → Int32) (K : List Nat) (h : kH) (s0 : Int32) (s1 : Int32) : Option (Bool × List Nat × kH) := if s0 = s1 then (some (true, K, h)) else (some (false, K, h))
theorem c_L_isAct_330 {E : kE} {L : Nat} {xs : Nat → Int32} (hro : kRo E L xs) {K : List Nat} {h : kH} {s0 : Int32} {s1 : Int32} {r : Bool} {K' : List Nat} {h' : kH} (hf : b_L_isAct_330 L xs K h s0 s1 = some (r, K', h')) : kJ E m_L_isAct (some (kB2 r)) (mk K' h') 0 0 330 [] [.int s1, .int s0] (mk K h) := by
  unfold b_L_isAct_330 at hf
  refine kJ_icmp_ne 333 337 d_L_isAct_330 rfl rfl (fun hc => ?_) (fun hc => ?_)
  · have hf := kIf_f hf hc
    refine kJ_iconst 338 0 d_L_isAct_337 ki_0 rfl ?_
    cases hf
    exact kJ_iret d_L_isAct_338 rfl (kB2_z _) (Nat.zero_le _) (Nat.zero_le _)
  · have hf := kIf_t hf hc
    refine kJ_iconst 334 1 d_L_isAct_333 ki_1 rfl ?_
    refine kJ_goto 338 d_L_isAct_334 rfl ?_
    cases hf
    exact kJ_iret d_L_isAct_338 rfl (kB2_z _) (Nat.zero_le _) (Nat.zero_le _)
def f_L_isAct (L : Nat) (xs : Nat → Int32) (K : List Nat) (h : kH) (x2 : Int32) : Option (Bool × List Nat × kH) := kBi (f_P_count h 1) fun v1 => kBi (f_L_cell L xs (x2 + 1) v1) fun v2 => kBi (f_P_count h 2) fun v3 => kBi (f_L_cell L xs (x2 + 2) v3) fun v4 => kBi (f_L_cell L xs x2 16) fun v5 => if v5 = 0 then (kBi (f_L_cell L xs (x2 + 3) 3) fun v7 => if v7 = 0 then (b_L_isAct_126 L xs K h v2 false) else (b_L_isAct_126 L xs K h v2 true)) else (if v5 = 1 then (kBi (f_L_cell L xs (x2 + 3) 3) fun v10 => if v10 = 0 then (b_L_isAct_126 L xs K h v2 false) else (b_L_isAct_126 L xs K h v2 true)) else (if v5 = 2 then (kBi (f_L_cell L xs (x2 + 3) 2) fun v11 => if v11 = 0 then (b_L_isAct_150 L xs K h x2 v2 (-6)) else (b_L_isAct_150 L xs K h x2 v2 v4)) else (if v5 = 3 then (kBi (f_L_cell L xs (x2 + 3) 2) fun v17 => if v17 = 0 then (b_L_isAct_150 L xs K h x2 v2 (-6)) else (b_L_isAct_150 L xs K h x2 v2 v4)) else (if v5 = 4 then (kBi (f_L_cell L xs (x2 + 3) 4) fun v18 => if v18 = 3 then (b_L_isAct_212 L xs K h v2 v4 (-6)) else (kBi (f_L_cell L xs (x2 + 3) 3) fun v19 => b_L_isAct_212 L xs K h v2 v4 v19)) else (if v5 = 5 then (kBi (f_L_cell L xs (x2 + 3) 2) fun v22 => kBd (f_L_isRecused h v2 v4 v22) fun v24 h23 => some (v24, K, h23)) else (if v5 = 6 then (kBt (f_L_isOpened K h v4) fun v26 K27 h25 => some (v26, K27, h25)) else (if v5 = 7 then (kBt (f_L_isOpened K h v4) fun v29 K30 h28 => some (v29, K30, h28)) else (if v5 = 8 then (kBi (f_L_cell L xs (x2 + 3) 3) fun v31 => kBd (f_L_isVoted h v2 v31) fun v33 h32 => some (v33, K, h32)) else (if v5 = 9 then (kBi (f_L_cell L xs (x2 + 3) 3) fun v34 => kBd (f_L_isVoted h v2 v34) fun v36 h35 => some (v36, K, h35)) else (if v5 = 10 then (kBi (f_L_cell L xs (x2 + 3) 3) fun v37 => kBd (f_L_isVoted h v2 v37) fun v39 h38 => some (v39, K, h38)) else (if v5 = 11 then (kBi (f_L_cell L xs (x2 + 3) 3) fun v40 => kBd (f_L_isVoted h v2 v40) fun v42 h41 => some (v42, K, h41)) else (if v5 = 12 then (kBt (f_L_isClosed K h) fun v44 K45 h43 => some (v44, K45, h43)) else (if v5 = 13 then (kBi (f_L_cell L xs (x2 + 3) 2) fun v46 => kBd (f_L_isCast h (1 + v46)) fun v48 h47 => some (v48, K, h47)) else (if v5 = 14 then (kBi (f_P_count h 0) fun v49 => kBi (f_P_count h 13) fun v50 => kBi (f_L_cell L xs (x2 + 3) 5) fun v51 => kBi (f_L_cell L xs (x2 + 4) 2) fun v52 => kBd (f_P_later h ((v49 + 1) + v51) v2 v52) fun v54 h53 => if v50 = 20 then (b_L_isAct_330 L xs K h53 v54 (-4)) else (b_L_isAct_330 L xs K h53 v54 (v50 + 1))) else (kBi (f_L_cell L xs (x2 + 3) 60) fun v55 => kBd (f_L_isPassed h (1 + v55)) fun v57 h56 => some (v57, K, h56))))))))))))))))
theorem j_L_isAct {E : kE} {L : Nat} {xs : Nat → Int32} (hro : kRo E L xs) {K : List Nat} {h : kH} {x2 : Int32} {r : Bool} {K' : List Nat} {h' : kH} (hf : f_L_isAct L xs K h x2 = some (r, K', h')) : JM E m_L_isAct [.ref 0, .retAddr 2, .int x2] (mk K h) (some (kB2 r)) (mk K' h') := by
  unfold f_L_isAct at hf
  refine JM.of pn_L (Nat.le_of_ble_eq_true rfl) ?_
  show kJ E m_L_isAct (some (kB2 r)) (mk K' h') 0 0 0 [(0, .ref 0), (1, .retAddr 2), (2, .int x2)] [] (mk K h)
  refine kJ_aload_n 1 1 d_L_isAct_0 rfl rfl rfl rfl ?_
  refine kJ_iload_n 2 2 d_L_isAct_1 rfl rfl rfl ?_
  refine kJ_iconst 3 1 d_L_isAct_2 ki_1 rfl ?_
  refine kJ_iadd 4 d_L_isAct_3 rfl ?_
  refine kJ_aload_n 5 0 d_L_isAct_4 rfl rfl rfl rfl ?_
  refine kJ_iconst 6 1 d_L_isAct_5 ki_1 rfl ?_
  obtain ⟨v1, ev1, hf⟩ := kBi_some hf
  refine kM_callv 9 m_P_count [.int 1] [.int (x2 + 1), .retAddr 2] d_L_isAct_6 cl_L_28 ⟨w_397, w_398⟩ (kp_0).x ⟨rfl, by decide⟩ ⟨_, _, rfl⟩ rfl rfl (Nat.le_of_ble_eq_true rfl) ⟨Nat.le_of_ble_eq_true rfl, Nat.le_of_ble_eq_true rfl⟩ ⟨rfl, rfl⟩ ⟨Nat.zero_le _, Nat.zero_le _⟩ (j_P_count hro ev1) rfl ?_
  obtain ⟨v2, ev2, hf⟩ := kBi_some hf
  refine kM_calls 12 m_L_cell [.retAddr 2, .int (x2 + 1), .int v1] [] d_L_isAct_9 cl_L_93 w_418 rfl rfl (Nat.le_of_ble_eq_true rfl) ⟨Nat.le_of_ble_eq_true rfl, Nat.le_of_ble_eq_true rfl⟩ ⟨rfl, rfl⟩ ⟨Nat.zero_le _, Nat.zero_le _⟩ (j_L_cell hro ev2) rfl ?_
  refine kJ_istore_n 13 [(3, .int v2), (0, .ref 0), (1, .retAddr 2), (2, .int x2)] d_L_isAct_12 rfl (Nat.le_of_ble_eq_true rfl) rfl rfl ?_
  refine kJ_aload_n 14 2 d_L_isAct_13 rfl rfl rfl rfl ?_
  refine kJ_iload_n 15 3 d_L_isAct_14 rfl rfl rfl ?_
  refine kJ_iconst 16 2 d_L_isAct_15 ki_2 rfl ?_
  refine kJ_iadd 17 d_L_isAct_16 rfl ?_
  refine kJ_aload_n 18 1 d_L_isAct_17 rfl rfl rfl rfl ?_
  refine kJ_iconst 19 2 d_L_isAct_18 ki_2 rfl ?_
  obtain ⟨v3, ev3, hf⟩ := kBi_some hf
  refine kM_callv 22 m_P_count [.int 2] [.int (x2 + 2), .retAddr 2] d_L_isAct_19 cl_L_28 ⟨w_397, w_398⟩ (kp_0).x ⟨rfl, by decide⟩ ⟨_, _, rfl⟩ rfl rfl (Nat.le_of_ble_eq_true rfl) ⟨Nat.le_of_ble_eq_true rfl, Nat.le_of_ble_eq_true rfl⟩ ⟨rfl, rfl⟩ ⟨Nat.zero_le _, Nat.zero_le _⟩ (j_P_count hro ev3) rfl ?_
  obtain ⟨v4, ev4, hf⟩ := kBi_some hf
  refine kM_calls 25 m_L_cell [.retAddr 2, .int (x2 + 2), .int v3] [] d_L_isAct_22 cl_L_93 w_418 rfl rfl (Nat.le_of_ble_eq_true rfl) ⟨Nat.le_of_ble_eq_true rfl, Nat.le_of_ble_eq_true rfl⟩ ⟨rfl, rfl⟩ ⟨Nat.zero_le _, Nat.zero_le _⟩ (j_L_cell hro ev4) rfl ?_
  refine kJ_istore 27 [(4, .int v4), (3, .int v2), (0, .ref 0), (1, .retAddr 2), (2, .int x2)] d_L_isAct_25 (Nat.le_of_ble_eq_true rfl) rfl rfl ?_
  refine kJ_aload_n 28 3 d_L_isAct_27 rfl rfl rfl rfl ?_
  refine kJ_iload_n 29 4 d_L_isAct_28 rfl rfl rfl ?_
  refine kJ_bipush 31 16 d_L_isAct_29 kb_16 rfl ?_
  obtain ⟨v5, ev5, hf⟩ := kBi_some hf
  refine kM_calls 34 m_L_cell [.retAddr 2, .int x2, .int 16] [] d_L_isAct_31 cl_L_93 w_418 rfl rfl (Nat.le_of_ble_eq_true rfl) ⟨Nat.le_of_ble_eq_true rfl, Nat.le_of_ble_eq_true rfl⟩ ⟨rfl, rfl⟩ ⟨Nat.zero_le _, Nat.zero_le _⟩ (j_L_cell hro ev5) rfl ?_
  by_cases c0 : v5 = 0
  · have hf := kIf_t hf c0
    refine kJ_tabIn 108 d_L_isAct_34 (by rw [c0]; try decide) (by rw [c0]; try decide) (by rw [c0]; try rfl) rfl ?_
    refine kJ_aload_n 109 2 d_L_isAct_108 rfl rfl rfl rfl ?_
    refine kJ_iload_n 110 1 d_L_isAct_109 rfl rfl rfl ?_
    refine kJ_aload_n 111 3 d_L_isAct_110 rfl rfl rfl rfl ?_
    refine kJ_iload_n 112 4 d_L_isAct_111 rfl rfl rfl ?_
    refine kJ_iconst 113 3 d_L_isAct_112 ki_3 rfl ?_
    refine kJ_iadd 114 d_L_isAct_113 rfl ?_
    refine kJ_iconst 115 3 d_L_isAct_114 ki_3 rfl ?_
    obtain ⟨v7, ev7, hf⟩ := kBi_some hf
    refine kM_calls 118 m_L_cell [.retAddr 2, .int (x2 + 3), .int 3] [.int v2, .ref 0] d_L_isAct_115 cl_L_93 w_418 rfl rfl (Nat.le_of_ble_eq_true rfl) ⟨Nat.le_of_ble_eq_true rfl, Nat.le_of_ble_eq_true rfl⟩ ⟨rfl, rfl⟩ ⟨Nat.zero_le _, Nat.zero_le _⟩ (j_L_cell hro ev7) rfl ?_
    refine kJ_if_ne 121 125 d_L_isAct_118 rfl rfl (fun hc => ?_) (fun hc => ?_)
    · have hf := kIf_f hf hc
      refine kJ_iconst 126 1 d_L_isAct_125 ki_1 rfl ?_
      refine kJ_sub [] rfl ?_
      exact c_L_isAct_126 hro hf
    · have hf := kIf_t hf hc
      refine kJ_iconst 122 0 d_L_isAct_121 ki_0 rfl ?_
      refine kJ_goto 126 d_L_isAct_122 rfl ?_
      refine kJ_sub [] rfl ?_
      exact c_L_isAct_126 hro hf
  · have hf := kIf_f hf c0
    by_cases c1 : v5 = 1
    · have hf := kIf_t hf c1
      refine kJ_tabIn 108 d_L_isAct_34 (by rw [c1]; try decide) (by rw [c1]; try decide) (by rw [c1]; try rfl) rfl ?_
      refine kJ_aload_n 109 2 d_L_isAct_108 rfl rfl rfl rfl ?_
      refine kJ_iload_n 110 1 d_L_isAct_109 rfl rfl rfl ?_
      refine kJ_aload_n 111 3 d_L_isAct_110 rfl rfl rfl rfl ?_
      refine kJ_iload_n 112 4 d_L_isAct_111 rfl rfl rfl ?_
      refine kJ_iconst 113 3 d_L_isAct_112 ki_3 rfl ?_
      refine kJ_iadd 114 d_L_isAct_113 rfl ?_
      refine kJ_iconst 115 3 d_L_isAct_114 ki_3 rfl ?_
      obtain ⟨v10, ev10, hf⟩ := kBi_some hf
      refine kM_calls 118 m_L_cell [.retAddr 2, .int (x2 + 3), .int 3] [.int v2, .ref 0] d_L_isAct_115 cl_L_93 w_418 rfl rfl (Nat.le_of_ble_eq_true rfl) ⟨Nat.le_of_ble_eq_true rfl, Nat.le_of_ble_eq_true rfl⟩ ⟨rfl, rfl⟩ ⟨Nat.zero_le _, Nat.zero_le _⟩ (j_L_cell hro ev10) rfl ?_
      refine kJ_if_ne 121 125 d_L_isAct_118 rfl rfl (fun hc => ?_) (fun hc => ?_)
      · have hf := kIf_f hf hc
        refine kJ_iconst 126 1 d_L_isAct_125 ki_1 rfl ?_
        refine kJ_sub [] rfl ?_
        exact c_L_isAct_126 hro hf
      · have hf := kIf_t hf hc
        refine kJ_iconst 122 0 d_L_isAct_121 ki_0 rfl ?_
        refine kJ_goto 126 d_L_isAct_122 rfl ?_
        refine kJ_sub [] rfl ?_
        exact c_L_isAct_126 hro hf
    · have hf := kIf_f hf c1
      by_cases c2 : v5 = 2
      · have hf := kIf_t hf c2
        refine kJ_tabIn 130 d_L_isAct_34 (by rw [c2]; try decide) (by rw [c2]; try decide) (by rw [c2]; try rfl) rfl ?_
        refine kJ_aload_n 131 2 d_L_isAct_130 rfl rfl rfl rfl ?_
        refine kJ_iload_n 132 1 d_L_isAct_131 rfl rfl rfl ?_
        refine kJ_aload_n 133 3 d_L_isAct_132 rfl rfl rfl rfl ?_
        refine kJ_iload_n 134 4 d_L_isAct_133 rfl rfl rfl ?_
        refine kJ_iconst 135 3 d_L_isAct_134 ki_3 rfl ?_
        refine kJ_iadd 136 d_L_isAct_135 rfl ?_
        refine kJ_iconst 137 2 d_L_isAct_136 ki_2 rfl ?_
        obtain ⟨v11, ev11, hf⟩ := kBi_some hf
        refine kM_calls 140 m_L_cell [.retAddr 2, .int (x2 + 3), .int 2] [.int v2, .ref 0] d_L_isAct_137 cl_L_93 w_418 rfl rfl (Nat.le_of_ble_eq_true rfl) ⟨Nat.le_of_ble_eq_true rfl, Nat.le_of_ble_eq_true rfl⟩ ⟨rfl, rfl⟩ ⟨Nat.zero_le _, Nat.zero_le _⟩ (j_L_cell hro ev11) rfl ?_
        refine kJ_if_ne 143 148 d_L_isAct_140 rfl rfl (fun hc => ?_) (fun hc => ?_)
        · have hf := kIf_f hf hc
          refine kJ_iload 150 0 d_L_isAct_148 rfl rfl ?_
          refine kJ_sub [2, 3, 4] rfl ?_
          exact c_L_isAct_150 hro hf
        · have hf := kIf_t hf hc
          refine kJ_bipush 145 (-6) d_L_isAct_143 kb_m6 rfl ?_
          refine kJ_goto 150 d_L_isAct_145 rfl ?_
          refine kJ_sub [2, 3, 4] rfl ?_
          exact c_L_isAct_150 hro hf
      · have hf := kIf_f hf c2
        by_cases c3 : v5 = 3
        · have hf := kIf_t hf c3
          refine kJ_tabIn 130 d_L_isAct_34 (by rw [c3]; try decide) (by rw [c3]; try decide) (by rw [c3]; try rfl) rfl ?_
          refine kJ_aload_n 131 2 d_L_isAct_130 rfl rfl rfl rfl ?_
          refine kJ_iload_n 132 1 d_L_isAct_131 rfl rfl rfl ?_
          refine kJ_aload_n 133 3 d_L_isAct_132 rfl rfl rfl rfl ?_
          refine kJ_iload_n 134 4 d_L_isAct_133 rfl rfl rfl ?_
          refine kJ_iconst 135 3 d_L_isAct_134 ki_3 rfl ?_
          refine kJ_iadd 136 d_L_isAct_135 rfl ?_
          refine kJ_iconst 137 2 d_L_isAct_136 ki_2 rfl ?_
          obtain ⟨v17, ev17, hf⟩ := kBi_some hf
          refine kM_calls 140 m_L_cell [.retAddr 2, .int (x2 + 3), .int 2] [.int v2, .ref 0] d_L_isAct_137 cl_L_93 w_418 rfl rfl (Nat.le_of_ble_eq_true rfl) ⟨Nat.le_of_ble_eq_true rfl, Nat.le_of_ble_eq_true rfl⟩ ⟨rfl, rfl⟩ ⟨Nat.zero_le _, Nat.zero_le _⟩ (j_L_cell hro ev17) rfl ?_
          refine kJ_if_ne 143 148 d_L_isAct_140 rfl rfl (fun hc => ?_) (fun hc => ?_)
          · have hf := kIf_f hf hc
            refine kJ_iload 150 0 d_L_isAct_148 rfl rfl ?_
            refine kJ_sub [2, 3, 4] rfl ?_
            exact c_L_isAct_150 hro hf
          · have hf := kIf_t hf hc
            refine kJ_bipush 145 (-6) d_L_isAct_143 kb_m6 rfl ?_
            refine kJ_goto 150 d_L_isAct_145 rfl ?_
            refine kJ_sub [2, 3, 4] rfl ?_
            exact c_L_isAct_150 hro hf
        · have hf := kIf_f hf c3
          by_cases c4 : v5 = 4
          · have hf := kIf_t hf c4
            refine kJ_tabIn 183 d_L_isAct_34 (by rw [c4]; try decide) (by rw [c4]; try decide) (by rw [c4]; try rfl) rfl ?_
            refine kJ_aload_n 184 2 d_L_isAct_183 rfl rfl rfl rfl ?_
            refine kJ_iload_n 185 1 d_L_isAct_184 rfl rfl rfl ?_
            refine kJ_iload 187 0 d_L_isAct_185 rfl rfl ?_
            refine kJ_aload_n 188 3 d_L_isAct_187 rfl rfl rfl rfl ?_
            refine kJ_iload_n 189 4 d_L_isAct_188 rfl rfl rfl ?_
            refine kJ_iconst 190 3 d_L_isAct_189 ki_3 rfl ?_
            refine kJ_iadd 191 d_L_isAct_190 rfl ?_
            refine kJ_iconst 192 4 d_L_isAct_191 ki_4 rfl ?_
            obtain ⟨v18, ev18, hf⟩ := kBi_some hf
            refine kM_calls 195 m_L_cell [.retAddr 2, .int (x2 + 3), .int 4] [.int v4, .int v2, .ref 0] d_L_isAct_192 cl_L_93 w_418 rfl rfl (Nat.le_of_ble_eq_true rfl) ⟨Nat.le_of_ble_eq_true rfl, Nat.le_of_ble_eq_true rfl⟩ ⟨rfl, rfl⟩ ⟨Nat.zero_le _, Nat.zero_le _⟩ (j_L_cell hro ev18) rfl ?_
            refine kJ_iconst 196 3 d_L_isAct_195 ki_3 rfl ?_
            refine kJ_icmp_ne 199 204 d_L_isAct_196 rfl rfl (fun hc => ?_) (fun hc => ?_)
            · have hf := kIf_f hf hc
              refine kJ_aload_n 205 3 d_L_isAct_204 rfl rfl rfl rfl ?_
              refine kJ_iload_n 206 4 d_L_isAct_205 rfl rfl rfl ?_
              refine kJ_iconst 207 3 d_L_isAct_206 ki_3 rfl ?_
              refine kJ_iadd 208 d_L_isAct_207 rfl ?_
              refine kJ_iconst 209 3 d_L_isAct_208 ki_3 rfl ?_
              obtain ⟨v19, ev19, hf⟩ := kBi_some hf
              refine kM_calls 212 m_L_cell [.retAddr 2, .int (x2 + 3), .int 3] [.int v4, .int v2, .ref 0] d_L_isAct_209 cl_L_93 w_418 rfl rfl (Nat.le_of_ble_eq_true rfl) ⟨Nat.le_of_ble_eq_true rfl, Nat.le_of_ble_eq_true rfl⟩ ⟨rfl, rfl⟩ ⟨Nat.zero_le _, Nat.zero_le _⟩ (j_L_cell hro ev19) rfl ?_
              refine kJ_sub [] rfl ?_
              exact c_L_isAct_212 hro hf
            · have hf := kIf_t hf hc
              refine kJ_bipush 201 (-6) d_L_isAct_199 kb_m6 rfl ?_
              refine kJ_goto 212 d_L_isAct_201 rfl ?_
              refine kJ_sub [] rfl ?_
              exact c_L_isAct_212 hro hf
          · have hf := kIf_f hf c4
            by_cases c5 : v5 = 5
            · have hf := kIf_t hf c5
              refine kJ_tabIn 216 d_L_isAct_34 (by rw [c5]; try decide) (by rw [c5]; try decide) (by rw [c5]; try rfl) rfl ?_
              refine kJ_aload_n 217 2 d_L_isAct_216 rfl rfl rfl rfl ?_
              refine kJ_iload_n 218 1 d_L_isAct_217 rfl rfl rfl ?_
              refine kJ_iload 220 0 d_L_isAct_218 rfl rfl ?_
              refine kJ_aload_n 221 3 d_L_isAct_220 rfl rfl rfl rfl ?_
              refine kJ_iload_n 222 4 d_L_isAct_221 rfl rfl rfl ?_
              refine kJ_iconst 223 3 d_L_isAct_222 ki_3 rfl ?_
              refine kJ_iadd 224 d_L_isAct_223 rfl ?_
              refine kJ_iconst 225 2 d_L_isAct_224 ki_2 rfl ?_
              obtain ⟨v22, ev22, hf⟩ := kBi_some hf
              refine kM_calls 228 m_L_cell [.retAddr 2, .int (x2 + 3), .int 2] [.int v4, .int v2, .ref 0] d_L_isAct_225 cl_L_93 w_418 rfl rfl (Nat.le_of_ble_eq_true rfl) ⟨Nat.le_of_ble_eq_true rfl, Nat.le_of_ble_eq_true rfl⟩ ⟨rfl, rfl⟩ ⟨Nat.zero_le _, Nat.zero_le _⟩ (j_L_cell hro ev22) rfl ?_
              obtain ⟨v24, h23, ev24, hf⟩ := kBd_some hf
              refine kM_calls 231 m_L_isRecused [.ref 0, .int v2, .int v4, .int v22] [] d_L_isAct_228 cl_L_108 w_581 rfl rfl (Nat.le_of_ble_eq_true rfl) ⟨Nat.le_of_ble_eq_true rfl, Nat.le_of_ble_eq_true rfl⟩ ⟨rfl, rfl⟩ ⟨Nat.zero_le _, Nat.zero_le _⟩ (j_L_isRecused hro ev24) rfl ?_
              cases hf
              exact kJ_iret d_L_isAct_231 rfl (kB2_z _) (Nat.zero_le _) (Nat.zero_le _)
            · have hf := kIf_f hf c5
              by_cases c6 : v5 = 6
              · have hf := kIf_t hf c6
                refine kJ_tabIn 232 d_L_isAct_34 (by rw [c6]; try decide) (by rw [c6]; try decide) (by rw [c6]; try rfl) rfl ?_
                refine kJ_aload_n 233 2 d_L_isAct_232 rfl rfl rfl rfl ?_
                refine kJ_iload 235 0 d_L_isAct_233 rfl rfl ?_
                obtain ⟨v26, K27, h25, ev26, hf⟩ := kBt_some hf
                refine kX_calls 238 m_L_isOpened [.ref 0, .int v4] [] 3 36 d_L_isAct_235 cl_L_111 w_593 rfl rfl (Nat.le_of_ble_eq_true rfl) ⟨Nat.le_of_ble_eq_true rfl, Nat.le_of_ble_eq_true rfl⟩ rfl rfl (Nat.le_of_ble_eq_true rfl) (Nat.le_of_ble_eq_true rfl) (j_L_isOpened hro ev26) rfl ?_
                cases hf
                exact kJ_iret d_L_isAct_238 rfl (kB2_z _) (Nat.le_of_ble_eq_true rfl) (Nat.le_of_ble_eq_true rfl)
              · have hf := kIf_f hf c6
                by_cases c7 : v5 = 7
                · have hf := kIf_t hf c7
                  refine kJ_tabIn 232 d_L_isAct_34 (by rw [c7]; try decide) (by rw [c7]; try decide) (by rw [c7]; try rfl) rfl ?_
                  refine kJ_aload_n 233 2 d_L_isAct_232 rfl rfl rfl rfl ?_
                  refine kJ_iload 235 0 d_L_isAct_233 rfl rfl ?_
                  obtain ⟨v29, K30, h28, ev29, hf⟩ := kBt_some hf
                  refine kX_calls 238 m_L_isOpened [.ref 0, .int v4] [] 3 36 d_L_isAct_235 cl_L_111 w_593 rfl rfl (Nat.le_of_ble_eq_true rfl) ⟨Nat.le_of_ble_eq_true rfl, Nat.le_of_ble_eq_true rfl⟩ rfl rfl (Nat.le_of_ble_eq_true rfl) (Nat.le_of_ble_eq_true rfl) (j_L_isOpened hro ev29) rfl ?_
                  cases hf
                  exact kJ_iret d_L_isAct_238 rfl (kB2_z _) (Nat.le_of_ble_eq_true rfl) (Nat.le_of_ble_eq_true rfl)
                · have hf := kIf_f hf c7
                  by_cases c8 : v5 = 8
                  · have hf := kIf_t hf c8
                    refine kJ_tabIn 239 d_L_isAct_34 (by rw [c8]; try decide) (by rw [c8]; try decide) (by rw [c8]; try rfl) rfl ?_
                    refine kJ_aload_n 240 2 d_L_isAct_239 rfl rfl rfl rfl ?_
                    refine kJ_iload_n 241 1 d_L_isAct_240 rfl rfl rfl ?_
                    refine kJ_aload_n 242 3 d_L_isAct_241 rfl rfl rfl rfl ?_
                    refine kJ_iload_n 243 4 d_L_isAct_242 rfl rfl rfl ?_
                    refine kJ_iconst 244 3 d_L_isAct_243 ki_3 rfl ?_
                    refine kJ_iadd 245 d_L_isAct_244 rfl ?_
                    refine kJ_iconst 246 3 d_L_isAct_245 ki_3 rfl ?_
                    obtain ⟨v31, ev31, hf⟩ := kBi_some hf
                    refine kM_calls 249 m_L_cell [.retAddr 2, .int (x2 + 3), .int 3] [.int v2, .ref 0] d_L_isAct_246 cl_L_93 w_418 rfl rfl (Nat.le_of_ble_eq_true rfl) ⟨Nat.le_of_ble_eq_true rfl, Nat.le_of_ble_eq_true rfl⟩ ⟨rfl, rfl⟩ ⟨Nat.zero_le _, Nat.zero_le _⟩ (j_L_cell hro ev31) rfl ?_
                    obtain ⟨v33, h32, ev33, hf⟩ := kBd_some hf
                    refine kM_calls 252 m_L_isVoted [.ref 0, .int v2, .int v31] [] d_L_isAct_249 cl_L_114 w_608 rfl rfl (Nat.le_of_ble_eq_true rfl) ⟨Nat.le_of_ble_eq_true rfl, Nat.le_of_ble_eq_true rfl⟩ ⟨rfl, rfl⟩ ⟨Nat.zero_le _, Nat.zero_le _⟩ (j_L_isVoted hro ev33) rfl ?_
                    cases hf
                    exact kJ_iret d_L_isAct_252 rfl (kB2_z _) (Nat.zero_le _) (Nat.zero_le _)
                  · have hf := kIf_f hf c8
                    by_cases c9 : v5 = 9
                    · have hf := kIf_t hf c9
                      refine kJ_tabIn 239 d_L_isAct_34 (by rw [c9]; try decide) (by rw [c9]; try decide) (by rw [c9]; try rfl) rfl ?_
                      refine kJ_aload_n 240 2 d_L_isAct_239 rfl rfl rfl rfl ?_
                      refine kJ_iload_n 241 1 d_L_isAct_240 rfl rfl rfl ?_
                      refine kJ_aload_n 242 3 d_L_isAct_241 rfl rfl rfl rfl ?_
                      refine kJ_iload_n 243 4 d_L_isAct_242 rfl rfl rfl ?_
                      refine kJ_iconst 244 3 d_L_isAct_243 ki_3 rfl ?_
                      refine kJ_iadd 245 d_L_isAct_244 rfl ?_
                      refine kJ_iconst 246 3 d_L_isAct_245 ki_3 rfl ?_
                      obtain ⟨v34, ev34, hf⟩ := kBi_some hf
                      refine kM_calls 249 m_L_cell [.retAddr 2, .int (x2 + 3), .int 3] [.int v2, .ref 0] d_L_isAct_246 cl_L_93 w_418 rfl rfl (Nat.le_of_ble_eq_true rfl) ⟨Nat.le_of_ble_eq_true rfl, Nat.le_of_ble_eq_true rfl⟩ ⟨rfl, rfl⟩ ⟨Nat.zero_le _, Nat.zero_le _⟩ (j_L_cell hro ev34) rfl ?_
                      obtain ⟨v36, h35, ev36, hf⟩ := kBd_some hf
                      refine kM_calls 252 m_L_isVoted [.ref 0, .int v2, .int v34] [] d_L_isAct_249 cl_L_114 w_608 rfl rfl (Nat.le_of_ble_eq_true rfl) ⟨Nat.le_of_ble_eq_true rfl, Nat.le_of_ble_eq_true rfl⟩ ⟨rfl, rfl⟩ ⟨Nat.zero_le _, Nat.zero_le _⟩ (j_L_isVoted hro ev36) rfl ?_
                      cases hf
                      exact kJ_iret d_L_isAct_252 rfl (kB2_z _) (Nat.zero_le _) (Nat.zero_le _)
                    · have hf := kIf_f hf c9
                      by_cases c10 : v5 = 10
                      · have hf := kIf_t hf c10
                        refine kJ_tabIn 239 d_L_isAct_34 (by rw [c10]; try decide) (by rw [c10]; try decide) (by rw [c10]; try rfl) rfl ?_
                        refine kJ_aload_n 240 2 d_L_isAct_239 rfl rfl rfl rfl ?_
                        refine kJ_iload_n 241 1 d_L_isAct_240 rfl rfl rfl ?_
                        refine kJ_aload_n 242 3 d_L_isAct_241 rfl rfl rfl rfl ?_
                        refine kJ_iload_n 243 4 d_L_isAct_242 rfl rfl rfl ?_
                        refine kJ_iconst 244 3 d_L_isAct_243 ki_3 rfl ?_
                        refine kJ_iadd 245 d_L_isAct_244 rfl ?_
                        refine kJ_iconst 246 3 d_L_isAct_245 ki_3 rfl ?_
                        obtain ⟨v37, ev37, hf⟩ := kBi_some hf
                        refine kM_calls 249 m_L_cell [.retAddr 2, .int (x2 + 3), .int 3] [.int v2, .ref 0] d_L_isAct_246 cl_L_93 w_418 rfl rfl (Nat.le_of_ble_eq_true rfl) ⟨Nat.le_of_ble_eq_true rfl, Nat.le_of_ble_eq_true rfl⟩ ⟨rfl, rfl⟩ ⟨Nat.zero_le _, Nat.zero_le _⟩ (j_L_cell hro ev37) rfl ?_
                        obtain ⟨v39, h38, ev39, hf⟩ := kBd_some hf
                        refine kM_calls 252 m_L_isVoted [.ref 0, .int v2, .int v37] [] d_L_isAct_249 cl_L_114 w_608 rfl rfl (Nat.le_of_ble_eq_true rfl) ⟨Nat.le_of_ble_eq_true rfl, Nat.le_of_ble_eq_true rfl⟩ ⟨rfl, rfl⟩ ⟨Nat.zero_le _, Nat.zero_le _⟩ (j_L_isVoted hro ev39) rfl ?_
                        cases hf
                        exact kJ_iret d_L_isAct_252 rfl (kB2_z _) (Nat.zero_le _) (Nat.zero_le _)
                      · have hf := kIf_f hf c10
                        by_cases c11 : v5 = 11
                        · have hf := kIf_t hf c11
                          refine kJ_tabIn 239 d_L_isAct_34 (by rw [c11]; try decide) (by rw [c11]; try decide) (by rw [c11]; try rfl) rfl ?_
                          refine kJ_aload_n 240 2 d_L_isAct_239 rfl rfl rfl rfl ?_
                          refine kJ_iload_n 241 1 d_L_isAct_240 rfl rfl rfl ?_
                          refine kJ_aload_n 242 3 d_L_isAct_241 rfl rfl rfl rfl ?_
                          refine kJ_iload_n 243 4 d_L_isAct_242 rfl rfl rfl ?_
                          refine kJ_iconst 244 3 d_L_isAct_243 ki_3 rfl ?_
                          refine kJ_iadd 245 d_L_isAct_244 rfl ?_
                          refine kJ_iconst 246 3 d_L_isAct_245 ki_3 rfl ?_
                          obtain ⟨v40, ev40, hf⟩ := kBi_some hf
                          refine kM_calls 249 m_L_cell [.retAddr 2, .int (x2 + 3), .int 3] [.int v2, .ref 0] d_L_isAct_246 cl_L_93 w_418 rfl rfl (Nat.le_of_ble_eq_true rfl) ⟨Nat.le_of_ble_eq_true rfl, Nat.le_of_ble_eq_true rfl⟩ ⟨rfl, rfl⟩ ⟨Nat.zero_le _, Nat.zero_le _⟩ (j_L_cell hro ev40) rfl ?_
                          obtain ⟨v42, h41, ev42, hf⟩ := kBd_some hf
                          refine kM_calls 252 m_L_isVoted [.ref 0, .int v2, .int v40] [] d_L_isAct_249 cl_L_114 w_608 rfl rfl (Nat.le_of_ble_eq_true rfl) ⟨Nat.le_of_ble_eq_true rfl, Nat.le_of_ble_eq_true rfl⟩ ⟨rfl, rfl⟩ ⟨Nat.zero_le _, Nat.zero_le _⟩ (j_L_isVoted hro ev42) rfl ?_
                          cases hf
                          exact kJ_iret d_L_isAct_252 rfl (kB2_z _) (Nat.zero_le _) (Nat.zero_le _)
                        · have hf := kIf_f hf c11
                          by_cases c12 : v5 = 12
                          · have hf := kIf_t hf c12
                            refine kJ_tabIn 253 d_L_isAct_34 (by rw [c12]; try decide) (by rw [c12]; try decide) (by rw [c12]; try rfl) rfl ?_
                            refine kJ_aload_n 254 2 d_L_isAct_253 rfl rfl rfl rfl ?_
                            obtain ⟨v44, K45, h43, ev44, hf⟩ := kBt_some hf
                            refine kX_calls 257 m_L_isClosed [.ref 0] [] 4 42 d_L_isAct_254 cl_L_117 w_623 rfl rfl (Nat.le_of_ble_eq_true rfl) ⟨Nat.le_of_ble_eq_true rfl, Nat.le_of_ble_eq_true rfl⟩ rfl rfl (Nat.le_of_ble_eq_true rfl) (Nat.le_of_ble_eq_true rfl) (j_L_isClosed hro ev44) rfl ?_
                            cases hf
                            exact kJ_iret d_L_isAct_257 rfl (kB2_z _) (Nat.le_of_ble_eq_true rfl) (Nat.le_of_ble_eq_true rfl)
                          · have hf := kIf_f hf c12
                            by_cases c13 : v5 = 13
                            · have hf := kIf_t hf c13
                              refine kJ_tabIn 258 d_L_isAct_34 (by rw [c13]; try decide) (by rw [c13]; try decide) (by rw [c13]; try rfl) rfl ?_
                              refine kJ_aload_n 259 2 d_L_isAct_258 rfl rfl rfl rfl ?_
                              refine kJ_iconst 260 1 d_L_isAct_259 ki_1 rfl ?_
                              refine kJ_aload_n 261 3 d_L_isAct_260 rfl rfl rfl rfl ?_
                              refine kJ_iload_n 262 4 d_L_isAct_261 rfl rfl rfl ?_
                              refine kJ_iconst 263 3 d_L_isAct_262 ki_3 rfl ?_
                              refine kJ_iadd 264 d_L_isAct_263 rfl ?_
                              refine kJ_iconst 265 2 d_L_isAct_264 ki_2 rfl ?_
                              obtain ⟨v46, ev46, hf⟩ := kBi_some hf
                              refine kM_calls 268 m_L_cell [.retAddr 2, .int (x2 + 3), .int 2] [.int 1, .ref 0] d_L_isAct_265 cl_L_93 w_418 rfl rfl (Nat.le_of_ble_eq_true rfl) ⟨Nat.le_of_ble_eq_true rfl, Nat.le_of_ble_eq_true rfl⟩ ⟨rfl, rfl⟩ ⟨Nat.zero_le _, Nat.zero_le _⟩ (j_L_cell hro ev46) rfl ?_
                              refine kJ_iadd 269 d_L_isAct_268 rfl ?_
                              obtain ⟨v48, h47, ev48, hf⟩ := kBd_some hf
                              refine kM_calls 272 m_L_isCast [.ref 0, .int (1 + v46)] [] d_L_isAct_269 cl_L_121 w_640 rfl rfl (Nat.le_of_ble_eq_true rfl) ⟨Nat.le_of_ble_eq_true rfl, Nat.le_of_ble_eq_true rfl⟩ ⟨rfl, rfl⟩ ⟨Nat.zero_le _, Nat.zero_le _⟩ (j_L_isCast hro ev48) rfl ?_
                              cases hf
                              exact kJ_iret d_L_isAct_272 rfl (kB2_z _) (Nat.zero_le _) (Nat.zero_le _)
                            · have hf := kIf_f hf c13
                              by_cases c14 : v5 = 14
                              · have hf := kIf_t hf c14
                                refine kJ_tabIn 273 d_L_isAct_34 (by rw [c14]; try decide) (by rw [c14]; try decide) (by rw [c14]; try rfl) rfl ?_
                                refine kJ_aload_n 274 2 d_L_isAct_273 rfl rfl rfl rfl ?_
                                refine kJ_iconst 275 0 d_L_isAct_274 ki_0 rfl ?_
                                obtain ⟨v49, ev49, hf⟩ := kBi_some hf
                                refine kM_callv 278 m_P_count [.int 0] [] d_L_isAct_275 cl_L_28 ⟨w_397, w_398⟩ (kp_0).x ⟨rfl, by decide⟩ ⟨_, _, rfl⟩ rfl rfl (Nat.le_of_ble_eq_true rfl) ⟨Nat.le_of_ble_eq_true rfl, Nat.le_of_ble_eq_true rfl⟩ ⟨rfl, rfl⟩ ⟨Nat.zero_le _, Nat.zero_le _⟩ (j_P_count hro ev49) rfl ?_
                                refine kJ_istore 280 [(5, .int v49), (4, .int v4), (3, .int v2), (0, .ref 0), (1, .retAddr 2), (2, .int x2)] d_L_isAct_278 (Nat.le_of_ble_eq_true rfl) rfl rfl ?_
                                refine kJ_aload_n 281 3 d_L_isAct_280 rfl rfl rfl rfl ?_
                                refine kJ_bipush 283 13 d_L_isAct_281 kb_13 rfl ?_
                                obtain ⟨v50, ev50, hf⟩ := kBi_some hf
                                refine kM_callv 286 m_P_count [.int 13] [] d_L_isAct_283 cl_L_28 ⟨w_397, w_398⟩ (kp_0).x ⟨rfl, by decide⟩ ⟨_, _, rfl⟩ rfl rfl (Nat.le_of_ble_eq_true rfl) ⟨Nat.le_of_ble_eq_true rfl, Nat.le_of_ble_eq_true rfl⟩ ⟨rfl, rfl⟩ ⟨Nat.zero_le _, Nat.zero_le _⟩ (j_P_count hro ev50) rfl ?_
                                refine kJ_istore 288 [(6, .int v50), (5, .int v49), (4, .int v4), (3, .int v2), (0, .ref 0), (1, .retAddr 2), (2, .int x2)] d_L_isAct_286 (Nat.le_of_ble_eq_true rfl) rfl rfl ?_
                                refine kJ_aload_n 289 4 d_L_isAct_288 rfl rfl rfl rfl ?_
                                refine kJ_iload 291 1 d_L_isAct_289 rfl rfl ?_
                                refine kJ_iconst 292 1 d_L_isAct_291 ki_1 rfl ?_
                                refine kJ_iadd 293 d_L_isAct_292 rfl ?_
                                refine kJ_aload_n 294 5 d_L_isAct_293 rfl rfl rfl rfl ?_
                                refine kJ_iload_n 295 6 d_L_isAct_294 rfl rfl rfl ?_
                                refine kJ_iconst 296 3 d_L_isAct_295 ki_3 rfl ?_
                                refine kJ_iadd 297 d_L_isAct_296 rfl ?_
                                refine kJ_iconst 298 5 d_L_isAct_297 ki_5 rfl ?_
                                obtain ⟨v51, ev51, hf⟩ := kBi_some hf
                                refine kM_calls 301 m_L_cell [.retAddr 2, .int (x2 + 3), .int 5] [.int (v49 + 1), .ref 0] d_L_isAct_298 cl_L_93 w_418 rfl rfl (Nat.le_of_ble_eq_true rfl) ⟨Nat.le_of_ble_eq_true rfl, Nat.le_of_ble_eq_true rfl⟩ ⟨rfl, rfl⟩ ⟨Nat.zero_le _, Nat.zero_le _⟩ (j_L_cell hro ev51) rfl ?_
                                refine kJ_iadd 302 d_L_isAct_301 rfl ?_
                                refine kJ_iload_n 303 3 d_L_isAct_302 rfl rfl rfl ?_
                                refine kJ_aload_n 304 5 d_L_isAct_303 rfl rfl rfl rfl ?_
                                refine kJ_iload_n 305 6 d_L_isAct_304 rfl rfl rfl ?_
                                refine kJ_iconst 306 4 d_L_isAct_305 ki_4 rfl ?_
                                refine kJ_iadd 307 d_L_isAct_306 rfl ?_
                                refine kJ_iconst 308 2 d_L_isAct_307 ki_2 rfl ?_
                                obtain ⟨v52, ev52, hf⟩ := kBi_some hf
                                refine kM_calls 311 m_L_cell [.retAddr 2, .int (x2 + 4), .int 2] [.int v2, .int ((v49 + 1) + v51), .ref 0] d_L_isAct_308 cl_L_93 w_418 rfl rfl (Nat.le_of_ble_eq_true rfl) ⟨Nat.le_of_ble_eq_true rfl, Nat.le_of_ble_eq_true rfl⟩ ⟨rfl, rfl⟩ ⟨Nat.zero_le _, Nat.zero_le _⟩ (j_L_cell hro ev52) rfl ?_
                                obtain ⟨v54, h53, ev54, hf⟩ := kBd_some hf
                                refine kM_callv 314 m_P_later [.int ((v49 + 1) + v51), .int v2, .int v52] [] d_L_isAct_311 cl_L_124 ⟨w_652, w_653⟩ (kp_0).x ⟨rfl, by decide⟩ ⟨_, _, rfl⟩ rfl rfl (Nat.le_of_ble_eq_true rfl) ⟨Nat.le_of_ble_eq_true rfl, Nat.le_of_ble_eq_true rfl⟩ ⟨rfl, rfl⟩ ⟨Nat.zero_le _, Nat.zero_le _⟩ (j_P_later hro ev54) rfl ?_
                                refine kJ_iload 316 0 d_L_isAct_314 rfl rfl ?_
                                refine kJ_bipush 318 20 d_L_isAct_316 kb_20 rfl ?_
                                refine kJ_icmp_ne 321 326 d_L_isAct_318 rfl rfl (fun hc => ?_) (fun hc => ?_)
                                · have hf := kIf_f hf hc
                                  refine kJ_iload 328 0 d_L_isAct_326 rfl rfl ?_
                                  refine kJ_iconst 329 1 d_L_isAct_328 ki_1 rfl ?_
                                  refine kJ_iadd 330 d_L_isAct_329 rfl ?_
                                  refine kJ_sub [] rfl ?_
                                  exact c_L_isAct_330 hro hf
                                · have hf := kIf_t hf hc
                                  refine kJ_bipush 323 (-4) d_L_isAct_321 kb_m4 rfl ?_
                                  refine kJ_goto 330 d_L_isAct_323 rfl ?_
                                  refine kJ_sub [] rfl ?_
                                  exact c_L_isAct_330 hro hf
                              · have hf := kIf_f hf c14
                                refine kJ_tabOut 339 d_L_isAct_34 (by have t0 := kne 0 c0 rfl; have t1 := kne 1 c1 rfl; have t2 := kne 2 c2 rfl; have t3 := kne 3 c3 rfl; have t4 := kne 4 c4 rfl; have t5 := kne 5 c5 rfl; have t6 := kne 6 c6 rfl; have t7 := kne 7 c7 rfl; have t8 := kne 8 c8 rfl; have t9 := kne 9 c9 rfl; have t10 := kne 10 c10 rfl; have t11 := kne 11 c11 rfl; have t12 := kne 12 c12 rfl; have t13 := kne 13 c13 rfl; have t14 := kne 14 c14 rfl; omega) rfl ?_
                                refine kJ_aload_n 340 2 d_L_isAct_339 rfl rfl rfl rfl ?_
                                refine kJ_iconst 341 1 d_L_isAct_340 ki_1 rfl ?_
                                refine kJ_aload_n 342 3 d_L_isAct_341 rfl rfl rfl rfl ?_
                                refine kJ_iload_n 343 4 d_L_isAct_342 rfl rfl rfl ?_
                                refine kJ_iconst 344 3 d_L_isAct_343 ki_3 rfl ?_
                                refine kJ_iadd 345 d_L_isAct_344 rfl ?_
                                refine kJ_bipush 347 60 d_L_isAct_345 kb_60 rfl ?_
                                obtain ⟨v55, ev55, hf⟩ := kBi_some hf
                                refine kM_calls 350 m_L_cell [.retAddr 2, .int (x2 + 3), .int 60] [.int 1, .ref 0] d_L_isAct_347 cl_L_93 w_418 rfl rfl (Nat.le_of_ble_eq_true rfl) ⟨Nat.le_of_ble_eq_true rfl, Nat.le_of_ble_eq_true rfl⟩ ⟨rfl, rfl⟩ ⟨Nat.zero_le _, Nat.zero_le _⟩ (j_L_cell hro ev55) rfl ?_
                                refine kJ_iadd 351 d_L_isAct_350 rfl ?_
                                obtain ⟨v57, h56, ev57, hf⟩ := kBd_some hf
                                refine kM_calls 354 m_L_isPassed [.ref 0, .int (1 + v55)] [] d_L_isAct_351 cl_L_127 w_664 rfl rfl (Nat.le_of_ble_eq_true rfl) ⟨Nat.le_of_ble_eq_true rfl, Nat.le_of_ble_eq_true rfl⟩ ⟨rfl, rfl⟩ ⟨Nat.zero_le _, Nat.zero_le _⟩ (j_L_isPassed hro ev57) rfl ?_
                                cases hf
                                exact kJ_iret d_L_isAct_354 rfl (kB2_z _) (Nat.zero_le _) (Nat.zero_le _)
