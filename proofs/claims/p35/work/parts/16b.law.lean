/-! CODE of the law as functions, with certificates: printed by wip/p35/emit.py. -/
def f_L_outcome (h : kH) (x1 : Int32) (x2 : Nat) : Option (Int32 × kH) := kG 1 6 (kG 2 6 (kBd (f_P_ofItem h x1 0) fun v2 h1 => if v2 = 0 then (if (h x2 (kx 1)) ≤ (h x2 (kx 2)) then (if (h x2 (kx 1)) < (h x2 (kx 2)) then (some (4, h1)) else (kBi (f_P_count h1 21) fun v3 => if v3 = 0 then (some (4, h1)) else (some (2, h1)))) else (some (3, h1))) else (if (h x2 (kx 1)) = 0 then (some (4, h1)) else (if v2 = 1 then (if (h x2 (kx 1)) < (2 * (h x2 (kx 2))) then (some (4, h1)) else (some (3, h1))) else (kG 0 6 (if ((h1 x2 (kx 0)) + (h x2 (kx 2))) = 0 then (some (3, h1)) else (some (4, h1))))))))
theorem j_L_outcome {E : kE} {L : Nat} {xs : Nat → Int32} (hro : kRo E L xs) {K : List Nat} {h : kH} {x1 : Int32} {x2 : Nat} (k2 : kX K x2 8) {r : Int32} {h' : kH} (hf : f_L_outcome h x1 x2 = some (r, h')) : JM E m_L_outcome [.ref 0, .int x1, .ref x2] (mk K h) (some r) (mk K h') := by
  unfold f_L_outcome at hf
  refine JM.of pn_L (Nat.le_of_ble_eq_true rfl) ?_
  show kJ E m_L_outcome (some r) (mk K h') 0 0 0 [(0, .ref 0), (1, .int x1), (2, .ref x2)] [] (mk K h)
  refine kJ_aload_n 1 2 d_L_outcome_0 rfl rfl rfl rfl ?_
  refine kJ_iconst 2 1 d_L_outcome_1 ki_1 rfl ?_
  obtain ⟨hg, hf⟩ := kG_some hf
  refine kM_iald 3 6 d_L_outcome_2 k2 rfl hg rfl ?_
  refine kJ_istore_n 4 [(3, .int (h x2 (kx 1))), (0, .ref 0), (1, .int x1), (2, .ref x2)] d_L_outcome_3 rfl (Nat.le_of_ble_eq_true rfl) rfl rfl ?_
  refine kJ_aload_n 5 3 d_L_outcome_4 rfl rfl rfl rfl ?_
  refine kJ_iconst 6 2 d_L_outcome_5 ki_2 rfl ?_
  obtain ⟨hg, hf⟩ := kG_some hf
  refine kM_iald 7 6 d_L_outcome_6 k2 rfl hg rfl ?_
  refine kJ_istore 9 [(4, .int (h x2 (kx 2))), (3, .int (h x2 (kx 1))), (0, .ref 0), (1, .int x1), (2, .ref x2)] d_L_outcome_7 (Nat.le_of_ble_eq_true rfl) rfl rfl ?_
  refine kJ_aload_n 10 2 d_L_outcome_9 rfl rfl rfl rfl ?_
  refine kJ_iload_n 11 3 d_L_outcome_10 rfl rfl rfl ?_
  refine kJ_iconst 12 0 d_L_outcome_11 ki_0 rfl ?_
  obtain ⟨v2, h1, ev2, hf⟩ := kBd_some hf
  refine kM_callv 15 m_P_ofItem [.int x1, .int 0] [] d_L_outcome_12 cl_L_32 ⟨w_428, w_429⟩ (kp_0).x ⟨rfl, by decide⟩ ⟨_, _, rfl⟩ rfl rfl (Nat.le_of_ble_eq_true rfl) ⟨Nat.le_of_ble_eq_true rfl, Nat.le_of_ble_eq_true rfl⟩ ⟨rfl, rfl⟩ ⟨Nat.zero_le _, Nat.zero_le _⟩ (j_P_ofItem hro ev2) rfl ?_
  refine kJ_istore 17 [(5, .int v2), (4, .int (h x2 (kx 2))), (3, .int (h x2 (kx 1))), (0, .ref 0), (1, .int x1), (2, .ref x2)] d_L_outcome_15 (Nat.le_of_ble_eq_true rfl) rfl rfl ?_
  refine kJ_iload 19 0 d_L_outcome_17 rfl rfl ?_
  refine kJ_if_ne 22 53 d_L_outcome_19 rfl rfl (fun hc => ?_) (fun hc => ?_)
  · have hf := kIf_f hf hc
    refine kJ_iload_n 54 2 d_L_outcome_53 rfl rfl rfl ?_
    refine kJ_if_ne 57 59 d_L_outcome_54 rfl rfl (fun hc => ?_) (fun hc => ?_)
    · have hf := kIf_f hf hc
      refine kJ_iload 61 0 d_L_outcome_59 rfl rfl ?_
      refine kJ_iconst 62 1 d_L_outcome_61 ki_1 rfl ?_
      refine kJ_icmp_ne 65 81 d_L_outcome_62 rfl rfl (fun hc => ?_) (fun hc => ?_)
      · have hf := kIf_f hf hc
        refine kJ_aload_n 82 5 d_L_outcome_81 rfl rfl rfl rfl ?_
        refine kJ_iconst 83 0 d_L_outcome_82 ki_0 rfl ?_
        obtain ⟨hg, hf⟩ := kG_some hf
        refine kM_iald 84 6 d_L_outcome_83 k2 rfl hg rfl ?_
        refine kJ_iload 86 1 d_L_outcome_84 rfl rfl ?_
        refine kJ_iadd 87 d_L_outcome_86 rfl ?_
        refine kJ_if_ne 90 94 d_L_outcome_87 rfl rfl (fun hc => ?_) (fun hc => ?_)
        · have hf := kIf_f hf hc
          refine kJ_iconst 95 4 d_L_outcome_94 ki_4 rfl ?_
          cases hf
          exact kJ_iret d_L_outcome_95 rfl rfl (Nat.zero_le _) (Nat.zero_le _)
        · have hf := kIf_t hf hc
          refine kJ_iconst 91 3 d_L_outcome_90 ki_3 rfl ?_
          refine kJ_goto 95 d_L_outcome_91 rfl ?_
          cases hf
          exact kJ_iret d_L_outcome_95 rfl rfl (Nat.zero_le _) (Nat.zero_le _)
      · have hf := kIf_t hf hc
        refine kJ_iload_n 66 2 d_L_outcome_65 rfl rfl rfl ?_
        refine kJ_iconst 67 2 d_L_outcome_66 ki_2 rfl ?_
        refine kJ_iload 69 1 d_L_outcome_67 rfl rfl ?_
        refine kJ_imul 70 d_L_outcome_69 rfl ?_
        refine kJ_icmp_lt 73 77 d_L_outcome_70 rfl rfl (fun hc => ?_) (fun hc => ?_)
        · have hf := kIf_t hf hc
          refine kJ_iconst 78 4 d_L_outcome_77 ki_4 rfl ?_
          refine kJ_goto 95 d_L_outcome_78 rfl ?_
          cases hf
          exact kJ_iret d_L_outcome_95 rfl rfl (Nat.zero_le _) (Nat.zero_le _)
        · have hf := kIf_f hf hc
          refine kJ_iconst 74 3 d_L_outcome_73 ki_3 rfl ?_
          refine kJ_goto 95 d_L_outcome_74 rfl ?_
          cases hf
          exact kJ_iret d_L_outcome_95 rfl rfl (Nat.zero_le _) (Nat.zero_le _)
    · have hf := kIf_t hf hc
      refine kJ_iconst 58 4 d_L_outcome_57 ki_4 rfl ?_
      cases hf
      exact kJ_iret d_L_outcome_58 rfl rfl (Nat.zero_le _) (Nat.zero_le _)
  · have hf := kIf_t hf hc
    refine kJ_iload_n 23 2 d_L_outcome_22 rfl rfl rfl ?_
    refine kJ_iload 25 1 d_L_outcome_23 rfl rfl ?_
    refine kJ_icmp_le 28 32 d_L_outcome_25 rfl rfl (fun hc => ?_) (fun hc => ?_)
    · have hf := kIf_t hf hc
      refine kJ_iload_n 33 2 d_L_outcome_32 rfl rfl rfl ?_
      refine kJ_iload 35 1 d_L_outcome_33 rfl rfl ?_
      refine kJ_icmp_lt 38 47 d_L_outcome_35 rfl rfl (fun hc => ?_) (fun hc => ?_)
      · have hf := kIf_t hf hc
        refine kJ_iconst 48 4 d_L_outcome_47 ki_4 rfl ?_
        refine kJ_goto 52 d_L_outcome_48 rfl ?_
        cases hf
        exact kJ_iret d_L_outcome_52 rfl rfl (Nat.zero_le _) (Nat.zero_le _)
      · have hf := kIf_f hf hc
        refine kJ_aload_n 39 3 d_L_outcome_38 rfl rfl rfl rfl ?_
        refine kJ_bipush 41 21 d_L_outcome_39 kb_21 rfl ?_
        obtain ⟨v3, ev3, hf⟩ := kBi_some hf
        refine kM_callv 44 m_P_count [.int 21] [] d_L_outcome_41 cl_L_28 ⟨w_397, w_398⟩ (kp_0).x ⟨rfl, by decide⟩ ⟨_, _, rfl⟩ rfl rfl (Nat.le_of_ble_eq_true rfl) ⟨Nat.le_of_ble_eq_true rfl, Nat.le_of_ble_eq_true rfl⟩ ⟨rfl, rfl⟩ ⟨Nat.zero_le _, Nat.zero_le _⟩ (j_P_count hro ev3) rfl ?_
        refine kJ_if_ne 47 51 d_L_outcome_44 rfl rfl (fun hc => ?_) (fun hc => ?_)
        · have hf := kIf_f hf hc
          refine kJ_iconst 52 2 d_L_outcome_51 ki_2 rfl ?_
          cases hf
          exact kJ_iret d_L_outcome_52 rfl rfl (Nat.zero_le _) (Nat.zero_le _)
        · have hf := kIf_t hf hc
          refine kJ_iconst 48 4 d_L_outcome_47 ki_4 rfl ?_
          refine kJ_goto 52 d_L_outcome_48 rfl ?_
          cases hf
          exact kJ_iret d_L_outcome_52 rfl rfl (Nat.zero_le _) (Nat.zero_le _)
    · have hf := kIf_f hf hc
      refine kJ_iconst 29 3 d_L_outcome_28 ki_3 rfl ?_
      refine kJ_goto 52 d_L_outcome_29 rfl ?_
      cases hf
      exact kJ_iret d_L_outcome_52 rfl rfl (Nat.zero_le _) (Nat.zero_le _)
def b_L_isItem_150 (K : List Nat) (h : kH) (s0 : Int32) (s1 : Int32) : Option (Bool × List Nat × kH) := if s0 = s1 then (some (true, K, h)) else (some (false, K, h))
theorem c_L_isItem_150 {E : kE} {L : Nat} {xs : Nat → Int32} (hro : kRo E L xs) {K : List Nat} {h : kH} {s0 : Int32} {s1 : Int32} {r : Bool} {K' : List Nat} {h' : kH} (hf : b_L_isItem_150 K h s0 s1 = some (r, K', h')) : kJ E m_L_isItem (some (kB2 r)) (mk K' h') 4 42 150 [] [.int s1, .int s0] (mk K h) := by
  unfold b_L_isItem_150 at hf
  refine kJ_icmp_ne 153 157 d_L_isItem_150 rfl rfl (fun hc => ?_) (fun hc => ?_)
  · have hf := kIf_f hf hc
    refine kJ_iconst 158 0 d_L_isItem_157 ki_0 rfl ?_
    cases hf
    exact kJ_iret d_L_isItem_158 rfl (kB2_z _) (Nat.le_of_ble_eq_true rfl) (Nat.le_of_ble_eq_true rfl)
  · have hf := kIf_t hf hc
    refine kJ_iconst 154 1 d_L_isItem_153 ki_1 rfl ?_
    refine kJ_goto 158 d_L_isItem_154 rfl ?_
    cases hf
    exact kJ_iret d_L_isItem_158 rfl (kB2_z _) (Nat.le_of_ble_eq_true rfl) (Nat.le_of_ble_eq_true rfl)
def b_L_isItem_119 (K : List Nat) (h : kH) (x1 : Int32) (x3 : Nat) (s0 : Int32) (s1 : Bool) : Option (Bool × List Nat × kH) := if s0 = (kB2 s1) then (kBd (f_P_wouldBe h x1) fun v12 h11 => kBd (f_P_ofItem h11 x1 2) fun v14 h13 => if 2 ≤ v14 then (b_L_isItem_150 K h13 v12 (-5)) else (kBd (f_L_outcome h13 x1 x3) fun v16 h15 => b_L_isItem_150 K h15 v12 v16)) else (some (false, K, h))
theorem c_L_isItem_119 {E : kE} {L : Nat} {xs : Nat → Int32} (hro : kRo E L xs) {K : List Nat} {h : kH} {x1 : Int32} {x3 : Nat} {s0 : Int32} {s1 : Bool} (k3 : kX K x3 8) {r : Bool} {K' : List Nat} {h' : kH} (hf : b_L_isItem_119 K h x1 x3 s0 s1 = some (r, K', h')) : kJ E m_L_isItem (some (kB2 r)) (mk K' h') 4 42 119 [(0, .ref 0), (1, .int x1), (3, .ref x3)] [.int (kB2 s1), .int s0] (mk K h) := by
  unfold b_L_isItem_119 at hf
  refine kJ_icmp_eq 122 124 d_L_isItem_119 rfl rfl (fun hc => ?_) (fun hc => ?_)
  · have hf := kIf_t hf hc
    refine kJ_aload_n 125 0 d_L_isItem_124 rfl rfl rfl rfl ?_
    refine kJ_iload_n 126 1 d_L_isItem_125 rfl rfl rfl ?_
    obtain ⟨v12, h11, ev12, hf⟩ := kBd_some hf
    refine kM_callv 129 m_P_wouldBe [.int x1] [] d_L_isItem_126 cl_L_55 ⟨w_512, w_513⟩ (kp_0).x ⟨rfl, by decide⟩ ⟨_, _, rfl⟩ rfl rfl (Nat.le_of_ble_eq_true rfl) ⟨Nat.le_of_ble_eq_true rfl, Nat.le_of_ble_eq_true rfl⟩ ⟨rfl, rfl⟩ ⟨Nat.le_of_ble_eq_true rfl, Nat.le_of_ble_eq_true rfl⟩ (j_P_wouldBe hro ev12) rfl ?_
    refine kJ_aload_n 130 0 d_L_isItem_129 rfl rfl rfl rfl ?_
    refine kJ_iload_n 131 1 d_L_isItem_130 rfl rfl rfl ?_
    refine kJ_iconst 132 2 d_L_isItem_131 ki_2 rfl ?_
    obtain ⟨v14, h13, ev14, hf⟩ := kBd_some hf
    refine kM_callv 135 m_P_ofItem [.int x1, .int 2] [.int v12] d_L_isItem_132 cl_L_32 ⟨w_428, w_429⟩ (kp_0).x ⟨rfl, by decide⟩ ⟨_, _, rfl⟩ rfl rfl (Nat.le_of_ble_eq_true rfl) ⟨Nat.le_of_ble_eq_true rfl, Nat.le_of_ble_eq_true rfl⟩ ⟨rfl, rfl⟩ ⟨Nat.le_of_ble_eq_true rfl, Nat.le_of_ble_eq_true rfl⟩ (j_P_ofItem hro ev14) rfl ?_
    refine kJ_iconst 136 2 d_L_isItem_135 ki_2 rfl ?_
    refine kJ_icmp_ge 139 148 d_L_isItem_136 rfl rfl (fun hc => ?_) (fun hc => ?_)
    · have hf := kIf_t hf hc
      refine kJ_bipush 150 (-5) d_L_isItem_148 kb_m5 rfl ?_
      refine kJ_sub [] rfl ?_
      exact c_L_isItem_150 hro hf
    · have hf := kIf_f hf hc
      refine kJ_aload_n 140 0 d_L_isItem_139 rfl rfl rfl rfl ?_
      refine kJ_iload_n 141 1 d_L_isItem_140 rfl rfl rfl ?_
      refine kJ_aload_n 142 2 d_L_isItem_141 rfl rfl rfl rfl ?_
      obtain ⟨v16, h15, ev16, hf⟩ := kBd_some hf
      refine kM_calls 145 m_L_outcome [.ref 0, .int x1, .ref x3] [.int v12] d_L_isItem_142 cl_L_58 w_520 rfl rfl (Nat.le_of_ble_eq_true rfl) ⟨Nat.le_of_ble_eq_true rfl, Nat.le_of_ble_eq_true rfl⟩ ⟨rfl, rfl⟩ ⟨Nat.le_of_ble_eq_true rfl, Nat.le_of_ble_eq_true rfl⟩ (j_L_outcome hro k3 ev16) rfl ?_
      refine kJ_goto 150 d_L_isItem_145 rfl ?_
      refine kJ_sub [] rfl ?_
      exact c_L_isItem_150 hro hf
  · have hf := kIf_f hf hc
    refine kJ_iconst 123 0 d_L_isItem_122 ki_0 rfl ?_
    cases hf
    exact kJ_iret d_L_isItem_123 rfl (kB2_z _) (Nat.le_of_ble_eq_true rfl) (Nat.le_of_ble_eq_true rfl)
def b_L_isItem_34 (K : List Nat) (x1 : Int32) (x2 : Nat) (x3 : Nat) : Nat → kH → Int32 → Int32 → Option (Bool × List Nat × kH)
  | 0, _, _, _ => none
  | n + 1, h, x4, x5 => (fun rec34 => if 6 ≤ x5 then (kBi (f_P_count h 7) fun v6 => if x4 = v6 then (kBd (f_P_ofItem h x1 11) fun v8 h7 => kBi (f_L_there h7 x2) fun v9 => kBi (f_L_isQuorum h7 v9) fun v10 => if v10 = true then (b_L_isItem_119 K h7 x1 x3 v8 true) else (b_L_isItem_119 K h7 x1 x3 v8 false)) else (some (false, K, h))) else (kG x5 6 (kBd (f_P_ofItem h x1 2) fun v18 h17 => if 2 ≤ v18 then (rec34 h17 (x4 + (h x3 (kx x5))) (x5 + 1)) else (kBd (f_P_ofItem h17 x1 (3 + x5)) fun v20 h19 => kG x5 6 (if v20 = (h19 x3 (kx x5)) then (rec34 h19 (x4 + (h x3 (kx x5))) (x5 + 1)) else (some (false, K, h19))))))) (fun h' x4' x5' => b_L_isItem_34 K x1 x2 x3 n h' x4' x5')
theorem c_L_isItem_34 {E : kE} {L : Nat} {xs : Nat → Int32} (hro : kRo E L xs) {K : List Nat} {x1 : Int32} {x2 : Nat} {x3 : Nat} (k2 : kX K x2 9) (k3 : kX K x3 8) {r : Bool} {K' : List Nat} {h' : kH} : ∀ (n : Nat) (h : kH) (x4 : Int32) (x5 : Int32), b_L_isItem_34 K x1 x2 x3 n h x4 x5 = some (r, K', h') → kJ E m_L_isItem (some (kB2 r)) (mk K' h') 4 42 34 [(0, .ref 0), (1, .int x1), (2, .ref x2), (3, .ref x3), (4, .int x4), (5, .int x5)] [] (mk K h) := by
  intro n
  induction n with
  | zero =>
    intro h x4 x5 hf
    have hf : (none : Option (Bool × List Nat × kH)) = some (r, K', h') := hf
    cases hf
  | succ n hrec34 =>
    intro h x4 x5 hf
    rw [b_L_isItem_34] at hf
    dsimp only at hf
    refine kJ_iload 36 5 d_L_isItem_34 rfl rfl ?_
    refine kJ_bipush 38 6 d_L_isItem_36 kb_6 rfl ?_
    refine kJ_icmp_ge 41 84 d_L_isItem_38 rfl rfl (fun hc => ?_) (fun hc => ?_)
    · have hf := kIf_t hf hc
      refine kJ_iload 86 4 d_L_isItem_84 rfl rfl ?_
      refine kJ_aload_n 87 0 d_L_isItem_86 rfl rfl rfl rfl ?_
      refine kJ_bipush 89 7 d_L_isItem_87 kb_7 rfl ?_
      obtain ⟨v6, ev6, hf⟩ := kBi_some hf
      refine kM_callv 92 m_P_count [.int 7] [.int x4] d_L_isItem_89 cl_L_28 ⟨w_397, w_398⟩ (kp_0).x ⟨rfl, by decide⟩ ⟨_, _, rfl⟩ rfl rfl (Nat.le_of_ble_eq_true rfl) ⟨Nat.le_of_ble_eq_true rfl, Nat.le_of_ble_eq_true rfl⟩ ⟨rfl, rfl⟩ ⟨Nat.le_of_ble_eq_true rfl, Nat.le_of_ble_eq_true rfl⟩ (j_P_count hro ev6) rfl ?_
      refine kJ_icmp_ne 95 122 d_L_isItem_92 rfl rfl (fun hc => ?_) (fun hc => ?_)
      · have hf := kIf_f hf hc
        refine kJ_iconst 123 0 d_L_isItem_122 ki_0 rfl ?_
        cases hf
        exact kJ_iret d_L_isItem_123 rfl (kB2_z _) (Nat.le_of_ble_eq_true rfl) (Nat.le_of_ble_eq_true rfl)
      · have hf := kIf_t hf hc
        refine kJ_aload_n 96 0 d_L_isItem_95 rfl rfl rfl rfl ?_
        refine kJ_iload_n 97 1 d_L_isItem_96 rfl rfl rfl ?_
        refine kJ_bipush 99 11 d_L_isItem_97 kb_11 rfl ?_
        obtain ⟨v8, h7, ev8, hf⟩ := kBd_some hf
        refine kM_callv 102 m_P_ofItem [.int x1, .int 11] [] d_L_isItem_99 cl_L_32 ⟨w_428, w_429⟩ (kp_0).x ⟨rfl, by decide⟩ ⟨_, _, rfl⟩ rfl rfl (Nat.le_of_ble_eq_true rfl) ⟨Nat.le_of_ble_eq_true rfl, Nat.le_of_ble_eq_true rfl⟩ ⟨rfl, rfl⟩ ⟨Nat.le_of_ble_eq_true rfl, Nat.le_of_ble_eq_true rfl⟩ (j_P_ofItem hro ev8) rfl ?_
        refine kJ_aload_n 103 0 d_L_isItem_102 rfl rfl rfl rfl ?_
        refine kJ_aload_n 104 0 d_L_isItem_103 rfl rfl rfl rfl ?_
        refine kJ_aload_n 105 2 d_L_isItem_104 rfl rfl rfl rfl ?_
        obtain ⟨v9, ev9, hf⟩ := kBi_some hf
        refine kM_calls 108 m_L_there [.ref 0, .ref x2] [.ref 0, .int v8] d_L_isItem_105 cl_L_47 w_506 rfl rfl (Nat.le_of_ble_eq_true rfl) ⟨Nat.le_of_ble_eq_true rfl, Nat.le_of_ble_eq_true rfl⟩ ⟨rfl, rfl⟩ ⟨Nat.le_of_ble_eq_true rfl, Nat.le_of_ble_eq_true rfl⟩ (j_L_there hro k2 ev9) rfl ?_
        obtain ⟨v10, ev10, hf⟩ := kBi_some hf
        refine kM_calls 111 m_L_isQuorum [.ref 0, .int v9] [.int v8] d_L_isItem_108 cl_L_51 w_509 rfl rfl (Nat.le_of_ble_eq_true rfl) ⟨Nat.le_of_ble_eq_true rfl, Nat.le_of_ble_eq_true rfl⟩ ⟨rfl, rfl⟩ ⟨Nat.le_of_ble_eq_true rfl, Nat.le_of_ble_eq_true rfl⟩ (j_L_isQuorum hro ev10) rfl ?_
        refine kJ_if_eq 114 118 d_L_isItem_111 rfl rfl (fun hc => ?_) (fun hc => ?_)
        · have hf := kIf_f hf (kB2_0 hc)
          refine kJ_iconst 119 0 d_L_isItem_118 ki_0 rfl ?_
          refine kJ_sub [0, 1, 3] rfl ?_
          exact c_L_isItem_119 hro k3 hf
        · have hf := kIf_t hf (kB2_1 hc)
          refine kJ_iconst 115 1 d_L_isItem_114 ki_1 rfl ?_
          refine kJ_goto 119 d_L_isItem_115 rfl ?_
          refine kJ_sub [0, 1, 3] rfl ?_
          exact c_L_isItem_119 hro k3 hf
    · have hf := kIf_f hf hc
      refine kJ_iload 43 4 d_L_isItem_41 rfl rfl ?_
      refine kJ_aload_n 44 3 d_L_isItem_43 rfl rfl rfl rfl ?_
      refine kJ_iload 46 5 d_L_isItem_44 rfl rfl ?_
      obtain ⟨hg, hf⟩ := kG_some hf
      refine kM_iald 47 6 d_L_isItem_46 k3 rfl hg rfl ?_
      refine kJ_iadd 48 d_L_isItem_47 rfl ?_
      refine kJ_istore 50 [(4, .int (x4 + (h x3 (kx x5)))), (0, .ref 0), (1, .int x1), (2, .ref x2), (3, .ref x3), (5, .int x5)] d_L_isItem_48 (Nat.le_of_ble_eq_true rfl) rfl rfl ?_
      refine kJ_aload_n 51 1 d_L_isItem_50 rfl rfl rfl rfl ?_
      refine kJ_iload_n 52 2 d_L_isItem_51 rfl rfl rfl ?_
      refine kJ_iconst 53 2 d_L_isItem_52 ki_2 rfl ?_
      obtain ⟨v18, h17, ev18, hf⟩ := kBd_some hf
      refine kM_callv 56 m_P_ofItem [.int x1, .int 2] [] d_L_isItem_53 cl_L_32 ⟨w_428, w_429⟩ (kp_0).x ⟨rfl, by decide⟩ ⟨_, _, rfl⟩ rfl rfl (Nat.le_of_ble_eq_true rfl) ⟨Nat.le_of_ble_eq_true rfl, Nat.le_of_ble_eq_true rfl⟩ ⟨rfl, rfl⟩ ⟨Nat.le_of_ble_eq_true rfl, Nat.le_of_ble_eq_true rfl⟩ (j_P_ofItem hro ev18) rfl ?_
      refine kJ_iconst 57 2 d_L_isItem_56 ki_2 rfl ?_
      refine kJ_icmp_ge 60 78 d_L_isItem_57 rfl rfl (fun hc => ?_) (fun hc => ?_)
      · have hf := kIf_t hf hc
        refine kJ_iinc 81 5 [(5, .int (x5 + 1)), (4, .int (x4 + (h x3 (kx x5)))), (0, .ref 0), (1, .int x1), (2, .ref x2), (3, .ref x3)] d_L_isItem_78 rfl ki_1 (Nat.le_of_ble_eq_true rfl) rfl rfl ?_
        refine kJ_goto 34 d_L_isItem_81 rfl ?_
        refine kJ_sub [2, 3, 4, 5, 1, 0] rfl ?_
        exact hrec34 h17 (x4 + (h x3 (kx x5))) (x5 + 1) hf
      · have hf := kIf_f hf hc
        refine kJ_aload_n 61 1 d_L_isItem_60 rfl rfl rfl rfl ?_
        refine kJ_iload_n 62 2 d_L_isItem_61 rfl rfl rfl ?_
        refine kJ_iconst 63 3 d_L_isItem_62 ki_3 rfl ?_
        refine kJ_iload 65 5 d_L_isItem_63 rfl rfl ?_
        refine kJ_iadd 66 d_L_isItem_65 rfl ?_
        obtain ⟨v20, h19, ev20, hf⟩ := kBd_some hf
        refine kM_callv 69 m_P_ofItem [.int x1, .int (3 + x5)] [] d_L_isItem_66 cl_L_32 ⟨w_428, w_429⟩ (kp_0).x ⟨rfl, by decide⟩ ⟨_, _, rfl⟩ rfl rfl (Nat.le_of_ble_eq_true rfl) ⟨Nat.le_of_ble_eq_true rfl, Nat.le_of_ble_eq_true rfl⟩ ⟨rfl, rfl⟩ ⟨Nat.le_of_ble_eq_true rfl, Nat.le_of_ble_eq_true rfl⟩ (j_P_ofItem hro ev20) rfl ?_
        refine kJ_aload_n 70 4 d_L_isItem_69 rfl rfl rfl rfl ?_
        refine kJ_iload 72 5 d_L_isItem_70 rfl rfl ?_
        obtain ⟨hg, hf⟩ := kG_some hf
        refine kM_iald 73 6 d_L_isItem_72 k3 rfl hg rfl ?_
        refine kJ_icmp_eq 76 78 d_L_isItem_73 rfl rfl (fun hc => ?_) (fun hc => ?_)
        · have hf := kIf_t hf hc
          refine kJ_iinc 81 5 [(5, .int (x5 + 1)), (4, .int (x4 + (h x3 (kx x5)))), (0, .ref 0), (1, .int x1), (2, .ref x2), (3, .ref x3)] d_L_isItem_78 rfl ki_1 (Nat.le_of_ble_eq_true rfl) rfl rfl ?_
          refine kJ_goto 34 d_L_isItem_81 rfl ?_
          refine kJ_sub [2, 3, 4, 5, 1, 0] rfl ?_
          exact hrec34 h19 (x4 + (h x3 (kx x5))) (x5 + 1) hf
        · have hf := kIf_f hf hc
          refine kJ_iconst 77 0 d_L_isItem_76 ki_0 rfl ?_
          cases hf
          exact kJ_iret d_L_isItem_77 rfl (kB2_z _) (Nat.le_of_ble_eq_true rfl) (Nat.le_of_ble_eq_true rfl)
def f_L_isItem (K : List Nat) (h : kH) (x1 : Int32) : Option (Bool × List Nat × kH) := kLet (hfill h (786 + K.length) 12 0) fun h1 => kLet (hfill h1 (786 + (K ++ [9]).length) 6 0) fun h2 => kBd (f_L_areVoices (K ++ [9] ++ [8]) h2 x1 (786 + K.length)) fun v4 h3 => if v4 = true then (kBi (f_L_sums h3 x1 (786 + K.length) (786 + (K ++ [9]).length)) fun h5 => b_L_isItem_34 (K ++ [9] ++ [8] ++ [9] ++ [9]) x1 (786 + K.length) (786 + (K ++ [9]).length) kFuel h5 0 0) else (some (false, (K ++ [9] ++ [8] ++ [9] ++ [9]), h3))
theorem j_L_isItem {E : kE} {L : Nat} {xs : Nat → Int32} (hro : kRo E L xs) {K : List Nat} {h : kH} {x1 : Int32} {r : Bool} {K' : List Nat} {h' : kH} (hf : f_L_isItem K h x1 = some (r, K', h')) : JM E m_L_isItem [.ref 0, .int x1] (mk K h) (some (kB2 r)) (mk K' h') := by
  unfold f_L_isItem at hf
  refine JM.of pn_L (Nat.le_of_ble_eq_true rfl) ?_
  show kJ E m_L_isItem (some (kB2 r)) (mk K' h') 0 0 0 [(0, .ref 0), (1, .int x1)] [] (mk K h)
  refine kJ_bipush 2 12 d_L_isItem_0 kb_12 rfl ?_
  refine kX_newa 4 12 9 d_L_isItem_2 w_101 (by decide) rfl (by decide) rfl (Nat.le_of_ble_eq_true rfl) (Nat.le_of_ble_eq_true rfl) rfl ?_
  obtain ⟨h1, eh1, hf⟩ := kLet_e hf
  rw [← eh1]
  refine kJ_astore_n 5 [(2, .ref (786 + K.length)), (0, .ref 0), (1, .int x1)] d_L_isItem_4 rfl (Nat.le_of_ble_eq_true rfl) rfl rfl rfl ?_
  refine kJ_bipush 7 6 d_L_isItem_5 kb_6 rfl ?_
  refine kX_newa 9 6 8 d_L_isItem_7 w_101 (by decide) rfl (by decide) rfl (Nat.le_of_ble_eq_true rfl) (Nat.le_of_ble_eq_true rfl) rfl ?_
  obtain ⟨h2, eh2, hf⟩ := kLet_e hf
  rw [← eh2]
  refine kJ_astore_n 10 [(3, .ref (786 + (K ++ [9]).length)), (2, .ref (786 + K.length)), (0, .ref 0), (1, .int x1)] d_L_isItem_9 rfl (Nat.le_of_ble_eq_true rfl) rfl rfl rfl ?_
  refine kJ_aload_n 11 2 d_L_isItem_10 rfl rfl rfl rfl ?_
  refine kJ_iload_n 12 3 d_L_isItem_11 rfl rfl rfl ?_
  refine kJ_aload_n 13 1 d_L_isItem_12 rfl rfl rfl rfl ?_
  obtain ⟨v4, h3, ev4, hf⟩ := kBd_some hf
  refine kX_calls 16 m_L_areVoices [.ref 0, .int x1, .ref (786 + K.length)] [] 4 42 d_L_isItem_13 cl_L_39 w_425 rfl rfl (Nat.le_of_ble_eq_true rfl) ⟨Nat.le_of_ble_eq_true rfl, Nat.le_of_ble_eq_true rfl⟩ rfl rfl (Nat.le_of_ble_eq_true rfl) (Nat.le_of_ble_eq_true rfl) (j_L_areVoices hro (kX.app (kX_new K 9) [8]) ev4) rfl ?_
  refine kJ_if_ne 19 21 d_L_isItem_16 rfl rfl (fun hc => ?_) (fun hc => ?_)
  · have hf := kIf_t hf (kB2_1 hc)
    refine kJ_aload_n 22 2 d_L_isItem_21 rfl rfl rfl rfl ?_
    refine kJ_iload_n 23 3 d_L_isItem_22 rfl rfl rfl ?_
    refine kJ_aload_n 24 1 d_L_isItem_23 rfl rfl rfl rfl ?_
    refine kJ_aload_n 25 0 d_L_isItem_24 rfl rfl rfl rfl ?_
    obtain ⟨h5, eh5, hf⟩ := kBi_some hf
    refine kM_calls 28 m_L_sums [.ref 0, .int x1, .ref (786 + K.length), .ref (786 + (K ++ [9]).length)] [] d_L_isItem_25 cl_L_43 w_502 rfl rfl (Nat.le_of_ble_eq_true rfl) ⟨Nat.le_of_ble_eq_true rfl, Nat.le_of_ble_eq_true rfl⟩ ⟨rfl, rfl⟩ ⟨Nat.le_of_ble_eq_true rfl, Nat.le_of_ble_eq_true rfl⟩ (j_L_sums hro (kX.app (kX.app (kX.app (kX_new K 9) [8]) [9]) [9]) (kX.app (kX.app (kX_new (K ++ [9]) 8) [9]) [9]) eh5) rfl ?_
    refine kJ_iconst 29 0 d_L_isItem_28 ki_0 rfl ?_
    refine kJ_istore 31 [(4, .int 0), (3, .ref (786 + (K ++ [9]).length)), (2, .ref (786 + K.length)), (0, .ref 0), (1, .int x1)] d_L_isItem_29 (Nat.le_of_ble_eq_true rfl) rfl rfl ?_
    refine kJ_iconst 32 0 d_L_isItem_31 ki_0 rfl ?_
    refine kJ_istore 34 [(5, .int 0), (4, .int 0), (3, .ref (786 + (K ++ [9]).length)), (2, .ref (786 + K.length)), (0, .ref 0), (1, .int x1)] d_L_isItem_32 (Nat.le_of_ble_eq_true rfl) rfl rfl ?_
    refine kJ_sub [4, 5, 3, 2, 1, 0] rfl ?_
    exact c_L_isItem_34 hro (kX.app (kX.app (kX.app (kX_new K 9) [8]) [9]) [9]) (kX.app (kX.app (kX_new (K ++ [9]) 8) [9]) [9]) kFuel h5 0 0 hf
  · have hf := kIf_f hf (kB2_0 hc)
    refine kJ_iconst 20 0 d_L_isItem_19 ki_0 rfl ?_
    cases hf
    exact kJ_iret d_L_isItem_20 rfl (kB2_z _) (Nat.le_of_ble_eq_true rfl) (Nat.le_of_ble_eq_true rfl)
def b_L_ones_4 (x0 : Int32) : Nat → Int32 → Int32 → Option Int32
  | 0, _, _ => none
  | n + 1, x1, x2 => (fun rec4 => if 12 ≤ x2 then (some x1) else (kLet (x1 + ((x0 >>> (x2 &&& 31)) &&& 1)) fun v1 => rec4 v1 (x2 + 1))) (fun x1' x2' => b_L_ones_4 x0 n x1' x2')
theorem c_L_ones_4 {E : kE} {L : Nat} {xs : Nat → Int32} (hro : kRo E L xs) {K : List Nat} {h0 : kH} {x0 : Int32} {r : Int32} : ∀ (n : Nat) (x1 : Int32) (x2 : Int32), b_L_ones_4 x0 n x1 x2 = some r → kJ E m_L_ones (some r) (mk K h0) 0 0 4 [(0, .int x0), (1, .int x1), (2, .int x2)] [] (mk K h0) := by
  intro n
  induction n with
  | zero =>
    intro x1 x2 hf
    have hf : (none : Option Int32) = some r := hf
    cases hf
  | succ n hrec4 =>
    intro x1 x2 hf
    rw [b_L_ones_4] at hf
    dsimp only at hf
    refine kJ_iload_n 5 2 d_L_ones_4 rfl rfl rfl ?_
    refine kJ_bipush 7 12 d_L_ones_5 kb_12 rfl ?_
    refine kJ_icmp_ge 10 24 d_L_ones_7 rfl rfl (fun hc => ?_) (fun hc => ?_)
    · have hf := kIf_t hf hc
      refine kJ_iload_n 25 1 d_L_ones_24 rfl rfl rfl ?_
      cases hf
      exact kJ_iret d_L_ones_25 rfl rfl (Nat.zero_le _) (Nat.zero_le _)
    · have hf := kIf_f hf hc
      refine kJ_iload_n 11 1 d_L_ones_10 rfl rfl rfl ?_
      refine kJ_iload_n 12 0 d_L_ones_11 rfl rfl rfl ?_
      refine kJ_iload_n 13 2 d_L_ones_12 rfl rfl rfl ?_
      refine kJ_ishr 14 d_L_ones_13 rfl ?_
      refine kJ_iconst 15 1 d_L_ones_14 ki_1 rfl ?_
      refine kJ_iand 16 d_L_ones_15 rfl ?_
      refine kJ_iadd 17 d_L_ones_16 rfl ?_
      obtain ⟨v1, ev1, hf⟩ := kLet_e hf
      rw [← ev1]
      refine kJ_istore_n 18 [(1, .int v1), (0, .int x0), (2, .int x2)] d_L_ones_17 rfl (Nat.le_of_ble_eq_true rfl) rfl rfl ?_
      refine kJ_iinc 21 2 [(2, .int (x2 + 1)), (1, .int v1), (0, .int x0)] d_L_ones_18 rfl ki_1 (Nat.le_of_ble_eq_true rfl) rfl rfl ?_
      refine kJ_goto 4 d_L_ones_21 rfl ?_
      refine kJ_sub [2, 1, 0] rfl ?_
      exact hrec4 v1 (x2 + 1) hf
def f_L_ones (x0 : Int32) : Option Int32 := b_L_ones_4 x0 kFuel 0 0
theorem j_L_ones {E : kE} {L : Nat} {xs : Nat → Int32} (hro : kRo E L xs) {K : List Nat} {h0 : kH} {x0 : Int32} {r : Int32} (hf : f_L_ones x0 = some r) : JM E m_L_ones [.int x0] (mk K h0) (some r) (mk K h0) := by
  unfold f_L_ones at hf
  refine JM.of pn_L (Nat.le_of_ble_eq_true rfl) ?_
  show kJ E m_L_ones (some r) (mk K h0) 0 0 0 [(0, .int x0)] [] (mk K h0)
  refine kJ_iconst 1 0 d_L_ones_0 ki_0 rfl ?_
  refine kJ_istore_n 2 [(1, .int 0), (0, .int x0)] d_L_ones_1 rfl (Nat.le_of_ble_eq_true rfl) rfl rfl ?_
  refine kJ_iconst 3 0 d_L_ones_2 ki_0 rfl ?_
  refine kJ_istore_n 4 [(2, .int 0), (1, .int 0), (0, .int x0)] d_L_ones_3 rfl (Nat.le_of_ble_eq_true rfl) rfl rfl ?_
  refine kJ_sub [2, 1, 0] rfl ?_
  exact c_L_ones_4 hro kFuel 0 0 hf
def b_L_isTurned_156 (h : kH) (x5 : Int32) (x7 : Int32) (s0 : Int32) (s1 : Int32) : Option (Bool × kH) := if s0 = s1 then (kBi (f_P_count h 3) fun v5 => if v5 = x5 then (kBi (f_P_count h 6) fun v6 => if v6 = x7 then (some (true, h)) else (some (false, h))) else (some (false, h))) else (some (false, h))
theorem c_L_isTurned_156 {E : kE} {L : Nat} {xs : Nat → Int32} (hro : kRo E L xs) {K : List Nat} {h : kH} {x5 : Int32} {x7 : Int32} {s0 : Int32} {s1 : Int32} {r : Bool} {h' : kH} (hf : b_L_isTurned_156 h x5 x7 s0 s1 = some (r, h')) : kJ E m_L_isTurned (some (kB2 r)) (mk K h') 0 0 156 [(0, .ref 0), (5, .int x5), (7, .int x7)] [.int s1, .int s0] (mk K h) := by
  unfold b_L_isTurned_156 at hf
  refine kJ_icmp_ne 159 184 d_L_isTurned_156 rfl rfl (fun hc => ?_) (fun hc => ?_)
  · have hf := kIf_f hf hc
    refine kJ_iconst 185 0 d_L_isTurned_184 ki_0 rfl ?_
    cases hf
    exact kJ_iret d_L_isTurned_185 rfl (kB2_z _) (Nat.zero_le _) (Nat.zero_le _)
  · have hf := kIf_t hf hc
    refine kJ_aload_n 160 0 d_L_isTurned_159 rfl rfl rfl rfl ?_
    refine kJ_iconst 161 3 d_L_isTurned_160 ki_3 rfl ?_
    obtain ⟨v5, ev5, hf⟩ := kBi_some hf
    refine kM_callv 164 m_P_count [.int 3] [] d_L_isTurned_161 cl_L_28 ⟨w_397, w_398⟩ (kp_0).x ⟨rfl, by decide⟩ ⟨_, _, rfl⟩ rfl rfl (Nat.le_of_ble_eq_true rfl) ⟨Nat.le_of_ble_eq_true rfl, Nat.le_of_ble_eq_true rfl⟩ ⟨rfl, rfl⟩ ⟨Nat.zero_le _, Nat.zero_le _⟩ (j_P_count hro ev5) rfl ?_
    refine kJ_iload 166 1 d_L_isTurned_164 rfl rfl ?_
    refine kJ_icmp_ne 169 184 d_L_isTurned_166 rfl rfl (fun hc => ?_) (fun hc => ?_)
    · have hf := kIf_f hf hc
      refine kJ_iconst 185 0 d_L_isTurned_184 ki_0 rfl ?_
      cases hf
      exact kJ_iret d_L_isTurned_185 rfl (kB2_z _) (Nat.zero_le _) (Nat.zero_le _)
    · have hf := kIf_t hf hc
      refine kJ_aload_n 170 0 d_L_isTurned_169 rfl rfl rfl rfl ?_
      refine kJ_bipush 172 6 d_L_isTurned_170 kb_6 rfl ?_
      obtain ⟨v6, ev6, hf⟩ := kBi_some hf
      refine kM_callv 175 m_P_count [.int 6] [] d_L_isTurned_172 cl_L_28 ⟨w_397, w_398⟩ (kp_0).x ⟨rfl, by decide⟩ ⟨_, _, rfl⟩ rfl rfl (Nat.le_of_ble_eq_true rfl) ⟨Nat.le_of_ble_eq_true rfl, Nat.le_of_ble_eq_true rfl⟩ ⟨rfl, rfl⟩ ⟨Nat.zero_le _, Nat.zero_le _⟩ (j_P_count hro ev6) rfl ?_
      refine kJ_iload 177 2 d_L_isTurned_175 rfl rfl ?_
      refine kJ_icmp_ne 180 184 d_L_isTurned_177 rfl rfl (fun hc => ?_) (fun hc => ?_)
      · have hf := kIf_f hf hc
        refine kJ_iconst 185 0 d_L_isTurned_184 ki_0 rfl ?_
        cases hf
        exact kJ_iret d_L_isTurned_185 rfl (kB2_z _) (Nat.zero_le _) (Nat.zero_le _)
      · have hf := kIf_t hf hc
        refine kJ_iconst 181 1 d_L_isTurned_180 ki_1 rfl ?_
        refine kJ_goto 185 d_L_isTurned_181 rfl ?_
        cases hf
        exact kJ_iret d_L_isTurned_185 rfl (kB2_z _) (Nat.zero_le _) (Nat.zero_le _)
def b_L_isTurned_139 (h : kH) (x4 : Int32) (x5 : Int32) (x6 : Int32) (x7 : Int32) : Option (Bool × kH) := if x4 = 0 then (b_L_isTurned_156 h x5 x7 x6 (-5)) else (kBi (f_L_ones x5) fun v7 => b_L_isTurned_156 h x5 x7 x6 v7)
theorem c_L_isTurned_139 {E : kE} {L : Nat} {xs : Nat → Int32} (hro : kRo E L xs) {K : List Nat} {h : kH} {x4 : Int32} {x5 : Int32} {x6 : Int32} {x7 : Int32} {r : Bool} {h' : kH} (hf : b_L_isTurned_139 h x4 x5 x6 x7 = some (r, h')) : kJ E m_L_isTurned (some (kB2 r)) (mk K h') 0 0 139 [(0, .ref 0), (4, .int x4), (5, .int x5), (6, .int x6), (7, .int x7)] [] (mk K h) := by
  unfold b_L_isTurned_139 at hf
  refine kJ_iload 141 3 d_L_isTurned_139 rfl rfl ?_
  refine kJ_iload 143 1 d_L_isTurned_141 rfl rfl ?_
  refine kJ_if_eq 146 154 d_L_isTurned_143 rfl rfl (fun hc => ?_) (fun hc => ?_)
  · have hf := kIf_t hf hc
    refine kJ_bipush 156 (-5) d_L_isTurned_154 kb_m5 rfl ?_
    refine kJ_sub [0, 2, 4] rfl ?_
    exact c_L_isTurned_156 hro hf
  · have hf := kIf_f hf hc
    refine kJ_iload 148 2 d_L_isTurned_146 rfl rfl ?_
    obtain ⟨v7, ev7, hf⟩ := kBi_some hf
    refine kM_calls 151 m_L_ones [.int x5] [.int x6] d_L_isTurned_148 cl_L_81 w_551 rfl rfl (Nat.le_of_ble_eq_true rfl) ⟨Nat.le_of_ble_eq_true rfl, Nat.le_of_ble_eq_true rfl⟩ ⟨rfl, rfl⟩ ⟨Nat.zero_le _, Nat.zero_le _⟩ (j_L_ones hro ev7) rfl ?_
    refine kJ_goto 156 d_L_isTurned_151 rfl ?_
    refine kJ_sub [0, 2, 4] rfl ?_
    exact c_L_isTurned_156 hro hf
def b_L_isTurned_96 (x4 : Int32) (x5 : Int32) (x6 : Int32) : Nat → kH → Int32 → Int32 → Option (Bool × kH)
  | 0, _, _, _ => none
  | n + 1, h, x7, x8 => (fun rec96 => if x8 < 0 then (b_L_isTurned_139 h x4 x5 x6 x7) else (kBi (f_P_count h 5) fun v8 => if (f_L_has x5 v8) = true then (b_L_isTurned_139 h x4 x5 x6 x7) else (if (f_L_has x5 x8) = true then (rec96 h x8 (x8 + (-1))) else (rec96 h x7 (x8 + (-1)))))) (fun h' x7' x8' => b_L_isTurned_96 x4 x5 x6 n h' x7' x8')
theorem c_L_isTurned_96 {E : kE} {L : Nat} {xs : Nat → Int32} (hro : kRo E L xs) {K : List Nat} {x4 : Int32} {x5 : Int32} {x6 : Int32} {r : Bool} {h' : kH} : ∀ (n : Nat) (h : kH) (x7 : Int32) (x8 : Int32), b_L_isTurned_96 x4 x5 x6 n h x7 x8 = some (r, h') → kJ E m_L_isTurned (some (kB2 r)) (mk K h') 0 0 96 [(0, .ref 0), (4, .int x4), (5, .int x5), (6, .int x6), (7, .int x7), (8, .int x8)] [] (mk K h) := by
  intro n
  induction n with
  | zero =>
    intro h x7 x8 hf
    have hf : (none : Option (Bool × kH)) = some (r, h') := hf
    cases hf
  | succ n hrec96 =>
    intro h x7 x8 hf
    rw [b_L_isTurned_96] at hf
    dsimp only at hf
    refine kJ_iload 98 5 d_L_isTurned_96 rfl rfl ?_
    refine kJ_if_lt 101 139 d_L_isTurned_98 rfl rfl (fun hc => ?_) (fun hc => ?_)
    · have hf := kIf_t hf hc
      refine kJ_sub [0, 1, 2, 3, 4] rfl ?_
      exact c_L_isTurned_139 hro hf
    · have hf := kIf_f hf hc
      refine kJ_iload 103 2 d_L_isTurned_101 rfl rfl ?_
      refine kJ_aload_n 104 0 d_L_isTurned_103 rfl rfl rfl rfl ?_
      refine kJ_iconst 105 5 d_L_isTurned_104 ki_5 rfl ?_
      obtain ⟨v8, ev8, hf⟩ := kBi_some hf
      refine kM_callv 108 m_P_count [.int 5] [.int x5] d_L_isTurned_105 cl_L_28 ⟨w_397, w_398⟩ (kp_0).x ⟨rfl, by decide⟩ ⟨_, _, rfl⟩ rfl rfl (Nat.le_of_ble_eq_true rfl) ⟨Nat.le_of_ble_eq_true rfl, Nat.le_of_ble_eq_true rfl⟩ ⟨rfl, rfl⟩ ⟨Nat.zero_le _, Nat.zero_le _⟩ (j_P_count hro ev8) rfl ?_
      refine kM_calls 111 m_L_has [.int x5, .int v8] [] d_L_isTurned_108 cl_L_24 w_483 rfl rfl (Nat.le_of_ble_eq_true rfl) ⟨Nat.le_of_ble_eq_true rfl, Nat.le_of_ble_eq_true rfl⟩ ⟨rfl, rfl⟩ ⟨Nat.zero_le _, Nat.zero_le _⟩ (j_L_has hro rfl) rfl ?_
      refine kJ_if_ne 114 139 d_L_isTurned_111 rfl rfl (fun hc => ?_) (fun hc => ?_)
      · have hf := kIf_t hf (kB2_1 hc)
        refine kJ_sub [0, 1, 2, 3, 4] rfl ?_
        exact c_L_isTurned_139 hro hf
      · have hf := kIf_f hf (kB2_0 hc)
        refine kJ_iload 116 2 d_L_isTurned_114 rfl rfl ?_
        refine kJ_iload 118 5 d_L_isTurned_116 rfl rfl ?_
        refine kM_calls 121 m_L_has [.int x5, .int x8] [] d_L_isTurned_118 cl_L_24 w_483 rfl rfl (Nat.le_of_ble_eq_true rfl) ⟨Nat.le_of_ble_eq_true rfl, Nat.le_of_ble_eq_true rfl⟩ ⟨rfl, rfl⟩ ⟨Nat.zero_le _, Nat.zero_le _⟩ (j_L_has hro rfl) rfl ?_
        refine kJ_if_eq 124 129 d_L_isTurned_121 rfl rfl (fun hc => ?_) (fun hc => ?_)
        · have hf := kIf_f hf (kB2_0 hc)
          refine kJ_iload 131 4 d_L_isTurned_129 rfl rfl ?_
          refine kJ_istore 133 [(7, .int x7), (0, .ref 0), (4, .int x4), (5, .int x5), (6, .int x6), (8, .int x8)] d_L_isTurned_131 (Nat.le_of_ble_eq_true rfl) rfl rfl ?_
          refine kJ_iinc 136 5 [(8, .int (x8 + (-1))), (7, .int x7), (0, .ref 0), (4, .int x4), (5, .int x5), (6, .int x6)] d_L_isTurned_133 rfl ki_m1 (Nat.le_of_ble_eq_true rfl) rfl rfl ?_
          refine kJ_goto 96 d_L_isTurned_136 rfl ?_
          refine kJ_sub [2, 3, 4, 5, 1, 0] rfl ?_
          exact hrec96 h x7 (x8 + (-1)) hf
        · have hf := kIf_t hf (kB2_1 hc)
          refine kJ_iload 126 5 d_L_isTurned_124 rfl rfl ?_
          refine kJ_goto 131 d_L_isTurned_126 rfl ?_
          refine kJ_istore 133 [(7, .int x8), (0, .ref 0), (4, .int x4), (5, .int x5), (6, .int x6), (8, .int x8)] d_L_isTurned_131 (Nat.le_of_ble_eq_true rfl) rfl rfl ?_
          refine kJ_iinc 136 5 [(8, .int (x8 + (-1))), (7, .int x8), (0, .ref 0), (4, .int x4), (5, .int x5), (6, .int x6)] d_L_isTurned_133 rfl ki_m1 (Nat.le_of_ble_eq_true rfl) rfl rfl ?_
          refine kJ_goto 96 d_L_isTurned_136 rfl ?_
          refine kJ_sub [2, 3, 4, 5, 1, 0] rfl ?_
          exact hrec96 h x8 (x8 + (-1)) hf
def b_L_isTurned_65 (h : kH) (x4 : Int32) (x5 : Int32) (s0 : Int32) : Option (Bool × kH) := kBi (f_P_count h 5) fun v4 => if (f_L_has x5 v4) = true then (kBi (f_P_count h 5) fun v9 => b_L_isTurned_96 x4 x5 s0 kFuel h v9 11) else (b_L_isTurned_96 x4 x5 s0 kFuel h (-6) 11)
theorem c_L_isTurned_65 {E : kE} {L : Nat} {xs : Nat → Int32} (hro : kRo E L xs) {K : List Nat} {h : kH} {x4 : Int32} {x5 : Int32} {s0 : Int32} {r : Bool} {h' : kH} (hf : b_L_isTurned_65 h x4 x5 s0 = some (r, h')) : kJ E m_L_isTurned (some (kB2 r)) (mk K h') 0 0 65 [(0, .ref 0), (4, .int x4), (5, .int x5)] [.int s0] (mk K h) := by
  unfold b_L_isTurned_65 at hf
  refine kJ_istore 67 [(6, .int s0), (0, .ref 0), (4, .int x4), (5, .int x5)] d_L_isTurned_65 (Nat.le_of_ble_eq_true rfl) rfl rfl ?_
  refine kJ_iload 69 3 d_L_isTurned_67 rfl rfl ?_
  refine kJ_aload_n 70 1 d_L_isTurned_69 rfl rfl rfl rfl ?_
  refine kJ_iconst 71 5 d_L_isTurned_70 ki_5 rfl ?_
  obtain ⟨v4, ev4, hf⟩ := kBi_some hf
  refine kM_callv 74 m_P_count [.int 5] [.int x5] d_L_isTurned_71 cl_L_28 ⟨w_397, w_398⟩ (kp_0).x ⟨rfl, by decide⟩ ⟨_, _, rfl⟩ rfl rfl (Nat.le_of_ble_eq_true rfl) ⟨Nat.le_of_ble_eq_true rfl, Nat.le_of_ble_eq_true rfl⟩ ⟨rfl, rfl⟩ ⟨Nat.zero_le _, Nat.zero_le _⟩ (j_P_count hro ev4) rfl ?_
  refine kM_calls 77 m_L_has [.int x5, .int v4] [] d_L_isTurned_74 cl_L_24 w_483 rfl rfl (Nat.le_of_ble_eq_true rfl) ⟨Nat.le_of_ble_eq_true rfl, Nat.le_of_ble_eq_true rfl⟩ ⟨rfl, rfl⟩ ⟨Nat.zero_le _, Nat.zero_le _⟩ (j_L_has hro rfl) rfl ?_
  refine kJ_if_eq 80 88 d_L_isTurned_77 rfl rfl (fun hc => ?_) (fun hc => ?_)
  · have hf := kIf_f hf (kB2_0 hc)
    refine kJ_bipush 90 (-6) d_L_isTurned_88 kb_m6 rfl ?_
    refine kJ_istore 92 [(7, .int (-6)), (6, .int s0), (0, .ref 0), (4, .int x4), (5, .int x5)] d_L_isTurned_90 (Nat.le_of_ble_eq_true rfl) rfl rfl ?_
    refine kJ_bipush 94 11 d_L_isTurned_92 kb_11 rfl ?_
    refine kJ_istore 96 [(8, .int 11), (7, .int (-6)), (6, .int s0), (0, .ref 0), (4, .int x4), (5, .int x5)] d_L_isTurned_94 (Nat.le_of_ble_eq_true rfl) rfl rfl ?_
    refine kJ_sub [3, 4, 5, 2, 1, 0] rfl ?_
    exact c_L_isTurned_96 hro kFuel h (-6) 11 hf
  · have hf := kIf_t hf (kB2_1 hc)
    refine kJ_aload_n 81 1 d_L_isTurned_80 rfl rfl rfl rfl ?_
    refine kJ_iconst 82 5 d_L_isTurned_81 ki_5 rfl ?_
    obtain ⟨v9, ev9, hf⟩ := kBi_some hf
    refine kM_callv 85 m_P_count [.int 5] [] d_L_isTurned_82 cl_L_28 ⟨w_397, w_398⟩ (kp_0).x ⟨rfl, by decide⟩ ⟨_, _, rfl⟩ rfl rfl (Nat.le_of_ble_eq_true rfl) ⟨Nat.le_of_ble_eq_true rfl, Nat.le_of_ble_eq_true rfl⟩ ⟨rfl, rfl⟩ ⟨Nat.zero_le _, Nat.zero_le _⟩ (j_P_count hro ev9) rfl ?_
    refine kJ_goto 90 d_L_isTurned_85 rfl ?_
    refine kJ_istore 92 [(7, .int v9), (6, .int s0), (0, .ref 0), (4, .int x4), (5, .int x5)] d_L_isTurned_90 (Nat.le_of_ble_eq_true rfl) rfl rfl ?_
    refine kJ_bipush 94 11 d_L_isTurned_92 kb_11 rfl ?_
    refine kJ_istore 96 [(8, .int 11), (7, .int v9), (6, .int s0), (0, .ref 0), (4, .int x4), (5, .int x5)] d_L_isTurned_94 (Nat.le_of_ble_eq_true rfl) rfl rfl ?_
    refine kJ_sub [3, 4, 5, 2, 1, 0] rfl ?_
    exact c_L_isTurned_96 hro kFuel h v9 11 hf
def b_L_isTurned_45 (h : kH) (x1 : Int32) (x2 : Int32) (x4 : Int32) (s0 : Int32) : Option (Bool × kH) := if x2 = 1 then (kBd (f_P_come h x1) fun v11 h10 => b_L_isTurned_65 h10 x4 s0 v11) else (kBd (f_P_go h x1) fun v3 h2 => b_L_isTurned_65 h2 x4 s0 v3)
theorem c_L_isTurned_45 {E : kE} {L : Nat} {xs : Nat → Int32} (hro : kRo E L xs) {K : List Nat} {h : kH} {x1 : Int32} {x2 : Int32} {x4 : Int32} {s0 : Int32} {r : Bool} {h' : kH} (hf : b_L_isTurned_45 h x1 x2 x4 s0 = some (r, h')) : kJ E m_L_isTurned (some (kB2 r)) (mk K h') 0 0 45 [(0, .ref 0), (1, .int x1), (2, .int x2), (4, .int x4)] [.int s0] (mk K h) := by
  unfold b_L_isTurned_45 at hf
  refine kJ_istore 47 [(5, .int s0), (0, .ref 0), (1, .int x1), (2, .int x2), (4, .int x4)] d_L_isTurned_45 (Nat.le_of_ble_eq_true rfl) rfl rfl ?_
  refine kJ_iload_n 48 3 d_L_isTurned_47 rfl rfl rfl ?_
  refine kJ_iconst 49 1 d_L_isTurned_48 ki_1 rfl ?_
  refine kJ_icmp_ne 52 60 d_L_isTurned_49 rfl rfl (fun hc => ?_) (fun hc => ?_)
  · have hf := kIf_f hf hc
    refine kJ_aload_n 61 1 d_L_isTurned_60 rfl rfl rfl rfl ?_
    refine kJ_iload_n 62 2 d_L_isTurned_61 rfl rfl rfl ?_
    obtain ⟨v3, h2, ev3, hf⟩ := kBd_some hf
    refine kM_callv 65 m_P_go [.int x1] [] d_L_isTurned_62 cl_L_78 ⟨w_543, w_544⟩ (kp_0).x ⟨rfl, by decide⟩ ⟨_, _, rfl⟩ rfl rfl (Nat.le_of_ble_eq_true rfl) ⟨Nat.le_of_ble_eq_true rfl, Nat.le_of_ble_eq_true rfl⟩ ⟨rfl, rfl⟩ ⟨Nat.zero_le _, Nat.zero_le _⟩ (j_P_go hro ev3) rfl ?_
    refine kJ_sub [1, 4, 0] rfl ?_
    exact c_L_isTurned_65 hro hf
  · have hf := kIf_t hf hc
    refine kJ_aload_n 53 1 d_L_isTurned_52 rfl rfl rfl rfl ?_
    refine kJ_iload_n 54 2 d_L_isTurned_53 rfl rfl rfl ?_
    obtain ⟨v11, h10, ev11, hf⟩ := kBd_some hf
    refine kM_callv 57 m_P_come [.int x1] [] d_L_isTurned_54 cl_L_75 ⟨w_529, w_530⟩ (kp_0).x ⟨rfl, by decide⟩ ⟨_, _, rfl⟩ rfl rfl (Nat.le_of_ble_eq_true rfl) ⟨Nat.le_of_ble_eq_true rfl, Nat.le_of_ble_eq_true rfl⟩ ⟨rfl, rfl⟩ ⟨Nat.zero_le _, Nat.zero_le _⟩ (j_P_come hro ev11) rfl ?_
    refine kJ_goto 65 d_L_isTurned_57 rfl ?_
    refine kJ_sub [1, 4, 0] rfl ?_
    exact c_L_isTurned_65 hro hf
def b_L_isTurned_29 (h : kH) (x1 : Int32) (x2 : Int32) (x3 : Int32) (s0 : Bool) : Option (Bool × kH) := if s0 = true then (b_L_isTurned_45 h x1 x2 (kB2 s0) (x3 ^^^ (1 <<< (x1 &&& 31)))) else (b_L_isTurned_45 h x1 x2 (kB2 s0) x3)
theorem c_L_isTurned_29 {E : kE} {L : Nat} {xs : Nat → Int32} (hro : kRo E L xs) {K : List Nat} {h : kH} {x1 : Int32} {x2 : Int32} {x3 : Int32} {s0 : Bool} {r : Bool} {h' : kH} (hf : b_L_isTurned_29 h x1 x2 x3 s0 = some (r, h')) : kJ E m_L_isTurned (some (kB2 r)) (mk K h') 0 0 29 [(0, .ref 0), (1, .int x1), (2, .int x2), (3, .int x3)] [.int (kB2 s0)] (mk K h) := by
  unfold b_L_isTurned_29 at hf
  refine kJ_istore 31 [(4, .int (kB2 s0)), (0, .ref 0), (1, .int x1), (2, .int x2), (3, .int x3)] d_L_isTurned_29 (Nat.le_of_ble_eq_true rfl) rfl rfl ?_
  refine kJ_iload 33 0 d_L_isTurned_31 rfl rfl ?_
  refine kJ_if_eq 36 44 d_L_isTurned_33 rfl rfl (fun hc => ?_) (fun hc => ?_)
  · have hf := kIf_f hf (kB2_0 hc)
    refine kJ_iload_n 45 4 d_L_isTurned_44 rfl rfl rfl ?_
    refine kJ_sub [1, 2, 3, 0] rfl ?_
    exact c_L_isTurned_45 hro hf
  · have hf := kIf_t hf (kB2_1 hc)
    refine kJ_iload_n 37 4 d_L_isTurned_36 rfl rfl rfl ?_
    refine kJ_iconst 38 1 d_L_isTurned_37 ki_1 rfl ?_
    refine kJ_iload_n 39 2 d_L_isTurned_38 rfl rfl rfl ?_
    refine kJ_ishl 40 d_L_isTurned_39 rfl ?_
    refine kJ_ixor 41 d_L_isTurned_40 rfl ?_
    refine kJ_goto 45 d_L_isTurned_41 rfl ?_
    refine kJ_sub [1, 2, 3, 0] rfl ?_
    exact c_L_isTurned_45 hro hf
def b_L_isTurned_21 (h : kH) (x1 : Int32) (x2 : Int32) (x3 : Int32) (s0 : Bool) (s1 : Bool) : Option (Bool × kH) := if (kB2 s0) = (kB2 s1) then (b_L_isTurned_29 h x1 x2 x3 false) else (b_L_isTurned_29 h x1 x2 x3 true)
theorem c_L_isTurned_21 {E : kE} {L : Nat} {xs : Nat → Int32} (hro : kRo E L xs) {K : List Nat} {h : kH} {x1 : Int32} {x2 : Int32} {x3 : Int32} {s0 : Bool} {s1 : Bool} {r : Bool} {h' : kH} (hf : b_L_isTurned_21 h x1 x2 x3 s0 s1 = some (r, h')) : kJ E m_L_isTurned (some (kB2 r)) (mk K h') 0 0 21 [(0, .ref 0), (1, .int x1), (2, .int x2), (3, .int x3)] [.int (kB2 s1), .int (kB2 s0)] (mk K h) := by
  unfold b_L_isTurned_21 at hf
  refine kJ_icmp_eq 24 28 d_L_isTurned_21 rfl rfl (fun hc => ?_) (fun hc => ?_)
  · have hf := kIf_t hf hc
    refine kJ_iconst 29 0 d_L_isTurned_28 ki_0 rfl ?_
    refine kJ_sub [0, 1, 2, 3] rfl ?_
    exact c_L_isTurned_29 hro hf
  · have hf := kIf_f hf hc
    refine kJ_iconst 25 1 d_L_isTurned_24 ki_1 rfl ?_
    refine kJ_goto 29 d_L_isTurned_25 rfl ?_
    refine kJ_sub [0, 1, 2, 3] rfl ?_
    exact c_L_isTurned_29 hro hf
def f_L_isTurned (h : kH) (x1 : Int32) (x2 : Int32) : Option (Bool × kH) := kBi (f_P_count h 3) fun v1 => if x2 = 1 then (b_L_isTurned_21 h x1 x2 v1 (f_L_has v1 x1) true) else (b_L_isTurned_21 h x1 x2 v1 (f_L_has v1 x1) false)
theorem j_L_isTurned {E : kE} {L : Nat} {xs : Nat → Int32} (hro : kRo E L xs) {K : List Nat} {h : kH} {x1 : Int32} {x2 : Int32} {r : Bool} {h' : kH} (hf : f_L_isTurned h x1 x2 = some (r, h')) : JM E m_L_isTurned [.ref 0, .int x1, .int x2] (mk K h) (some (kB2 r)) (mk K h') := by
  unfold f_L_isTurned at hf
  refine JM.of pn_L (Nat.le_of_ble_eq_true rfl) ?_
  show kJ E m_L_isTurned (some (kB2 r)) (mk K h') 0 0 0 [(0, .ref 0), (1, .int x1), (2, .int x2)] [] (mk K h)
  refine kJ_aload_n 1 0 d_L_isTurned_0 rfl rfl rfl rfl ?_
  refine kJ_iconst 2 3 d_L_isTurned_1 ki_3 rfl ?_
  obtain ⟨v1, ev1, hf⟩ := kBi_some hf
  refine kM_callv 5 m_P_count [.int 3] [] d_L_isTurned_2 cl_L_28 ⟨w_397, w_398⟩ (kp_0).x ⟨rfl, by decide⟩ ⟨_, _, rfl⟩ rfl rfl (Nat.le_of_ble_eq_true rfl) ⟨Nat.le_of_ble_eq_true rfl, Nat.le_of_ble_eq_true rfl⟩ ⟨rfl, rfl⟩ ⟨Nat.zero_le _, Nat.zero_le _⟩ (j_P_count hro ev1) rfl ?_
  refine kJ_istore_n 6 [(3, .int v1), (0, .ref 0), (1, .int x1), (2, .int x2)] d_L_isTurned_5 rfl (Nat.le_of_ble_eq_true rfl) rfl rfl ?_
  refine kJ_iload_n 7 0 d_L_isTurned_6 rfl rfl rfl ?_
  refine kJ_iload_n 8 2 d_L_isTurned_7 rfl rfl rfl ?_
  refine kM_calls 11 m_L_has [.int v1, .int x1] [] d_L_isTurned_8 cl_L_24 w_483 rfl rfl (Nat.le_of_ble_eq_true rfl) ⟨Nat.le_of_ble_eq_true rfl, Nat.le_of_ble_eq_true rfl⟩ ⟨rfl, rfl⟩ ⟨Nat.zero_le _, Nat.zero_le _⟩ (j_L_has hro rfl) rfl ?_
  refine kJ_iload_n 12 3 d_L_isTurned_11 rfl rfl rfl ?_
  refine kJ_iconst 13 1 d_L_isTurned_12 ki_1 rfl ?_
  refine kJ_icmp_ne 16 20 d_L_isTurned_13 rfl rfl (fun hc => ?_) (fun hc => ?_)
  · have hf := kIf_f hf hc
    refine kJ_iconst 21 0 d_L_isTurned_20 ki_0 rfl ?_
    refine kJ_sub [1, 2, 3, 0] rfl ?_
    exact c_L_isTurned_21 hro hf
  · have hf := kIf_t hf hc
    refine kJ_iconst 17 1 d_L_isTurned_16 ki_1 rfl ?_
    refine kJ_goto 21 d_L_isTurned_17 rfl ?_
    refine kJ_sub [1, 2, 3, 0] rfl ?_
    exact c_L_isTurned_21 hro hf
def b_L_isNamed_75 (h : kH) (x3 : Int32) (s0 : Int32) : Option (Bool × kH) := if s0 = x3 then (some (true, h)) else (some (false, h))
theorem c_L_isNamed_75 {E : kE} {L : Nat} {xs : Nat → Int32} (hro : kRo E L xs) {K : List Nat} {h : kH} {x3 : Int32} {s0 : Int32} {r : Bool} {h' : kH} (hf : b_L_isNamed_75 h x3 s0 = some (r, h')) : kJ E m_L_isNamed (some (kB2 r)) (mk K h') 0 0 75 [(3, .int x3)] [.int s0] (mk K h) := by
  unfold b_L_isNamed_75 at hf
  refine kJ_iload_n 76 0 d_L_isNamed_75 rfl rfl rfl ?_
  refine kJ_icmp_ne 79 83 d_L_isNamed_76 rfl rfl (fun hc => ?_) (fun hc => ?_)
  · have hf := kIf_f hf hc
    refine kJ_iconst 84 0 d_L_isNamed_83 ki_0 rfl ?_
    cases hf
    exact kJ_iret d_L_isNamed_84 rfl (kB2_z _) (Nat.zero_le _) (Nat.zero_le _)
  · have hf := kIf_t hf hc
    refine kJ_iconst 80 1 d_L_isNamed_79 ki_1 rfl ?_
    refine kJ_goto 84 d_L_isNamed_80 rfl ?_
    cases hf
    exact kJ_iret d_L_isNamed_84 rfl (kB2_z _) (Nat.zero_le _) (Nat.zero_le _)
def b_L_isNamed_20 (h : kH) (x1 : Int32) (x2 : Int32) (x3 : Int32) (s0 : Int32) : Option (Bool × kH) := kBd (f_P_proxy h x1 x2 x3) fun v4 h3 => if x3 = x1 then (if v4 = (-1) then (some (true, h3)) else (some (false, h3))) else (if v4 = s0 then (if 0 ≤ x2 then (kBd (f_P_at h3 x1 x2 4) fun v6 h5 => b_L_isNamed_75 h5 x3 v6) else (kBi (f_P_ofMember h3 x1 3) fun v7 => b_L_isNamed_75 h3 x3 v7)) else (some (false, h3)))
theorem c_L_isNamed_20 {E : kE} {L : Nat} {xs : Nat → Int32} (hro : kRo E L xs) {K : List Nat} {h : kH} {x1 : Int32} {x2 : Int32} {x3 : Int32} {s0 : Int32} {r : Bool} {h' : kH} (hf : b_L_isNamed_20 h x1 x2 x3 s0 = some (r, h')) : kJ E m_L_isNamed (some (kB2 r)) (mk K h') 0 0 20 [(0, .ref 0), (1, .int x1), (2, .int x2), (3, .int x3)] [.int s0] (mk K h) := by
  unfold b_L_isNamed_20 at hf
  refine kJ_istore 22 [(4, .int s0), (0, .ref 0), (1, .int x1), (2, .int x2), (3, .int x3)] d_L_isNamed_20 (Nat.le_of_ble_eq_true rfl) rfl rfl ?_
  refine kJ_aload_n 23 1 d_L_isNamed_22 rfl rfl rfl rfl ?_
  refine kJ_iload_n 24 2 d_L_isNamed_23 rfl rfl rfl ?_
  refine kJ_iload_n 25 3 d_L_isNamed_24 rfl rfl rfl ?_
  refine kJ_iload_n 26 4 d_L_isNamed_25 rfl rfl rfl ?_
  obtain ⟨v4, h3, ev4, hf⟩ := kBd_some hf
  refine kM_callv 29 m_P_proxy [.int x1, .int x2, .int x3] [] d_L_isNamed_26 cl_L_84 ⟨w_557, w_558⟩ (kp_0).x ⟨rfl, by decide⟩ ⟨_, _, rfl⟩ rfl rfl (Nat.le_of_ble_eq_true rfl) ⟨Nat.le_of_ble_eq_true rfl, Nat.le_of_ble_eq_true rfl⟩ ⟨rfl, rfl⟩ ⟨Nat.zero_le _, Nat.zero_le _⟩ (j_P_proxy hro ev4) rfl ?_
  refine kJ_istore 31 [(5, .int v4), (4, .int s0), (0, .ref 0), (1, .int x1), (2, .int x2), (3, .int x3)] d_L_isNamed_29 (Nat.le_of_ble_eq_true rfl) rfl rfl ?_
  refine kJ_iload_n 32 5 d_L_isNamed_31 rfl rfl rfl ?_
  refine kJ_iload_n 33 3 d_L_isNamed_32 rfl rfl rfl ?_
  refine kJ_icmp_ne 36 48 d_L_isNamed_33 rfl rfl (fun hc => ?_) (fun hc => ?_)
  · have hf := kIf_f hf hc
    refine kJ_iload 50 0 d_L_isNamed_48 rfl rfl ?_
    refine kJ_iload 52 1 d_L_isNamed_50 rfl rfl ?_
    refine kJ_icmp_ne 55 83 d_L_isNamed_52 rfl rfl (fun hc => ?_) (fun hc => ?_)
    · have hf := kIf_f hf hc
      refine kJ_iconst 84 0 d_L_isNamed_83 ki_0 rfl ?_
      cases hf
      exact kJ_iret d_L_isNamed_84 rfl (kB2_z _) (Nat.zero_le _) (Nat.zero_le _)
    · have hf := kIf_t hf hc
      refine kJ_iload_n 56 4 d_L_isNamed_55 rfl rfl rfl ?_
      refine kJ_if_ge 59 68 d_L_isNamed_56 rfl rfl (fun hc => ?_) (fun hc => ?_)
      · have hf := kIf_t hf hc
        refine kJ_aload_n 69 2 d_L_isNamed_68 rfl rfl rfl rfl ?_
        refine kJ_iload_n 70 3 d_L_isNamed_69 rfl rfl rfl ?_
        refine kJ_iload_n 71 4 d_L_isNamed_70 rfl rfl rfl ?_
        refine kJ_iconst 72 4 d_L_isNamed_71 ki_4 rfl ?_
        obtain ⟨v6, h5, ev6, hf⟩ := kBd_some hf
        refine kM_callv 75 m_P_at [.int x1, .int x2, .int 4] [] d_L_isNamed_72 cl_L_8 ⟨w_486, w_487⟩ (kp_0).x ⟨rfl, by decide⟩ ⟨_, _, rfl⟩ rfl rfl (Nat.le_of_ble_eq_true rfl) ⟨Nat.le_of_ble_eq_true rfl, Nat.le_of_ble_eq_true rfl⟩ ⟨rfl, rfl⟩ ⟨Nat.zero_le _, Nat.zero_le _⟩ (j_P_at hro ev6) rfl ?_
        refine kJ_sub [5] rfl ?_
        exact c_L_isNamed_75 hro hf
      · have hf := kIf_f hf hc
        refine kJ_aload_n 60 2 d_L_isNamed_59 rfl rfl rfl rfl ?_
        refine kJ_iload_n 61 3 d_L_isNamed_60 rfl rfl rfl ?_
        refine kJ_iconst 62 3 d_L_isNamed_61 ki_3 rfl ?_
        obtain ⟨v7, ev7, hf⟩ := kBi_some hf
        refine kM_callv 65 m_P_ofMember [.int x1, .int 3] [] d_L_isNamed_62 cl_L_14 ⟨w_380, w_381⟩ (kp_0).x ⟨rfl, by decide⟩ ⟨_, _, rfl⟩ rfl rfl (Nat.le_of_ble_eq_true rfl) ⟨Nat.le_of_ble_eq_true rfl, Nat.le_of_ble_eq_true rfl⟩ ⟨rfl, rfl⟩ ⟨Nat.zero_le _, Nat.zero_le _⟩ (j_P_ofMember hro ev7) rfl ?_
        refine kJ_goto 75 d_L_isNamed_65 rfl ?_
        refine kJ_sub [5] rfl ?_
        exact c_L_isNamed_75 hro hf
  · have hf := kIf_t hf hc
    refine kJ_iload 38 0 d_L_isNamed_36 rfl rfl ?_
    refine kJ_iconst 39 (-1) d_L_isNamed_38 ki_m1 rfl ?_
    refine kJ_icmp_ne 42 46 d_L_isNamed_39 rfl rfl (fun hc => ?_) (fun hc => ?_)
    · have hf := kIf_f hf hc
      refine kJ_iconst 47 0 d_L_isNamed_46 ki_0 rfl ?_
      cases hf
      exact kJ_iret d_L_isNamed_47 rfl (kB2_z _) (Nat.zero_le _) (Nat.zero_le _)
    · have hf := kIf_t hf hc
      refine kJ_iconst 43 1 d_L_isNamed_42 ki_1 rfl ?_
      refine kJ_goto 47 d_L_isNamed_43 rfl ?_
      cases hf
      exact kJ_iret d_L_isNamed_47 rfl (kB2_z _) (Nat.zero_le _) (Nat.zero_le _)
def f_L_isNamed (h : kH) (x1 : Int32) (x2 : Int32) (x3 : Int32) : Option (Bool × kH) := if 0 ≤ x2 then (kBd (f_P_at h x1 x2 4) fun v2 h1 => b_L_isNamed_20 h1 x1 x2 x3 v2) else (kBi (f_P_ofMember h x1 3) fun v8 => b_L_isNamed_20 h x1 x2 x3 v8)
theorem j_L_isNamed {E : kE} {L : Nat} {xs : Nat → Int32} (hro : kRo E L xs) {K : List Nat} {h : kH} {x1 : Int32} {x2 : Int32} {x3 : Int32} {r : Bool} {h' : kH} (hf : f_L_isNamed h x1 x2 x3 = some (r, h')) : JM E m_L_isNamed [.ref 0, .int x1, .int x2, .int x3] (mk K h) (some (kB2 r)) (mk K h') := by
  unfold f_L_isNamed at hf
  refine JM.of pn_L (Nat.le_of_ble_eq_true rfl) ?_
  show kJ E m_L_isNamed (some (kB2 r)) (mk K h') 0 0 0 [(0, .ref 0), (1, .int x1), (2, .int x2), (3, .int x3)] [] (mk K h)
  refine kJ_iload_n 1 2 d_L_isNamed_0 rfl rfl rfl ?_
  refine kJ_if_ge 4 13 d_L_isNamed_1 rfl rfl (fun hc => ?_) (fun hc => ?_)
  · have hf := kIf_t hf hc
    refine kJ_aload_n 14 0 d_L_isNamed_13 rfl rfl rfl rfl ?_
    refine kJ_iload_n 15 1 d_L_isNamed_14 rfl rfl rfl ?_
    refine kJ_iload_n 16 2 d_L_isNamed_15 rfl rfl rfl ?_
    refine kJ_iconst 17 4 d_L_isNamed_16 ki_4 rfl ?_
    obtain ⟨v2, h1, ev2, hf⟩ := kBd_some hf
    refine kM_callv 20 m_P_at [.int x1, .int x2, .int 4] [] d_L_isNamed_17 cl_L_8 ⟨w_486, w_487⟩ (kp_0).x ⟨rfl, by decide⟩ ⟨_, _, rfl⟩ rfl rfl (Nat.le_of_ble_eq_true rfl) ⟨Nat.le_of_ble_eq_true rfl, Nat.le_of_ble_eq_true rfl⟩ ⟨rfl, rfl⟩ ⟨Nat.zero_le _, Nat.zero_le _⟩ (j_P_at hro ev2) rfl ?_
    refine kJ_sub [0, 1, 2, 3] rfl ?_
    exact c_L_isNamed_20 hro hf
  · have hf := kIf_f hf hc
    refine kJ_aload_n 5 0 d_L_isNamed_4 rfl rfl rfl rfl ?_
    refine kJ_iload_n 6 1 d_L_isNamed_5 rfl rfl rfl ?_
    refine kJ_iconst 7 3 d_L_isNamed_6 ki_3 rfl ?_
    obtain ⟨v8, ev8, hf⟩ := kBi_some hf
    refine kM_callv 10 m_P_ofMember [.int x1, .int 3] [] d_L_isNamed_7 cl_L_14 ⟨w_380, w_381⟩ (kp_0).x ⟨rfl, by decide⟩ ⟨_, _, rfl⟩ rfl rfl (Nat.le_of_ble_eq_true rfl) ⟨Nat.le_of_ble_eq_true rfl, Nat.le_of_ble_eq_true rfl⟩ ⟨rfl, rfl⟩ ⟨Nat.zero_le _, Nat.zero_le _⟩ (j_P_ofMember hro ev8) rfl ?_
    refine kJ_goto 20 d_L_isNamed_10 rfl ?_
    refine kJ_sub [0, 1, 2, 3] rfl ?_
    exact c_L_isNamed_20 hro hf
def b_L_isTold_66 (h : kH) (s0 : Int32) (s1 : Int32) : Option (Bool × kH) := if s0 = s1 then (some (true, h)) else (some (false, h))
theorem c_L_isTold_66 {E : kE} {L : Nat} {xs : Nat → Int32} (hro : kRo E L xs) {K : List Nat} {h : kH} {s0 : Int32} {s1 : Int32} {r : Bool} {h' : kH} (hf : b_L_isTold_66 h s0 s1 = some (r, h')) : kJ E m_L_isTold (some (kB2 r)) (mk K h') 0 0 66 [] [.int s1, .int s0] (mk K h) := by
  unfold b_L_isTold_66 at hf
  refine kJ_icmp_ne 69 73 d_L_isTold_66 rfl rfl (fun hc => ?_) (fun hc => ?_)
  · have hf := kIf_f hf hc
    refine kJ_iconst 74 0 d_L_isTold_73 ki_0 rfl ?_
    cases hf
    exact kJ_iret d_L_isTold_74 rfl (kB2_z _) (Nat.zero_le _) (Nat.zero_le _)
  · have hf := kIf_t hf hc
    refine kJ_iconst 70 1 d_L_isTold_69 ki_1 rfl ?_
    refine kJ_goto 74 d_L_isTold_70 rfl ?_
    cases hf
    exact kJ_iret d_L_isTold_74 rfl (kB2_z _) (Nat.zero_le _) (Nat.zero_le _)
def b_L_isTold_45 (h : kH) (x1 : Int32) (x2 : Int32) (x3 : Int32) (x4 : Int32) (x5 : Int32) (s0 : Int32) (s1 : Int32) : Option (Bool × kH) := if s0 = s1 then (kBd (f_P_at h x1 x2 2) fun v8 h7 => if x4 = 0 then (b_L_isTold_66 h7 v8 x5) else (b_L_isTold_66 h7 v8 x3)) else (some (false, h))
theorem c_L_isTold_45 {E : kE} {L : Nat} {xs : Nat → Int32} (hro : kRo E L xs) {K : List Nat} {h : kH} {x1 : Int32} {x2 : Int32} {x3 : Int32} {x4 : Int32} {x5 : Int32} {s0 : Int32} {s1 : Int32} {r : Bool} {h' : kH} (hf : b_L_isTold_45 h x1 x2 x3 x4 x5 s0 s1 = some (r, h')) : kJ E m_L_isTold (some (kB2 r)) (mk K h') 0 0 45 [(0, .ref 0), (1, .int x1), (2, .int x2), (3, .int x3), (4, .int x4), (5, .int x5)] [.int s1, .int s0] (mk K h) := by
  unfold b_L_isTold_45 at hf
  refine kJ_icmp_ne 48 73 d_L_isTold_45 rfl rfl (fun hc => ?_) (fun hc => ?_)
  · have hf := kIf_f hf hc
    refine kJ_iconst 74 0 d_L_isTold_73 ki_0 rfl ?_
    cases hf
    exact kJ_iret d_L_isTold_74 rfl (kB2_z _) (Nat.zero_le _) (Nat.zero_le _)
  · have hf := kIf_t hf hc
    refine kJ_aload_n 49 0 d_L_isTold_48 rfl rfl rfl rfl ?_
    refine kJ_iload_n 50 1 d_L_isTold_49 rfl rfl rfl ?_
    refine kJ_iload_n 51 2 d_L_isTold_50 rfl rfl rfl ?_
    refine kJ_iconst 52 2 d_L_isTold_51 ki_2 rfl ?_
    obtain ⟨v8, h7, ev8, hf⟩ := kBd_some hf
    refine kM_callv 55 m_P_at [.int x1, .int x2, .int 2] [] d_L_isTold_52 cl_L_8 ⟨w_486, w_487⟩ (kp_0).x ⟨rfl, by decide⟩ ⟨_, _, rfl⟩ rfl rfl (Nat.le_of_ble_eq_true rfl) ⟨Nat.le_of_ble_eq_true rfl, Nat.le_of_ble_eq_true rfl⟩ ⟨rfl, rfl⟩ ⟨Nat.zero_le _, Nat.zero_le _⟩ (j_P_at hro ev8) rfl ?_
    refine kJ_iload 57 4 d_L_isTold_55 rfl rfl ?_
    refine kJ_if_eq 60 64 d_L_isTold_57 rfl rfl (fun hc => ?_) (fun hc => ?_)
    · have hf := kIf_t hf hc
      refine kJ_iload 66 5 d_L_isTold_64 rfl rfl ?_
      refine kJ_sub [] rfl ?_
      exact c_L_isTold_66 hro hf
    · have hf := kIf_f hf hc
      refine kJ_iload_n 61 3 d_L_isTold_60 rfl rfl rfl ?_
      refine kJ_goto 66 d_L_isTold_61 rfl ?_
      refine kJ_sub [] rfl ?_
      exact c_L_isTold_66 hro hf
def b_L_isTold_15 (h : kH) (x1 : Int32) (x2 : Int32) (x3 : Int32) (s0 : Bool) : Option (Bool × kH) := kBd (f_P_at h x1 x2 2) fun v4 h3 => kBd (f_P_tell h3 x1 x2 x3) fun v6 h5 => if s0 = true then (b_L_isTold_45 h5 x1 x2 x3 (kB2 s0) v4 v6 v4) else (b_L_isTold_45 h5 x1 x2 x3 (kB2 s0) v4 v6 (-5))
theorem c_L_isTold_15 {E : kE} {L : Nat} {xs : Nat → Int32} (hro : kRo E L xs) {K : List Nat} {h : kH} {x1 : Int32} {x2 : Int32} {x3 : Int32} {s0 : Bool} {r : Bool} {h' : kH} (hf : b_L_isTold_15 h x1 x2 x3 s0 = some (r, h')) : kJ E m_L_isTold (some (kB2 r)) (mk K h') 0 0 15 [(0, .ref 0), (1, .int x1), (2, .int x2), (3, .int x3)] [.int (kB2 s0)] (mk K h) := by
  unfold b_L_isTold_15 at hf
  refine kJ_istore 17 [(4, .int (kB2 s0)), (0, .ref 0), (1, .int x1), (2, .int x2), (3, .int x3)] d_L_isTold_15 (Nat.le_of_ble_eq_true rfl) rfl rfl ?_
  refine kJ_aload_n 18 1 d_L_isTold_17 rfl rfl rfl rfl ?_
  refine kJ_iload_n 19 2 d_L_isTold_18 rfl rfl rfl ?_
  refine kJ_iload_n 20 3 d_L_isTold_19 rfl rfl rfl ?_
  refine kJ_iconst 21 2 d_L_isTold_20 ki_2 rfl ?_
  obtain ⟨v4, h3, ev4, hf⟩ := kBd_some hf
  refine kM_callv 24 m_P_at [.int x1, .int x2, .int 2] [] d_L_isTold_21 cl_L_8 ⟨w_486, w_487⟩ (kp_0).x ⟨rfl, by decide⟩ ⟨_, _, rfl⟩ rfl rfl (Nat.le_of_ble_eq_true rfl) ⟨Nat.le_of_ble_eq_true rfl, Nat.le_of_ble_eq_true rfl⟩ ⟨rfl, rfl⟩ ⟨Nat.zero_le _, Nat.zero_le _⟩ (j_P_at hro ev4) rfl ?_
  refine kJ_istore 26 [(5, .int v4), (4, .int (kB2 s0)), (0, .ref 0), (1, .int x1), (2, .int x2), (3, .int x3)] d_L_isTold_24 (Nat.le_of_ble_eq_true rfl) rfl rfl ?_
  refine kJ_aload_n 27 2 d_L_isTold_26 rfl rfl rfl rfl ?_
  refine kJ_iload_n 28 3 d_L_isTold_27 rfl rfl rfl ?_
  refine kJ_iload_n 29 4 d_L_isTold_28 rfl rfl rfl ?_
  refine kJ_iload_n 30 5 d_L_isTold_29 rfl rfl rfl ?_
  obtain ⟨v6, h5, ev6, hf⟩ := kBd_some hf
  refine kM_callv 33 m_P_tell [.int x1, .int x2, .int x3] [] d_L_isTold_30 cl_L_87 ⟨w_569, w_570⟩ (kp_0).x ⟨rfl, by decide⟩ ⟨_, _, rfl⟩ rfl rfl (Nat.le_of_ble_eq_true rfl) ⟨Nat.le_of_ble_eq_true rfl, Nat.le_of_ble_eq_true rfl⟩ ⟨rfl, rfl⟩ ⟨Nat.zero_le _, Nat.zero_le _⟩ (j_P_tell hro ev6) rfl ?_
  refine kJ_iload 35 1 d_L_isTold_33 rfl rfl ?_
  refine kJ_if_eq 38 43 d_L_isTold_35 rfl rfl (fun hc => ?_) (fun hc => ?_)
  · have hf := kIf_f hf (kB2_0 hc)
    refine kJ_bipush 45 (-5) d_L_isTold_43 kb_m5 rfl ?_
    refine kJ_sub [2, 3, 4, 5, 1, 0] rfl ?_
    exact c_L_isTold_45 hro hf
  · have hf := kIf_t hf (kB2_1 hc)
    refine kJ_iload 40 0 d_L_isTold_38 rfl rfl ?_
    refine kJ_goto 45 d_L_isTold_40 rfl ?_
    refine kJ_sub [2, 3, 4, 5, 1, 0] rfl ?_
    exact c_L_isTold_45 hro hf
def f_L_isTold (h : kH) (x1 : Int32) (x2 : Int32) (x3 : Int32) : Option (Bool × kH) := kBd (f_P_ofItem h x2 2) fun v2 h1 => if 2 ≤ v2 then (b_L_isTold_15 h1 x1 x2 x3 false) else (b_L_isTold_15 h1 x1 x2 x3 true)
theorem j_L_isTold {E : kE} {L : Nat} {xs : Nat → Int32} (hro : kRo E L xs) {K : List Nat} {h : kH} {x1 : Int32} {x2 : Int32} {x3 : Int32} {r : Bool} {h' : kH} (hf : f_L_isTold h x1 x2 x3 = some (r, h')) : JM E m_L_isTold [.ref 0, .int x1, .int x2, .int x3] (mk K h) (some (kB2 r)) (mk K h') := by
  unfold f_L_isTold at hf
  refine JM.of pn_L (Nat.le_of_ble_eq_true rfl) ?_
  show kJ E m_L_isTold (some (kB2 r)) (mk K h') 0 0 0 [(0, .ref 0), (1, .int x1), (2, .int x2), (3, .int x3)] [] (mk K h)
  refine kJ_aload_n 1 0 d_L_isTold_0 rfl rfl rfl rfl ?_
  refine kJ_iload_n 2 2 d_L_isTold_1 rfl rfl rfl ?_
  refine kJ_iconst 3 2 d_L_isTold_2 ki_2 rfl ?_
  obtain ⟨v2, h1, ev2, hf⟩ := kBd_some hf
  refine kM_callv 6 m_P_ofItem [.int x2, .int 2] [] d_L_isTold_3 cl_L_32 ⟨w_428, w_429⟩ (kp_0).x ⟨rfl, by decide⟩ ⟨_, _, rfl⟩ rfl rfl (Nat.le_of_ble_eq_true rfl) ⟨Nat.le_of_ble_eq_true rfl, Nat.le_of_ble_eq_true rfl⟩ ⟨rfl, rfl⟩ ⟨Nat.zero_le _, Nat.zero_le _⟩ (j_P_ofItem hro ev2) rfl ?_
  refine kJ_iconst 7 2 d_L_isTold_6 ki_2 rfl ?_
  refine kJ_icmp_ge 10 14 d_L_isTold_7 rfl rfl (fun hc => ?_) (fun hc => ?_)
  · have hf := kIf_t hf hc
    refine kJ_iconst 15 0 d_L_isTold_14 ki_0 rfl ?_
    refine kJ_sub [0, 1, 2, 3] rfl ?_
    exact c_L_isTold_15 hro hf
  · have hf := kIf_f hf hc
    refine kJ_iconst 11 1 d_L_isTold_10 ki_1 rfl ?_
    refine kJ_goto 15 d_L_isTold_11 rfl ?_
    refine kJ_sub [0, 1, 2, 3] rfl ?_
    exact c_L_isTold_15 hro hf
def b_L_isRecused_92 (h : kH) (s0 : Int32) (s1 : Int32) : Option (Bool × kH) := if s0 = s1 then (some (true, h)) else (some (false, h))
theorem c_L_isRecused_92 {E : kE} {L : Nat} {xs : Nat → Int32} (hro : kRo E L xs) {K : List Nat} {h : kH} {s0 : Int32} {s1 : Int32} {r : Bool} {h' : kH} (hf : b_L_isRecused_92 h s0 s1 = some (r, h')) : kJ E m_L_isRecused (some (kB2 r)) (mk K h') 0 0 92 [] [.int s1, .int s0] (mk K h) := by
  unfold b_L_isRecused_92 at hf
  refine kJ_icmp_ne 95 99 d_L_isRecused_92 rfl rfl (fun hc => ?_) (fun hc => ?_)
  · have hf := kIf_f hf hc
    refine kJ_iconst 100 0 d_L_isRecused_99 ki_0 rfl ?_
    cases hf
    exact kJ_iret d_L_isRecused_100 rfl (kB2_z _) (Nat.zero_le _) (Nat.zero_le _)
  · have hf := kIf_t hf hc
    refine kJ_iconst 96 1 d_L_isRecused_95 ki_1 rfl ?_
    refine kJ_goto 100 d_L_isRecused_96 rfl ?_
    cases hf
    exact kJ_iret d_L_isRecused_100 rfl (kB2_z _) (Nat.zero_le _) (Nat.zero_le _)
def b_L_isRecused_70 (h : kH) (x1 : Int32) (x2 : Int32) (x4 : Int32) (x5 : Int32) (x6 : Int32) (s0 : Int32) (s1 : Int32) : Option (Bool × kH) := if s0 = s1 then (kBd (f_P_at h x1 x2 5) fun v11 h10 => if x4 = 0 then (b_L_isRecused_92 h10 v11 x5) else (b_L_isRecused_92 h10 v11 x6)) else (some (false, h))
theorem c_L_isRecused_70 {E : kE} {L : Nat} {xs : Nat → Int32} (hro : kRo E L xs) {K : List Nat} {h : kH} {x1 : Int32} {x2 : Int32} {x4 : Int32} {x5 : Int32} {x6 : Int32} {s0 : Int32} {s1 : Int32} {r : Bool} {h' : kH} (hf : b_L_isRecused_70 h x1 x2 x4 x5 x6 s0 s1 = some (r, h')) : kJ E m_L_isRecused (some (kB2 r)) (mk K h') 0 0 70 [(0, .ref 0), (1, .int x1), (2, .int x2), (4, .int x4), (5, .int x5), (6, .int x6)] [.int s1, .int s0] (mk K h) := by
  unfold b_L_isRecused_70 at hf
  refine kJ_icmp_ne 73 99 d_L_isRecused_70 rfl rfl (fun hc => ?_) (fun hc => ?_)
  · have hf := kIf_f hf hc
    refine kJ_iconst 100 0 d_L_isRecused_99 ki_0 rfl ?_
    cases hf
    exact kJ_iret d_L_isRecused_100 rfl (kB2_z _) (Nat.zero_le _) (Nat.zero_le _)
  · have hf := kIf_t hf hc
    refine kJ_aload_n 74 0 d_L_isRecused_73 rfl rfl rfl rfl ?_
    refine kJ_iload_n 75 1 d_L_isRecused_74 rfl rfl rfl ?_
    refine kJ_iload_n 76 2 d_L_isRecused_75 rfl rfl rfl ?_
    refine kJ_iconst 77 5 d_L_isRecused_76 ki_5 rfl ?_
    obtain ⟨v11, h10, ev11, hf⟩ := kBd_some hf
    refine kM_callv 80 m_P_at [.int x1, .int x2, .int 5] [] d_L_isRecused_77 cl_L_8 ⟨w_486, w_487⟩ (kp_0).x ⟨rfl, by decide⟩ ⟨_, _, rfl⟩ rfl rfl (Nat.le_of_ble_eq_true rfl) ⟨Nat.le_of_ble_eq_true rfl, Nat.le_of_ble_eq_true rfl⟩ ⟨rfl, rfl⟩ ⟨Nat.zero_le _, Nat.zero_le _⟩ (j_P_at hro ev11) rfl ?_
    refine kJ_iload 82 3 d_L_isRecused_80 rfl rfl ?_
    refine kJ_if_eq 85 90 d_L_isRecused_82 rfl rfl (fun hc => ?_) (fun hc => ?_)
    · have hf := kIf_t hf hc
      refine kJ_iload 92 4 d_L_isRecused_90 rfl rfl ?_
      refine kJ_sub [] rfl ?_
      exact c_L_isRecused_92 hro hf
    · have hf := kIf_f hf hc
      refine kJ_iload 87 5 d_L_isRecused_85 rfl rfl ?_
      refine kJ_goto 92 d_L_isRecused_87 rfl ?_
      refine kJ_sub [] rfl ?_
      exact c_L_isRecused_92 hro hf
def b_L_isRecused_49 (h : kH) (x1 : Int32) (x2 : Int32) (x3 : Int32) (x4 : Int32) (x5 : Int32) (s0 : Int32) : Option (Bool × kH) := kBd (f_P_recuse h x1 x2 x3) fun v9 h8 => if x4 = 0 then (b_L_isRecused_70 h8 x1 x2 x4 x5 s0 v9 (-5)) else (b_L_isRecused_70 h8 x1 x2 x4 x5 s0 v9 s0)
theorem c_L_isRecused_49 {E : kE} {L : Nat} {xs : Nat → Int32} (hro : kRo E L xs) {K : List Nat} {h : kH} {x1 : Int32} {x2 : Int32} {x3 : Int32} {x4 : Int32} {x5 : Int32} {s0 : Int32} {r : Bool} {h' : kH} (hf : b_L_isRecused_49 h x1 x2 x3 x4 x5 s0 = some (r, h')) : kJ E m_L_isRecused (some (kB2 r)) (mk K h') 0 0 49 [(0, .ref 0), (1, .int x1), (2, .int x2), (3, .int x3), (4, .int x4), (5, .int x5)] [.int s0] (mk K h) := by
  unfold b_L_isRecused_49 at hf
  refine kJ_istore 51 [(6, .int s0), (0, .ref 0), (1, .int x1), (2, .int x2), (3, .int x3), (4, .int x4), (5, .int x5)] d_L_isRecused_49 (Nat.le_of_ble_eq_true rfl) rfl rfl ?_
  refine kJ_aload_n 52 1 d_L_isRecused_51 rfl rfl rfl rfl ?_
  refine kJ_iload_n 53 2 d_L_isRecused_52 rfl rfl rfl ?_
  refine kJ_iload_n 54 3 d_L_isRecused_53 rfl rfl rfl ?_
  refine kJ_iload_n 55 4 d_L_isRecused_54 rfl rfl rfl ?_
  obtain ⟨v9, h8, ev9, hf⟩ := kBd_some hf
  refine kM_callv 58 m_P_recuse [.int x1, .int x2, .int x3] [] d_L_isRecused_55 cl_L_90 ⟨w_584, w_585⟩ (kp_0).x ⟨rfl, by decide⟩ ⟨_, _, rfl⟩ rfl rfl (Nat.le_of_ble_eq_true rfl) ⟨Nat.le_of_ble_eq_true rfl, Nat.le_of_ble_eq_true rfl⟩ ⟨rfl, rfl⟩ ⟨Nat.zero_le _, Nat.zero_le _⟩ (j_P_recuse hro ev9) rfl ?_
  refine kJ_iload 60 5 d_L_isRecused_58 rfl rfl ?_
  refine kJ_if_eq 63 68 d_L_isRecused_60 rfl rfl (fun hc => ?_) (fun hc => ?_)
  · have hf := kIf_t hf hc
    refine kJ_bipush 70 (-5) d_L_isRecused_68 kb_m5 rfl ?_
    refine kJ_sub [1, 2, 3, 5, 6, 0] rfl ?_
    exact c_L_isRecused_70 hro hf
  · have hf := kIf_f hf hc
    refine kJ_iload 65 0 d_L_isRecused_63 rfl rfl ?_
    refine kJ_goto 70 d_L_isRecused_65 rfl ?_
    refine kJ_sub [1, 2, 3, 5, 6, 0] rfl ?_
    exact c_L_isRecused_70 hro hf
def b_L_isRecused_15 (h : kH) (x1 : Int32) (x2 : Int32) (x3 : Int32) (s0 : Bool) : Option (Bool × kH) := kBd (f_P_at h x1 x2 5) fun v4 h3 => kBd (f_P_ofItem h3 x2 1) fun v6 h5 => kBi (f_P_ofMember h5 x1 1) fun v7 => if (f_L_has v6 v7) = true then (b_L_isRecused_49 h5 x1 x2 x3 (kB2 s0) v4 1) else (b_L_isRecused_49 h5 x1 x2 x3 (kB2 s0) v4 x3)
theorem c_L_isRecused_15 {E : kE} {L : Nat} {xs : Nat → Int32} (hro : kRo E L xs) {K : List Nat} {h : kH} {x1 : Int32} {x2 : Int32} {x3 : Int32} {s0 : Bool} {r : Bool} {h' : kH} (hf : b_L_isRecused_15 h x1 x2 x3 s0 = some (r, h')) : kJ E m_L_isRecused (some (kB2 r)) (mk K h') 0 0 15 [(0, .ref 0), (1, .int x1), (2, .int x2), (3, .int x3)] [.int (kB2 s0)] (mk K h) := by
  unfold b_L_isRecused_15 at hf
  refine kJ_istore 17 [(4, .int (kB2 s0)), (0, .ref 0), (1, .int x1), (2, .int x2), (3, .int x3)] d_L_isRecused_15 (Nat.le_of_ble_eq_true rfl) rfl rfl ?_
  refine kJ_aload_n 18 1 d_L_isRecused_17 rfl rfl rfl rfl ?_
  refine kJ_iload_n 19 2 d_L_isRecused_18 rfl rfl rfl ?_
  refine kJ_iload_n 20 3 d_L_isRecused_19 rfl rfl rfl ?_
  refine kJ_iconst 21 5 d_L_isRecused_20 ki_5 rfl ?_
  obtain ⟨v4, h3, ev4, hf⟩ := kBd_some hf
  refine kM_callv 24 m_P_at [.int x1, .int x2, .int 5] [] d_L_isRecused_21 cl_L_8 ⟨w_486, w_487⟩ (kp_0).x ⟨rfl, by decide⟩ ⟨_, _, rfl⟩ rfl rfl (Nat.le_of_ble_eq_true rfl) ⟨Nat.le_of_ble_eq_true rfl, Nat.le_of_ble_eq_true rfl⟩ ⟨rfl, rfl⟩ ⟨Nat.zero_le _, Nat.zero_le _⟩ (j_P_at hro ev4) rfl ?_
  refine kJ_istore 26 [(5, .int v4), (4, .int (kB2 s0)), (0, .ref 0), (1, .int x1), (2, .int x2), (3, .int x3)] d_L_isRecused_24 (Nat.le_of_ble_eq_true rfl) rfl rfl ?_
  refine kJ_aload_n 27 2 d_L_isRecused_26 rfl rfl rfl rfl ?_
  refine kJ_iload_n 28 4 d_L_isRecused_27 rfl rfl rfl ?_
  refine kJ_iconst 29 1 d_L_isRecused_28 ki_1 rfl ?_
  obtain ⟨v6, h5, ev6, hf⟩ := kBd_some hf
  refine kM_callv 32 m_P_ofItem [.int x2, .int 1] [] d_L_isRecused_29 cl_L_32 ⟨w_428, w_429⟩ (kp_0).x ⟨rfl, by decide⟩ ⟨_, _, rfl⟩ rfl rfl (Nat.le_of_ble_eq_true rfl) ⟨Nat.le_of_ble_eq_true rfl, Nat.le_of_ble_eq_true rfl⟩ ⟨rfl, rfl⟩ ⟨Nat.zero_le _, Nat.zero_le _⟩ (j_P_ofItem hro ev6) rfl ?_
  refine kJ_aload_n 33 2 d_L_isRecused_32 rfl rfl rfl rfl ?_
  refine kJ_iload_n 34 3 d_L_isRecused_33 rfl rfl rfl ?_
  refine kJ_iconst 35 1 d_L_isRecused_34 ki_1 rfl ?_
  obtain ⟨v7, ev7, hf⟩ := kBi_some hf
  refine kM_callv 38 m_P_ofMember [.int x1, .int 1] [.int v6] d_L_isRecused_35 cl_L_14 ⟨w_380, w_381⟩ (kp_0).x ⟨rfl, by decide⟩ ⟨_, _, rfl⟩ rfl rfl (Nat.le_of_ble_eq_true rfl) ⟨Nat.le_of_ble_eq_true rfl, Nat.le_of_ble_eq_true rfl⟩ ⟨rfl, rfl⟩ ⟨Nat.zero_le _, Nat.zero_le _⟩ (j_P_ofMember hro ev7) rfl ?_
  refine kM_calls 41 m_L_has [.int v6, .int v7] [] d_L_isRecused_38 cl_L_24 w_483 rfl rfl (Nat.le_of_ble_eq_true rfl) ⟨Nat.le_of_ble_eq_true rfl, Nat.le_of_ble_eq_true rfl⟩ ⟨rfl, rfl⟩ ⟨Nat.zero_le _, Nat.zero_le _⟩ (j_L_has hro rfl) rfl ?_
  refine kJ_if_eq 44 48 d_L_isRecused_41 rfl rfl (fun hc => ?_) (fun hc => ?_)
  · have hf := kIf_f hf (kB2_0 hc)
    refine kJ_iload_n 49 5 d_L_isRecused_48 rfl rfl rfl ?_
    refine kJ_sub [2, 3, 4, 5, 1, 0] rfl ?_
    exact c_L_isRecused_49 hro hf
  · have hf := kIf_t hf (kB2_1 hc)
    refine kJ_iconst 45 1 d_L_isRecused_44 ki_1 rfl ?_
    refine kJ_goto 49 d_L_isRecused_45 rfl ?_
    refine kJ_sub [2, 3, 4, 5, 1, 0] rfl ?_
    exact c_L_isRecused_49 hro hf
def f_L_isRecused (h : kH) (x1 : Int32) (x2 : Int32) (x3 : Int32) : Option (Bool × kH) := kBd (f_P_ofItem h x2 2) fun v2 h1 => if 2 ≤ v2 then (b_L_isRecused_15 h1 x1 x2 x3 false) else (b_L_isRecused_15 h1 x1 x2 x3 true)
theorem j_L_isRecused {E : kE} {L : Nat} {xs : Nat → Int32} (hro : kRo E L xs) {K : List Nat} {h : kH} {x1 : Int32} {x2 : Int32} {x3 : Int32} {r : Bool} {h' : kH} (hf : f_L_isRecused h x1 x2 x3 = some (r, h')) : JM E m_L_isRecused [.ref 0, .int x1, .int x2, .int x3] (mk K h) (some (kB2 r)) (mk K h') := by
  unfold f_L_isRecused at hf
  refine JM.of pn_L (Nat.le_of_ble_eq_true rfl) ?_
  show kJ E m_L_isRecused (some (kB2 r)) (mk K h') 0 0 0 [(0, .ref 0), (1, .int x1), (2, .int x2), (3, .int x3)] [] (mk K h)
  refine kJ_aload_n 1 0 d_L_isRecused_0 rfl rfl rfl rfl ?_
  refine kJ_iload_n 2 2 d_L_isRecused_1 rfl rfl rfl ?_
  refine kJ_iconst 3 2 d_L_isRecused_2 ki_2 rfl ?_
  obtain ⟨v2, h1, ev2, hf⟩ := kBd_some hf
  refine kM_callv 6 m_P_ofItem [.int x2, .int 2] [] d_L_isRecused_3 cl_L_32 ⟨w_428, w_429⟩ (kp_0).x ⟨rfl, by decide⟩ ⟨_, _, rfl⟩ rfl rfl (Nat.le_of_ble_eq_true rfl) ⟨Nat.le_of_ble_eq_true rfl, Nat.le_of_ble_eq_true rfl⟩ ⟨rfl, rfl⟩ ⟨Nat.zero_le _, Nat.zero_le _⟩ (j_P_ofItem hro ev2) rfl ?_
  refine kJ_iconst 7 2 d_L_isRecused_6 ki_2 rfl ?_
  refine kJ_icmp_ge 10 14 d_L_isRecused_7 rfl rfl (fun hc => ?_) (fun hc => ?_)
  · have hf := kIf_t hf hc
    refine kJ_iconst 15 0 d_L_isRecused_14 ki_0 rfl ?_
    refine kJ_sub [0, 1, 2, 3] rfl ?_
    exact c_L_isRecused_15 hro hf
  · have hf := kIf_f hf hc
    refine kJ_iconst 11 1 d_L_isRecused_10 ki_1 rfl ?_
    refine kJ_goto 15 d_L_isRecused_11 rfl ?_
    refine kJ_sub [0, 1, 2, 3] rfl ?_
    exact c_L_isRecused_15 hro hf
