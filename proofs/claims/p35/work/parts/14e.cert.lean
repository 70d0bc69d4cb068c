/-! CODE of the methods as functions, with certificates: printed by wip/p35/emit.py. -/
def f_C_letPass (h : kH) (x0 : Nat) (x1 : Int32) : Option (Int32 × kH) := if x1 < 1 then (some ((-2), h)) else (if x1 ≤ 600 then (if ((h x0 0) + x1) ≤ 9000 then (kBi (f_C_moveTo h x0 ((h x0 0) + x1)) fun h1 => some ((h1 x0 0), h1)) else (some ((-5), h))) else (some ((-2), h)))
theorem j_C_letPass {E : kE} {L : Nat} {xs : Nat → Int32} (hro : kRo E L xs) {K : List Nat} {h : kH} {x0 : Nat} {x1 : Int32} (k0 : kIs x0 0) {r : Int32} {h' : kH} (hf : f_C_letPass h x0 x1 = some (r, h')) : JM E m_C_letPass [.ref x0, .int x1] (mk K h) (some r) (mk K h') := by
  unfold f_C_letPass at hf
  refine JM.of pn_C (Nat.le_of_ble_eq_true rfl) ?_
  show kJ E m_C_letPass (some r) (mk K h') 0 0 0 [(0, .ref x0), (1, .int x1)] [] (mk K h)
  refine kJ_iload_n 1 1 d_C_letPass_0 rfl rfl rfl ?_
  refine kJ_iconst 2 1 d_C_letPass_1 ki_1 rfl ?_
  refine kJ_icmp_lt 5 12 d_C_letPass_2 rfl rfl (fun hc => ?_) (fun hc => ?_)
  · have hf := kIf_t hf hc
    refine kJ_bipush 14 (-2) d_C_letPass_12 kb_m2 rfl ?_
    cases hf
    exact kJ_iret d_C_letPass_14 rfl rfl (Nat.zero_le _) (Nat.zero_le _)
  · have hf := kIf_f hf hc
    refine kJ_iload_n 6 1 d_C_letPass_5 rfl rfl rfl ?_
    refine kJ_sipush 9 600 d_C_letPass_6 ks_600 rfl ?_
    refine kJ_icmp_le 12 15 d_C_letPass_9 rfl rfl (fun hc => ?_) (fun hc => ?_)
    · have hf := kIf_t hf hc
      refine kJ_aload_n 16 0 d_C_letPass_15 rfl rfl rfl rfl ?_
      refine kM_getI 19 d_C_letPass_16 l_C_51 (k0).x rfl rfl rfl ?_
      refine kJ_iload_n 20 1 d_C_letPass_19 rfl rfl rfl ?_
      refine kJ_iadd 21 d_C_letPass_20 rfl ?_
      refine kJ_sipush 24 9000 d_C_letPass_21 ks_9000 rfl ?_
      refine kJ_icmp_le 27 30 d_C_letPass_24 rfl rfl (fun hc => ?_) (fun hc => ?_)
      · have hf := kIf_t hf hc
        refine kJ_aload_n 31 0 d_C_letPass_30 rfl rfl rfl rfl ?_
        refine kJ_aload_n 32 0 d_C_letPass_31 rfl rfl rfl rfl ?_
        refine kM_getI 35 d_C_letPass_32 l_C_51 (k0).x rfl rfl rfl ?_
        refine kJ_iload_n 36 1 d_C_letPass_35 rfl rfl rfl ?_
        refine kJ_iadd 37 d_C_letPass_36 rfl ?_
        obtain ⟨h1, eh1, hf⟩ := kBi_some hf
        refine kM_callv 40 m_C_moveTo [.int ((h x0 0) + x1)] [] d_C_letPass_37 cl_C_170 ⟨w_676, w_46⟩ (k0).x ⟨rfl, by decide⟩ ⟨_, _, rfl⟩ rfl rfl (Nat.le_of_ble_eq_true rfl) ⟨Nat.le_of_ble_eq_true rfl, Nat.le_of_ble_eq_true rfl⟩ ⟨rfl, rfl⟩ ⟨Nat.zero_le _, Nat.zero_le _⟩ (j_C_moveTo hro k0 eh1) rfl ?_
        refine kJ_aload_n 41 0 d_C_letPass_40 rfl rfl rfl rfl ?_
        refine kM_getI 44 d_C_letPass_41 l_C_51 (k0).x rfl rfl rfl ?_
        cases hf
        exact kJ_iret d_C_letPass_44 rfl rfl (Nat.zero_le _) (Nat.zero_le _)
      · have hf := kIf_f hf hc
        refine kJ_bipush 29 (-5) d_C_letPass_27 kb_m5 rfl ?_
        cases hf
        exact kJ_iret d_C_letPass_29 rfl rfl (Nat.zero_le _) (Nat.zero_le _)
    · have hf := kIf_f hf hc
      refine kJ_bipush 14 (-2) d_C_letPass_12 kb_m2 rfl ?_
      cases hf
      exact kJ_iret d_C_letPass_14 rfl rfl (Nat.zero_le _) (Nat.zero_le _)
def f_P_pass (h : kH) (x1 : Int32) : Option (Int32 × kH) := kBi (f_Y_note h 145 1) fun h1 => kBd (f_C_letPass h1 1 x1) fun v3 h2 => kBd (f_Y_settle h2 145 v3) fun v5 h4 => some (v5, h4)
theorem j_P_pass {E : kE} {L : Nat} {xs : Nat → Int32} (hro : kRo E L xs) {K : List Nat} {h : kH} {x1 : Int32} {r : Int32} {h' : kH} (hf : f_P_pass h x1 = some (r, h')) : JM E m_P_pass [.ref 0, .int x1] (mk K h) (some r) (mk K h') := by
  unfold f_P_pass at hf
  refine JM.of pn_P (Nat.le_of_ble_eq_true rfl) ?_
  show kJ E m_P_pass (some r) (mk K h') 0 0 0 [(0, .ref 0), (1, .int x1)] [] (mk K h)
  refine kJ_aload_n 1 0 d_P_pass_0 rfl rfl rfl rfl ?_
  refine kM_getR 4 144 145 d_P_pass_1 l_P_29 (kp_0).x rfl rfl rfl rfl ?_
  refine kJ_aload_n 5 0 d_P_pass_4 rfl rfl rfl rfl ?_
  refine kM_getR 8 0 1 d_P_pass_5 l_P_10 (kp_0).x rfl rfl rfl rfl ?_
  obtain ⟨h1, eh1, hf⟩ := kBi_some hf
  refine kM_callv 11 m_Y_note [.ref 1] [] d_P_pass_8 cl_P_55 ⟨w_312, w_0⟩ (kp_145).x ⟨rfl, by decide⟩ ⟨_, _, rfl⟩ rfl rfl (Nat.le_of_ble_eq_true rfl) ⟨Nat.le_of_ble_eq_true rfl, Nat.le_of_ble_eq_true rfl⟩ ⟨rfl, rfl⟩ ⟨Nat.zero_le _, Nat.zero_le _⟩ (j_Y_note hro kp_145 kp_1 eh1) rfl ?_
  refine kJ_aload_n 12 0 d_P_pass_11 rfl rfl rfl rfl ?_
  refine kM_getR 15 144 145 d_P_pass_12 l_P_29 (kp_0).x rfl rfl rfl rfl ?_
  refine kJ_aload_n 16 0 d_P_pass_15 rfl rfl rfl rfl ?_
  refine kM_getR 19 0 1 d_P_pass_16 l_P_10 (kp_0).x rfl rfl rfl rfl ?_
  refine kJ_iload_n 20 1 d_P_pass_19 rfl rfl rfl ?_
  obtain ⟨v3, h2, ev3, hf⟩ := kBd_some hf
  refine kM_callv 23 m_C_letPass [.int x1] [.ref 145] d_P_pass_20 cl_P_109 ⟨w_672, w_45⟩ (kp_1).x ⟨rfl, by decide⟩ ⟨_, _, rfl⟩ rfl rfl (Nat.le_of_ble_eq_true rfl) ⟨Nat.le_of_ble_eq_true rfl, Nat.le_of_ble_eq_true rfl⟩ ⟨rfl, rfl⟩ ⟨Nat.zero_le _, Nat.zero_le _⟩ (j_C_letPass hro kp_1 ev3) rfl ?_
  obtain ⟨v5, h4, ev5, hf⟩ := kBd_some hf
  refine kM_callv 26 m_Y_settle [.int v3] [] d_P_pass_23 cl_P_63 ⟨w_336, w_5⟩ (kp_145).x ⟨rfl, by decide⟩ ⟨_, _, rfl⟩ rfl rfl (Nat.le_of_ble_eq_true rfl) ⟨Nat.le_of_ble_eq_true rfl, Nat.le_of_ble_eq_true rfl⟩ ⟨rfl, rfl⟩ ⟨Nat.zero_le _, Nat.zero_le _⟩ (j_Y_settle hro kp_145 ev5) rfl ?_
  cases hf
  exact kJ_iret d_P_pass_26 rfl rfl (Nat.zero_le _) (Nat.zero_le _)
