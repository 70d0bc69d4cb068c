/-! CODE of the methods as functions, with certificates: printed by wip/p35/emit.py. -/
def b_C_tellChoice_34 (h : kH) (x0 : Nat) (x1 : Int32) (x2 : Int32) (x3 : Int32) : Option (Int32 × kH) := kG x2 12 (if (f_I_isPending h (x0 + 10 + 5 * kx x2)) = true then (kG x2 12 (kG x1 12 (kLet (h ((x0 + 10 + 5 * kx x2) + 3) (kx x1)) fun v3 => kG x2 12 (kG x1 12 (kLet (hset h ((x0 + 10 + 5 * kx x2) + 3) (kx x1) x3) fun h5 => some (v3, h5)))))) else (some ((-5), h)))
theorem c_C_tellChoice_34 {E : kE} {L : Nat} {xs : Nat → Int32} (hro : kRo E L xs) {K : List Nat} {h : kH} {x0 : Nat} {x1 : Int32} {x2 : Int32} {x3 : Int32} (k0 : kIs x0 0) {r : Int32} {h' : kH} (hf : b_C_tellChoice_34 h x0 x1 x2 x3 = some (r, h')) : kJ E m_C_tellChoice (some r) (mk K h') 0 0 34 [(0, .ref x0), (1, .int x1), (2, .int x2), (3, .int x3)] [] (mk K h) := by
  unfold b_C_tellChoice_34 at hf
  refine kJ_aload_n 35 0 d_C_tellChoice_34 rfl rfl rfl rfl ?_
  refine kM_getR 38 4 (x0 + 5) d_C_tellChoice_35 l_C_30 (k0).x rfl rfl rfl rfl ?_
  refine kJ_iload_n 39 2 d_C_tellChoice_38 rfl rfl rfl ?_
  obtain ⟨hg1, hf⟩ := kG_some hf
  refine kM_aald 40 12 5 5 (x0 + 10 + 5 * kx x2) d_C_tellChoice_39 ((kk_0_9 k0)).x rfl (by decide) (Or.inl rfl) hg1 (by simp only [Nat.add_assoc, kx]; try omega) rfl ?_
  refine kM_callv 43 m_I_isPending [] [] d_C_tellChoice_40 cl_C_127 ⟨w_472, w_27⟩ ((kC_item k0 (kIn_lt hg1))).x ⟨rfl, by decide⟩ ⟨_, _, rfl⟩ rfl rfl (Nat.le_of_ble_eq_true rfl) ⟨Nat.le_of_ble_eq_true rfl, Nat.le_of_ble_eq_true rfl⟩ ⟨rfl, rfl⟩ ⟨Nat.zero_le _, Nat.zero_le _⟩ (j_I_isPending hro (kC_item k0 (kIn_lt hg1)) rfl) rfl ?_
  refine kJ_if_ne 46 49 d_C_tellChoice_43 rfl rfl (fun hc => ?_) (fun hc => ?_)
  · have hf := kIf_t hf (kB2_1 hc)
    refine kJ_aload_n 50 0 d_C_tellChoice_49 rfl rfl rfl rfl ?_
    refine kM_getR 53 4 (x0 + 5) d_C_tellChoice_50 l_C_30 (k0).x rfl rfl rfl rfl ?_
    refine kJ_iload_n 54 2 d_C_tellChoice_53 rfl rfl rfl ?_
    obtain ⟨hg2, hf⟩ := kG_some hf
    refine kM_aald 55 12 5 5 (x0 + 10 + 5 * kx x2) d_C_tellChoice_54 ((kk_0_9 k0)).x rfl (by decide) (Or.inl rfl) hg2 (by simp only [Nat.add_assoc, kx]; try omega) rfl ?_
    refine kM_getR 58 2 ((x0 + 10 + 5 * kx x2) + 3) d_C_tellChoice_55 l_C_131 ((kC_item k0 (kIn_lt hg2))).x rfl rfl rfl rfl ?_
    refine kJ_iload_n 59 1 d_C_tellChoice_58 rfl rfl rfl ?_
    obtain ⟨hg, hf⟩ := kG_some hf
    refine kM_iald 60 12 d_C_tellChoice_59 ((kk_3_8 (kC_item k0 (kIn_lt hg2)))).x rfl hg rfl ?_
    obtain ⟨v3, ev3, hf⟩ := kLet_e hf
    rw [← ev3]
    refine kJ_istore 62 [(4, .int v3), (0, .ref x0), (1, .int x1), (2, .int x2), (3, .int x3)] d_C_tellChoice_60 (Nat.le_of_ble_eq_true rfl) rfl rfl ?_
    refine kJ_aload_n 63 1 d_C_tellChoice_62 rfl rfl rfl rfl ?_
    refine kM_getR 66 4 (x0 + 5) d_C_tellChoice_63 l_C_30 (k0).x rfl rfl rfl rfl ?_
    refine kJ_iload_n 67 3 d_C_tellChoice_66 rfl rfl rfl ?_
    obtain ⟨hg4, hf⟩ := kG_some hf
    refine kM_aald 68 12 5 5 (x0 + 10 + 5 * kx x2) d_C_tellChoice_67 ((kk_0_9 k0)).x rfl (by decide) (Or.inl rfl) hg4 (by simp only [Nat.add_assoc, kx]; try omega) rfl ?_
    refine kM_getR 71 2 ((x0 + 10 + 5 * kx x2) + 3) d_C_tellChoice_68 l_C_131 ((kC_item k0 (kIn_lt hg4))).x rfl rfl rfl rfl ?_
    refine kJ_iload_n 72 2 d_C_tellChoice_71 rfl rfl rfl ?_
    refine kJ_iload_n 73 4 d_C_tellChoice_72 rfl rfl rfl ?_
    obtain ⟨hg, hf⟩ := kG_some hf
    refine kM_iast 74 12 d_C_tellChoice_73 ((kk_3_8 (kC_item k0 (kIn_lt hg4)))).x rfl hg rfl ?_
    obtain ⟨h5, eh5, hf⟩ := kLet_e hf
    rw [← eh5]
    refine kJ_iload 76 0 d_C_tellChoice_74 rfl rfl ?_
    cases hf
    exact kJ_iret d_C_tellChoice_76 rfl rfl (Nat.zero_le _) (Nat.zero_le _)
  · have hf := kIf_f hf (kB2_0 hc)
    refine kJ_bipush 48 (-5) d_C_tellChoice_46 kb_m5 rfl ?_
    cases hf
    exact kJ_iret d_C_tellChoice_48 rfl rfl (Nat.zero_le _) (Nat.zero_le _)
def f_C_tellChoice (h : kH) (x0 : Nat) (x1 : Int32) (x2 : Int32) (x3 : Int32) : Option (Int32 × kH) := if (f_C_hasMember h x0 x1) = true then (if (f_C_hasItem h x0 x2) = true then (if x3 = (-6) then (b_C_tellChoice_34 h x0 x1 x2 x3) else (if (f_P_isChoice x3) = true then (b_C_tellChoice_34 h x0 x1 x2 x3) else (some ((-2), h)))) else (some ((-1), h))) else (some ((-1), h))
theorem j_C_tellChoice {E : kE} {L : Nat} {xs : Nat → Int32} (hro : kRo E L xs) {K : List Nat} {h : kH} {x0 : Nat} {x1 : Int32} {x2 : Int32} {x3 : Int32} (k0 : kIs x0 0) {r : Int32} {h' : kH} (hf : f_C_tellChoice h x0 x1 x2 x3 = some (r, h')) : JM E m_C_tellChoice [.ref x0, .int x1, .int x2, .int x3] (mk K h) (some r) (mk K h') := by
  unfold f_C_tellChoice at hf
  refine JM.of pn_C (Nat.le_of_ble_eq_true rfl) ?_
  show kJ E m_C_tellChoice (some r) (mk K h') 0 0 0 [(0, .ref x0), (1, .int x1), (2, .int x2), (3, .int x3)] [] (mk K h)
  refine kJ_aload_n 1 0 d_C_tellChoice_0 rfl rfl rfl rfl ?_
  refine kJ_iload_n 2 1 d_C_tellChoice_1 rfl rfl rfl ?_
  refine kM_callv 5 m_C_hasMember [.int x1] [] d_C_tellChoice_2 cl_C_105 ⟨w_377, w_10⟩ (k0).x ⟨rfl, by decide⟩ ⟨_, _, rfl⟩ rfl rfl (Nat.le_of_ble_eq_true rfl) ⟨Nat.le_of_ble_eq_true rfl, Nat.le_of_ble_eq_true rfl⟩ ⟨rfl, rfl⟩ ⟨Nat.zero_le _, Nat.zero_le _⟩ (j_C_hasMember hro k0 rfl) rfl ?_
  refine kJ_if_eq 8 16 d_C_tellChoice_5 rfl rfl (fun hc => ?_) (fun hc => ?_)
  · have hf := kIf_f hf (kB2_0 hc)
    refine kJ_iconst 17 (-1) d_C_tellChoice_16 ki_m1 rfl ?_
    cases hf
    exact kJ_iret d_C_tellChoice_17 rfl rfl (Nat.zero_le _) (Nat.zero_le _)
  · have hf := kIf_t hf (kB2_1 hc)
    refine kJ_aload_n 9 0 d_C_tellChoice_8 rfl rfl rfl rfl ?_
    refine kJ_iload_n 10 2 d_C_tellChoice_9 rfl rfl rfl ?_
    refine kM_callv 13 m_C_hasItem [.int x2] [] d_C_tellChoice_10 cl_C_121 ⟨w_433, w_18⟩ (k0).x ⟨rfl, by decide⟩ ⟨_, _, rfl⟩ rfl rfl (Nat.le_of_ble_eq_true rfl) ⟨Nat.le_of_ble_eq_true rfl, Nat.le_of_ble_eq_true rfl⟩ ⟨rfl, rfl⟩ ⟨Nat.zero_le _, Nat.zero_le _⟩ (j_C_hasItem hro k0 rfl) rfl ?_
    refine kJ_if_ne 16 18 d_C_tellChoice_13 rfl rfl (fun hc => ?_) (fun hc => ?_)
    · have hf := kIf_t hf (kB2_1 hc)
      refine kJ_iload_n 19 3 d_C_tellChoice_18 rfl rfl rfl ?_
      refine kJ_bipush 21 (-6) d_C_tellChoice_19 kb_m6 rfl ?_
      refine kJ_icmp_eq 24 34 d_C_tellChoice_21 rfl rfl (fun hc => ?_) (fun hc => ?_)
      · have hf := kIf_t hf hc
        refine kJ_sub [0, 1, 2, 3] rfl ?_
        exact c_C_tellChoice_34 hro k0 hf
      · have hf := kIf_f hf hc
        refine kJ_iload_n 25 3 d_C_tellChoice_24 rfl rfl rfl ?_
        refine kM_calls 28 m_P_isChoice [.int x3] [] d_C_tellChoice_25 cl_C_124 w_577 rfl rfl (Nat.le_of_ble_eq_true rfl) ⟨Nat.le_of_ble_eq_true rfl, Nat.le_of_ble_eq_true rfl⟩ ⟨rfl, rfl⟩ ⟨Nat.zero_le _, Nat.zero_le _⟩ (j_P_isChoice hro rfl) rfl ?_
        refine kJ_if_ne 31 34 d_C_tellChoice_28 rfl rfl (fun hc => ?_) (fun hc => ?_)
        · have hf := kIf_t hf (kB2_1 hc)
          refine kJ_sub [0, 1, 2, 3] rfl ?_
          exact c_C_tellChoice_34 hro k0 hf
        · have hf := kIf_f hf (kB2_0 hc)
          refine kJ_bipush 33 (-2) d_C_tellChoice_31 kb_m2 rfl ?_
          cases hf
          exact kJ_iret d_C_tellChoice_33 rfl rfl (Nat.zero_le _) (Nat.zero_le _)
    · have hf := kIf_f hf (kB2_0 hc)
      refine kJ_iconst 17 (-1) d_C_tellChoice_16 ki_m1 rfl ?_
      cases hf
      exact kJ_iret d_C_tellChoice_17 rfl rfl (Nat.zero_le _) (Nat.zero_le _)
def f_P_tell (h : kH) (x1 : Int32) (x2 : Int32) (x3 : Int32) : Option (Int32 × kH) := kBi (f_Y_note h 145 1) fun h1 => kBd (f_C_tellChoice h1 1 x1 x2 x3) fun v3 h2 => kBd (f_Y_settle h2 145 v3) fun v5 h4 => some (v5, h4)
theorem j_P_tell {E : kE} {L : Nat} {xs : Nat → Int32} (hro : kRo E L xs) {K : List Nat} {h : kH} {x1 : Int32} {x2 : Int32} {x3 : Int32} {r : Int32} {h' : kH} (hf : f_P_tell h x1 x2 x3 = some (r, h')) : JM E m_P_tell [.ref 0, .int x1, .int x2, .int x3] (mk K h) (some r) (mk K h') := by
  unfold f_P_tell at hf
  refine JM.of pn_P (Nat.le_of_ble_eq_true rfl) ?_
  show kJ E m_P_tell (some r) (mk K h') 0 0 0 [(0, .ref 0), (1, .int x1), (2, .int x2), (3, .int x3)] [] (mk K h)
  refine kJ_aload_n 1 0 d_P_tell_0 rfl rfl rfl rfl ?_
  refine kM_getR 4 144 145 d_P_tell_1 l_P_29 (kp_0).x rfl rfl rfl rfl ?_
  refine kJ_aload_n 5 0 d_P_tell_4 rfl rfl rfl rfl ?_
  refine kM_getR 8 0 1 d_P_tell_5 l_P_10 (kp_0).x rfl rfl rfl rfl ?_
  obtain ⟨h1, eh1, hf⟩ := kBi_some hf
  refine kM_callv 11 m_Y_note [.ref 1] [] d_P_tell_8 cl_P_55 ⟨w_312, w_0⟩ (kp_145).x ⟨rfl, by decide⟩ ⟨_, _, rfl⟩ rfl rfl (Nat.le_of_ble_eq_true rfl) ⟨Nat.le_of_ble_eq_true rfl, Nat.le_of_ble_eq_true rfl⟩ ⟨rfl, rfl⟩ ⟨Nat.zero_le _, Nat.zero_le _⟩ (j_Y_note hro kp_145 kp_1 eh1) rfl ?_
  refine kJ_aload_n 12 0 d_P_tell_11 rfl rfl rfl rfl ?_
  refine kM_getR 15 144 145 d_P_tell_12 l_P_29 (kp_0).x rfl rfl rfl rfl ?_
  refine kJ_aload_n 16 0 d_P_tell_15 rfl rfl rfl rfl ?_
  refine kM_getR 19 0 1 d_P_tell_16 l_P_10 (kp_0).x rfl rfl rfl rfl ?_
  refine kJ_iload_n 20 1 d_P_tell_19 rfl rfl rfl ?_
  refine kJ_iload_n 21 2 d_P_tell_20 rfl rfl rfl ?_
  refine kJ_iload_n 22 3 d_P_tell_21 rfl rfl rfl ?_
  obtain ⟨v3, h2, ev3, hf⟩ := kBd_some hf
  refine kM_callv 25 m_C_tellChoice [.int x1, .int x2, .int x3] [.ref 145] d_P_tell_22 cl_P_89 ⟨w_574, w_35⟩ (kp_1).x ⟨rfl, by decide⟩ ⟨_, _, rfl⟩ rfl rfl (Nat.le_of_ble_eq_true rfl) ⟨Nat.le_of_ble_eq_true rfl, Nat.le_of_ble_eq_true rfl⟩ ⟨rfl, rfl⟩ ⟨Nat.zero_le _, Nat.zero_le _⟩ (j_C_tellChoice hro kp_1 ev3) rfl ?_
  obtain ⟨v5, h4, ev5, hf⟩ := kBd_some hf
  refine kM_callv 28 m_Y_settle [.int v3] [] d_P_tell_25 cl_P_63 ⟨w_336, w_5⟩ (kp_145).x ⟨rfl, by decide⟩ ⟨_, _, rfl⟩ rfl rfl (Nat.le_of_ble_eq_true rfl) ⟨Nat.le_of_ble_eq_true rfl, Nat.le_of_ble_eq_true rfl⟩ ⟨rfl, rfl⟩ ⟨Nat.zero_le _, Nat.zero_le _⟩ (j_Y_settle hro kp_145 ev5) rfl ?_
  cases hf
  exact kJ_iret d_P_tell_28 rfl rfl (Nat.zero_le _) (Nat.zero_le _)
def b_C_recuseByHand_30 (h : kH) (x0 : Nat) (x1 : Int32) (x2 : Int32) (x3 : Int32) : Option (Int32 × kH) := kG x2 12 (if (f_I_isPending h (x0 + 10 + 5 * kx x2)) = true then (kLet (hset h (x0 + 10 + 5 * kx x2) 3 (((h (x0 + 10 + 5 * kx x2) 3) &&& ((1 <<< (x1 &&& 31)) ^^^ (-1))) ||| (x3 <<< (x1 &&& 31)))) fun h2 => kBi (f_C_isRecused h2 x0 x1 (x0 + 10 + 5 * kx x2)) fun v3 => if v3 = true then (some (1, h2)) else (some (0, h2))) else (some ((-5), h)))
theorem c_C_recuseByHand_30 {E : kE} {L : Nat} {xs : Nat → Int32} (hro : kRo E L xs) {K : List Nat} {h : kH} {x0 : Nat} {x1 : Int32} {x2 : Int32} {x3 : Int32} (k0 : kIs x0 0) {r : Int32} {h' : kH} (hf : b_C_recuseByHand_30 h x0 x1 x2 x3 = some (r, h')) : kJ E m_C_recuseByHand (some r) (mk K h') 0 0 30 [(0, .ref x0), (1, .int x1), (2, .int x2), (3, .int x3)] [] (mk K h) := by
  unfold b_C_recuseByHand_30 at hf
  refine kJ_aload_n 31 0 d_C_recuseByHand_30 rfl rfl rfl rfl ?_
  refine kM_getR 34 4 (x0 + 5) d_C_recuseByHand_31 l_C_30 (k0).x rfl rfl rfl rfl ?_
  refine kJ_iload_n 35 2 d_C_recuseByHand_34 rfl rfl rfl ?_
  obtain ⟨hg1, hf⟩ := kG_some hf
  refine kM_aald 36 12 5 5 (x0 + 10 + 5 * kx x2) d_C_recuseByHand_35 ((kk_0_9 k0)).x rfl (by decide) (Or.inl rfl) hg1 (by simp only [Nat.add_assoc, kx]; try omega) rfl ?_
  refine kJ_astore 38 [(4, .ref (x0 + 10 + 5 * kx x2)), (0, .ref x0), (1, .int x1), (2, .int x2), (3, .int x3)] d_C_recuseByHand_36 (Nat.le_of_ble_eq_true rfl) rfl rfl rfl ?_
  refine kJ_aload 40 0 d_C_recuseByHand_38 rfl rfl rfl ?_
  refine kM_callv 43 m_I_isPending [] [] d_C_recuseByHand_40 cl_C_127 ⟨w_472, w_27⟩ ((kC_item k0 (kIn_lt hg1))).x ⟨rfl, by decide⟩ ⟨_, _, rfl⟩ rfl rfl (Nat.le_of_ble_eq_true rfl) ⟨Nat.le_of_ble_eq_true rfl, Nat.le_of_ble_eq_true rfl⟩ ⟨rfl, rfl⟩ ⟨Nat.zero_le _, Nat.zero_le _⟩ (j_I_isPending hro (kC_item k0 (kIn_lt hg1)) rfl) rfl ?_
  refine kJ_if_ne 46 49 d_C_recuseByHand_43 rfl rfl (fun hc => ?_) (fun hc => ?_)
  · have hf := kIf_t hf (kB2_1 hc)
    refine kJ_aload 51 0 d_C_recuseByHand_49 rfl rfl rfl ?_
    refine kJ_aload 53 0 d_C_recuseByHand_51 rfl rfl rfl ?_
    refine kM_getI 56 d_C_recuseByHand_53 l_C_73 ((kC_item k0 (kIn_lt hg1))).x rfl rfl rfl ?_
    refine kJ_iconst 57 1 d_C_recuseByHand_56 ki_1 rfl ?_
    refine kJ_iload_n 58 2 d_C_recuseByHand_57 rfl rfl rfl ?_
    refine kJ_ishl 59 d_C_recuseByHand_58 rfl ?_
    refine kJ_iconst 60 (-1) d_C_recuseByHand_59 ki_m1 rfl ?_
    refine kJ_ixor 61 d_C_recuseByHand_60 rfl ?_
    refine kJ_iand 62 d_C_recuseByHand_61 rfl ?_
    refine kJ_iload_n 63 4 d_C_recuseByHand_62 rfl rfl rfl ?_
    refine kJ_iload_n 64 2 d_C_recuseByHand_63 rfl rfl rfl ?_
    refine kJ_ishl 65 d_C_recuseByHand_64 rfl ?_
    refine kJ_ior 66 d_C_recuseByHand_65 rfl ?_
    refine kM_put 69 d_C_recuseByHand_66 l_C_73 ((kC_item k0 (kIn_lt hg1))).x rfl rfl (kFit_int _) rfl ?_
    obtain ⟨h2, eh2, hf⟩ := kLet_e hf
    rw [← eh2]
    refine kJ_aload_n 70 1 d_C_recuseByHand_69 rfl rfl rfl rfl ?_
    refine kJ_iload_n 71 2 d_C_recuseByHand_70 rfl rfl rfl ?_
    refine kJ_aload 73 0 d_C_recuseByHand_71 rfl rfl rfl ?_
    obtain ⟨v3, ev3, hf⟩ := kBi_some hf
    refine kM_callv 76 m_C_isRecused [.int x1, .ref (x0 + 10 + 5 * kx x2)] [] d_C_recuseByHand_73 cl_C_80 ⟨w_442, w_20⟩ (k0).x ⟨rfl, by decide⟩ ⟨_, _, rfl⟩ rfl rfl (Nat.le_of_ble_eq_true rfl) ⟨Nat.le_of_ble_eq_true rfl, Nat.le_of_ble_eq_true rfl⟩ ⟨rfl, rfl⟩ ⟨Nat.zero_le _, Nat.zero_le _⟩ (j_C_isRecused hro k0 (kC_item k0 (kIn_lt hg1)) ev3) rfl ?_
    refine kJ_if_eq 79 83 d_C_recuseByHand_76 rfl rfl (fun hc => ?_) (fun hc => ?_)
    · have hf := kIf_f hf (kB2_0 hc)
      refine kJ_iconst 84 0 d_C_recuseByHand_83 ki_0 rfl ?_
      cases hf
      exact kJ_iret d_C_recuseByHand_84 rfl rfl (Nat.zero_le _) (Nat.zero_le _)
    · have hf := kIf_t hf (kB2_1 hc)
      refine kJ_iconst 80 1 d_C_recuseByHand_79 ki_1 rfl ?_
      refine kJ_goto 84 d_C_recuseByHand_80 rfl ?_
      cases hf
      exact kJ_iret d_C_recuseByHand_84 rfl rfl (Nat.zero_le _) (Nat.zero_le _)
  · have hf := kIf_f hf (kB2_0 hc)
    refine kJ_bipush 48 (-5) d_C_recuseByHand_46 kb_m5 rfl ?_
    cases hf
    exact kJ_iret d_C_recuseByHand_48 rfl rfl (Nat.zero_le _) (Nat.zero_le _)
def f_C_recuseByHand (h : kH) (x0 : Nat) (x1 : Int32) (x2 : Int32) (x3 : Int32) : Option (Int32 × kH) := if (f_C_hasMember h x0 x1) = true then (if (f_C_hasItem h x0 x2) = true then (if x3 = 0 then (b_C_recuseByHand_30 h x0 x1 x2 x3) else (if x3 = 1 then (b_C_recuseByHand_30 h x0 x1 x2 x3) else (some ((-2), h)))) else (some ((-1), h))) else (some ((-1), h))
theorem j_C_recuseByHand {E : kE} {L : Nat} {xs : Nat → Int32} (hro : kRo E L xs) {K : List Nat} {h : kH} {x0 : Nat} {x1 : Int32} {x2 : Int32} {x3 : Int32} (k0 : kIs x0 0) {r : Int32} {h' : kH} (hf : f_C_recuseByHand h x0 x1 x2 x3 = some (r, h')) : JM E m_C_recuseByHand [.ref x0, .int x1, .int x2, .int x3] (mk K h) (some r) (mk K h') := by
  unfold f_C_recuseByHand at hf
  refine JM.of pn_C (Nat.le_of_ble_eq_true rfl) ?_
  show kJ E m_C_recuseByHand (some r) (mk K h') 0 0 0 [(0, .ref x0), (1, .int x1), (2, .int x2), (3, .int x3)] [] (mk K h)
  refine kJ_aload_n 1 0 d_C_recuseByHand_0 rfl rfl rfl rfl ?_
  refine kJ_iload_n 2 1 d_C_recuseByHand_1 rfl rfl rfl ?_
  refine kM_callv 5 m_C_hasMember [.int x1] [] d_C_recuseByHand_2 cl_C_105 ⟨w_377, w_10⟩ (k0).x ⟨rfl, by decide⟩ ⟨_, _, rfl⟩ rfl rfl (Nat.le_of_ble_eq_true rfl) ⟨Nat.le_of_ble_eq_true rfl, Nat.le_of_ble_eq_true rfl⟩ ⟨rfl, rfl⟩ ⟨Nat.zero_le _, Nat.zero_le _⟩ (j_C_hasMember hro k0 rfl) rfl ?_
  refine kJ_if_eq 8 16 d_C_recuseByHand_5 rfl rfl (fun hc => ?_) (fun hc => ?_)
  · have hf := kIf_f hf (kB2_0 hc)
    refine kJ_iconst 17 (-1) d_C_recuseByHand_16 ki_m1 rfl ?_
    cases hf
    exact kJ_iret d_C_recuseByHand_17 rfl rfl (Nat.zero_le _) (Nat.zero_le _)
  · have hf := kIf_t hf (kB2_1 hc)
    refine kJ_aload_n 9 0 d_C_recuseByHand_8 rfl rfl rfl rfl ?_
    refine kJ_iload_n 10 2 d_C_recuseByHand_9 rfl rfl rfl ?_
    refine kM_callv 13 m_C_hasItem [.int x2] [] d_C_recuseByHand_10 cl_C_121 ⟨w_433, w_18⟩ (k0).x ⟨rfl, by decide⟩ ⟨_, _, rfl⟩ rfl rfl (Nat.le_of_ble_eq_true rfl) ⟨Nat.le_of_ble_eq_true rfl, Nat.le_of_ble_eq_true rfl⟩ ⟨rfl, rfl⟩ ⟨Nat.zero_le _, Nat.zero_le _⟩ (j_C_hasItem hro k0 rfl) rfl ?_
    refine kJ_if_ne 16 18 d_C_recuseByHand_13 rfl rfl (fun hc => ?_) (fun hc => ?_)
    · have hf := kIf_t hf (kB2_1 hc)
      refine kJ_iload_n 19 3 d_C_recuseByHand_18 rfl rfl rfl ?_
      refine kJ_if_eq 22 30 d_C_recuseByHand_19 rfl rfl (fun hc => ?_) (fun hc => ?_)
      · have hf := kIf_t hf hc
        refine kJ_sub [0, 1, 2, 3] rfl ?_
        exact c_C_recuseByHand_30 hro k0 hf
      · have hf := kIf_f hf hc
        refine kJ_iload_n 23 3 d_C_recuseByHand_22 rfl rfl rfl ?_
        refine kJ_iconst 24 1 d_C_recuseByHand_23 ki_1 rfl ?_
        refine kJ_icmp_eq 27 30 d_C_recuseByHand_24 rfl rfl (fun hc => ?_) (fun hc => ?_)
        · have hf := kIf_t hf hc
          refine kJ_sub [0, 1, 2, 3] rfl ?_
          exact c_C_recuseByHand_30 hro k0 hf
        · have hf := kIf_f hf hc
          refine kJ_bipush 29 (-2) d_C_recuseByHand_27 kb_m2 rfl ?_
          cases hf
          exact kJ_iret d_C_recuseByHand_29 rfl rfl (Nat.zero_le _) (Nat.zero_le _)
    · have hf := kIf_f hf (kB2_0 hc)
      refine kJ_iconst 17 (-1) d_C_recuseByHand_16 ki_m1 rfl ?_
      cases hf
      exact kJ_iret d_C_recuseByHand_17 rfl rfl (Nat.zero_le _) (Nat.zero_le _)
def f_P_recuse (h : kH) (x1 : Int32) (x2 : Int32) (x3 : Int32) : Option (Int32 × kH) := kBi (f_Y_note h 145 1) fun h1 => kBd (f_C_recuseByHand h1 1 x1 x2 x3) fun v3 h2 => kBd (f_Y_settle h2 145 v3) fun v5 h4 => some (v5, h4)
theorem j_P_recuse {E : kE} {L : Nat} {xs : Nat → Int32} (hro : kRo E L xs) {K : List Nat} {h : kH} {x1 : Int32} {x2 : Int32} {x3 : Int32} {r : Int32} {h' : kH} (hf : f_P_recuse h x1 x2 x3 = some (r, h')) : JM E m_P_recuse [.ref 0, .int x1, .int x2, .int x3] (mk K h) (some r) (mk K h') := by
  unfold f_P_recuse at hf
  refine JM.of pn_P (Nat.le_of_ble_eq_true rfl) ?_
  show kJ E m_P_recuse (some r) (mk K h') 0 0 0 [(0, .ref 0), (1, .int x1), (2, .int x2), (3, .int x3)] [] (mk K h)
  refine kJ_aload_n 1 0 d_P_recuse_0 rfl rfl rfl rfl ?_
  refine kM_getR 4 144 145 d_P_recuse_1 l_P_29 (kp_0).x rfl rfl rfl rfl ?_
  refine kJ_aload_n 5 0 d_P_recuse_4 rfl rfl rfl rfl ?_
  refine kM_getR 8 0 1 d_P_recuse_5 l_P_10 (kp_0).x rfl rfl rfl rfl ?_
  obtain ⟨h1, eh1, hf⟩ := kBi_some hf
  refine kM_callv 11 m_Y_note [.ref 1] [] d_P_recuse_8 cl_P_55 ⟨w_312, w_0⟩ (kp_145).x ⟨rfl, by decide⟩ ⟨_, _, rfl⟩ rfl rfl (Nat.le_of_ble_eq_true rfl) ⟨Nat.le_of_ble_eq_true rfl, Nat.le_of_ble_eq_true rfl⟩ ⟨rfl, rfl⟩ ⟨Nat.zero_le _, Nat.zero_le _⟩ (j_Y_note hro kp_145 kp_1 eh1) rfl ?_
  refine kJ_aload_n 12 0 d_P_recuse_11 rfl rfl rfl rfl ?_
  refine kM_getR 15 144 145 d_P_recuse_12 l_P_29 (kp_0).x rfl rfl rfl rfl ?_
  refine kJ_aload_n 16 0 d_P_recuse_15 rfl rfl rfl rfl ?_
  refine kM_getR 19 0 1 d_P_recuse_16 l_P_10 (kp_0).x rfl rfl rfl rfl ?_
  refine kJ_iload_n 20 1 d_P_recuse_19 rfl rfl rfl ?_
  refine kJ_iload_n 21 2 d_P_recuse_20 rfl rfl rfl ?_
  refine kJ_iload_n 22 3 d_P_recuse_21 rfl rfl rfl ?_
  obtain ⟨v3, h2, ev3, hf⟩ := kBd_some hf
  refine kM_callv 25 m_C_recuseByHand [.int x1, .int x2, .int x3] [.ref 145] d_P_recuse_22 cl_P_92 ⟨w_589, w_36⟩ (kp_1).x ⟨rfl, by decide⟩ ⟨_, _, rfl⟩ rfl rfl (Nat.le_of_ble_eq_true rfl) ⟨Nat.le_of_ble_eq_true rfl, Nat.le_of_ble_eq_true rfl⟩ ⟨rfl, rfl⟩ ⟨Nat.zero_le _, Nat.zero_le _⟩ (j_C_recuseByHand hro kp_1 ev3) rfl ?_
  obtain ⟨v5, h4, ev5, hf⟩ := kBd_some hf
  refine kM_callv 28 m_Y_settle [.int v3] [] d_P_recuse_25 cl_P_63 ⟨w_336, w_5⟩ (kp_145).x ⟨rfl, by decide⟩ ⟨_, _, rfl⟩ rfl rfl (Nat.le_of_ble_eq_true rfl) ⟨Nat.le_of_ble_eq_true rfl, Nat.le_of_ble_eq_true rfl⟩ ⟨rfl, rfl⟩ ⟨Nat.zero_le _, Nat.zero_le _⟩ (j_Y_settle hro kp_145 ev5) rfl ?_
  cases hf
  exact kJ_iret d_P_recuse_28 rfl rfl (Nat.zero_le _) (Nat.zero_le _)
def f_C_openItem (h : kH) (x0 : Nat) (x1 : Int32) (x2 : Nat) : Option (Int32 × kH) := if (f_C_hasItem h x0 x1) = true then (kG x1 12 (kBi (f_H_listen h x2 x0 (x0 + 10 + 5 * kx x1)) fun h2 => kBi (f_H_weightThere h2 x2 x0) fun v3 => if (h2 (x0 + 10 + 5 * kx x1) 2) = 0 then (kBi (f_C_firstIn h2 x0 1) fun v4 => if v4 = (-6) then (kBi (f_C_isQuorum h2 x0 v3) fun v5 => if v5 = true then (kLet (hset h2 (x0 + 10 + 5 * kx x1) 2 1) fun h6 => some (v3, h6)) else (some ((-5), h2))) else (some ((-5), h2))) else (some ((-5), h2)))) else (some ((-1), h))
theorem j_C_openItem {E : kE} {L : Nat} {xs : Nat → Int32} (hro : kRo E L xs) {K : List Nat} {h : kH} {x0 : Nat} {x1 : Int32} {x2 : Nat} (k0 : kIs x0 0) (k2 : kIs x2 1) {r : Int32} {h' : kH} (hf : f_C_openItem h x0 x1 x2 = some (r, h')) : JM E m_C_openItem [.ref x0, .int x1, .ref x2] (mk K h) (some r) (mk K h') := by
  unfold f_C_openItem at hf
  refine JM.of pn_C (Nat.le_of_ble_eq_true rfl) ?_
  show kJ E m_C_openItem (some r) (mk K h') 0 0 0 [(0, .ref x0), (1, .int x1), (2, .ref x2)] [] (mk K h)
  refine kJ_aload_n 1 0 d_C_openItem_0 rfl rfl rfl rfl ?_
  refine kJ_iload_n 2 1 d_C_openItem_1 rfl rfl rfl ?_
  refine kM_callv 5 m_C_hasItem [.int x1] [] d_C_openItem_2 cl_C_121 ⟨w_433, w_18⟩ (k0).x ⟨rfl, by decide⟩ ⟨_, _, rfl⟩ rfl rfl (Nat.le_of_ble_eq_true rfl) ⟨Nat.le_of_ble_eq_true rfl, Nat.le_of_ble_eq_true rfl⟩ ⟨rfl, rfl⟩ ⟨Nat.zero_le _, Nat.zero_le _⟩ (j_C_hasItem hro k0 rfl) rfl ?_
  refine kJ_if_ne 8 10 d_C_openItem_5 rfl rfl (fun hc => ?_) (fun hc => ?_)
  · have hf := kIf_t hf (kB2_1 hc)
    refine kJ_aload_n 11 0 d_C_openItem_10 rfl rfl rfl rfl ?_
    refine kM_getR 14 4 (x0 + 5) d_C_openItem_11 l_C_30 (k0).x rfl rfl rfl rfl ?_
    refine kJ_iload_n 15 1 d_C_openItem_14 rfl rfl rfl ?_
    obtain ⟨hg1, hf⟩ := kG_some hf
    refine kM_aald 16 12 5 5 (x0 + 10 + 5 * kx x1) d_C_openItem_15 ((kk_0_9 k0)).x rfl (by decide) (Or.inl rfl) hg1 (by simp only [Nat.add_assoc, kx]; try omega) rfl ?_
    refine kJ_astore_n 17 [(3, .ref (x0 + 10 + 5 * kx x1)), (0, .ref x0), (1, .int x1), (2, .ref x2)] d_C_openItem_16 rfl (Nat.le_of_ble_eq_true rfl) rfl rfl rfl ?_
    refine kJ_aload_n 18 3 d_C_openItem_17 rfl rfl rfl rfl ?_
    refine kJ_aload_n 19 1 d_C_openItem_18 rfl rfl rfl rfl ?_
    refine kJ_aload_n 20 0 d_C_openItem_19 rfl rfl rfl rfl ?_
    obtain ⟨h2, eh2, hf⟩ := kBi_some hf
    refine kM_callv 23 m_H_listen [.ref x0, .ref (x0 + 10 + 5 * kx x1)] [] d_C_openItem_20 cl_C_134 ⟨w_437, w_19⟩ (k2).x ⟨rfl, by decide⟩ ⟨_, _, rfl⟩ rfl rfl (Nat.le_of_ble_eq_true rfl) ⟨Nat.le_of_ble_eq_true rfl, Nat.le_of_ble_eq_true rfl⟩ ⟨rfl, rfl⟩ ⟨Nat.zero_le _, Nat.zero_le _⟩ (j_H_listen hro k2 k0 (kC_item k0 (kIn_lt hg1)) eh2) rfl ?_
    refine kJ_aload_n 24 3 d_C_openItem_23 rfl rfl rfl rfl ?_
    refine kJ_aload_n 25 1 d_C_openItem_24 rfl rfl rfl rfl ?_
    obtain ⟨v3, ev3, hf⟩ := kBi_some hf
    refine kM_callv 28 m_H_weightThere [.ref x0] [] d_C_openItem_25 cl_C_140 ⟨w_459, w_24⟩ (k2).x ⟨rfl, by decide⟩ ⟨_, _, rfl⟩ rfl rfl (Nat.le_of_ble_eq_true rfl) ⟨Nat.le_of_ble_eq_true rfl, Nat.le_of_ble_eq_true rfl⟩ ⟨rfl, rfl⟩ ⟨Nat.zero_le _, Nat.zero_le _⟩ (j_H_weightThere hro k2 k0 ev3) rfl ?_
    refine kJ_istore 30 [(4, .int v3), (3, .ref (x0 + 10 + 5 * kx x1)), (0, .ref x0), (1, .int x1), (2, .ref x2)] d_C_openItem_28 (Nat.le_of_ble_eq_true rfl) rfl rfl ?_
    refine kJ_aload_n 31 1 d_C_openItem_30 rfl rfl rfl rfl ?_
    refine kM_getI 34 d_C_openItem_31 l_C_89 ((kC_item k0 (kIn_lt hg1))).x rfl rfl rfl ?_
    refine kJ_if_ne 37 56 d_C_openItem_34 rfl rfl (fun hc => ?_) (fun hc => ?_)
    · have hf := kIf_f hf hc
      refine kJ_bipush 58 (-5) d_C_openItem_56 kb_m5 rfl ?_
      cases hf
      exact kJ_iret d_C_openItem_58 rfl rfl (Nat.zero_le _) (Nat.zero_le _)
    · have hf := kIf_t hf hc
      refine kJ_aload_n 38 2 d_C_openItem_37 rfl rfl rfl rfl ?_
      refine kJ_iconst 39 1 d_C_openItem_38 ki_1 rfl ?_
      obtain ⟨v4, ev4, hf⟩ := kBi_some hf
      refine kM_callv 42 m_C_firstIn [.int 1] [] d_C_openItem_39 cl_C_144 ⟨w_406, w_15⟩ (k0).x ⟨rfl, by decide⟩ ⟨_, _, rfl⟩ rfl rfl (Nat.le_of_ble_eq_true rfl) ⟨Nat.le_of_ble_eq_true rfl, Nat.le_of_ble_eq_true rfl⟩ ⟨rfl, rfl⟩ ⟨Nat.zero_le _, Nat.zero_le _⟩ (j_C_firstIn hro k0 ev4) rfl ?_
      refine kJ_bipush 44 (-6) d_C_openItem_42 kb_m6 rfl ?_
      refine kJ_icmp_ne 47 56 d_C_openItem_44 rfl rfl (fun hc => ?_) (fun hc => ?_)
      · have hf := kIf_f hf hc
        refine kJ_bipush 58 (-5) d_C_openItem_56 kb_m5 rfl ?_
        cases hf
        exact kJ_iret d_C_openItem_58 rfl rfl (Nat.zero_le _) (Nat.zero_le _)
      · have hf := kIf_t hf hc
        refine kJ_aload_n 48 2 d_C_openItem_47 rfl rfl rfl rfl ?_
        refine kJ_iload 50 0 d_C_openItem_48 rfl rfl ?_
        obtain ⟨v5, ev5, hf⟩ := kBi_some hf
        refine kM_callv 53 m_C_isQuorum [.int v3] [] d_C_openItem_50 cl_C_147 ⟨w_463, w_25⟩ (k0).x ⟨rfl, by decide⟩ ⟨_, _, rfl⟩ rfl rfl (Nat.le_of_ble_eq_true rfl) ⟨Nat.le_of_ble_eq_true rfl, Nat.le_of_ble_eq_true rfl⟩ ⟨rfl, rfl⟩ ⟨Nat.zero_le _, Nat.zero_le _⟩ (j_C_isQuorum hro k0 ev5) rfl ?_
        refine kJ_if_ne 56 59 d_C_openItem_53 rfl rfl (fun hc => ?_) (fun hc => ?_)
        · have hf := kIf_t hf (kB2_1 hc)
          refine kJ_aload_n 60 1 d_C_openItem_59 rfl rfl rfl rfl ?_
          refine kJ_iconst 61 1 d_C_openItem_60 ki_1 rfl ?_
          refine kM_put 64 d_C_openItem_61 l_C_89 ((kC_item k0 (kIn_lt hg1))).x rfl rfl (kFit_int _) rfl ?_
          obtain ⟨h6, eh6, hf⟩ := kLet_e hf
          rw [← eh6]
          refine kJ_iload 66 0 d_C_openItem_64 rfl rfl ?_
          cases hf
          exact kJ_iret d_C_openItem_66 rfl rfl (Nat.zero_le _) (Nat.zero_le _)
        · have hf := kIf_f hf (kB2_0 hc)
          refine kJ_bipush 58 (-5) d_C_openItem_56 kb_m5 rfl ?_
          cases hf
          exact kJ_iret d_C_openItem_58 rfl rfl (Nat.zero_le _) (Nat.zero_le _)
  · have hf := kIf_f hf (kB2_0 hc)
    refine kJ_iconst 9 (-1) d_C_openItem_8 ki_m1 rfl ?_
    cases hf
    exact kJ_iret d_C_openItem_9 rfl rfl (Nat.zero_le _) (Nat.zero_le _)
def f_P_open (h : kH) (x1 : Int32) : Option (Int32 × kH) := kBi (f_Y_note h 145 1) fun h1 => kBd (f_C_openItem h1 1 x1 141) fun v3 h2 => kBd (f_Y_settle h2 145 v3) fun v5 h4 => some (v5, h4)
theorem j_P_open {E : kE} {L : Nat} {xs : Nat → Int32} (hro : kRo E L xs) {K : List Nat} {h : kH} {x1 : Int32} {r : Int32} {h' : kH} (hf : f_P_open h x1 = some (r, h')) : JM E m_P_open [.ref 0, .int x1] (mk K h) (some r) (mk K h') := by
  unfold f_P_open at hf
  refine JM.of pn_P (Nat.le_of_ble_eq_true rfl) ?_
  show kJ E m_P_open (some r) (mk K h') 0 0 0 [(0, .ref 0), (1, .int x1)] [] (mk K h)
  refine kJ_aload_n 1 0 d_P_open_0 rfl rfl rfl rfl ?_
  refine kM_getR 4 144 145 d_P_open_1 l_P_29 (kp_0).x rfl rfl rfl rfl ?_
  refine kJ_aload_n 5 0 d_P_open_4 rfl rfl rfl rfl ?_
  refine kM_getR 8 0 1 d_P_open_5 l_P_10 (kp_0).x rfl rfl rfl rfl ?_
  obtain ⟨h1, eh1, hf⟩ := kBi_some hf
  refine kM_callv 11 m_Y_note [.ref 1] [] d_P_open_8 cl_P_55 ⟨w_312, w_0⟩ (kp_145).x ⟨rfl, by decide⟩ ⟨_, _, rfl⟩ rfl rfl (Nat.le_of_ble_eq_true rfl) ⟨Nat.le_of_ble_eq_true rfl, Nat.le_of_ble_eq_true rfl⟩ ⟨rfl, rfl⟩ ⟨Nat.zero_le _, Nat.zero_le _⟩ (j_Y_note hro kp_145 kp_1 eh1) rfl ?_
  refine kJ_aload_n 12 0 d_P_open_11 rfl rfl rfl rfl ?_
  refine kM_getR 15 144 145 d_P_open_12 l_P_29 (kp_0).x rfl rfl rfl rfl ?_
  refine kJ_aload_n 16 0 d_P_open_15 rfl rfl rfl rfl ?_
  refine kM_getR 19 0 1 d_P_open_16 l_P_10 (kp_0).x rfl rfl rfl rfl ?_
  refine kJ_iload_n 20 1 d_P_open_19 rfl rfl rfl ?_
  refine kJ_aload_n 21 0 d_P_open_20 rfl rfl rfl rfl ?_
  refine kM_getR 24 140 141 d_P_open_21 l_P_22 (kp_0).x rfl rfl rfl rfl ?_
  obtain ⟨v3, h2, ev3, hf⟩ := kBd_some hf
  refine kM_callv 27 m_C_openItem [.int x1, .ref 141] [.ref 145] d_P_open_24 cl_P_95 ⟨w_601, w_37⟩ (kp_1).x ⟨rfl, by decide⟩ ⟨_, _, rfl⟩ rfl rfl (Nat.le_of_ble_eq_true rfl) ⟨Nat.le_of_ble_eq_true rfl, Nat.le_of_ble_eq_true rfl⟩ ⟨rfl, rfl⟩ ⟨Nat.zero_le _, Nat.zero_le _⟩ (j_C_openItem hro kp_1 kp_141 ev3) rfl ?_
  obtain ⟨v5, h4, ev5, hf⟩ := kBd_some hf
  refine kM_callv 30 m_Y_settle [.int v3] [] d_P_open_27 cl_P_63 ⟨w_336, w_5⟩ (kp_145).x ⟨rfl, by decide⟩ ⟨_, _, rfl⟩ rfl rfl (Nat.le_of_ble_eq_true rfl) ⟨Nat.le_of_ble_eq_true rfl, Nat.le_of_ble_eq_true rfl⟩ ⟨rfl, rfl⟩ ⟨Nat.zero_le _, Nat.zero_le _⟩ (j_Y_settle hro kp_145 ev5) rfl ?_
  cases hf
  exact kJ_iret d_P_open_30 rfl rfl (Nat.zero_le _) (Nat.zero_le _)
def f_C_canVote (h : kH) (x0 : Nat) (x1 : Int32) (x2 : Nat) : Option Bool := if (f_C_isPresent h x0 x1) = true then (kBi (f_C_isRecused h x0 x1 x2) fun v1 => if v1 = true then (some false) else (some true)) else (some false)
theorem j_C_canVote {E : kE} {L : Nat} {xs : Nat → Int32} (hro : kRo E L xs) {K : List Nat} {h : kH} {x0 : Nat} {x1 : Int32} {x2 : Nat} (k0 : kIs x0 0) (k2 : kIs x2 3) {r : Bool} (hf : f_C_canVote h x0 x1 x2 = some r) : JM E m_C_canVote [.ref x0, .int x1, .ref x2] (mk K h) (some (kB2 r)) (mk K h) := by
  unfold f_C_canVote at hf
  refine JM.of pn_C (Nat.le_of_ble_eq_true rfl) ?_
  show kJ E m_C_canVote (some (kB2 r)) (mk K h) 0 0 0 [(0, .ref x0), (1, .int x1), (2, .ref x2)] [] (mk K h)
  refine kJ_aload_n 1 0 d_C_canVote_0 rfl rfl rfl rfl ?_
  refine kJ_iload_n 2 1 d_C_canVote_1 rfl rfl rfl ?_
  refine kM_callv 5 m_C_isPresent [.int x1] [] d_C_canVote_2 cl_C_76 ⟨w_386, w_11⟩ (k0).x ⟨rfl, by decide⟩ ⟨_, _, rfl⟩ rfl rfl (Nat.le_of_ble_eq_true rfl) ⟨Nat.le_of_ble_eq_true rfl, Nat.le_of_ble_eq_true rfl⟩ ⟨rfl, rfl⟩ ⟨Nat.zero_le _, Nat.zero_le _⟩ (j_C_isPresent hro k0 rfl) rfl ?_
  refine kJ_if_eq 8 21 d_C_canVote_5 rfl rfl (fun hc => ?_) (fun hc => ?_)
  · have hf := kIf_f hf (kB2_0 hc)
    refine kJ_iconst 22 0 d_C_canVote_21 ki_0 rfl ?_
    cases hf
    exact kJ_iret d_C_canVote_22 rfl (kB2_z _) (Nat.zero_le _) (Nat.zero_le _)
  · have hf := kIf_t hf (kB2_1 hc)
    refine kJ_aload_n 9 0 d_C_canVote_8 rfl rfl rfl rfl ?_
    refine kJ_iload_n 10 1 d_C_canVote_9 rfl rfl rfl ?_
    refine kJ_aload_n 11 2 d_C_canVote_10 rfl rfl rfl rfl ?_
    obtain ⟨v1, ev1, hf⟩ := kBi_some hf
    refine kM_callv 14 m_C_isRecused [.int x1, .ref x2] [] d_C_canVote_11 cl_C_80 ⟨w_442, w_20⟩ (k0).x ⟨rfl, by decide⟩ ⟨_, _, rfl⟩ rfl rfl (Nat.le_of_ble_eq_true rfl) ⟨Nat.le_of_ble_eq_true rfl, Nat.le_of_ble_eq_true rfl⟩ ⟨rfl, rfl⟩ ⟨Nat.zero_le _, Nat.zero_le _⟩ (j_C_isRecused hro k0 k2 ev1) rfl ?_
    refine kJ_if_ne 17 21 d_C_canVote_14 rfl rfl (fun hc => ?_) (fun hc => ?_)
    · have hf := kIf_t hf (kB2_1 hc)
      refine kJ_iconst 22 0 d_C_canVote_21 ki_0 rfl ?_
      cases hf
      exact kJ_iret d_C_canVote_22 rfl (kB2_z _) (Nat.zero_le _) (Nat.zero_le _)
    · have hf := kIf_f hf (kB2_0 hc)
      refine kJ_iconst 18 1 d_C_canVote_17 ki_1 rfl ?_
      refine kJ_goto 22 d_C_canVote_18 rfl ?_
      cases hf
      exact kJ_iret d_C_canVote_22 rfl (kB2_z _) (Nat.zero_le _) (Nat.zero_le _)
def f_C_giveVote (h : kH) (x0 : Nat) (x1 : Int32) (x2 : Int32) : Option (Int32 × kH) := if (f_C_hasMember h x0 x1) = true then (if (f_P_isChoice x2) = true then (kBi (f_C_firstIn h x0 1) fun v1 => if v1 = (-6) then (some ((-5), h)) else (kG v1 12 (kBi (f_C_canVote h x0 x1 (x0 + 10 + 5 * kx v1)) fun v3 => if v3 = true then (kG v1 12 (kG x1 12 (kLet (h ((x0 + 10 + 5 * kx v1) + 2) (kx x1)) fun v5 => kG v1 12 (kG x1 12 (kLet (hset h ((x0 + 10 + 5 * kx v1) + 2) (kx x1) x2) fun h7 => some (v5, h7)))))) else (some ((-5), h))))) else (some ((-2), h))) else (some ((-1), h))
theorem j_C_giveVote {E : kE} {L : Nat} {xs : Nat → Int32} (hro : kRo E L xs) {K : List Nat} {h : kH} {x0 : Nat} {x1 : Int32} {x2 : Int32} (k0 : kIs x0 0) {r : Int32} {h' : kH} (hf : f_C_giveVote h x0 x1 x2 = some (r, h')) : JM E m_C_giveVote [.ref x0, .int x1, .int x2] (mk K h) (some r) (mk K h') := by
  unfold f_C_giveVote at hf
  refine JM.of pn_C (Nat.le_of_ble_eq_true rfl) ?_
  show kJ E m_C_giveVote (some r) (mk K h') 0 0 0 [(0, .ref x0), (1, .int x1), (2, .int x2)] [] (mk K h)
  refine kJ_aload_n 1 0 d_C_giveVote_0 rfl rfl rfl rfl ?_
  refine kJ_iload_n 2 1 d_C_giveVote_1 rfl rfl rfl ?_
  refine kM_callv 5 m_C_hasMember [.int x1] [] d_C_giveVote_2 cl_C_105 ⟨w_377, w_10⟩ (k0).x ⟨rfl, by decide⟩ ⟨_, _, rfl⟩ rfl rfl (Nat.le_of_ble_eq_true rfl) ⟨Nat.le_of_ble_eq_true rfl, Nat.le_of_ble_eq_true rfl⟩ ⟨rfl, rfl⟩ ⟨Nat.zero_le _, Nat.zero_le _⟩ (j_C_hasMember hro k0 rfl) rfl ?_
  refine kJ_if_ne 8 10 d_C_giveVote_5 rfl rfl (fun hc => ?_) (fun hc => ?_)
  · have hf := kIf_t hf (kB2_1 hc)
    refine kJ_iload_n 11 2 d_C_giveVote_10 rfl rfl rfl ?_
    refine kM_calls 14 m_P_isChoice [.int x2] [] d_C_giveVote_11 cl_C_124 w_577 rfl rfl (Nat.le_of_ble_eq_true rfl) ⟨Nat.le_of_ble_eq_true rfl, Nat.le_of_ble_eq_true rfl⟩ ⟨rfl, rfl⟩ ⟨Nat.zero_le _, Nat.zero_le _⟩ (j_P_isChoice hro rfl) rfl ?_
    refine kJ_if_ne 17 20 d_C_giveVote_14 rfl rfl (fun hc => ?_) (fun hc => ?_)
    · have hf := kIf_t hf (kB2_1 hc)
      refine kJ_aload_n 21 0 d_C_giveVote_20 rfl rfl rfl rfl ?_
      refine kJ_iconst 22 1 d_C_giveVote_21 ki_1 rfl ?_
      obtain ⟨v1, ev1, hf⟩ := kBi_some hf
      refine kM_callv 25 m_C_firstIn [.int 1] [] d_C_giveVote_22 cl_C_144 ⟨w_406, w_15⟩ (k0).x ⟨rfl, by decide⟩ ⟨_, _, rfl⟩ rfl rfl (Nat.le_of_ble_eq_true rfl) ⟨Nat.le_of_ble_eq_true rfl, Nat.le_of_ble_eq_true rfl⟩ ⟨rfl, rfl⟩ ⟨Nat.zero_le _, Nat.zero_le _⟩ (j_C_firstIn hro k0 ev1) rfl ?_
      refine kJ_istore_n 26 [(3, .int v1), (0, .ref x0), (1, .int x1), (2, .int x2)] d_C_giveVote_25 rfl (Nat.le_of_ble_eq_true rfl) rfl rfl ?_
      refine kJ_iload_n 27 0 d_C_giveVote_26 rfl rfl rfl ?_
      refine kJ_bipush 29 (-6) d_C_giveVote_27 kb_m6 rfl ?_
      refine kJ_icmp_eq 32 46 d_C_giveVote_29 rfl rfl (fun hc => ?_) (fun hc => ?_)
      · have hf := kIf_t hf hc
        refine kJ_bipush 48 (-5) d_C_giveVote_46 kb_m5 rfl ?_
        cases hf
        exact kJ_iret d_C_giveVote_48 rfl rfl (Nat.zero_le _) (Nat.zero_le _)
      · have hf := kIf_f hf hc
        refine kJ_aload_n 33 1 d_C_giveVote_32 rfl rfl rfl rfl ?_
        refine kJ_iload_n 34 2 d_C_giveVote_33 rfl rfl rfl ?_
        refine kJ_aload_n 35 1 d_C_giveVote_34 rfl rfl rfl rfl ?_
        refine kM_getR 38 4 (x0 + 5) d_C_giveVote_35 l_C_30 (k0).x rfl rfl rfl rfl ?_
        refine kJ_iload_n 39 0 d_C_giveVote_38 rfl rfl rfl ?_
        obtain ⟨hg2, hf⟩ := kG_some hf
        refine kM_aald 40 12 5 5 (x0 + 10 + 5 * kx v1) d_C_giveVote_39 ((kk_0_9 k0)).x rfl (by decide) (Or.inl rfl) hg2 (by simp only [Nat.add_assoc, kx]; try omega) rfl ?_
        obtain ⟨v3, ev3, hf⟩ := kBi_some hf
        refine kM_callv 43 m_C_canVote [.int x1, .ref (x0 + 10 + 5 * kx v1)] [] d_C_giveVote_40 cl_C_150 ⟨w_620, w_39⟩ (k0).x ⟨rfl, by decide⟩ ⟨_, _, rfl⟩ rfl rfl (Nat.le_of_ble_eq_true rfl) ⟨Nat.le_of_ble_eq_true rfl, Nat.le_of_ble_eq_true rfl⟩ ⟨rfl, rfl⟩ ⟨Nat.zero_le _, Nat.zero_le _⟩ (j_C_canVote hro k0 (kC_item k0 (kIn_lt hg2)) ev3) rfl ?_
        refine kJ_if_ne 46 49 d_C_giveVote_43 rfl rfl (fun hc => ?_) (fun hc => ?_)
        · have hf := kIf_t hf (kB2_1 hc)
          refine kJ_aload_n 50 1 d_C_giveVote_49 rfl rfl rfl rfl ?_
          refine kM_getR 53 4 (x0 + 5) d_C_giveVote_50 l_C_30 (k0).x rfl rfl rfl rfl ?_
          refine kJ_iload_n 54 0 d_C_giveVote_53 rfl rfl rfl ?_
          obtain ⟨hg4, hf⟩ := kG_some hf
          refine kM_aald 55 12 5 5 (x0 + 10 + 5 * kx v1) d_C_giveVote_54 ((kk_0_9 k0)).x rfl (by decide) (Or.inl rfl) hg4 (by simp only [Nat.add_assoc, kx]; try omega) rfl ?_
          refine kM_getR 58 1 ((x0 + 10 + 5 * kx v1) + 2) d_C_giveVote_55 l_C_92 ((kC_item k0 (kIn_lt hg4))).x rfl rfl rfl rfl ?_
          refine kJ_iload_n 59 2 d_C_giveVote_58 rfl rfl rfl ?_
          obtain ⟨hg, hf⟩ := kG_some hf
          refine kM_iald 60 12 d_C_giveVote_59 ((kk_3_7 (kC_item k0 (kIn_lt hg4)))).x rfl hg rfl ?_
          obtain ⟨v5, ev5, hf⟩ := kLet_e hf
          rw [← ev5]
          refine kJ_istore 62 [(4, .int v5), (3, .int v1), (0, .ref x0), (1, .int x1), (2, .int x2)] d_C_giveVote_60 (Nat.le_of_ble_eq_true rfl) rfl rfl ?_
          refine kJ_aload_n 63 2 d_C_giveVote_62 rfl rfl rfl rfl ?_
          refine kM_getR 66 4 (x0 + 5) d_C_giveVote_63 l_C_30 (k0).x rfl rfl rfl rfl ?_
          refine kJ_iload_n 67 1 d_C_giveVote_66 rfl rfl rfl ?_
          obtain ⟨hg6, hf⟩ := kG_some hf
          refine kM_aald 68 12 5 5 (x0 + 10 + 5 * kx v1) d_C_giveVote_67 ((kk_0_9 k0)).x rfl (by decide) (Or.inl rfl) hg6 (by simp only [Nat.add_assoc, kx]; try omega) rfl ?_
          refine kM_getR 71 1 ((x0 + 10 + 5 * kx v1) + 2) d_C_giveVote_68 l_C_92 ((kC_item k0 (kIn_lt hg6))).x rfl rfl rfl rfl ?_
          refine kJ_iload_n 72 3 d_C_giveVote_71 rfl rfl rfl ?_
          refine kJ_iload_n 73 4 d_C_giveVote_72 rfl rfl rfl ?_
          obtain ⟨hg, hf⟩ := kG_some hf
          refine kM_iast 74 12 d_C_giveVote_73 ((kk_3_7 (kC_item k0 (kIn_lt hg6)))).x rfl hg rfl ?_
          obtain ⟨h7, eh7, hf⟩ := kLet_e hf
          rw [← eh7]
          refine kJ_iload 76 0 d_C_giveVote_74 rfl rfl ?_
          cases hf
          exact kJ_iret d_C_giveVote_76 rfl rfl (Nat.zero_le _) (Nat.zero_le _)
        · have hf := kIf_f hf (kB2_0 hc)
          refine kJ_bipush 48 (-5) d_C_giveVote_46 kb_m5 rfl ?_
          cases hf
          exact kJ_iret d_C_giveVote_48 rfl rfl (Nat.zero_le _) (Nat.zero_le _)
    · have hf := kIf_f hf (kB2_0 hc)
      refine kJ_bipush 19 (-2) d_C_giveVote_17 kb_m2 rfl ?_
      cases hf
      exact kJ_iret d_C_giveVote_19 rfl rfl (Nat.zero_le _) (Nat.zero_le _)
  · have hf := kIf_f hf (kB2_0 hc)
    refine kJ_iconst 9 (-1) d_C_giveVote_8 ki_m1 rfl ?_
    cases hf
    exact kJ_iret d_C_giveVote_9 rfl rfl (Nat.zero_le _) (Nat.zero_le _)
def f_P_vote (h : kH) (x1 : Int32) (x2 : Int32) : Option (Int32 × kH) := kBi (f_Y_note h 145 1) fun h1 => kBd (f_C_giveVote h1 1 x1 x2) fun v3 h2 => kBd (f_Y_settle h2 145 v3) fun v5 h4 => some (v5, h4)
theorem j_P_vote {E : kE} {L : Nat} {xs : Nat → Int32} (hro : kRo E L xs) {K : List Nat} {h : kH} {x1 : Int32} {x2 : Int32} {r : Int32} {h' : kH} (hf : f_P_vote h x1 x2 = some (r, h')) : JM E m_P_vote [.ref 0, .int x1, .int x2] (mk K h) (some r) (mk K h') := by
  unfold f_P_vote at hf
  refine JM.of pn_P (Nat.le_of_ble_eq_true rfl) ?_
  show kJ E m_P_vote (some r) (mk K h') 0 0 0 [(0, .ref 0), (1, .int x1), (2, .int x2)] [] (mk K h)
  refine kJ_aload_n 1 0 d_P_vote_0 rfl rfl rfl rfl ?_
  refine kM_getR 4 144 145 d_P_vote_1 l_P_29 (kp_0).x rfl rfl rfl rfl ?_
  refine kJ_aload_n 5 0 d_P_vote_4 rfl rfl rfl rfl ?_
  refine kM_getR 8 0 1 d_P_vote_5 l_P_10 (kp_0).x rfl rfl rfl rfl ?_
  obtain ⟨h1, eh1, hf⟩ := kBi_some hf
  refine kM_callv 11 m_Y_note [.ref 1] [] d_P_vote_8 cl_P_55 ⟨w_312, w_0⟩ (kp_145).x ⟨rfl, by decide⟩ ⟨_, _, rfl⟩ rfl rfl (Nat.le_of_ble_eq_true rfl) ⟨Nat.le_of_ble_eq_true rfl, Nat.le_of_ble_eq_true rfl⟩ ⟨rfl, rfl⟩ ⟨Nat.zero_le _, Nat.zero_le _⟩ (j_Y_note hro kp_145 kp_1 eh1) rfl ?_
  refine kJ_aload_n 12 0 d_P_vote_11 rfl rfl rfl rfl ?_
  refine kM_getR 15 144 145 d_P_vote_12 l_P_29 (kp_0).x rfl rfl rfl rfl ?_
  refine kJ_aload_n 16 0 d_P_vote_15 rfl rfl rfl rfl ?_
  refine kM_getR 19 0 1 d_P_vote_16 l_P_10 (kp_0).x rfl rfl rfl rfl ?_
  refine kJ_iload_n 20 1 d_P_vote_19 rfl rfl rfl ?_
  refine kJ_iload_n 21 2 d_P_vote_20 rfl rfl rfl ?_
  obtain ⟨v3, h2, ev3, hf⟩ := kBd_some hf
  refine kM_callv 24 m_C_giveVote [.int x1, .int x2] [.ref 145] d_P_vote_21 cl_P_99 ⟨w_616, w_38⟩ (kp_1).x ⟨rfl, by decide⟩ ⟨_, _, rfl⟩ rfl rfl (Nat.le_of_ble_eq_true rfl) ⟨Nat.le_of_ble_eq_true rfl, Nat.le_of_ble_eq_true rfl⟩ ⟨rfl, rfl⟩ ⟨Nat.zero_le _, Nat.zero_le _⟩ (j_C_giveVote hro kp_1 ev3) rfl ?_
  obtain ⟨v5, h4, ev5, hf⟩ := kBd_some hf
  refine kM_callv 27 m_Y_settle [.int v3] [] d_P_vote_24 cl_P_63 ⟨w_336, w_5⟩ (kp_145).x ⟨rfl, by decide⟩ ⟨_, _, rfl⟩ rfl rfl (Nat.le_of_ble_eq_true rfl) ⟨Nat.le_of_ble_eq_true rfl, Nat.le_of_ble_eq_true rfl⟩ ⟨rfl, rfl⟩ ⟨Nat.zero_le _, Nat.zero_le _⟩ (j_Y_settle hro kp_145 ev5) rfl ?_
  cases hf
  exact kJ_iret d_P_vote_27 rfl rfl (Nat.zero_le _) (Nat.zero_le _)
def f_I_putOff (h : kH) (x0 : Nat) : Option (kH) := kLet (hset h x0 2 0) fun h1 => kLet (hset h1 x0 5 ((h1 x0 5) + 1)) fun h2 => kLet (hfill h2 (x0 + 2) 12 (-6)) fun h3 => some h3
theorem j_I_putOff {E : kE} {L : Nat} {xs : Nat → Int32} (hro : kRo E L xs) {K : List Nat} {h : kH} {x0 : Nat} (k0 : kIs x0 3) {h' : kH} (hf : f_I_putOff h x0 = some h') : JM E m_I_putOff [.ref x0] (mk K h) none (mk K h') := by
  unfold f_I_putOff at hf
  refine JM.of pn_I (Nat.le_of_ble_eq_true rfl) ?_
  show kJ E m_I_putOff none (mk K h') 0 0 0 [(0, .ref x0)] [] (mk K h)
  refine kJ_aload_n 1 0 d_I_putOff_0 rfl rfl rfl rfl ?_
  refine kJ_iconst 2 0 d_I_putOff_1 ki_0 rfl ?_
  refine kM_put 5 d_I_putOff_2 l_I_31 (k0).x rfl rfl (kFit_int _) rfl ?_
  obtain ⟨h1, eh1, hf⟩ := kLet_e hf
  rw [← eh1]
  refine kJ_aload_n 6 0 d_I_putOff_5 rfl rfl rfl rfl ?_
  refine kJ_dup 7 d_I_putOff_6 rfl rfl ?_
  refine kM_getI 10 d_I_putOff_7 l_I_40 (k0).x rfl rfl rfl ?_
  refine kJ_iconst 11 1 d_I_putOff_10 ki_1 rfl ?_
  refine kJ_iadd 12 d_I_putOff_11 rfl ?_
  refine kM_put 15 d_I_putOff_12 l_I_40 (k0).x rfl rfl (kFit_int _) rfl ?_
  obtain ⟨h2, eh2, hf⟩ := kLet_e hf
  rw [← eh2]
  refine kJ_aload_n 16 0 d_I_putOff_15 rfl rfl rfl rfl ?_
  refine kM_getR 19 1 (x0 + 2) d_I_putOff_16 l_I_15 (k0).x rfl rfl rfl rfl ?_
  refine kJ_bipush 21 (-6) d_I_putOff_19 kb_m6 rfl ?_
  refine kM_calls 24 m_JA_fill [.ref (x0 + 2), .int (-6)] [] d_I_putOff_21 cl_I_43 w_365 rfl rfl (Nat.le_of_ble_eq_true rfl) ⟨Nat.le_of_ble_eq_true rfl, Nat.le_of_ble_eq_true rfl⟩ ⟨rfl, rfl⟩ ⟨Nat.zero_le _, Nat.zero_le _⟩ (j_JA_fill hro ((kk_3_7 k0)).x (n := 12) rfl (by decide)) rfl ?_
  obtain ⟨h3, eh3, hf⟩ := kLet_e hf
  rw [← eh3]
  cases hf
  exact kJ_ret d_I_putOff_24 rfl (Nat.zero_le _) (Nat.zero_le _)
def f_C_closeItem (h : kH) (x0 : Nat) (x1 : Nat) : Option (Int32 × kH) := kBi (f_C_firstIn h x0 1) fun v1 => if v1 = (-6) then (some ((-5), h)) else (kG v1 12 (kBi (f_H_listen h x1 x0 (x0 + 10 + 5 * kx v1)) fun h3 => kBi (f_H_weightThere h3 x1 x0) fun v4 => kBi (f_C_isQuorum h3 x0 v4) fun v5 => if v5 = true then (kBi (f_H_tally h3 x1 x0 (x0 + 10 + 5 * kx v1)) fun h7 => kCg 0 0 6 6 6 (kLet (hcpy h7 (x1 + 3) ((x0 + 10 + 5 * kx v1) + 1) (kx 0) (kx 0) (kx 6)) fun h8 => kBi (f_H_outcome h8 x1 x0 (x0 + 10 + 5 * kx v1) 0) fun v9 => kLet (hset h8 (x0 + 10 + 5 * kx v1) 2 v9) fun h10 => some ((h10 (x0 + 10 + 5 * kx v1) 2), h10))) else (kBi (f_I_putOff h3 (x0 + 10 + 5 * kx v1)) fun h6 => some ((h6 (x0 + 10 + 5 * kx v1) 2), h6))))
theorem j_C_closeItem {E : kE} {L : Nat} {xs : Nat → Int32} (hro : kRo E L xs) {K : List Nat} {h : kH} {x0 : Nat} {x1 : Nat} (k0 : kIs x0 0) (k1 : kIs x1 1) {r : Int32} {h' : kH} (hf : f_C_closeItem h x0 x1 = some (r, h')) : JM E m_C_closeItem [.ref x0, .ref x1] (mk K h) (some r) (mk K h') := by
  unfold f_C_closeItem at hf
  refine JM.of pn_C (Nat.le_of_ble_eq_true rfl) ?_
  show kJ E m_C_closeItem (some r) (mk K h') 0 0 0 [(0, .ref x0), (1, .ref x1)] [] (mk K h)
  refine kJ_aload_n 1 0 d_C_closeItem_0 rfl rfl rfl rfl ?_
  refine kJ_iconst 2 1 d_C_closeItem_1 ki_1 rfl ?_
  obtain ⟨v1, ev1, hf⟩ := kBi_some hf
  refine kM_callv 5 m_C_firstIn [.int 1] [] d_C_closeItem_2 cl_C_144 ⟨w_406, w_15⟩ (k0).x ⟨rfl, by decide⟩ ⟨_, _, rfl⟩ rfl rfl (Nat.le_of_ble_eq_true rfl) ⟨Nat.le_of_ble_eq_true rfl, Nat.le_of_ble_eq_true rfl⟩ ⟨rfl, rfl⟩ ⟨Nat.zero_le _, Nat.zero_le _⟩ (j_C_firstIn hro k0 ev1) rfl ?_
  refine kJ_istore_n 6 [(2, .int v1), (0, .ref x0), (1, .ref x1)] d_C_closeItem_5 rfl (Nat.le_of_ble_eq_true rfl) rfl rfl ?_
  refine kJ_iload_n 7 0 d_C_closeItem_6 rfl rfl rfl ?_
  refine kJ_bipush 9 (-6) d_C_closeItem_7 kb_m6 rfl ?_
  refine kJ_icmp_ne 12 15 d_C_closeItem_9 rfl rfl (fun hc => ?_) (fun hc => ?_)
  · have hf := kIf_f hf hc
    refine kJ_aload_n 16 1 d_C_closeItem_15 rfl rfl rfl rfl ?_
    refine kM_getR 19 4 (x0 + 5) d_C_closeItem_16 l_C_30 (k0).x rfl rfl rfl rfl ?_
    refine kJ_iload_n 20 0 d_C_closeItem_19 rfl rfl rfl ?_
    obtain ⟨hg2, hf⟩ := kG_some hf
    refine kM_aald 21 12 5 5 (x0 + 10 + 5 * kx v1) d_C_closeItem_20 ((kk_0_9 k0)).x rfl (by decide) (Or.inl rfl) hg2 (by simp only [Nat.add_assoc, kx]; try omega) rfl ?_
    refine kJ_astore_n 22 [(3, .ref (x0 + 10 + 5 * kx v1)), (2, .int v1), (0, .ref x0), (1, .ref x1)] d_C_closeItem_21 rfl (Nat.le_of_ble_eq_true rfl) rfl rfl rfl ?_
    refine kJ_aload_n 23 3 d_C_closeItem_22 rfl rfl rfl rfl ?_
    refine kJ_aload_n 24 2 d_C_closeItem_23 rfl rfl rfl rfl ?_
    refine kJ_aload_n 25 0 d_C_closeItem_24 rfl rfl rfl rfl ?_
    obtain ⟨h3, eh3, hf⟩ := kBi_some hf
    refine kM_callv 28 m_H_listen [.ref x0, .ref (x0 + 10 + 5 * kx v1)] [] d_C_closeItem_25 cl_C_134 ⟨w_437, w_19⟩ (k1).x ⟨rfl, by decide⟩ ⟨_, _, rfl⟩ rfl rfl (Nat.le_of_ble_eq_true rfl) ⟨Nat.le_of_ble_eq_true rfl, Nat.le_of_ble_eq_true rfl⟩ ⟨rfl, rfl⟩ ⟨Nat.zero_le _, Nat.zero_le _⟩ (j_H_listen hro k1 k0 (kC_item k0 (kIn_lt hg2)) eh3) rfl ?_
    refine kJ_aload_n 29 2 d_C_closeItem_28 rfl rfl rfl rfl ?_
    refine kJ_aload_n 30 3 d_C_closeItem_29 rfl rfl rfl rfl ?_
    refine kJ_aload_n 31 2 d_C_closeItem_30 rfl rfl rfl rfl ?_
    obtain ⟨v4, ev4, hf⟩ := kBi_some hf
    refine kM_callv 34 m_H_weightThere [.ref x0] [.ref x0] d_C_closeItem_31 cl_C_140 ⟨w_459, w_24⟩ (k1).x ⟨rfl, by decide⟩ ⟨_, _, rfl⟩ rfl rfl (Nat.le_of_ble_eq_true rfl) ⟨Nat.le_of_ble_eq_true rfl, Nat.le_of_ble_eq_true rfl⟩ ⟨rfl, rfl⟩ ⟨Nat.zero_le _, Nat.zero_le _⟩ (j_H_weightThere hro k1 k0 ev4) rfl ?_
    obtain ⟨v5, ev5, hf⟩ := kBi_some hf
    refine kM_callv 37 m_C_isQuorum [.int v4] [] d_C_closeItem_34 cl_C_147 ⟨w_463, w_25⟩ (k0).x ⟨rfl, by decide⟩ ⟨_, _, rfl⟩ rfl rfl (Nat.le_of_ble_eq_true rfl) ⟨Nat.le_of_ble_eq_true rfl, Nat.le_of_ble_eq_true rfl⟩ ⟨rfl, rfl⟩ ⟨Nat.zero_le _, Nat.zero_le _⟩ (j_C_isQuorum hro k0 ev5) rfl ?_
    refine kJ_if_eq 40 75 d_C_closeItem_37 rfl rfl (fun hc => ?_) (fun hc => ?_)
    · have hf := kIf_f hf (kB2_0 hc)
      refine kJ_aload_n 76 0 d_C_closeItem_75 rfl rfl rfl rfl ?_
      obtain ⟨h6, eh6, hf⟩ := kBi_some hf
      refine kM_callv 79 m_I_putOff [] [] d_C_closeItem_76 cl_C_164 ⟨w_637, w_41⟩ ((kC_item k0 (kIn_lt hg2))).x ⟨rfl, by decide⟩ ⟨_, _, rfl⟩ rfl rfl (Nat.le_of_ble_eq_true rfl) ⟨Nat.le_of_ble_eq_true rfl, Nat.le_of_ble_eq_true rfl⟩ ⟨rfl, rfl⟩ ⟨Nat.zero_le _, Nat.zero_le _⟩ (j_I_putOff hro (kC_item k0 (kIn_lt hg2)) eh6) rfl ?_
      refine kJ_aload_n 80 0 d_C_closeItem_79 rfl rfl rfl rfl ?_
      refine kM_getI 83 d_C_closeItem_80 l_C_89 ((kC_item k0 (kIn_lt hg2))).x rfl rfl rfl ?_
      cases hf
      exact kJ_iret d_C_closeItem_83 rfl rfl (Nat.zero_le _) (Nat.zero_le _)
    · have hf := kIf_t hf (kB2_1 hc)
      refine kJ_aload_n 41 3 d_C_closeItem_40 rfl rfl rfl rfl ?_
      refine kJ_aload_n 42 2 d_C_closeItem_41 rfl rfl rfl rfl ?_
      refine kJ_aload_n 43 0 d_C_closeItem_42 rfl rfl rfl rfl ?_
      obtain ⟨h7, eh7, hf⟩ := kBi_some hf
      refine kM_callv 46 m_H_tally [.ref x0, .ref (x0 + 10 + 5 * kx v1)] [] d_C_closeItem_43 cl_C_153 ⟨w_476, w_28⟩ (k1).x ⟨rfl, by decide⟩ ⟨_, _, rfl⟩ rfl rfl (Nat.le_of_ble_eq_true rfl) ⟨Nat.le_of_ble_eq_true rfl, Nat.le_of_ble_eq_true rfl⟩ ⟨rfl, rfl⟩ ⟨Nat.zero_le _, Nat.zero_le _⟩ (j_H_tally hro k1 k0 (kC_item k0 (kIn_lt hg2)) eh7) rfl ?_
      refine kJ_aload_n 47 3 d_C_closeItem_46 rfl rfl rfl rfl ?_
      refine kM_getR 50 2 (x1 + 3) d_C_closeItem_47 l_C_156 (k1).x rfl rfl rfl rfl ?_
      refine kJ_iconst 51 0 d_C_closeItem_50 ki_0 rfl ?_
      refine kJ_aload_n 52 0 d_C_closeItem_51 rfl rfl rfl rfl ?_
      refine kM_getR 55 0 ((x0 + 10 + 5 * kx v1) + 1) d_C_closeItem_52 l_C_159 ((kC_item k0 (kIn_lt hg2))).x rfl rfl rfl rfl ?_
      refine kJ_iconst 56 0 d_C_closeItem_55 ki_0 rfl ?_
      refine kJ_bipush 58 6 d_C_closeItem_56 kb_6 rfl ?_
      obtain ⟨⟨g1, g2, g3, g4, g5⟩, hf⟩ := kCg_some hf
      refine kM_copy 61 6 6 d_C_closeItem_58 cp_C_44 ((kk_1_2 k1)).x rfl ((kk_3_6 (kC_item k0 (kIn_lt hg2)))).x rfl g1 g2 g3 g4 g5 ⟨Nat.le_of_ble_eq_true rfl, Nat.le_of_ble_eq_true rfl⟩ rfl ?_
      obtain ⟨h8, eh8, hf⟩ := kLet_e hf
      rw [← eh8]
      refine kJ_aload_n 62 0 d_C_closeItem_61 rfl rfl rfl rfl ?_
      refine kJ_aload_n 63 3 d_C_closeItem_62 rfl rfl rfl rfl ?_
      refine kJ_aload_n 64 2 d_C_closeItem_63 rfl rfl rfl rfl ?_
      refine kJ_aload_n 65 0 d_C_closeItem_64 rfl rfl rfl rfl ?_
      refine kJ_iconst 66 0 d_C_closeItem_65 ki_0 rfl ?_
      obtain ⟨v9, ev9, hf⟩ := kBi_some hf
      refine kM_callv 69 m_H_outcome [.ref x0, .ref (x0 + 10 + 5 * kx v1), .int 0] [.ref (x0 + 10 + 5 * kx v1)] d_C_closeItem_66 cl_C_160 ⟨w_517, w_31⟩ (k1).x ⟨rfl, by decide⟩ ⟨_, _, rfl⟩ rfl rfl (Nat.le_of_ble_eq_true rfl) ⟨Nat.le_of_ble_eq_true rfl, Nat.le_of_ble_eq_true rfl⟩ ⟨rfl, rfl⟩ ⟨Nat.zero_le _, Nat.zero_le _⟩ (j_H_outcome hro k1 k0 (kC_item k0 (kIn_lt hg2)) ev9) rfl ?_
      refine kM_put 72 d_C_closeItem_69 l_C_89 ((kC_item k0 (kIn_lt hg2))).x rfl rfl (kFit_int _) rfl ?_
      obtain ⟨h10, eh10, hf⟩ := kLet_e hf
      rw [← eh10]
      refine kJ_goto 79 d_C_closeItem_72 rfl ?_
      refine kJ_aload_n 80 0 d_C_closeItem_79 rfl rfl rfl rfl ?_
      refine kM_getI 83 d_C_closeItem_80 l_C_89 ((kC_item k0 (kIn_lt hg2))).x rfl rfl rfl ?_
      cases hf
      exact kJ_iret d_C_closeItem_83 rfl rfl (Nat.zero_le _) (Nat.zero_le _)
  · have hf := kIf_t hf hc
    refine kJ_bipush 14 (-5) d_C_closeItem_12 kb_m5 rfl ?_
    cases hf
    exact kJ_iret d_C_closeItem_14 rfl rfl (Nat.zero_le _) (Nat.zero_le _)
def f_P_close (h : kH) : Option (Int32 × kH) := kBi (f_Y_note h 145 1) fun h1 => kBd (f_C_closeItem h1 1 141) fun v3 h2 => kBd (f_Y_settle h2 145 v3) fun v5 h4 => some (v5, h4)
theorem j_P_close {E : kE} {L : Nat} {xs : Nat → Int32} (hro : kRo E L xs) {K : List Nat} {h : kH} {r : Int32} {h' : kH} (hf : f_P_close h = some (r, h')) : JM E m_P_close [.ref 0] (mk K h) (some r) (mk K h') := by
  unfold f_P_close at hf
  refine JM.of pn_P (Nat.le_of_ble_eq_true rfl) ?_
  show kJ E m_P_close (some r) (mk K h') 0 0 0 [(0, .ref 0)] [] (mk K h)
  refine kJ_aload_n 1 0 d_P_close_0 rfl rfl rfl rfl ?_
  refine kM_getR 4 144 145 d_P_close_1 l_P_29 (kp_0).x rfl rfl rfl rfl ?_
  refine kJ_aload_n 5 0 d_P_close_4 rfl rfl rfl rfl ?_
  refine kM_getR 8 0 1 d_P_close_5 l_P_10 (kp_0).x rfl rfl rfl rfl ?_
  obtain ⟨h1, eh1, hf⟩ := kBi_some hf
  refine kM_callv 11 m_Y_note [.ref 1] [] d_P_close_8 cl_P_55 ⟨w_312, w_0⟩ (kp_145).x ⟨rfl, by decide⟩ ⟨_, _, rfl⟩ rfl rfl (Nat.le_of_ble_eq_true rfl) ⟨Nat.le_of_ble_eq_true rfl, Nat.le_of_ble_eq_true rfl⟩ ⟨rfl, rfl⟩ ⟨Nat.zero_le _, Nat.zero_le _⟩ (j_Y_note hro kp_145 kp_1 eh1) rfl ?_
  refine kJ_aload_n 12 0 d_P_close_11 rfl rfl rfl rfl ?_
  refine kM_getR 15 144 145 d_P_close_12 l_P_29 (kp_0).x rfl rfl rfl rfl ?_
  refine kJ_aload_n 16 0 d_P_close_15 rfl rfl rfl rfl ?_
  refine kM_getR 19 0 1 d_P_close_16 l_P_10 (kp_0).x rfl rfl rfl rfl ?_
  refine kJ_aload_n 20 0 d_P_close_19 rfl rfl rfl rfl ?_
  refine kM_getR 23 140 141 d_P_close_20 l_P_22 (kp_0).x rfl rfl rfl rfl ?_
  obtain ⟨v3, h2, ev3, hf⟩ := kBd_some hf
  refine kM_callv 26 m_C_closeItem [.ref 141] [.ref 145] d_P_close_23 cl_P_102 ⟨w_631, w_40⟩ (kp_1).x ⟨rfl, by decide⟩ ⟨_, _, rfl⟩ rfl rfl (Nat.le_of_ble_eq_true rfl) ⟨Nat.le_of_ble_eq_true rfl, Nat.le_of_ble_eq_true rfl⟩ ⟨rfl, rfl⟩ ⟨Nat.zero_le _, Nat.zero_le _⟩ (j_C_closeItem hro kp_1 kp_141 ev3) rfl ?_
  obtain ⟨v5, h4, ev5, hf⟩ := kBd_some hf
  refine kM_callv 29 m_Y_settle [.int v3] [] d_P_close_26 cl_P_63 ⟨w_336, w_5⟩ (kp_145).x ⟨rfl, by decide⟩ ⟨_, _, rfl⟩ rfl rfl (Nat.le_of_ble_eq_true rfl) ⟨Nat.le_of_ble_eq_true rfl, Nat.le_of_ble_eq_true rfl⟩ ⟨rfl, rfl⟩ ⟨Nat.zero_le _, Nat.zero_le _⟩ (j_Y_settle hro kp_145 ev5) rfl ?_
  cases hf
  exact kJ_iret d_P_close_29 rfl rfl (Nat.zero_le _) (Nat.zero_le _)
def b_C_breakTie_69 (h : kH) (x0 : Nat) (x2 : Int32) (x3 : Int32) (s0 : Nat) (s1 : Int32) : Option (Int32 × kH) := kLet (hset h s0 2 s1) fun h6 => kG x2 12 (kLet (hset h6 (x0 + 10 + 5 * kx x2) 4 x3) fun h8 => kG x2 12 (some ((h8 (x0 + 10 + 5 * kx x2) 2), h8)))
theorem c_C_breakTie_69 {E : kE} {L : Nat} {xs : Nat → Int32} (hro : kRo E L xs) {K : List Nat} {h : kH} {x0 : Nat} {x2 : Int32} {x3 : Int32} {s0 : Nat} {s1 : Int32} (k0 : kIs x0 0) (ks0 : kIs s0 3) {r : Int32} {h' : kH} (hf : b_C_breakTie_69 h x0 x2 x3 s0 s1 = some (r, h')) : kJ E m_C_breakTie (some r) (mk K h') 0 0 69 [(0, .ref x0), (2, .int x2), (3, .int x3)] [.int s1, .ref s0] (mk K h) := by
  unfold b_C_breakTie_69 at hf
  refine kM_put 72 d_C_breakTie_69 l_C_89 (ks0).x rfl rfl (kFit_int _) rfl ?_
  obtain ⟨h6, eh6, hf⟩ := kLet_e hf
  rw [← eh6]
  refine kJ_aload_n 73 0 d_C_breakTie_72 rfl rfl rfl rfl ?_
  refine kM_getR 76 4 (x0 + 5) d_C_breakTie_73 l_C_30 (k0).x rfl rfl rfl rfl ?_
  refine kJ_iload_n 77 1 d_C_breakTie_76 rfl rfl rfl ?_
  obtain ⟨hg7, hf⟩ := kG_some hf
  refine kM_aald 78 12 5 5 (x0 + 10 + 5 * kx x2) d_C_breakTie_77 ((kk_0_9 k0)).x rfl (by decide) (Or.inl rfl) hg7 (by simp only [Nat.add_assoc, kx]; try omega) rfl ?_
  refine kJ_iload_n 79 2 d_C_breakTie_78 rfl rfl rfl ?_
  refine kM_put 82 d_C_breakTie_79 l_C_95 ((kC_item k0 (kIn_lt hg7))).x rfl rfl (kFit_int _) rfl ?_
  obtain ⟨h8, eh8, hf⟩ := kLet_e hf
  rw [← eh8]
  refine kJ_aload_n 83 0 d_C_breakTie_82 rfl rfl rfl rfl ?_
  refine kM_getR 86 4 (x0 + 5) d_C_breakTie_83 l_C_30 (k0).x rfl rfl rfl rfl ?_
  refine kJ_iload_n 87 1 d_C_breakTie_86 rfl rfl rfl ?_
  obtain ⟨hg9, hf⟩ := kG_some hf
  refine kM_aald 88 12 5 5 (x0 + 10 + 5 * kx x2) d_C_breakTie_87 ((kk_0_9 k0)).x rfl (by decide) (Or.inl rfl) hg9 (by simp only [Nat.add_assoc, kx]; try omega) rfl ?_
  refine kM_getI 91 d_C_breakTie_88 l_C_89 ((kC_item k0 (kIn_lt hg9))).x rfl rfl rfl ?_
  cases hf
  exact kJ_iret d_C_breakTie_91 rfl rfl (Nat.zero_le _) (Nat.zero_le _)
def b_C_breakTie_13 (h : kH) (x0 : Nat) (x1 : Int32) : Option (Int32 × kH) := kBi (f_C_firstIn h x0 2) fun v1 => kBi (f_C_chairOfTheMoment h x0) fun v2 => if v1 = (-6) then (some ((-5), h)) else (if v2 = (-6) then (some ((-5), h)) else (kG v1 12 (kBi (f_C_isRecused h x0 v2 (x0 + 10 + 5 * kx v1)) fun v4 => if v4 = true then (some ((-5), h)) else (kG v1 12 (if x1 = 1 then (b_C_breakTie_69 h x0 v1 v2 (x0 + 10 + 5 * kx v1) 3) else (b_C_breakTie_69 h x0 v1 v2 (x0 + 10 + 5 * kx v1) 4))))))
theorem c_C_breakTie_13 {E : kE} {L : Nat} {xs : Nat → Int32} (hro : kRo E L xs) {K : List Nat} {h : kH} {x0 : Nat} {x1 : Int32} (k0 : kIs x0 0) {r : Int32} {h' : kH} (hf : b_C_breakTie_13 h x0 x1 = some (r, h')) : kJ E m_C_breakTie (some r) (mk K h') 0 0 13 [(0, .ref x0), (1, .int x1)] [] (mk K h) := by
  unfold b_C_breakTie_13 at hf
  refine kJ_aload_n 14 0 d_C_breakTie_13 rfl rfl rfl rfl ?_
  refine kJ_iconst 15 2 d_C_breakTie_14 ki_2 rfl ?_
  obtain ⟨v1, ev1, hf⟩ := kBi_some hf
  refine kM_callv 18 m_C_firstIn [.int 2] [] d_C_breakTie_15 cl_C_144 ⟨w_406, w_15⟩ (k0).x ⟨rfl, by decide⟩ ⟨_, _, rfl⟩ rfl rfl (Nat.le_of_ble_eq_true rfl) ⟨Nat.le_of_ble_eq_true rfl, Nat.le_of_ble_eq_true rfl⟩ ⟨rfl, rfl⟩ ⟨Nat.zero_le _, Nat.zero_le _⟩ (j_C_firstIn hro k0 ev1) rfl ?_
  refine kJ_istore_n 19 [(2, .int v1), (0, .ref x0), (1, .int x1)] d_C_breakTie_18 rfl (Nat.le_of_ble_eq_true rfl) rfl rfl ?_
  refine kJ_aload_n 20 1 d_C_breakTie_19 rfl rfl rfl rfl ?_
  obtain ⟨v2, ev2, hf⟩ := kBi_some hf
  refine kM_callv 23 m_C_chairOfTheMoment [] [] d_C_breakTie_20 cl_C_167 ⟨w_410, w_16⟩ (k0).x ⟨rfl, by decide⟩ ⟨_, _, rfl⟩ rfl rfl (Nat.le_of_ble_eq_true rfl) ⟨Nat.le_of_ble_eq_true rfl, Nat.le_of_ble_eq_true rfl⟩ ⟨rfl, rfl⟩ ⟨Nat.zero_le _, Nat.zero_le _⟩ (j_C_chairOfTheMoment hro k0 ev2) rfl ?_
  refine kJ_istore_n 24 [(3, .int v2), (2, .int v1), (0, .ref x0), (1, .int x1)] d_C_breakTie_23 rfl (Nat.le_of_ble_eq_true rfl) rfl rfl ?_
  refine kJ_iload_n 25 1 d_C_breakTie_24 rfl rfl rfl ?_
  refine kJ_bipush 27 (-6) d_C_breakTie_25 kb_m6 rfl ?_
  refine kJ_icmp_eq 30 50 d_C_breakTie_27 rfl rfl (fun hc => ?_) (fun hc => ?_)
  · have hf := kIf_t hf hc
    refine kJ_bipush 52 (-5) d_C_breakTie_50 kb_m5 rfl ?_
    cases hf
    exact kJ_iret d_C_breakTie_52 rfl rfl (Nat.zero_le _) (Nat.zero_le _)
  · have hf := kIf_f hf hc
    refine kJ_iload_n 31 0 d_C_breakTie_30 rfl rfl rfl ?_
    refine kJ_bipush 33 (-6) d_C_breakTie_31 kb_m6 rfl ?_
    refine kJ_icmp_eq 36 50 d_C_breakTie_33 rfl rfl (fun hc => ?_) (fun hc => ?_)
    · have hf := kIf_t hf hc
      refine kJ_bipush 52 (-5) d_C_breakTie_50 kb_m5 rfl ?_
      cases hf
      exact kJ_iret d_C_breakTie_52 rfl rfl (Nat.zero_le _) (Nat.zero_le _)
    · have hf := kIf_f hf hc
      refine kJ_aload_n 37 2 d_C_breakTie_36 rfl rfl rfl rfl ?_
      refine kJ_iload_n 38 0 d_C_breakTie_37 rfl rfl rfl ?_
      refine kJ_aload_n 39 2 d_C_breakTie_38 rfl rfl rfl rfl ?_
      refine kM_getR 42 4 (x0 + 5) d_C_breakTie_39 l_C_30 (k0).x rfl rfl rfl rfl ?_
      refine kJ_iload_n 43 1 d_C_breakTie_42 rfl rfl rfl ?_
      obtain ⟨hg3, hf⟩ := kG_some hf
      refine kM_aald 44 12 5 5 (x0 + 10 + 5 * kx v1) d_C_breakTie_43 ((kk_0_9 k0)).x rfl (by decide) (Or.inl rfl) hg3 (by simp only [Nat.add_assoc, kx]; try omega) rfl ?_
      obtain ⟨v4, ev4, hf⟩ := kBi_some hf
      refine kM_callv 47 m_C_isRecused [.int v2, .ref (x0 + 10 + 5 * kx v1)] [] d_C_breakTie_44 cl_C_80 ⟨w_442, w_20⟩ (k0).x ⟨rfl, by decide⟩ ⟨_, _, rfl⟩ rfl rfl (Nat.le_of_ble_eq_true rfl) ⟨Nat.le_of_ble_eq_true rfl, Nat.le_of_ble_eq_true rfl⟩ ⟨rfl, rfl⟩ ⟨Nat.zero_le _, Nat.zero_le _⟩ (j_C_isRecused hro k0 (kC_item k0 (kIn_lt hg3)) ev4) rfl ?_
      refine kJ_if_eq 50 53 d_C_breakTie_47 rfl rfl (fun hc => ?_) (fun hc => ?_)
      · have hf := kIf_f hf (kB2_0 hc)
        refine kJ_aload_n 54 2 d_C_breakTie_53 rfl rfl rfl rfl ?_
        refine kM_getR 57 4 (x0 + 5) d_C_breakTie_54 l_C_30 (k0).x rfl rfl rfl rfl ?_
        refine kJ_iload_n 58 1 d_C_breakTie_57 rfl rfl rfl ?_
        obtain ⟨hg5, hf⟩ := kG_some hf
        refine kM_aald 59 12 5 5 (x0 + 10 + 5 * kx v1) d_C_breakTie_58 ((kk_0_9 k0)).x rfl (by decide) (Or.inl rfl) hg5 (by simp only [Nat.add_assoc, kx]; try omega) rfl ?_
        refine kJ_iload_n 60 3 d_C_breakTie_59 rfl rfl rfl ?_
        refine kJ_iconst 61 1 d_C_breakTie_60 ki_1 rfl ?_
        refine kJ_icmp_ne 64 68 d_C_breakTie_61 rfl rfl (fun hc => ?_) (fun hc => ?_)
        · have hf := kIf_f hf hc
          refine kJ_iconst 69 4 d_C_breakTie_68 ki_4 rfl ?_
          refine kJ_sub [2, 1, 0] rfl ?_
          exact c_C_breakTie_69 hro k0 (kC_item k0 (kIn_lt hg5)) hf
        · have hf := kIf_t hf hc
          refine kJ_iconst 65 3 d_C_breakTie_64 ki_3 rfl ?_
          refine kJ_goto 69 d_C_breakTie_65 rfl ?_
          refine kJ_sub [2, 1, 0] rfl ?_
          exact c_C_breakTie_69 hro k0 (kC_item k0 (kIn_lt hg5)) hf
      · have hf := kIf_t hf (kB2_1 hc)
        refine kJ_bipush 52 (-5) d_C_breakTie_50 kb_m5 rfl ?_
        cases hf
        exact kJ_iret d_C_breakTie_52 rfl rfl (Nat.zero_le _) (Nat.zero_le _)
def f_C_breakTie (h : kH) (x0 : Nat) (x1 : Int32) : Option (Int32 × kH) := if x1 = 1 then (b_C_breakTie_13 h x0 x1) else (if x1 = 2 then (b_C_breakTie_13 h x0 x1) else (some ((-2), h)))
theorem j_C_breakTie {E : kE} {L : Nat} {xs : Nat → Int32} (hro : kRo E L xs) {K : List Nat} {h : kH} {x0 : Nat} {x1 : Int32} (k0 : kIs x0 0) {r : Int32} {h' : kH} (hf : f_C_breakTie h x0 x1 = some (r, h')) : JM E m_C_breakTie [.ref x0, .int x1] (mk K h) (some r) (mk K h') := by
  unfold f_C_breakTie at hf
  refine JM.of pn_C (Nat.le_of_ble_eq_true rfl) ?_
  show kJ E m_C_breakTie (some r) (mk K h') 0 0 0 [(0, .ref x0), (1, .int x1)] [] (mk K h)
  refine kJ_iload_n 1 1 d_C_breakTie_0 rfl rfl rfl ?_
  refine kJ_iconst 2 1 d_C_breakTie_1 ki_1 rfl ?_
  refine kJ_icmp_eq 5 13 d_C_breakTie_2 rfl rfl (fun hc => ?_) (fun hc => ?_)
  · have hf := kIf_t hf hc
    refine kJ_sub [0, 1] rfl ?_
    exact c_C_breakTie_13 hro k0 hf
  · have hf := kIf_f hf hc
    refine kJ_iload_n 6 1 d_C_breakTie_5 rfl rfl rfl ?_
    refine kJ_iconst 7 2 d_C_breakTie_6 ki_2 rfl ?_
    refine kJ_icmp_eq 10 13 d_C_breakTie_7 rfl rfl (fun hc => ?_) (fun hc => ?_)
    · have hf := kIf_t hf hc
      refine kJ_sub [0, 1] rfl ?_
      exact c_C_breakTie_13 hro k0 hf
    · have hf := kIf_f hf hc
      refine kJ_bipush 12 (-2) d_C_breakTie_10 kb_m2 rfl ?_
      cases hf
      exact kJ_iret d_C_breakTie_12 rfl rfl (Nat.zero_le _) (Nat.zero_le _)
def f_P_cast (h : kH) (x1 : Int32) : Option (Int32 × kH) := kBi (f_Y_note h 145 1) fun h1 => kBd (f_C_breakTie h1 1 x1) fun v3 h2 => kBd (f_Y_settle h2 145 v3) fun v5 h4 => some (v5, h4)
theorem j_P_cast {E : kE} {L : Nat} {xs : Nat → Int32} (hro : kRo E L xs) {K : List Nat} {h : kH} {x1 : Int32} {r : Int32} {h' : kH} (hf : f_P_cast h x1 = some (r, h')) : JM E m_P_cast [.ref 0, .int x1] (mk K h) (some r) (mk K h') := by
  unfold f_P_cast at hf
  refine JM.of pn_P (Nat.le_of_ble_eq_true rfl) ?_
  show kJ E m_P_cast (some r) (mk K h') 0 0 0 [(0, .ref 0), (1, .int x1)] [] (mk K h)
  refine kJ_aload_n 1 0 d_P_cast_0 rfl rfl rfl rfl ?_
  refine kM_getR 4 144 145 d_P_cast_1 l_P_29 (kp_0).x rfl rfl rfl rfl ?_
  refine kJ_aload_n 5 0 d_P_cast_4 rfl rfl rfl rfl ?_
  refine kM_getR 8 0 1 d_P_cast_5 l_P_10 (kp_0).x rfl rfl rfl rfl ?_
  obtain ⟨h1, eh1, hf⟩ := kBi_some hf
  refine kM_callv 11 m_Y_note [.ref 1] [] d_P_cast_8 cl_P_55 ⟨w_312, w_0⟩ (kp_145).x ⟨rfl, by decide⟩ ⟨_, _, rfl⟩ rfl rfl (Nat.le_of_ble_eq_true rfl) ⟨Nat.le_of_ble_eq_true rfl, Nat.le_of_ble_eq_true rfl⟩ ⟨rfl, rfl⟩ ⟨Nat.zero_le _, Nat.zero_le _⟩ (j_Y_note hro kp_145 kp_1 eh1) rfl ?_
  refine kJ_aload_n 12 0 d_P_cast_11 rfl rfl rfl rfl ?_
  refine kM_getR 15 144 145 d_P_cast_12 l_P_29 (kp_0).x rfl rfl rfl rfl ?_
  refine kJ_aload_n 16 0 d_P_cast_15 rfl rfl rfl rfl ?_
  refine kM_getR 19 0 1 d_P_cast_16 l_P_10 (kp_0).x rfl rfl rfl rfl ?_
  refine kJ_iload_n 20 1 d_P_cast_19 rfl rfl rfl ?_
  obtain ⟨v3, h2, ev3, hf⟩ := kBd_some hf
  refine kM_callv 23 m_C_breakTie [.int x1] [.ref 145] d_P_cast_20 cl_P_106 ⟨w_648, w_42⟩ (kp_1).x ⟨rfl, by decide⟩ ⟨_, _, rfl⟩ rfl rfl (Nat.le_of_ble_eq_true rfl) ⟨Nat.le_of_ble_eq_true rfl, Nat.le_of_ble_eq_true rfl⟩ ⟨rfl, rfl⟩ ⟨Nat.zero_le _, Nat.zero_le _⟩ (j_C_breakTie hro kp_1 ev3) rfl ?_
  obtain ⟨v5, h4, ev5, hf⟩ := kBd_some hf
  refine kM_callv 26 m_Y_settle [.int v3] [] d_P_cast_23 cl_P_63 ⟨w_336, w_5⟩ (kp_145).x ⟨rfl, by decide⟩ ⟨_, _, rfl⟩ rfl rfl (Nat.le_of_ble_eq_true rfl) ⟨Nat.le_of_ble_eq_true rfl, Nat.le_of_ble_eq_true rfl⟩ ⟨rfl, rfl⟩ ⟨Nat.zero_le _, Nat.zero_le _⟩ (j_Y_settle hro kp_145 ev5) rfl ?_
  cases hf
  exact kJ_iret d_P_cast_26 rfl rfl (Nat.zero_le _) (Nat.zero_le _)
def f_V_append (h : kH) (x0 : Nat) (x1 : Int32) (x2 : Int32) (x3 : Int32) : Option (kH) := kG (h x0 0) 20 (kLet (hset h (x0 + 1) (kx (h x0 0)) x1) fun h1 => kG (h1 x0 0) 20 (kLet (hset h1 (x0 + 2) (kx (h1 x0 0)) x2) fun h2 => kG (h2 x0 0) 20 (kLet (hset h2 (x0 + 3) (kx (h2 x0 0)) x3) fun h3 => kLet (hset h3 x0 0 ((h3 x0 0) + 1)) fun h4 => some h4)))
theorem j_V_append {E : kE} {L : Nat} {xs : Nat → Int32} (hro : kRo E L xs) {K : List Nat} {h : kH} {x0 : Nat} {x1 : Int32} {x2 : Int32} {x3 : Int32} (k0 : kIs x0 4) {h' : kH} (hf : f_V_append h x0 x1 x2 x3 = some h') : JM E m_V_append [.ref x0, .int x1, .int x2, .int x3] (mk K h) none (mk K h') := by
  unfold f_V_append at hf
  refine JM.of pn_V (Nat.le_of_ble_eq_true rfl) ?_
  show kJ E m_V_append none (mk K h') 0 0 0 [(0, .ref x0), (1, .int x1), (2, .int x2), (3, .int x3)] [] (mk K h)
  refine kJ_aload_n 1 0 d_V_append_0 rfl rfl rfl rfl ?_
  refine kM_getR 4 0 (x0 + 1) d_V_append_1 l_V_9 (k0).x rfl rfl rfl rfl ?_
  refine kJ_aload_n 5 0 d_V_append_4 rfl rfl rfl rfl ?_
  refine kM_getI 8 d_V_append_5 l_V_21 (k0).x rfl rfl rfl ?_
  refine kJ_iload_n 9 1 d_V_append_8 rfl rfl rfl ?_
  obtain ⟨hg, hf⟩ := kG_some hf
  refine kM_iast 10 20 d_V_append_9 ((kk_4_1 k0)).x rfl hg rfl ?_
  obtain ⟨h1, eh1, hf⟩ := kLet_e hf
  rw [← eh1]
  refine kJ_aload_n 11 0 d_V_append_10 rfl rfl rfl rfl ?_
  refine kM_getR 14 1 (x0 + 2) d_V_append_11 l_V_15 (k0).x rfl rfl rfl rfl ?_
  refine kJ_aload_n 15 0 d_V_append_14 rfl rfl rfl rfl ?_
  refine kM_getI 18 d_V_append_15 l_V_21 (k0).x rfl rfl rfl ?_
  refine kJ_iload_n 19 2 d_V_append_18 rfl rfl rfl ?_
  obtain ⟨hg, hf⟩ := kG_some hf
  refine kM_iast 20 20 d_V_append_19 ((kk_4_2 k0)).x rfl hg rfl ?_
  obtain ⟨h2, eh2, hf⟩ := kLet_e hf
  rw [← eh2]
  refine kJ_aload_n 21 0 d_V_append_20 rfl rfl rfl rfl ?_
  refine kM_getR 24 2 (x0 + 3) d_V_append_21 l_V_18 (k0).x rfl rfl rfl rfl ?_
  refine kJ_aload_n 25 0 d_V_append_24 rfl rfl rfl rfl ?_
  refine kM_getI 28 d_V_append_25 l_V_21 (k0).x rfl rfl rfl ?_
  refine kJ_iload_n 29 3 d_V_append_28 rfl rfl rfl ?_
  obtain ⟨hg, hf⟩ := kG_some hf
  refine kM_iast 30 20 d_V_append_29 ((kk_4_3 k0)).x rfl hg rfl ?_
  obtain ⟨h3, eh3, hf⟩ := kLet_e hf
  rw [← eh3]
  refine kJ_aload_n 31 0 d_V_append_30 rfl rfl rfl rfl ?_
  refine kJ_dup 32 d_V_append_31 rfl rfl ?_
  refine kM_getI 35 d_V_append_32 l_V_21 (k0).x rfl rfl rfl ?_
  refine kJ_iconst 36 1 d_V_append_35 ki_1 rfl ?_
  refine kJ_iadd 37 d_V_append_36 rfl ?_
  refine kM_put 40 d_V_append_37 l_V_21 (k0).x rfl rfl (kFit_int _) rfl ?_
  obtain ⟨h4, eh4, hf⟩ := kLet_e hf
  rw [← eh4]
  cases hf
  exact kJ_ret d_V_append_40 rfl (Nat.zero_le _) (Nat.zero_le _)
def f_C_addMovement (h : kH) (x0 : Nat) (x1 : Int32) (x2 : Int32) (x3 : Int32) : Option (Int32 × kH) := if (f_C_hasMember h x0 x2) = true then (if x1 ≤ (h x0 0) then (some ((-2), h)) else (if ((h x0 0) + 600) < x1 then (some ((-2), h)) else (if x3 < 0 then (some ((-2), h)) else (if x3 ≤ 1 then (if (h (x0 + 6) 0) < 20 then (kBi (f_V_append h (x0 + 6) x1 x2 x3) fun h1 => some ((h1 (x0 + 6) 0), h1)) else (some ((-4), h))) else (some ((-2), h)))))) else (some ((-1), h))
theorem j_C_addMovement {E : kE} {L : Nat} {xs : Nat → Int32} (hro : kRo E L xs) {K : List Nat} {h : kH} {x0 : Nat} {x1 : Int32} {x2 : Int32} {x3 : Int32} (k0 : kIs x0 0) {r : Int32} {h' : kH} (hf : f_C_addMovement h x0 x1 x2 x3 = some (r, h')) : JM E m_C_addMovement [.ref x0, .int x1, .int x2, .int x3] (mk K h) (some r) (mk K h') := by
  unfold f_C_addMovement at hf
  refine JM.of pn_C (Nat.le_of_ble_eq_true rfl) ?_
  show kJ E m_C_addMovement (some r) (mk K h') 0 0 0 [(0, .ref x0), (1, .int x1), (2, .int x2), (3, .int x3)] [] (mk K h)
  refine kJ_aload_n 1 0 d_C_addMovement_0 rfl rfl rfl rfl ?_
  refine kJ_iload_n 2 2 d_C_addMovement_1 rfl rfl rfl ?_
  refine kM_callv 5 m_C_hasMember [.int x2] [] d_C_addMovement_2 cl_C_105 ⟨w_377, w_10⟩ (k0).x ⟨rfl, by decide⟩ ⟨_, _, rfl⟩ rfl rfl (Nat.le_of_ble_eq_true rfl) ⟨Nat.le_of_ble_eq_true rfl, Nat.le_of_ble_eq_true rfl⟩ ⟨rfl, rfl⟩ ⟨Nat.zero_le _, Nat.zero_le _⟩ (j_C_hasMember hro k0 rfl) rfl ?_
  refine kJ_if_ne 8 10 d_C_addMovement_5 rfl rfl (fun hc => ?_) (fun hc => ?_)
  · have hf := kIf_t hf (kB2_1 hc)
    refine kJ_iload_n 11 1 d_C_addMovement_10 rfl rfl rfl ?_
    refine kJ_aload_n 12 0 d_C_addMovement_11 rfl rfl rfl rfl ?_
    refine kM_getI 15 d_C_addMovement_12 l_C_51 (k0).x rfl rfl rfl ?_
    refine kJ_icmp_le 18 39 d_C_addMovement_15 rfl rfl (fun hc => ?_) (fun hc => ?_)
    · have hf := kIf_t hf hc
      refine kJ_bipush 41 (-2) d_C_addMovement_39 kb_m2 rfl ?_
      cases hf
      exact kJ_iret d_C_addMovement_41 rfl rfl (Nat.zero_le _) (Nat.zero_le _)
    · have hf := kIf_f hf hc
      refine kJ_iload_n 19 1 d_C_addMovement_18 rfl rfl rfl ?_
      refine kJ_aload_n 20 0 d_C_addMovement_19 rfl rfl rfl rfl ?_
      refine kM_getI 23 d_C_addMovement_20 l_C_51 (k0).x rfl rfl rfl ?_
      refine kJ_sipush 26 600 d_C_addMovement_23 ks_600 rfl ?_
      refine kJ_iadd 27 d_C_addMovement_26 rfl ?_
      refine kJ_icmp_gt 30 39 d_C_addMovement_27 rfl rfl (fun hc => ?_) (fun hc => ?_)
      · have hf := kIf_t hf hc
        refine kJ_bipush 41 (-2) d_C_addMovement_39 kb_m2 rfl ?_
        cases hf
        exact kJ_iret d_C_addMovement_41 rfl rfl (Nat.zero_le _) (Nat.zero_le _)
      · have hf := kIf_f hf hc
        refine kJ_iload_n 31 3 d_C_addMovement_30 rfl rfl rfl ?_
        refine kJ_if_lt 34 39 d_C_addMovement_31 rfl rfl (fun hc => ?_) (fun hc => ?_)
        · have hf := kIf_t hf hc
          refine kJ_bipush 41 (-2) d_C_addMovement_39 kb_m2 rfl ?_
          cases hf
          exact kJ_iret d_C_addMovement_41 rfl rfl (Nat.zero_le _) (Nat.zero_le _)
        · have hf := kIf_f hf hc
          refine kJ_iload_n 35 3 d_C_addMovement_34 rfl rfl rfl ?_
          refine kJ_iconst 36 1 d_C_addMovement_35 ki_1 rfl ?_
          refine kJ_icmp_le 39 42 d_C_addMovement_36 rfl rfl (fun hc => ?_) (fun hc => ?_)
          · have hf := kIf_t hf hc
            refine kJ_aload_n 43 0 d_C_addMovement_42 rfl rfl rfl rfl ?_
            refine kM_getR 46 5 (x0 + 6) d_C_addMovement_43 l_C_37 (k0).x rfl rfl rfl rfl ?_
            refine kM_getI 49 d_C_addMovement_46 l_C_114 ((kk_0_10 k0)).x rfl rfl rfl ?_
            refine kJ_bipush 51 20 d_C_addMovement_49 kb_20 rfl ?_
            refine kJ_icmp_lt 54 57 d_C_addMovement_51 rfl rfl (fun hc => ?_) (fun hc => ?_)
            · have hf := kIf_t hf hc
              refine kJ_aload_n 58 0 d_C_addMovement_57 rfl rfl rfl rfl ?_
              refine kM_getR 61 5 (x0 + 6) d_C_addMovement_58 l_C_37 (k0).x rfl rfl rfl rfl ?_
              refine kJ_iload_n 62 1 d_C_addMovement_61 rfl rfl rfl ?_
              refine kJ_iload_n 63 2 d_C_addMovement_62 rfl rfl rfl ?_
              refine kJ_iload_n 64 3 d_C_addMovement_63 rfl rfl rfl ?_
              obtain ⟨h1, eh1, hf⟩ := kBi_some hf
              refine kM_callv 67 m_V_append [.int x1, .int x2, .int x3] [] d_C_addMovement_64 cl_C_117 ⟨w_661, w_44⟩ ((kk_0_10 k0)).x ⟨rfl, by decide⟩ ⟨_, _, rfl⟩ rfl rfl (Nat.le_of_ble_eq_true rfl) ⟨Nat.le_of_ble_eq_true rfl, Nat.le_of_ble_eq_true rfl⟩ ⟨rfl, rfl⟩ ⟨Nat.zero_le _, Nat.zero_le _⟩ (j_V_append hro (kk_0_10 k0) eh1) rfl ?_
              refine kJ_aload_n 68 0 d_C_addMovement_67 rfl rfl rfl rfl ?_
              refine kM_getR 71 5 (x0 + 6) d_C_addMovement_68 l_C_37 (k0).x rfl rfl rfl rfl ?_
              refine kM_getI 74 d_C_addMovement_71 l_C_114 ((kk_0_10 k0)).x rfl rfl rfl ?_
              cases hf
              exact kJ_iret d_C_addMovement_74 rfl rfl (Nat.zero_le _) (Nat.zero_le _)
            · have hf := kIf_f hf hc
              refine kJ_bipush 56 (-4) d_C_addMovement_54 kb_m4 rfl ?_
              cases hf
              exact kJ_iret d_C_addMovement_56 rfl rfl (Nat.zero_le _) (Nat.zero_le _)
          · have hf := kIf_f hf hc
            refine kJ_bipush 41 (-2) d_C_addMovement_39 kb_m2 rfl ?_
            cases hf
            exact kJ_iret d_C_addMovement_41 rfl rfl (Nat.zero_le _) (Nat.zero_le _)
  · have hf := kIf_f hf (kB2_0 hc)
    refine kJ_iconst 9 (-1) d_C_addMovement_8 ki_m1 rfl ?_
    cases hf
    exact kJ_iret d_C_addMovement_9 rfl rfl (Nat.zero_le _) (Nat.zero_le _)
def f_P_later (h : kH) (x1 : Int32) (x2 : Int32) (x3 : Int32) : Option (Int32 × kH) := kBi (f_Y_note h 145 1) fun h1 => kBd (f_C_addMovement h1 1 x1 x2 x3) fun v3 h2 => kBd (f_Y_settle h2 145 v3) fun v5 h4 => some (v5, h4)
theorem j_P_later {E : kE} {L : Nat} {xs : Nat → Int32} (hro : kRo E L xs) {K : List Nat} {h : kH} {x1 : Int32} {x2 : Int32} {x3 : Int32} {r : Int32} {h' : kH} (hf : f_P_later h x1 x2 x3 = some (r, h')) : JM E m_P_later [.ref 0, .int x1, .int x2, .int x3] (mk K h) (some r) (mk K h') := by
  unfold f_P_later at hf
  refine JM.of pn_P (Nat.le_of_ble_eq_true rfl) ?_
  show kJ E m_P_later (some r) (mk K h') 0 0 0 [(0, .ref 0), (1, .int x1), (2, .int x2), (3, .int x3)] [] (mk K h)
  refine kJ_aload_n 1 0 d_P_later_0 rfl rfl rfl rfl ?_
  refine kM_getR 4 144 145 d_P_later_1 l_P_29 (kp_0).x rfl rfl rfl rfl ?_
  refine kJ_aload_n 5 0 d_P_later_4 rfl rfl rfl rfl ?_
  refine kM_getR 8 0 1 d_P_later_5 l_P_10 (kp_0).x rfl rfl rfl rfl ?_
  obtain ⟨h1, eh1, hf⟩ := kBi_some hf
  refine kM_callv 11 m_Y_note [.ref 1] [] d_P_later_8 cl_P_55 ⟨w_312, w_0⟩ (kp_145).x ⟨rfl, by decide⟩ ⟨_, _, rfl⟩ rfl rfl (Nat.le_of_ble_eq_true rfl) ⟨Nat.le_of_ble_eq_true rfl, Nat.le_of_ble_eq_true rfl⟩ ⟨rfl, rfl⟩ ⟨Nat.zero_le _, Nat.zero_le _⟩ (j_Y_note hro kp_145 kp_1 eh1) rfl ?_
  refine kJ_aload_n 12 0 d_P_later_11 rfl rfl rfl rfl ?_
  refine kM_getR 15 144 145 d_P_later_12 l_P_29 (kp_0).x rfl rfl rfl rfl ?_
  refine kJ_aload_n 16 0 d_P_later_15 rfl rfl rfl rfl ?_
  refine kM_getR 19 0 1 d_P_later_16 l_P_10 (kp_0).x rfl rfl rfl rfl ?_
  refine kJ_iload_n 20 1 d_P_later_19 rfl rfl rfl ?_
  refine kJ_iload_n 21 2 d_P_later_20 rfl rfl rfl ?_
  refine kJ_iload_n 22 3 d_P_later_21 rfl rfl rfl ?_
  obtain ⟨v3, h2, ev3, hf⟩ := kBd_some hf
  refine kM_callv 25 m_C_addMovement [.int x1, .int x2, .int x3] [.ref 145] d_P_later_22 cl_P_82 ⟨w_657, w_43⟩ (kp_1).x ⟨rfl, by decide⟩ ⟨_, _, rfl⟩ rfl rfl (Nat.le_of_ble_eq_true rfl) ⟨Nat.le_of_ble_eq_true rfl, Nat.le_of_ble_eq_true rfl⟩ ⟨rfl, rfl⟩ ⟨Nat.zero_le _, Nat.zero_le _⟩ (j_C_addMovement hro kp_1 ev3) rfl ?_
  obtain ⟨v5, h4, ev5, hf⟩ := kBd_some hf
  refine kM_callv 28 m_Y_settle [.int v3] [] d_P_later_25 cl_P_63 ⟨w_336, w_5⟩ (kp_145).x ⟨rfl, by decide⟩ ⟨_, _, rfl⟩ rfl rfl (Nat.le_of_ble_eq_true rfl) ⟨Nat.le_of_ble_eq_true rfl, Nat.le_of_ble_eq_true rfl⟩ ⟨rfl, rfl⟩ ⟨Nat.zero_le _, Nat.zero_le _⟩ (j_Y_settle hro kp_145 ev5) rfl ?_
  cases hf
  exact kJ_iret d_P_later_28 rfl rfl (Nat.zero_le _) (Nat.zero_le _)
def b_V_next_5 (h : kH) (x0 : Nat) : Nat → Int32 → Int32 → Option Int32
  | 0, _, _ => none
  | n + 1, x1, x2 => (fun rec5 => if (h x0 0) ≤ x2 then (some x1) else (if x1 = (-6) then (rec5 x2 (x2 + 1)) else (kG x2 20 (kG x1 20 (if (h (x0 + 1) (kx x1)) ≤ (h (x0 + 1) (kx x2)) then (rec5 x1 (x2 + 1)) else (rec5 x2 (x2 + 1))))))) (fun x1' x2' => b_V_next_5 h x0 n x1' x2')
theorem c_V_next_5 {E : kE} {L : Nat} {xs : Nat → Int32} (hro : kRo E L xs) {K : List Nat} {h : kH} {x0 : Nat} (k0 : kIs x0 4) {r : Int32} : ∀ (n : Nat) (x1 : Int32) (x2 : Int32), b_V_next_5 h x0 n x1 x2 = some r → kJ E m_V_next (some r) (mk K h) 0 0 5 [(0, .ref x0), (1, .int x1), (2, .int x2)] [] (mk K h) := by
  intro n
  induction n with
  | zero =>
    intro x1 x2 hf
    have hf : (none : Option Int32) = some r := hf
    cases hf
  | succ n hrec5 =>
    intro x1 x2 hf
    rw [b_V_next_5] at hf
    dsimp only at hf
    refine kJ_iload_n 6 2 d_V_next_5 rfl rfl rfl ?_
    refine kJ_aload_n 7 0 d_V_next_6 rfl rfl rfl rfl ?_
    refine kM_getI 10 d_V_next_7 l_V_21 (k0).x rfl rfl rfl ?_
    refine kJ_icmp_ge 13 42 d_V_next_10 rfl rfl (fun hc => ?_) (fun hc => ?_)
    · have hf := kIf_t hf hc
      refine kJ_iload_n 43 1 d_V_next_42 rfl rfl rfl ?_
      cases hf
      exact kJ_iret d_V_next_43 rfl rfl (Nat.zero_le _) (Nat.zero_le _)
    · have hf := kIf_f hf hc
      refine kJ_iload_n 14 1 d_V_next_13 rfl rfl rfl ?_
      refine kJ_bipush 16 (-6) d_V_next_14 kb_m6 rfl ?_
      refine kJ_icmp_eq 19 34 d_V_next_16 rfl rfl (fun hc => ?_) (fun hc => ?_)
      · have hf := kIf_t hf hc
        refine kJ_iload_n 35 2 d_V_next_34 rfl rfl rfl ?_
        refine kJ_istore_n 36 [(1, .int x2), (0, .ref x0), (2, .int x2)] d_V_next_35 rfl (Nat.le_of_ble_eq_true rfl) rfl rfl ?_
        refine kJ_iinc 39 2 [(2, .int (x2 + 1)), (1, .int x2), (0, .ref x0)] d_V_next_36 rfl ki_1 (Nat.le_of_ble_eq_true rfl) rfl rfl ?_
        refine kJ_goto 5 d_V_next_39 rfl ?_
        refine kJ_sub [2, 1, 0] rfl ?_
        exact hrec5 x2 (x2 + 1) hf
      · have hf := kIf_f hf hc
        refine kJ_aload_n 20 0 d_V_next_19 rfl rfl rfl rfl ?_
        refine kM_getR 23 0 (x0 + 1) d_V_next_20 l_V_9 (k0).x rfl rfl rfl rfl ?_
        refine kJ_iload_n 24 2 d_V_next_23 rfl rfl rfl ?_
        obtain ⟨hg, hf⟩ := kG_some hf
        refine kM_iald 25 20 d_V_next_24 ((kk_4_1 k0)).x rfl hg rfl ?_
        refine kJ_aload_n 26 0 d_V_next_25 rfl rfl rfl rfl ?_
        refine kM_getR 29 0 (x0 + 1) d_V_next_26 l_V_9 (k0).x rfl rfl rfl rfl ?_
        refine kJ_iload_n 30 1 d_V_next_29 rfl rfl rfl ?_
        obtain ⟨hg, hf⟩ := kG_some hf
        refine kM_iald 31 20 d_V_next_30 ((kk_4_1 k0)).x rfl hg rfl ?_
        refine kJ_icmp_ge 34 36 d_V_next_31 rfl rfl (fun hc => ?_) (fun hc => ?_)
        · have hf := kIf_t hf hc
          refine kJ_iinc 39 2 [(2, .int (x2 + 1)), (0, .ref x0), (1, .int x1)] d_V_next_36 rfl ki_1 (Nat.le_of_ble_eq_true rfl) rfl rfl ?_
          refine kJ_goto 5 d_V_next_39 rfl ?_
          refine kJ_sub [1, 2, 0] rfl ?_
          exact hrec5 x1 (x2 + 1) hf
        · have hf := kIf_f hf hc
          refine kJ_iload_n 35 2 d_V_next_34 rfl rfl rfl ?_
          refine kJ_istore_n 36 [(1, .int x2), (0, .ref x0), (2, .int x2)] d_V_next_35 rfl (Nat.le_of_ble_eq_true rfl) rfl rfl ?_
          refine kJ_iinc 39 2 [(2, .int (x2 + 1)), (1, .int x2), (0, .ref x0)] d_V_next_36 rfl ki_1 (Nat.le_of_ble_eq_true rfl) rfl rfl ?_
          refine kJ_goto 5 d_V_next_39 rfl ?_
          refine kJ_sub [2, 1, 0] rfl ?_
          exact hrec5 x2 (x2 + 1) hf
def f_V_next (h : kH) (x0 : Nat) : Option Int32 := b_V_next_5 h x0 kFuel (-6) 0
theorem j_V_next {E : kE} {L : Nat} {xs : Nat → Int32} (hro : kRo E L xs) {K : List Nat} {h : kH} {x0 : Nat} (k0 : kIs x0 4) {r : Int32} (hf : f_V_next h x0 = some r) : JM E m_V_next [.ref x0] (mk K h) (some r) (mk K h) := by
  unfold f_V_next at hf
  refine JM.of pn_V (Nat.le_of_ble_eq_true rfl) ?_
  show kJ E m_V_next (some r) (mk K h) 0 0 0 [(0, .ref x0)] [] (mk K h)
  refine kJ_bipush 2 (-6) d_V_next_0 kb_m6 rfl ?_
  refine kJ_istore_n 3 [(1, .int (-6)), (0, .ref x0)] d_V_next_2 rfl (Nat.le_of_ble_eq_true rfl) rfl rfl ?_
  refine kJ_iconst 4 0 d_V_next_3 ki_0 rfl ?_
  refine kJ_istore_n 5 [(2, .int 0), (1, .int (-6)), (0, .ref x0)] d_V_next_4 rfl (Nat.le_of_ble_eq_true rfl) rfl rfl ?_
  refine kJ_sub [2, 1, 0] rfl ?_
  exact c_V_next_5 hro k0 kFuel (-6) 0 hf
def f_V_drop (h : kH) (x0 : Nat) (x1 : Int32) : Option (kH) := kCg (x1 + 1) x1 (((h x0 0) - x1) - 1) 20 20 (kLet (hcpy h (x0 + 1) (x0 + 1) (kx (x1 + 1)) (kx x1) (kx (((h x0 0) - x1) - 1))) fun h1 => kCg (x1 + 1) x1 (((h x0 0) - x1) - 1) 20 20 (kLet (hcpy h1 (x0 + 2) (x0 + 2) (kx (x1 + 1)) (kx x1) (kx (((h x0 0) - x1) - 1))) fun h2 => kCg (x1 + 1) x1 (((h x0 0) - x1) - 1) 20 20 (kLet (hcpy h2 (x0 + 3) (x0 + 3) (kx (x1 + 1)) (kx x1) (kx (((h x0 0) - x1) - 1))) fun h3 => kLet (hset h3 x0 0 ((h3 x0 0) - 1)) fun h4 => some h4)))
theorem j_V_drop {E : kE} {L : Nat} {xs : Nat → Int32} (hro : kRo E L xs) {K : List Nat} {h : kH} {x0 : Nat} {x1 : Int32} (k0 : kIs x0 4) {h' : kH} (hf : f_V_drop h x0 x1 = some h') : JM E m_V_drop [.ref x0, .int x1] (mk K h) none (mk K h') := by
  unfold f_V_drop at hf
  refine JM.of pn_V (Nat.le_of_ble_eq_true rfl) ?_
  show kJ E m_V_drop none (mk K h') 0 0 0 [(0, .ref x0), (1, .int x1)] [] (mk K h)
  refine kJ_aload_n 1 0 d_V_drop_0 rfl rfl rfl rfl ?_
  refine kM_getI 4 d_V_drop_1 l_V_21 (k0).x rfl rfl rfl ?_
  refine kJ_iload_n 5 1 d_V_drop_4 rfl rfl rfl ?_
  refine kJ_isub 6 d_V_drop_5 rfl ?_
  refine kJ_iconst 7 1 d_V_drop_6 ki_1 rfl ?_
  refine kJ_isub 8 d_V_drop_7 rfl ?_
  refine kJ_istore_n 9 [(2, .int (((h x0 0) - x1) - 1)), (0, .ref x0), (1, .int x1)] d_V_drop_8 rfl (Nat.le_of_ble_eq_true rfl) rfl rfl ?_
  refine kJ_aload_n 10 1 d_V_drop_9 rfl rfl rfl rfl ?_
  refine kM_getR 13 0 (x0 + 1) d_V_drop_10 l_V_9 (k0).x rfl rfl rfl rfl ?_
  refine kJ_iload_n 14 2 d_V_drop_13 rfl rfl rfl ?_
  refine kJ_iconst 15 1 d_V_drop_14 ki_1 rfl ?_
  refine kJ_iadd 16 d_V_drop_15 rfl ?_
  refine kJ_aload_n 17 1 d_V_drop_16 rfl rfl rfl rfl ?_
  refine kM_getR 20 0 (x0 + 1) d_V_drop_17 l_V_9 (k0).x rfl rfl rfl rfl ?_
  refine kJ_iload_n 21 2 d_V_drop_20 rfl rfl rfl ?_
  refine kJ_iload_n 22 0 d_V_drop_21 rfl rfl rfl ?_
  obtain ⟨⟨g1, g2, g3, g4, g5⟩, hf⟩ := kCg_some hf
  refine kM_copy 25 20 20 d_V_drop_22 cp_V_25 ((kk_4_1 k0)).x rfl ((kk_4_1 k0)).x rfl g1 g2 g3 g4 g5 ⟨Nat.le_of_ble_eq_true rfl, Nat.le_of_ble_eq_true rfl⟩ rfl ?_
  obtain ⟨h1, eh1, hf⟩ := kLet_e hf
  rw [← eh1]
  refine kJ_aload_n 26 1 d_V_drop_25 rfl rfl rfl rfl ?_
  refine kM_getR 29 1 (x0 + 2) d_V_drop_26 l_V_15 (k0).x rfl rfl rfl rfl ?_
  refine kJ_iload_n 30 2 d_V_drop_29 rfl rfl rfl ?_
  refine kJ_iconst 31 1 d_V_drop_30 ki_1 rfl ?_
  refine kJ_iadd 32 d_V_drop_31 rfl ?_
  refine kJ_aload_n 33 1 d_V_drop_32 rfl rfl rfl rfl ?_
  refine kM_getR 36 1 (x0 + 2) d_V_drop_33 l_V_15 (k0).x rfl rfl rfl rfl ?_
  refine kJ_iload_n 37 2 d_V_drop_36 rfl rfl rfl ?_
  refine kJ_iload_n 38 0 d_V_drop_37 rfl rfl rfl ?_
  obtain ⟨⟨g1, g2, g3, g4, g5⟩, hf⟩ := kCg_some hf
  refine kM_copy 41 20 20 d_V_drop_38 cp_V_25 ((kk_4_2 k0)).x rfl ((kk_4_2 k0)).x rfl g1 g2 g3 g4 g5 ⟨Nat.le_of_ble_eq_true rfl, Nat.le_of_ble_eq_true rfl⟩ rfl ?_
  obtain ⟨h2, eh2, hf⟩ := kLet_e hf
  rw [← eh2]
  refine kJ_aload_n 42 1 d_V_drop_41 rfl rfl rfl rfl ?_
  refine kM_getR 45 2 (x0 + 3) d_V_drop_42 l_V_18 (k0).x rfl rfl rfl rfl ?_
  refine kJ_iload_n 46 2 d_V_drop_45 rfl rfl rfl ?_
  refine kJ_iconst 47 1 d_V_drop_46 ki_1 rfl ?_
  refine kJ_iadd 48 d_V_drop_47 rfl ?_
  refine kJ_aload_n 49 1 d_V_drop_48 rfl rfl rfl rfl ?_
  refine kM_getR 52 2 (x0 + 3) d_V_drop_49 l_V_18 (k0).x rfl rfl rfl rfl ?_
  refine kJ_iload_n 53 2 d_V_drop_52 rfl rfl rfl ?_
  refine kJ_iload_n 54 0 d_V_drop_53 rfl rfl rfl ?_
  obtain ⟨⟨g1, g2, g3, g4, g5⟩, hf⟩ := kCg_some hf
  refine kM_copy 57 20 20 d_V_drop_54 cp_V_25 ((kk_4_3 k0)).x rfl ((kk_4_3 k0)).x rfl g1 g2 g3 g4 g5 ⟨Nat.le_of_ble_eq_true rfl, Nat.le_of_ble_eq_true rfl⟩ rfl ?_
  obtain ⟨h3, eh3, hf⟩ := kLet_e hf
  rw [← eh3]
  refine kJ_aload_n 58 1 d_V_drop_57 rfl rfl rfl rfl ?_
  refine kJ_dup 59 d_V_drop_58 rfl rfl ?_
  refine kM_getI 62 d_V_drop_59 l_V_21 (k0).x rfl rfl rfl ?_
  refine kJ_iconst 63 1 d_V_drop_62 ki_1 rfl ?_
  refine kJ_isub 64 d_V_drop_63 rfl ?_
  refine kM_put 67 d_V_drop_64 l_V_21 (k0).x rfl rfl (kFit_int _) rfl ?_
  obtain ⟨h4, eh4, hf⟩ := kLet_e hf
  rw [← eh4]
  cases hf
  exact kJ_ret d_V_drop_67 rfl (Nat.zero_le _) (Nat.zero_le _)
def b_C_moveTo_88 (rec8 : kH → Int32 → Option (kH)) (h : kH) (x0 : Nat) (x1 : Int32) (x2 : Int32) (x3 : Int32) (s0 : Nat) (s1 : Int32) : Option (kH) := kLet (hset h s0 3 s1) fun h5 => kBi (f_V_drop h5 (x0 + 6) x3) fun h6 => rec8 h6 (x2 + (-1))
theorem c_C_moveTo_88 {E : kE} {L : Nat} {xs : Nat → Int32} (hro : kRo E L xs) {K : List Nat} {rec8 : kH → Int32 → Option (kH)} {h : kH} {x0 : Nat} {x1 : Int32} {x2 : Int32} {x3 : Int32} {s0 : Nat} {s1 : Int32} (k0 : kIs x0 0) (ks0 : kIs s0 0) {h' : kH} (hrec8 : ∀ (h : kH) (x2 : Int32), rec8 h x2 = some h' → kJ E m_C_moveTo none (mk K h') 0 0 8 [(0, .ref x0), (1, .int x1), (2, .int x2)] [] (mk K h)) (hf : b_C_moveTo_88 rec8 h x0 x1 x2 x3 s0 s1 = some h') : kJ E m_C_moveTo none (mk K h') 0 0 88 [(0, .ref x0), (1, .int x1), (2, .int x2), (3, .int x3)] [.int s1, .ref s0] (mk K h) := by
  unfold b_C_moveTo_88 at hf
  refine kM_put 91 d_C_moveTo_88 l_C_60 (ks0).x rfl rfl (kFit_int _) rfl ?_
  obtain ⟨h5, eh5, hf⟩ := kLet_e hf
  rw [← eh5]
  refine kJ_aload_n 92 0 d_C_moveTo_91 rfl rfl rfl rfl ?_
  refine kM_getR 95 5 (x0 + 6) d_C_moveTo_92 l_C_37 (k0).x rfl rfl rfl rfl ?_
  refine kJ_iload_n 96 3 d_C_moveTo_95 rfl rfl rfl ?_
  obtain ⟨h6, eh6, hf⟩ := kBi_some hf
  refine kM_callv 99 m_V_drop [.int x3] [] d_C_moveTo_96 cl_C_186 ⟨w_684, w_48⟩ ((kk_0_10 k0)).x ⟨rfl, by decide⟩ ⟨_, _, rfl⟩ rfl rfl (Nat.le_of_ble_eq_true rfl) ⟨Nat.le_of_ble_eq_true rfl, Nat.le_of_ble_eq_true rfl⟩ ⟨rfl, rfl⟩ ⟨Nat.zero_le _, Nat.zero_le _⟩ (j_V_drop hro (kk_0_10 k0) eh6) rfl ?_
  refine kJ_iinc 102 2 [(2, .int (x2 + (-1))), (0, .ref x0), (1, .int x1), (3, .int x3)] d_C_moveTo_99 rfl ki_m1 (Nat.le_of_ble_eq_true rfl) rfl rfl ?_
  refine kJ_goto 8 d_C_moveTo_102 rfl ?_
  refine kJ_sub [1, 2, 0] rfl ?_
  exact hrec8 h6 (x2 + (-1)) hf
def b_C_moveTo_8 (x0 : Nat) (x1 : Int32) : Nat → kH → Int32 → Option (kH)
  | 0, _, _ => none
  | n + 1, h, x2 => (fun rec8 => if x2 ≤ 0 then (kLet (hset h x0 0 x1) fun h1 => some h1) else (kBi (f_V_next h (x0 + 6)) fun v2 => if v2 = (-6) then (kLet (hset h x0 0 x1) fun h3 => some h3) else (kG v2 20 (if (h (x0 + 7) (kx v2)) ≤ x1 then (kG v2 20 (kLet (1 <<< ((h (x0 + 8) (kx v2)) &&& 31)) fun v4 => kG v2 20 (if (h (x0 + 9) (kx v2)) = 1 then (b_C_moveTo_88 rec8 h x0 x1 x2 v2 x0 ((h x0 3) ||| v4)) else (b_C_moveTo_88 rec8 h x0 x1 x2 v2 x0 ((h x0 3) &&& (v4 ^^^ (-1))))))) else (kLet (hset h x0 0 x1) fun h7 => some h7))))) (fun h' x2' => b_C_moveTo_8 x0 x1 n h' x2')
theorem c_C_moveTo_8 {E : kE} {L : Nat} {xs : Nat → Int32} (hro : kRo E L xs) {K : List Nat} {x0 : Nat} {x1 : Int32} (k0 : kIs x0 0) {h' : kH} : ∀ (n : Nat) (h : kH) (x2 : Int32), b_C_moveTo_8 x0 x1 n h x2 = some h' → kJ E m_C_moveTo none (mk K h') 0 0 8 [(0, .ref x0), (1, .int x1), (2, .int x2)] [] (mk K h) := by
  intro n
  induction n with
  | zero =>
    intro h x2 hf
    have hf : (none : Option (kH)) = some h' := hf
    cases hf
  | succ n hrec8 =>
    intro h x2 hf
    rw [b_C_moveTo_8] at hf
    dsimp only at hf
    refine kJ_iload_n 9 2 d_C_moveTo_8 rfl rfl rfl ?_
    refine kJ_if_le 12 105 d_C_moveTo_9 rfl rfl (fun hc => ?_) (fun hc => ?_)
    · have hf := kIf_t hf hc
      refine kJ_aload_n 106 0 d_C_moveTo_105 rfl rfl rfl rfl ?_
      refine kJ_iload_n 107 1 d_C_moveTo_106 rfl rfl rfl ?_
      refine kM_put 110 d_C_moveTo_107 l_C_51 (k0).x rfl rfl (kFit_int _) rfl ?_
      obtain ⟨h1, eh1, hf⟩ := kLet_e hf
      rw [← eh1]
      cases hf
      exact kJ_ret d_C_moveTo_110 rfl (Nat.zero_le _) (Nat.zero_le _)
    · have hf := kIf_f hf hc
      refine kJ_aload_n 13 0 d_C_moveTo_12 rfl rfl rfl rfl ?_
      refine kM_getR 16 5 (x0 + 6) d_C_moveTo_13 l_C_37 (k0).x rfl rfl rfl rfl ?_
      obtain ⟨v2, ev2, hf⟩ := kBi_some hf
      refine kM_callv 19 m_V_next [] [] d_C_moveTo_16 cl_C_174 ⟨w_680, w_47⟩ ((kk_0_10 k0)).x ⟨rfl, by decide⟩ ⟨_, _, rfl⟩ rfl rfl (Nat.le_of_ble_eq_true rfl) ⟨Nat.le_of_ble_eq_true rfl, Nat.le_of_ble_eq_true rfl⟩ ⟨rfl, rfl⟩ ⟨Nat.zero_le _, Nat.zero_le _⟩ (j_V_next hro (kk_0_10 k0) ev2) rfl ?_
      refine kJ_istore_n 20 [(3, .int v2), (0, .ref x0), (1, .int x1), (2, .int x2)] d_C_moveTo_19 rfl (Nat.le_of_ble_eq_true rfl) rfl rfl ?_
      refine kJ_iload_n 21 0 d_C_moveTo_20 rfl rfl rfl ?_
      refine kJ_bipush 23 (-6) d_C_moveTo_21 kb_m6 rfl ?_
      refine kJ_icmp_eq 26 105 d_C_moveTo_23 rfl rfl (fun hc => ?_) (fun hc => ?_)
      · have hf := kIf_t hf hc
        refine kJ_aload_n 106 1 d_C_moveTo_105 rfl rfl rfl rfl ?_
        refine kJ_iload_n 107 2 d_C_moveTo_106 rfl rfl rfl ?_
        refine kM_put 110 d_C_moveTo_107 l_C_51 (k0).x rfl rfl (kFit_int _) rfl ?_
        obtain ⟨h3, eh3, hf⟩ := kLet_e hf
        rw [← eh3]
        cases hf
        exact kJ_ret d_C_moveTo_110 rfl (Nat.zero_le _) (Nat.zero_le _)
      · have hf := kIf_f hf hc
        refine kJ_aload_n 27 1 d_C_moveTo_26 rfl rfl rfl rfl ?_
        refine kM_getR 30 5 (x0 + 6) d_C_moveTo_27 l_C_37 (k0).x rfl rfl rfl rfl ?_
        refine kM_getR 33 0 (x0 + 7) d_C_moveTo_30 l_C_177 ((kk_0_10 k0)).x rfl rfl rfl rfl ?_
        refine kJ_iload_n 34 0 d_C_moveTo_33 rfl rfl rfl ?_
        obtain ⟨hg, hf⟩ := kG_some hf
        refine kM_iald 35 20 d_C_moveTo_34 ((kk_4_1 (kk_0_10 k0))).x rfl hg rfl ?_
        refine kJ_iload_n 36 2 d_C_moveTo_35 rfl rfl rfl ?_
        refine kJ_icmp_le 39 42 d_C_moveTo_36 rfl rfl (fun hc => ?_) (fun hc => ?_)
        · have hf := kIf_t hf hc
          refine kJ_iconst 43 1 d_C_moveTo_42 ki_1 rfl ?_
          refine kJ_aload_n 44 1 d_C_moveTo_43 rfl rfl rfl rfl ?_
          refine kM_getR 47 5 (x0 + 6) d_C_moveTo_44 l_C_37 (k0).x rfl rfl rfl rfl ?_
          refine kM_getR 50 1 (x0 + 8) d_C_moveTo_47 l_C_180 ((kk_0_10 k0)).x rfl rfl rfl rfl ?_
          refine kJ_iload_n 51 0 d_C_moveTo_50 rfl rfl rfl ?_
          obtain ⟨hg, hf⟩ := kG_some hf
          refine kM_iald 52 20 d_C_moveTo_51 ((kk_4_2 (kk_0_10 k0))).x rfl hg rfl ?_
          refine kJ_ishl 53 d_C_moveTo_52 rfl ?_
          obtain ⟨v4, ev4, hf⟩ := kLet_e hf
          rw [← ev4]
          refine kJ_istore 55 [(4, .int v4), (3, .int v2), (0, .ref x0), (1, .int x1), (2, .int x2)] d_C_moveTo_53 (Nat.le_of_ble_eq_true rfl) rfl rfl ?_
          refine kJ_aload_n 56 2 d_C_moveTo_55 rfl rfl rfl rfl ?_
          refine kJ_aload_n 57 2 d_C_moveTo_56 rfl rfl rfl rfl ?_
          refine kM_getR 60 5 (x0 + 6) d_C_moveTo_57 l_C_37 (k0).x rfl rfl rfl rfl ?_
          refine kM_getR 63 2 (x0 + 9) d_C_moveTo_60 l_C_183 ((kk_0_10 k0)).x rfl rfl rfl rfl ?_
          refine kJ_iload_n 64 1 d_C_moveTo_63 rfl rfl rfl ?_
          obtain ⟨hg, hf⟩ := kG_some hf
          refine kM_iald 65 20 d_C_moveTo_64 ((kk_4_3 (kk_0_10 k0))).x rfl hg rfl ?_
          refine kJ_iconst 66 1 d_C_moveTo_65 ki_1 rfl ?_
          refine kJ_icmp_ne 69 79 d_C_moveTo_66 rfl rfl (fun hc => ?_) (fun hc => ?_)
          · have hf := kIf_f hf hc
            refine kJ_aload_n 80 2 d_C_moveTo_79 rfl rfl rfl rfl ?_
            refine kM_getI 83 d_C_moveTo_80 l_C_60 (k0).x rfl rfl rfl ?_
            refine kJ_iload 85 0 d_C_moveTo_83 rfl rfl ?_
            refine kJ_iconst 86 (-1) d_C_moveTo_85 ki_m1 rfl ?_
            refine kJ_ixor 87 d_C_moveTo_86 rfl ?_
            refine kJ_iand 88 d_C_moveTo_87 rfl ?_
            refine kJ_sub [2, 3, 4, 1] rfl ?_
            exact c_C_moveTo_88 hro k0 k0 hrec8 hf
          · have hf := kIf_t hf hc
            refine kJ_aload_n 70 2 d_C_moveTo_69 rfl rfl rfl rfl ?_
            refine kM_getI 73 d_C_moveTo_70 l_C_60 (k0).x rfl rfl rfl ?_
            refine kJ_iload 75 0 d_C_moveTo_73 rfl rfl ?_
            refine kJ_ior 76 d_C_moveTo_75 rfl ?_
            refine kJ_goto 88 d_C_moveTo_76 rfl ?_
            refine kJ_sub [2, 3, 4, 1] rfl ?_
            exact c_C_moveTo_88 hro k0 k0 hrec8 hf
        · have hf := kIf_f hf hc
          refine kJ_goto 105 d_C_moveTo_39 rfl ?_
          refine kJ_aload_n 106 1 d_C_moveTo_105 rfl rfl rfl rfl ?_
          refine kJ_iload_n 107 2 d_C_moveTo_106 rfl rfl rfl ?_
          refine kM_put 110 d_C_moveTo_107 l_C_51 (k0).x rfl rfl (kFit_int _) rfl ?_
          obtain ⟨h7, eh7, hf⟩ := kLet_e hf
          rw [← eh7]
          cases hf
          exact kJ_ret d_C_moveTo_110 rfl (Nat.zero_le _) (Nat.zero_le _)
def f_C_moveTo (h : kH) (x0 : Nat) (x1 : Int32) : Option (kH) := b_C_moveTo_8 x0 x1 kFuel h (h (x0 + 6) 0)
theorem j_C_moveTo {E : kE} {L : Nat} {xs : Nat → Int32} (hro : kRo E L xs) {K : List Nat} {h : kH} {x0 : Nat} {x1 : Int32} (k0 : kIs x0 0) {h' : kH} (hf : f_C_moveTo h x0 x1 = some h') : JM E m_C_moveTo [.ref x0, .int x1] (mk K h) none (mk K h') := by
  unfold f_C_moveTo at hf
  refine JM.of pn_C (Nat.le_of_ble_eq_true rfl) ?_
  show kJ E m_C_moveTo none (mk K h') 0 0 0 [(0, .ref x0), (1, .int x1)] [] (mk K h)
  refine kJ_aload_n 1 0 d_C_moveTo_0 rfl rfl rfl rfl ?_
  refine kM_getR 4 5 (x0 + 6) d_C_moveTo_1 l_C_37 (k0).x rfl rfl rfl rfl ?_
  refine kM_getI 7 d_C_moveTo_4 l_C_114 ((kk_0_10 k0)).x rfl rfl rfl ?_
  refine kJ_istore_n 8 [(2, .int (h (x0 + 6) 0)), (0, .ref x0), (1, .int x1)] d_C_moveTo_7 rfl (Nat.le_of_ble_eq_true rfl) rfl rfl ?_
  refine kJ_sub [1, 2, 0] rfl ?_
  exact c_C_moveTo_8 hro k0 kFuel h (h (x0 + 6) 0) hf
