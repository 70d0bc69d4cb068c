/-! CODE of the methods as functions, with certificates: printed by wip/whole/emit.py. -/
def f_C_giveVote (h : kH) (x0 : Nat) (x1 : Int32) (x2 : Int32) : Option (Int32 × kH) := if (f_C_hasMember h x0 x1) = true then (if (f_P_isChoice x2) = true then (kBi (f_C_firstIn h x0 1) fun v1 => if v1 = (-6) then (some ((-5), h)) else (kG v1 12 (kBi (f_C_canVote h x0 x1 (x0 + 10 + 5 * kx v1)) fun v3 => if v3 = true then (kG v1 12 (kG x1 12 (kLet (h ((x0 + 10 + 5 * kx v1) + 2) (kx x1)) fun v5 => kG v1 12 (kG x1 12 (kLet (hset h ((x0 + 10 + 5 * kx v1) + 2) (kx x1) x2) fun h7 => some (v5, h7)))))) else (some ((-5), h))))) else (some ((-2), h))) else (some ((-1), h))
theorem j_C_giveVote {E : kE} {L : Nat} {xs : Nat → Int32} (hro : kRo E L xs) {h : kH} {x0 : Nat} {x1 : Int32} {x2 : Int32} (k0 : kIs x0 0) {r : Int32} {h' : kH} (hf : f_C_giveVote h x0 x1 x2 = some (r, h')) : JM E m_C_giveVote [.ref x0, .int x1, .int x2] (mk h) (some r) (mk h') := by
  unfold f_C_giveVote at hf
  refine JM.of pn_C (Nat.le_of_ble_eq_true rfl) ?_
  show kJ E m_C_giveVote (some r) (mk h') 0 0 0 [(0, .ref x0), (1, .int x1), (2, .int x2)] [] (mk h)
  refine kJ_aload_n 1 0 d_C_giveVote_0 rfl rfl rfl rfl ?_
  refine kJ_iload_n 2 1 d_C_giveVote_1 rfl rfl rfl ?_
  refine kM_callv 5 m_C_hasMember [.int x1] [] d_C_giveVote_2 cl_C_105 ⟨w_437, w_10⟩ k0 ⟨rfl, by decide⟩ ⟨_, _, rfl⟩ rfl rfl (Nat.le_of_ble_eq_true rfl) ⟨Nat.le_of_ble_eq_true rfl, Nat.le_of_ble_eq_true rfl⟩ ⟨rfl, rfl⟩ ⟨Nat.zero_le _, Nat.zero_le _⟩ (j_C_hasMember hro k0 rfl) rfl ?_
  refine kJ_if_ne 8 10 d_C_giveVote_5 rfl rfl (fun hc => ?_) (fun hc => ?_)
  · have hf := kIf_t hf (kB2_1 hc)
    refine kJ_iload_n 11 2 d_C_giveVote_10 rfl rfl rfl ?_
    refine kM_calls 14 m_P_isChoice [.int x2] [] d_C_giveVote_11 cl_C_124 w_498 rfl rfl (Nat.le_of_ble_eq_true rfl) ⟨Nat.le_of_ble_eq_true rfl, Nat.le_of_ble_eq_true rfl⟩ ⟨rfl, rfl⟩ ⟨Nat.zero_le _, Nat.zero_le _⟩ (j_P_isChoice hro rfl) rfl ?_
    refine kJ_if_ne 17 20 d_C_giveVote_14 rfl rfl (fun hc => ?_) (fun hc => ?_)
    · have hf := kIf_t hf (kB2_1 hc)
      refine kJ_aload_n 21 0 d_C_giveVote_20 rfl rfl rfl rfl ?_
      refine kJ_iconst 22 1 d_C_giveVote_21 ki_1 rfl ?_
      obtain ⟨v1, ev1, hf⟩ := kBi_some hf
      refine kM_callv 25 m_C_firstIn [.int 1] [] d_C_giveVote_22 cl_C_144 ⟨w_549, w_28⟩ k0 ⟨rfl, by decide⟩ ⟨_, _, rfl⟩ rfl rfl (Nat.le_of_ble_eq_true rfl) ⟨Nat.le_of_ble_eq_true rfl, Nat.le_of_ble_eq_true rfl⟩ ⟨rfl, rfl⟩ ⟨Nat.zero_le _, Nat.zero_le _⟩ (j_C_firstIn hro k0 ev1) rfl ?_
      refine kJ_istore_n 26 [(3, .int v1), (0, .ref x0), (1, .int x1), (2, .int x2)] d_C_giveVote_25 rfl (Nat.le_of_ble_eq_true rfl) rfl rfl ?_
      refine kJ_iload_n 27 0 d_C_giveVote_26 rfl rfl rfl ?_
      refine kJ_bipush 29 (-6) d_C_giveVote_27 kb_m6 rfl ?_
      refine kJ_icmp_eq 32 46 d_C_giveVote_29 rfl rfl (fun hc => ?_) (fun hc => ?_)
      · have hf := kIf_t hf hc
        refine kJ_bipush 48 (-5) d_C_giveVote_46 kb_m5 rfl ?_
        cases hf
        exact kJ_iret d_C_giveVote_48 rfl rfl (Nat.zero_le _) (Nat.zero_le _)
      · have hf := kIf_f hf hc
        refine kJ_aload_n 33 1 d_C_giveVote_32 rfl rfl rfl rfl ?_
        refine kJ_iload_n 34 2 d_C_giveVote_33 rfl rfl rfl ?_
        refine kJ_aload_n 35 1 d_C_giveVote_34 rfl rfl rfl rfl ?_
        refine kM_getR 38 4 (x0 + 5) d_C_giveVote_35 l_C_30 k0 rfl rfl rfl rfl ?_
        refine kJ_iload_n 39 0 d_C_giveVote_38 rfl rfl rfl ?_
        obtain ⟨hg2, hf⟩ := kG_some hf
        refine kM_aald 40 12 5 5 (x0 + 10 + 5 * kx v1) d_C_giveVote_39 (kk_0_9 k0) rfl (by decide) (Or.inl rfl) hg2 (by simp only [Nat.add_assoc, kx]; try omega) rfl ?_
        obtain ⟨v3, ev3, hf⟩ := kBi_some hf
        refine kM_callv 43 m_C_canVote [.int x1, .ref (x0 + 10 + 5 * kx v1)] [] d_C_giveVote_40 cl_C_150 ⟨w_569, w_32⟩ k0 ⟨rfl, by decide⟩ ⟨_, _, rfl⟩ rfl rfl (Nat.le_of_ble_eq_true rfl) ⟨Nat.le_of_ble_eq_true rfl, Nat.le_of_ble_eq_true rfl⟩ ⟨rfl, rfl⟩ ⟨Nat.zero_le _, Nat.zero_le _⟩ (j_C_canVote hro k0 (kC_item k0 (kIn_lt hg2)) ev3) rfl ?_
        refine kJ_if_ne 46 49 d_C_giveVote_43 rfl rfl (fun hc => ?_) (fun hc => ?_)
        · have hf := kIf_t hf (kB2_1 hc)
          refine kJ_aload_n 50 1 d_C_giveVote_49 rfl rfl rfl rfl ?_
          refine kM_getR 53 4 (x0 + 5) d_C_giveVote_50 l_C_30 k0 rfl rfl rfl rfl ?_
          refine kJ_iload_n 54 0 d_C_giveVote_53 rfl rfl rfl ?_
          obtain ⟨hg4, hf⟩ := kG_some hf
          refine kM_aald 55 12 5 5 (x0 + 10 + 5 * kx v1) d_C_giveVote_54 (kk_0_9 k0) rfl (by decide) (Or.inl rfl) hg4 (by simp only [Nat.add_assoc, kx]; try omega) rfl ?_
          refine kM_getR 58 1 ((x0 + 10 + 5 * kx v1) + 2) d_C_giveVote_55 l_C_92 (kC_item k0 (kIn_lt hg4)) rfl rfl rfl rfl ?_
          refine kJ_iload_n 59 2 d_C_giveVote_58 rfl rfl rfl ?_
          obtain ⟨hg, hf⟩ := kG_some hf
          refine kM_iald 60 12 d_C_giveVote_59 (kk_3_7 (kC_item k0 (kIn_lt hg4))) rfl hg rfl ?_
          obtain ⟨v5, ev5, hf⟩ := kLet_e hf
          rw [← ev5]
          refine kJ_istore 62 [(4, .int v5), (3, .int v1), (0, .ref x0), (1, .int x1), (2, .int x2)] d_C_giveVote_60 (Nat.le_of_ble_eq_true rfl) rfl rfl ?_
          refine kJ_aload_n 63 2 d_C_giveVote_62 rfl rfl rfl rfl ?_
          refine kM_getR 66 4 (x0 + 5) d_C_giveVote_63 l_C_30 k0 rfl rfl rfl rfl ?_
          refine kJ_iload_n 67 1 d_C_giveVote_66 rfl rfl rfl ?_
          obtain ⟨hg6, hf⟩ := kG_some hf
          refine kM_aald 68 12 5 5 (x0 + 10 + 5 * kx v1) d_C_giveVote_67 (kk_0_9 k0) rfl (by decide) (Or.inl rfl) hg6 (by simp only [Nat.add_assoc, kx]; try omega) rfl ?_
          refine kM_getR 71 1 ((x0 + 10 + 5 * kx v1) + 2) d_C_giveVote_68 l_C_92 (kC_item k0 (kIn_lt hg6)) rfl rfl rfl rfl ?_
          refine kJ_iload_n 72 3 d_C_giveVote_71 rfl rfl rfl ?_
          refine kJ_iload_n 73 4 d_C_giveVote_72 rfl rfl rfl ?_
          obtain ⟨hg, hf⟩ := kG_some hf
          refine kM_iast 74 12 d_C_giveVote_73 (kk_3_7 (kC_item k0 (kIn_lt hg6))) rfl hg rfl ?_
          obtain ⟨h7, eh7, hf⟩ := kLet_e hf
          rw [← eh7]
          refine kJ_iload 76 0 d_C_giveVote_74 rfl rfl ?_
          cases hf
          exact kJ_iret d_C_giveVote_76 rfl rfl (Nat.zero_le _) (Nat.zero_le _)
        · have hf := kIf_f hf (kB2_0 hc)
          refine kJ_bipush 48 (-5) d_C_giveVote_46 kb_m5 rfl ?_
          cases hf
          exact kJ_iret d_C_giveVote_48 rfl rfl (Nat.zero_le _) (Nat.zero_le _)
    · have hf := kIf_f hf (kB2_0 hc)
      refine kJ_bipush 19 (-2) d_C_giveVote_17 kb_m2 rfl ?_
      cases hf
      exact kJ_iret d_C_giveVote_19 rfl rfl (Nat.zero_le _) (Nat.zero_le _)
  · have hf := kIf_f hf (kB2_0 hc)
    refine kJ_iconst 9 (-1) d_C_giveVote_8 ki_m1 rfl ?_
    cases hf
    exact kJ_iret d_C_giveVote_9 rfl rfl (Nat.zero_le _) (Nat.zero_le _)
def f_P_vote (h : kH) (x1 : Int32) (x2 : Int32) : Option (Int32 × kH) := kBi (f_Y_note h 145 1) fun h1 => kBd (f_C_giveVote h1 1 x1 x2) fun v3 h2 => kBd (f_Y_settle h2 145 v3) fun v5 h4 => some (v5, h4)
theorem j_P_vote {E : kE} {L : Nat} {xs : Nat → Int32} (hro : kRo E L xs) {h : kH} {x1 : Int32} {x2 : Int32} {r : Int32} {h' : kH} (hf : f_P_vote h x1 x2 = some (r, h')) : JM E m_P_vote [.ref 0, .int x1, .int x2] (mk h) (some r) (mk h') := by
  unfold f_P_vote at hf
  refine JM.of pn_P (Nat.le_of_ble_eq_true rfl) ?_
  show kJ E m_P_vote (some r) (mk h') 0 0 0 [(0, .ref 0), (1, .int x1), (2, .int x2)] [] (mk h)
  refine kJ_aload_n 1 0 d_P_vote_0 rfl rfl rfl rfl ?_
  refine kM_getR 4 144 145 d_P_vote_1 l_P_29 kp_0 rfl rfl rfl rfl ?_
  refine kJ_aload_n 5 0 d_P_vote_4 rfl rfl rfl rfl ?_
  refine kM_getR 8 0 1 d_P_vote_5 l_P_10 kp_0 rfl rfl rfl rfl ?_
  obtain ⟨h1, eh1, hf⟩ := kBi_some hf
  refine kM_callv 11 m_Y_note [.ref 1] [] d_P_vote_8 cl_P_55 ⟨w_372, w_0⟩ kp_145 ⟨rfl, by decide⟩ ⟨_, _, rfl⟩ rfl rfl (Nat.le_of_ble_eq_true rfl) ⟨Nat.le_of_ble_eq_true rfl, Nat.le_of_ble_eq_true rfl⟩ ⟨rfl, rfl⟩ ⟨Nat.zero_le _, Nat.zero_le _⟩ (j_Y_note hro kp_145 kp_1 eh1) rfl ?_
  refine kJ_aload_n 12 0 d_P_vote_11 rfl rfl rfl rfl ?_
  refine kM_getR 15 144 145 d_P_vote_12 l_P_29 kp_0 rfl rfl rfl rfl ?_
  refine kJ_aload_n 16 0 d_P_vote_15 rfl rfl rfl rfl ?_
  refine kM_getR 19 0 1 d_P_vote_16 l_P_10 kp_0 rfl rfl rfl rfl ?_
  refine kJ_iload_n 20 1 d_P_vote_19 rfl rfl rfl ?_
  refine kJ_iload_n 21 2 d_P_vote_20 rfl rfl rfl ?_
  obtain ⟨v3, h2, ev3, hf⟩ := kBd_some hf
  refine kM_callv 24 m_C_giveVote [.int x1, .int x2] [.ref 145] d_P_vote_21 cl_P_99 ⟨w_565, w_31⟩ kp_1 ⟨rfl, by decide⟩ ⟨_, _, rfl⟩ rfl rfl (Nat.le_of_ble_eq_true rfl) ⟨Nat.le_of_ble_eq_true rfl, Nat.le_of_ble_eq_true rfl⟩ ⟨rfl, rfl⟩ ⟨Nat.zero_le _, Nat.zero_le _⟩ (j_C_giveVote hro kp_1 ev3) rfl ?_
  obtain ⟨v5, h4, ev5, hf⟩ := kBd_some hf
  refine kM_callv 27 m_Y_settle [.int v3] [] d_P_vote_24 cl_P_63 ⟨w_396, w_5⟩ kp_145 ⟨rfl, by decide⟩ ⟨_, _, rfl⟩ rfl rfl (Nat.le_of_ble_eq_true rfl) ⟨Nat.le_of_ble_eq_true rfl, Nat.le_of_ble_eq_true rfl⟩ ⟨rfl, rfl⟩ ⟨Nat.zero_le _, Nat.zero_le _⟩ (j_Y_settle hro kp_145 ev5) rfl ?_
  cases hf
  exact kJ_iret d_P_vote_27 rfl rfl (Nat.zero_le _) (Nat.zero_le _)
def f_H_wayOf (h : kH) (x0 : Nat) (x1 : Nat) (x2 : Nat) (x3 : Int32) : Option Int32 := kBi (f_C_isRecused h x1 x3 x2) fun v1 => if v1 = true then (some 5) else (kG x3 12 (if (h (x2 + 2) (kx x3)) = (-6) then (if (f_C_isPresent h x1 x3) = true then (some 3) else (kG x3 12 (if (h (x0 + 1) (kx x3)) = (-6) then (some 4) else (kG x3 12 (if (h (x2 + 3) (kx x3)) = (-6) then (kG (h (x0 + 1) (kx x3)) 12 (if (h (x2 + 2) (kx (h (x0 + 1) (kx x3)))) = (-6) then (some 3) else (kG (h (x0 + 1) (kx x3)) 12 (some (h (x2 + 2) (kx (h (x0 + 1) (kx x3)))))))) else (kG x3 12 (some (h (x2 + 3) (kx x3))))))))) else (kG x3 12 (some (h (x2 + 2) (kx x3))))))
theorem j_H_wayOf {E : kE} {L : Nat} {xs : Nat → Int32} (hro : kRo E L xs) {h : kH} {x0 : Nat} {x1 : Nat} {x2 : Nat} {x3 : Int32} (k0 : kIs x0 1) (k1 : kIs x1 0) (k2 : kIs x2 3) {r : Int32} (hf : f_H_wayOf h x0 x1 x2 x3 = some r) : JM E m_H_wayOf [.ref x0, .ref x1, .ref x2, .int x3] (mk h) (some r) (mk h) := by
  unfold f_H_wayOf at hf
  refine JM.of pn_H (Nat.le_of_ble_eq_true rfl) ?_
  show kJ E m_H_wayOf (some r) (mk h) 0 0 0 [(0, .ref x0), (1, .ref x1), (2, .ref x2), (3, .int x3)] [] (mk h)
  refine kJ_aload_n 1 1 d_H_wayOf_0 rfl rfl rfl rfl ?_
  refine kJ_iload_n 2 3 d_H_wayOf_1 rfl rfl rfl ?_
  refine kJ_aload_n 3 2 d_H_wayOf_2 rfl rfl rfl rfl ?_
  obtain ⟨v1, ev1, hf⟩ := kBi_some hf
  refine kM_callv 6 m_C_isRecused [.int x3, .ref x2] [] d_H_wayOf_3 cl_H_33 ⟨w_514, w_21⟩ k1 ⟨rfl, by decide⟩ ⟨_, _, rfl⟩ rfl rfl (Nat.le_of_ble_eq_true rfl) ⟨Nat.le_of_ble_eq_true rfl, Nat.le_of_ble_eq_true rfl⟩ ⟨rfl, rfl⟩ ⟨Nat.zero_le _, Nat.zero_le _⟩ (j_C_isRecused hro k1 k2 ev1) rfl ?_
  refine kJ_if_eq 9 11 d_H_wayOf_6 rfl rfl (fun hc => ?_) (fun hc => ?_)
  · have hf := kIf_f hf (kB2_0 hc)
    refine kJ_aload_n 12 2 d_H_wayOf_11 rfl rfl rfl rfl ?_
    refine kM_getR 15 1 (x2 + 2) d_H_wayOf_12 l_H_58 k2 rfl rfl rfl rfl ?_
    refine kJ_iload_n 16 3 d_H_wayOf_15 rfl rfl rfl ?_
    obtain ⟨hg, hf⟩ := kG_some hf
    refine kM_iald 17 12 d_H_wayOf_16 (kk_3_7 k2) rfl hg rfl ?_
    refine kJ_bipush 19 (-6) d_H_wayOf_17 kb_m6 rfl ?_
    refine kJ_icmp_eq 22 29 d_H_wayOf_19 rfl rfl (fun hc => ?_) (fun hc => ?_)
    · have hf := kIf_t hf hc
      refine kJ_aload_n 30 1 d_H_wayOf_29 rfl rfl rfl rfl ?_
      refine kJ_iload_n 31 3 d_H_wayOf_30 rfl rfl rfl ?_
      refine kM_callv 34 m_C_isPresent [.int x3] [] d_H_wayOf_31 cl_H_37 ⟨w_449, w_12⟩ k1 ⟨rfl, by decide⟩ ⟨_, _, rfl⟩ rfl rfl (Nat.le_of_ble_eq_true rfl) ⟨Nat.le_of_ble_eq_true rfl, Nat.le_of_ble_eq_true rfl⟩ ⟨rfl, rfl⟩ ⟨Nat.zero_le _, Nat.zero_le _⟩ (j_C_isPresent hro k1 rfl) rfl ?_
      refine kJ_if_eq 37 39 d_H_wayOf_34 rfl rfl (fun hc => ?_) (fun hc => ?_)
      · have hf := kIf_f hf (kB2_0 hc)
        refine kJ_aload_n 40 0 d_H_wayOf_39 rfl rfl rfl rfl ?_
        refine kM_getR 43 0 (x0 + 1) d_H_wayOf_40 l_H_9 k0 rfl rfl rfl rfl ?_
        refine kJ_iload_n 44 3 d_H_wayOf_43 rfl rfl rfl ?_
        obtain ⟨hg, hf⟩ := kG_some hf
        refine kM_iald 45 12 d_H_wayOf_44 (kk_1_0 k0) rfl hg rfl ?_
        refine kJ_istore 47 [(4, .int (h (x0 + 1) (kx x3))), (0, .ref x0), (1, .ref x1), (2, .ref x2), (3, .int x3)] d_H_wayOf_45 (Nat.le_of_ble_eq_true rfl) rfl rfl ?_
        refine kJ_iload 49 0 d_H_wayOf_47 rfl rfl ?_
        refine kJ_bipush 51 (-6) d_H_wayOf_49 kb_m6 rfl ?_
        refine kJ_icmp_ne 54 56 d_H_wayOf_51 rfl rfl (fun hc => ?_) (fun hc => ?_)
        · have hf := kIf_f hf hc
          refine kJ_aload_n 57 3 d_H_wayOf_56 rfl rfl rfl rfl ?_
          refine kM_getR 60 2 (x2 + 3) d_H_wayOf_57 l_H_63 k2 rfl rfl rfl rfl ?_
          refine kJ_iload_n 61 4 d_H_wayOf_60 rfl rfl rfl ?_
          obtain ⟨hg, hf⟩ := kG_some hf
          refine kM_iald 62 12 d_H_wayOf_61 (kk_3_8 k2) rfl hg rfl ?_
          refine kJ_bipush 64 (-6) d_H_wayOf_62 kb_m6 rfl ?_
          refine kJ_icmp_eq 67 74 d_H_wayOf_64 rfl rfl (fun hc => ?_) (fun hc => ?_)
          · have hf := kIf_t hf hc
            refine kJ_aload_n 75 3 d_H_wayOf_74 rfl rfl rfl rfl ?_
            refine kM_getR 78 1 (x2 + 2) d_H_wayOf_75 l_H_58 k2 rfl rfl rfl rfl ?_
            refine kJ_iload 80 0 d_H_wayOf_78 rfl rfl ?_
            obtain ⟨hg, hf⟩ := kG_some hf
            refine kM_iald 81 12 d_H_wayOf_80 (kk_3_7 k2) rfl hg rfl ?_
            refine kJ_bipush 83 (-6) d_H_wayOf_81 kb_m6 rfl ?_
            refine kJ_icmp_eq 86 96 d_H_wayOf_83 rfl rfl (fun hc => ?_) (fun hc => ?_)
            · have hf := kIf_t hf hc
              refine kJ_iconst 97 3 d_H_wayOf_96 ki_3 rfl ?_
              cases hf
              exact kJ_iret d_H_wayOf_97 rfl rfl (Nat.zero_le _) (Nat.zero_le _)
            · have hf := kIf_f hf hc
              refine kJ_aload_n 87 3 d_H_wayOf_86 rfl rfl rfl rfl ?_
              refine kM_getR 90 1 (x2 + 2) d_H_wayOf_87 l_H_58 k2 rfl rfl rfl rfl ?_
              refine kJ_iload 92 0 d_H_wayOf_90 rfl rfl ?_
              obtain ⟨hg, hf⟩ := kG_some hf
              refine kM_iald 93 12 d_H_wayOf_92 (kk_3_7 k2) rfl hg rfl ?_
              refine kJ_goto 97 d_H_wayOf_93 rfl ?_
              cases hf
              exact kJ_iret d_H_wayOf_97 rfl rfl (Nat.zero_le _) (Nat.zero_le _)
          · have hf := kIf_f hf hc
            refine kJ_aload_n 68 3 d_H_wayOf_67 rfl rfl rfl rfl ?_
            refine kM_getR 71 2 (x2 + 3) d_H_wayOf_68 l_H_63 k2 rfl rfl rfl rfl ?_
            refine kJ_iload_n 72 4 d_H_wayOf_71 rfl rfl rfl ?_
            obtain ⟨hg, hf⟩ := kG_some hf
            refine kM_iald 73 12 d_H_wayOf_72 (kk_3_8 k2) rfl hg rfl ?_
            cases hf
            exact kJ_iret d_H_wayOf_73 rfl rfl (Nat.zero_le _) (Nat.zero_le _)
        · have hf := kIf_t hf hc
          refine kJ_iconst 55 4 d_H_wayOf_54 ki_4 rfl ?_
          cases hf
          exact kJ_iret d_H_wayOf_55 rfl rfl (Nat.zero_le _) (Nat.zero_le _)
      · have hf := kIf_t hf (kB2_1 hc)
        refine kJ_iconst 38 3 d_H_wayOf_37 ki_3 rfl ?_
        cases hf
        exact kJ_iret d_H_wayOf_38 rfl rfl (Nat.zero_le _) (Nat.zero_le _)
    · have hf := kIf_f hf hc
      refine kJ_aload_n 23 2 d_H_wayOf_22 rfl rfl rfl rfl ?_
      refine kM_getR 26 1 (x2 + 2) d_H_wayOf_23 l_H_58 k2 rfl rfl rfl rfl ?_
      refine kJ_iload_n 27 3 d_H_wayOf_26 rfl rfl rfl ?_
      obtain ⟨hg, hf⟩ := kG_some hf
      refine kM_iald 28 12 d_H_wayOf_27 (kk_3_7 k2) rfl hg rfl ?_
      cases hf
      exact kJ_iret d_H_wayOf_28 rfl rfl (Nat.zero_le _) (Nat.zero_le _)
  · have hf := kIf_t hf (kB2_1 hc)
    refine kJ_iconst 10 5 d_H_wayOf_9 ki_5 rfl ?_
    cases hf
    exact kJ_iret d_H_wayOf_10 rfl rfl (Nat.zero_le _) (Nat.zero_le _)
def b_H_tally_10 (x0 : Nat) (x1 : Nat) (x2 : Nat) : Nat → kH → Int32 → Option (kH)
  | 0, _, _ => none
  | n + 1, h, x3 => (fun rec10 => if (h x1 1) ≤ x3 then (some h) else (kBi (f_H_wayOf h x0 x1 x2 x3) fun v2 => kG v2 6 (kG x3 12 (kG v2 6 (kLet (hset h (x0 + 3) (kx v2) ((h (x0 + 3) (kx v2)) + (h (x1 + 2) (kx x3)))) fun h3 => rec10 h3 (x3 + 1)))))) (fun h' x3' => b_H_tally_10 x0 x1 x2 n h' x3')
theorem c_H_tally_10 {E : kE} {L : Nat} {xs : Nat → Int32} (hro : kRo E L xs) {x0 : Nat} {x1 : Nat} {x2 : Nat} (k0 : kIs x0 1) (k1 : kIs x1 0) (k2 : kIs x2 3) {h' : kH} : ∀ (n : Nat) (h : kH) (x3 : Int32), b_H_tally_10 x0 x1 x2 n h x3 = some h' → kJ E m_H_tally none (mk h') 0 0 10 [(0, .ref x0), (1, .ref x1), (2, .ref x2), (3, .int x3)] [] (mk h) := by
  intro n
  induction n with
  | zero =>
    intro h x3 hf
    have hf : (none : Option (kH)) = some h' := hf
    cases hf
  | succ n hrec10 =>
    intro h x3 hf
    rw [b_H_tally_10] at hf
    dsimp only at hf
    refine kJ_iload_n 11 3 d_H_tally_10 rfl rfl rfl ?_
    refine kJ_aload_n 12 1 d_H_tally_11 rfl rfl rfl rfl ?_
    refine kM_getI 15 d_H_tally_12 l_H_27 k1 rfl rfl rfl ?_
    refine kJ_icmp_ge 18 45 d_H_tally_15 rfl rfl (fun hc => ?_) (fun hc => ?_)
    · have hf := kIf_t hf hc
      cases hf
      exact kJ_ret d_H_tally_45 rfl (Nat.zero_le _) (Nat.zero_le _)
    · have hf := kIf_f hf hc
      refine kJ_aload_n 19 0 d_H_tally_18 rfl rfl rfl rfl ?_
      refine kM_getR 22 2 (x0 + 3) d_H_tally_19 l_H_18 k0 rfl rfl rfl rfl ?_
      refine kJ_aload_n 23 0 d_H_tally_22 rfl rfl rfl rfl ?_
      refine kJ_aload_n 24 1 d_H_tally_23 rfl rfl rfl rfl ?_
      refine kJ_aload_n 25 2 d_H_tally_24 rfl rfl rfl rfl ?_
      refine kJ_iload_n 26 3 d_H_tally_25 rfl rfl rfl ?_
      obtain ⟨v2, ev2, hf⟩ := kBi_some hf
      refine kM_callv 29 m_H_wayOf [.ref x1, .ref x2, .int x3] [.ref (x0 + 3)] d_H_tally_26 cl_H_66 ⟨w_585, w_35⟩ k0 ⟨rfl, by decide⟩ ⟨_, _, rfl⟩ rfl rfl (Nat.le_of_ble_eq_true rfl) ⟨Nat.le_of_ble_eq_true rfl, Nat.le_of_ble_eq_true rfl⟩ ⟨rfl, rfl⟩ ⟨Nat.zero_le _, Nat.zero_le _⟩ (j_H_wayOf hro k0 k1 k2 ev2) rfl ?_
      refine kJ_dup2 30 d_H_tally_29 rfl rfl rfl ?_
      obtain ⟨hg, hf⟩ := kG_some hf
      refine kM_iald 31 6 d_H_tally_30 (kk_1_2 k0) rfl hg rfl ?_
      refine kJ_aload_n 32 1 d_H_tally_31 rfl rfl rfl rfl ?_
      refine kM_getR 35 1 (x1 + 2) d_H_tally_32 l_H_55 k1 rfl rfl rfl rfl ?_
      refine kJ_iload_n 36 3 d_H_tally_35 rfl rfl rfl ?_
      obtain ⟨hg, hf⟩ := kG_some hf
      refine kM_iald 37 12 d_H_tally_36 (kk_0_6 k1) rfl hg rfl ?_
      refine kJ_iadd 38 d_H_tally_37 rfl ?_
      obtain ⟨hg, hf⟩ := kG_some hf
      refine kM_iast 39 6 d_H_tally_38 (kk_1_2 k0) rfl hg rfl ?_
      obtain ⟨h3, eh3, hf⟩ := kLet_e hf
      rw [← eh3]
      refine kJ_iinc 42 3 [(3, .int (x3 + 1)), (0, .ref x0), (1, .ref x1), (2, .ref x2)] d_H_tally_39 rfl ki_1 (Nat.le_of_ble_eq_true rfl) rfl rfl ?_
      refine kJ_goto 10 d_H_tally_42 rfl ?_
      refine kJ_sub [1, 2, 3, 0] rfl ?_
      exact hrec10 h3 (x3 + 1) hf
def f_H_tally (h : kH) (x0 : Nat) (x1 : Nat) (x2 : Nat) : Option (kH) := kLet (hfill h (x0 + 3) 6 0) fun h1 => b_H_tally_10 x0 x1 x2 kFuel h1 0
theorem j_H_tally {E : kE} {L : Nat} {xs : Nat → Int32} (hro : kRo E L xs) {h : kH} {x0 : Nat} {x1 : Nat} {x2 : Nat} (k0 : kIs x0 1) (k1 : kIs x1 0) (k2 : kIs x2 3) {h' : kH} (hf : f_H_tally h x0 x1 x2 = some h') : JM E m_H_tally [.ref x0, .ref x1, .ref x2] (mk h) none (mk h') := by
  unfold f_H_tally at hf
  refine JM.of pn_H (Nat.le_of_ble_eq_true rfl) ?_
  show kJ E m_H_tally none (mk h') 0 0 0 [(0, .ref x0), (1, .ref x1), (2, .ref x2)] [] (mk h)
  refine kJ_aload_n 1 0 d_H_tally_0 rfl rfl rfl rfl ?_
  refine kM_getR 4 2 (x0 + 3) d_H_tally_1 l_H_18 k0 rfl rfl rfl rfl ?_
  refine kJ_iconst 5 0 d_H_tally_4 ki_0 rfl ?_
  refine kM_calls 8 m_JA_fill [.ref (x0 + 3), .int 0] [] d_H_tally_5 cl_H_21 w_425 rfl rfl (Nat.le_of_ble_eq_true rfl) ⟨Nat.le_of_ble_eq_true rfl, Nat.le_of_ble_eq_true rfl⟩ ⟨rfl, rfl⟩ ⟨Nat.zero_le _, Nat.zero_le _⟩ (j_JA_fill hro (kk_1_2 k0) (n := 6) rfl (by decide)) rfl ?_
  obtain ⟨h1, eh1, hf⟩ := kLet_e hf
  rw [← eh1]
  refine kJ_iconst 9 0 d_H_tally_8 ki_0 rfl ?_
  refine kJ_istore_n 10 [(3, .int 0), (0, .ref x0), (1, .ref x1), (2, .ref x2)] d_H_tally_9 rfl (Nat.le_of_ble_eq_true rfl) rfl rfl ?_
  refine kJ_sub [1, 2, 3, 0] rfl ?_
  exact c_H_tally_10 hro k0 k1 k2 kFuel h1 0 hf
def b_H_outcome_67 (h : kH) (x4 : Int32) (x5 : Int32) : Option Int32 := if x4 ≤ x5 then (some 4) else (some 3)
theorem c_H_outcome_67 {E : kE} {L : Nat} {xs : Nat → Int32} (hro : kRo E L xs) {h : kH} {x4 : Int32} {x5 : Int32} {r : Int32} (hf : b_H_outcome_67 h x4 x5 = some r) : kJ E m_H_outcome (some r) (mk h) 0 0 67 [(4, .int x4), (5, .int x5)] [] (mk h) := by
  unfold b_H_outcome_67 at hf
  refine kJ_iload 69 0 d_H_outcome_67 rfl rfl ?_
  refine kJ_iload 71 1 d_H_outcome_69 rfl rfl ?_
  refine kJ_icmp_le 74 78 d_H_outcome_71 rfl rfl (fun hc => ?_) (fun hc => ?_)
  · have hf := kIf_t hf hc
    refine kJ_iconst 79 4 d_H_outcome_78 ki_4 rfl ?_
    cases hf
    exact kJ_iret d_H_outcome_79 rfl rfl (Nat.zero_le _) (Nat.zero_le _)
  · have hf := kIf_f hf hc
    refine kJ_iconst 75 3 d_H_outcome_74 ki_3 rfl ?_
    refine kJ_goto 79 d_H_outcome_75 rfl ?_
    cases hf
    exact kJ_iret d_H_outcome_79 rfl rfl (Nat.zero_le _) (Nat.zero_le _)
def f_H_outcome (h : kH) (x0 : Nat) (x1 : Nat) (x2 : Nat) (x3 : Int32) : Option Int32 := kG 1 6 (kLet ((h (x0 + 3) (kx 1)) + x3) fun v1 => kG 2 6 (kLet (h x2 0) fun v2 => (if v2 = 0 then (if v1 = (h (x0 + 3) (kx 2)) then (kG 5 6 (if (h (x1 + 1) (kx 5)) = 1 then (some 2) else (b_H_outcome_67 h v1 (h (x0 + 3) (kx 2))))) else (b_H_outcome_67 h v1 (h (x0 + 3) (kx 2)))) else (if v2 = 1 then (if v1 ≤ 0 then (some 4) else (if (3 * v1) < (2 * (v1 + (h (x0 + 3) (kx 2)))) then (some 4) else (some 3))) else (if v1 ≤ 0 then (some 4) else (kG 0 6 (if (h (x0 + 3) (kx 0)) = 0 then (if (h (x0 + 3) (kx 2)) = 0 then (some 3) else (some 4)) else (some 4))))))))
theorem j_H_outcome {E : kE} {L : Nat} {xs : Nat → Int32} (hro : kRo E L xs) {h : kH} {x0 : Nat} {x1 : Nat} {x2 : Nat} {x3 : Int32} (k0 : kIs x0 1) (k1 : kIs x1 0) (k2 : kIs x2 3) {r : Int32} (hf : f_H_outcome h x0 x1 x2 x3 = some r) : JM E m_H_outcome [.ref x0, .ref x1, .ref x2, .int x3] (mk h) (some r) (mk h) := by
  unfold f_H_outcome at hf
  refine JM.of pn_H (Nat.le_of_ble_eq_true rfl) ?_
  show kJ E m_H_outcome (some r) (mk h) 0 0 0 [(0, .ref x0), (1, .ref x1), (2, .ref x2), (3, .int x3)] [] (mk h)
  refine kJ_aload_n 1 0 d_H_outcome_0 rfl rfl rfl rfl ?_
  refine kM_getR 4 2 (x0 + 3) d_H_outcome_1 l_H_18 k0 rfl rfl rfl rfl ?_
  refine kJ_iconst 5 1 d_H_outcome_4 ki_1 rfl ?_
  obtain ⟨hg, hf⟩ := kG_some hf
  refine kM_iald 6 6 d_H_outcome_5 (kk_1_2 k0) rfl hg rfl ?_
  refine kJ_iload_n 7 3 d_H_outcome_6 rfl rfl rfl ?_
  refine kJ_iadd 8 d_H_outcome_7 rfl ?_
  obtain ⟨v1, ev1, hf⟩ := kLet_e hf
  rw [← ev1]
  refine kJ_istore 10 [(4, .int v1), (0, .ref x0), (1, .ref x1), (2, .ref x2), (3, .int x3)] d_H_outcome_8 (Nat.le_of_ble_eq_true rfl) rfl rfl ?_
  refine kJ_aload_n 11 1 d_H_outcome_10 rfl rfl rfl rfl ?_
  refine kM_getR 14 2 (x0 + 3) d_H_outcome_11 l_H_18 k0 rfl rfl rfl rfl ?_
  refine kJ_iconst 15 2 d_H_outcome_14 ki_2 rfl ?_
  obtain ⟨hg, hf⟩ := kG_some hf
  refine kM_iald 16 6 d_H_outcome_15 (kk_1_2 k0) rfl hg rfl ?_
  refine kJ_istore 18 [(5, .int (h (x0 + 3) (kx 2))), (4, .int v1), (0, .ref x0), (1, .ref x1), (2, .ref x2), (3, .int x3)] d_H_outcome_16 (Nat.le_of_ble_eq_true rfl) rfl rfl ?_
  refine kJ_aload_n 19 4 d_H_outcome_18 rfl rfl rfl rfl ?_
  refine kM_getI 22 d_H_outcome_19 l_H_69 k2 rfl rfl rfl ?_
  obtain ⟨v2, ev2, hf⟩ := kLet_e hf
  rw [← ev2]
  by_cases c0 : v2 = 0
  · have hf := kIf_t hf c0
    refine kJ_lookup 48 d_H_outcome_22 (by decide) (by rw [c0]; try rfl) rfl ?_
    refine kJ_iload 50 1 d_H_outcome_48 rfl rfl ?_
    refine kJ_iload 52 0 d_H_outcome_50 rfl rfl ?_
    refine kJ_icmp_ne 55 67 d_H_outcome_52 rfl rfl (fun hc => ?_) (fun hc => ?_)
    · have hf := kIf_f hf hc
      refine kJ_sub [1, 0] rfl ?_
      exact c_H_outcome_67 hro hf
    · have hf := kIf_t hf hc
      refine kJ_aload_n 56 3 d_H_outcome_55 rfl rfl rfl rfl ?_
      refine kM_getR 59 0 (x1 + 1) d_H_outcome_56 l_H_48 k1 rfl rfl rfl rfl ?_
      refine kJ_iconst 60 5 d_H_outcome_59 ki_5 rfl ?_
      obtain ⟨hg, hf⟩ := kG_some hf
      refine kM_iald 61 6 d_H_outcome_60 (kk_0_5 k1) rfl hg rfl ?_
      refine kJ_iconst 62 1 d_H_outcome_61 ki_1 rfl ?_
      refine kJ_icmp_ne 65 67 d_H_outcome_62 rfl rfl (fun hc => ?_) (fun hc => ?_)
      · have hf := kIf_f hf hc
        refine kJ_sub [1, 0] rfl ?_
        exact c_H_outcome_67 hro hf
      · have hf := kIf_t hf hc
        refine kJ_iconst 66 2 d_H_outcome_65 ki_2 rfl ?_
        cases hf
        exact kJ_iret d_H_outcome_66 rfl rfl (Nat.zero_le _) (Nat.zero_le _)
  · have hf := kIf_f hf c0
    by_cases c1 : v2 = 1
    · have hf := kIf_t hf c1
      refine kJ_lookup 80 d_H_outcome_22 (by decide) (by rw [c1]; try rfl) rfl ?_
      refine kJ_iload 82 1 d_H_outcome_80 rfl rfl ?_
      refine kJ_if_le 85 103 d_H_outcome_82 rfl rfl (fun hc => ?_) (fun hc => ?_)
      · have hf := kIf_t hf hc
        refine kJ_iconst 104 4 d_H_outcome_103 ki_4 rfl ?_
        cases hf
        exact kJ_iret d_H_outcome_104 rfl rfl (Nat.zero_le _) (Nat.zero_le _)
      · have hf := kIf_f hf hc
        refine kJ_iconst 86 3 d_H_outcome_85 ki_3 rfl ?_
        refine kJ_iload 88 1 d_H_outcome_86 rfl rfl ?_
        refine kJ_imul 89 d_H_outcome_88 rfl ?_
        refine kJ_iconst 90 2 d_H_outcome_89 ki_2 rfl ?_
        refine kJ_iload 92 1 d_H_outcome_90 rfl rfl ?_
        refine kJ_iload 94 0 d_H_outcome_92 rfl rfl ?_
        refine kJ_iadd 95 d_H_outcome_94 rfl ?_
        refine kJ_imul 96 d_H_outcome_95 rfl ?_
        refine kJ_icmp_lt 99 103 d_H_outcome_96 rfl rfl (fun hc => ?_) (fun hc => ?_)
        · have hf := kIf_t hf hc
          refine kJ_iconst 104 4 d_H_outcome_103 ki_4 rfl ?_
          cases hf
          exact kJ_iret d_H_outcome_104 rfl rfl (Nat.zero_le _) (Nat.zero_le _)
        · have hf := kIf_f hf hc
          refine kJ_iconst 100 3 d_H_outcome_99 ki_3 rfl ?_
          refine kJ_goto 104 d_H_outcome_100 rfl ?_
          cases hf
          exact kJ_iret d_H_outcome_104 rfl rfl (Nat.zero_le _) (Nat.zero_le _)
    · have hf := kIf_f hf c1
      refine kJ_lookup 105 d_H_outcome_22 (by decide) ((lv_osw c0 rfl).trans ((lv_osw c1 rfl).trans rfl)) rfl ?_
      refine kJ_iload 107 1 d_H_outcome_105 rfl rfl ?_
      refine kJ_if_le 110 128 d_H_outcome_107 rfl rfl (fun hc => ?_) (fun hc => ?_)
      · have hf := kIf_t hf hc
        refine kJ_iconst 129 4 d_H_outcome_128 ki_4 rfl ?_
        cases hf
        exact kJ_iret d_H_outcome_129 rfl rfl (Nat.zero_le _) (Nat.zero_le _)
      · have hf := kIf_f hf hc
        refine kJ_aload_n 111 2 d_H_outcome_110 rfl rfl rfl rfl ?_
        refine kM_getR 114 2 (x0 + 3) d_H_outcome_111 l_H_18 k0 rfl rfl rfl rfl ?_
        refine kJ_iconst 115 0 d_H_outcome_114 ki_0 rfl ?_
        obtain ⟨hg, hf⟩ := kG_some hf
        refine kM_iald 116 6 d_H_outcome_115 (kk_1_2 k0) rfl hg rfl ?_
        refine kJ_if_ne 119 128 d_H_outcome_116 rfl rfl (fun hc => ?_) (fun hc => ?_)
        · have hf := kIf_f hf hc
          refine kJ_iconst 129 4 d_H_outcome_128 ki_4 rfl ?_
          cases hf
          exact kJ_iret d_H_outcome_129 rfl rfl (Nat.zero_le _) (Nat.zero_le _)
        · have hf := kIf_t hf hc
          refine kJ_iload 121 0 d_H_outcome_119 rfl rfl ?_
          refine kJ_if_ne 124 128 d_H_outcome_121 rfl rfl (fun hc => ?_) (fun hc => ?_)
          · have hf := kIf_f hf hc
            refine kJ_iconst 129 4 d_H_outcome_128 ki_4 rfl ?_
            cases hf
            exact kJ_iret d_H_outcome_129 rfl rfl (Nat.zero_le _) (Nat.zero_le _)
          · have hf := kIf_t hf hc
            refine kJ_iconst 125 3 d_H_outcome_124 ki_3 rfl ?_
            refine kJ_goto 129 d_H_outcome_125 rfl ?_
            cases hf
            exact kJ_iret d_H_outcome_129 rfl rfl (Nat.zero_le _) (Nat.zero_le _)
def f_I_putOff (h : kH) (x0 : Nat) : Option (kH) := kLet (hset h x0 2 0) fun h1 => kLet (hset h1 x0 5 ((h1 x0 5) + 1)) fun h2 => kLet (hfill h2 (x0 + 2) 12 (-6)) fun h3 => some h3
theorem j_I_putOff {E : kE} {L : Nat} {xs : Nat → Int32} (hro : kRo E L xs) {h : kH} {x0 : Nat} (k0 : kIs x0 3) {h' : kH} (hf : f_I_putOff h x0 = some h') : JM E m_I_putOff [.ref x0] (mk h) none (mk h') := by
  unfold f_I_putOff at hf
  refine JM.of pn_I (Nat.le_of_ble_eq_true rfl) ?_
  show kJ E m_I_putOff none (mk h') 0 0 0 [(0, .ref x0)] [] (mk h)
  refine kJ_aload_n 1 0 d_I_putOff_0 rfl rfl rfl rfl ?_
  refine kJ_iconst 2 0 d_I_putOff_1 ki_0 rfl ?_
  refine kM_put 5 d_I_putOff_2 l_I_31 k0 rfl rfl (kFit_int _) rfl ?_
  obtain ⟨h1, eh1, hf⟩ := kLet_e hf
  rw [← eh1]
  refine kJ_aload_n 6 0 d_I_putOff_5 rfl rfl rfl rfl ?_
  refine kJ_dup 7 d_I_putOff_6 rfl rfl ?_
  refine kM_getI 10 d_I_putOff_7 l_I_40 k0 rfl rfl rfl ?_
  refine kJ_iconst 11 1 d_I_putOff_10 ki_1 rfl ?_
  refine kJ_iadd 12 d_I_putOff_11 rfl ?_
  refine kM_put 15 d_I_putOff_12 l_I_40 k0 rfl rfl (kFit_int _) rfl ?_
  obtain ⟨h2, eh2, hf⟩ := kLet_e hf
  rw [← eh2]
  refine kJ_aload_n 16 0 d_I_putOff_15 rfl rfl rfl rfl ?_
  refine kM_getR 19 1 (x0 + 2) d_I_putOff_16 l_I_15 k0 rfl rfl rfl rfl ?_
  refine kJ_bipush 21 (-6) d_I_putOff_19 kb_m6 rfl ?_
  refine kM_calls 24 m_JA_fill [.ref (x0 + 2), .int (-6)] [] d_I_putOff_21 cl_I_43 w_425 rfl rfl (Nat.le_of_ble_eq_true rfl) ⟨Nat.le_of_ble_eq_true rfl, Nat.le_of_ble_eq_true rfl⟩ ⟨rfl, rfl⟩ ⟨Nat.zero_le _, Nat.zero_le _⟩ (j_JA_fill hro (kk_3_7 k0) (n := 12) rfl (by decide)) rfl ?_
  obtain ⟨h3, eh3, hf⟩ := kLet_e hf
  rw [← eh3]
  cases hf
  exact kJ_ret d_I_putOff_24 rfl (Nat.zero_le _) (Nat.zero_le _)
def f_C_closeItem (h : kH) (x0 : Nat) (x1 : Nat) : Option (Int32 × kH) := kBi (f_C_firstIn h x0 1) fun v1 => if v1 = (-6) then (some ((-5), h)) else (kG v1 12 (kBi (f_H_listen h x1 x0 (x0 + 10 + 5 * kx v1)) fun h3 => kBi (f_H_weightThere h3 x1 x0) fun v4 => kBi (f_C_isQuorum h3 x0 v4) fun v5 => if v5 = true then (kBi (f_H_tally h3 x1 x0 (x0 + 10 + 5 * kx v1)) fun h7 => kCg 0 0 6 6 6 (kLet (hcpy h7 (x1 + 3) ((x0 + 10 + 5 * kx v1) + 1) (kx 0) (kx 0) (kx 6)) fun h8 => kBi (f_H_outcome h8 x1 x0 (x0 + 10 + 5 * kx v1) 0) fun v9 => kLet (hset h8 (x0 + 10 + 5 * kx v1) 2 v9) fun h10 => some ((h10 (x0 + 10 + 5 * kx v1) 2), h10))) else (kBi (f_I_putOff h3 (x0 + 10 + 5 * kx v1)) fun h6 => some ((h6 (x0 + 10 + 5 * kx v1) 2), h6))))
theorem j_C_closeItem {E : kE} {L : Nat} {xs : Nat → Int32} (hro : kRo E L xs) {h : kH} {x0 : Nat} {x1 : Nat} (k0 : kIs x0 0) (k1 : kIs x1 1) {r : Int32} {h' : kH} (hf : f_C_closeItem h x0 x1 = some (r, h')) : JM E m_C_closeItem [.ref x0, .ref x1] (mk h) (some r) (mk h') := by
  unfold f_C_closeItem at hf
  refine JM.of pn_C (Nat.le_of_ble_eq_true rfl) ?_
  show kJ E m_C_closeItem (some r) (mk h') 0 0 0 [(0, .ref x0), (1, .ref x1)] [] (mk h)
  refine kJ_aload_n 1 0 d_C_closeItem_0 rfl rfl rfl rfl ?_
  refine kJ_iconst 2 1 d_C_closeItem_1 ki_1 rfl ?_
  obtain ⟨v1, ev1, hf⟩ := kBi_some hf
  refine kM_callv 5 m_C_firstIn [.int 1] [] d_C_closeItem_2 cl_C_144 ⟨w_549, w_28⟩ k0 ⟨rfl, by decide⟩ ⟨_, _, rfl⟩ rfl rfl (Nat.le_of_ble_eq_true rfl) ⟨Nat.le_of_ble_eq_true rfl, Nat.le_of_ble_eq_true rfl⟩ ⟨rfl, rfl⟩ ⟨Nat.zero_le _, Nat.zero_le _⟩ (j_C_firstIn hro k0 ev1) rfl ?_
  refine kJ_istore_n 6 [(2, .int v1), (0, .ref x0), (1, .ref x1)] d_C_closeItem_5 rfl (Nat.le_of_ble_eq_true rfl) rfl rfl ?_
  refine kJ_iload_n 7 0 d_C_closeItem_6 rfl rfl rfl ?_
  refine kJ_bipush 9 (-6) d_C_closeItem_7 kb_m6 rfl ?_
  refine kJ_icmp_ne 12 15 d_C_closeItem_9 rfl rfl (fun hc => ?_) (fun hc => ?_)
  · have hf := kIf_f hf hc
    refine kJ_aload_n 16 1 d_C_closeItem_15 rfl rfl rfl rfl ?_
    refine kM_getR 19 4 (x0 + 5) d_C_closeItem_16 l_C_30 k0 rfl rfl rfl rfl ?_
    refine kJ_iload_n 20 0 d_C_closeItem_19 rfl rfl rfl ?_
    obtain ⟨hg2, hf⟩ := kG_some hf
    refine kM_aald 21 12 5 5 (x0 + 10 + 5 * kx v1) d_C_closeItem_20 (kk_0_9 k0) rfl (by decide) (Or.inl rfl) hg2 (by simp only [Nat.add_assoc, kx]; try omega) rfl ?_
    refine kJ_astore_n 22 [(3, .ref (x0 + 10 + 5 * kx v1)), (2, .int v1), (0, .ref x0), (1, .ref x1)] d_C_closeItem_21 rfl (Nat.le_of_ble_eq_true rfl) rfl rfl rfl ?_
    refine kJ_aload_n 23 3 d_C_closeItem_22 rfl rfl rfl rfl ?_
    refine kJ_aload_n 24 2 d_C_closeItem_23 rfl rfl rfl rfl ?_
    refine kJ_aload_n 25 0 d_C_closeItem_24 rfl rfl rfl rfl ?_
    obtain ⟨h3, eh3, hf⟩ := kBi_some hf
    refine kM_callv 28 m_H_listen [.ref x0, .ref (x0 + 10 + 5 * kx v1)] [] d_C_closeItem_25 cl_C_134 ⟨w_526, w_23⟩ k1 ⟨rfl, by decide⟩ ⟨_, _, rfl⟩ rfl rfl (Nat.le_of_ble_eq_true rfl) ⟨Nat.le_of_ble_eq_true rfl, Nat.le_of_ble_eq_true rfl⟩ ⟨rfl, rfl⟩ ⟨Nat.zero_le _, Nat.zero_le _⟩ (j_H_listen hro k1 k0 (kC_item k0 (kIn_lt hg2)) eh3) rfl ?_
    refine kJ_aload_n 29 2 d_C_closeItem_28 rfl rfl rfl rfl ?_
    refine kJ_aload_n 30 3 d_C_closeItem_29 rfl rfl rfl rfl ?_
    refine kJ_aload_n 31 2 d_C_closeItem_30 rfl rfl rfl rfl ?_
    obtain ⟨v4, ev4, hf⟩ := kBi_some hf
    refine kM_callv 34 m_H_weightThere [.ref x0] [.ref x0] d_C_closeItem_31 cl_C_140 ⟨w_545, w_27⟩ k1 ⟨rfl, by decide⟩ ⟨_, _, rfl⟩ rfl rfl (Nat.le_of_ble_eq_true rfl) ⟨Nat.le_of_ble_eq_true rfl, Nat.le_of_ble_eq_true rfl⟩ ⟨rfl, rfl⟩ ⟨Nat.zero_le _, Nat.zero_le _⟩ (j_H_weightThere hro k1 k0 ev4) rfl ?_
    obtain ⟨v5, ev5, hf⟩ := kBi_some hf
    refine kM_callv 37 m_C_isQuorum [.int v4] [] d_C_closeItem_34 cl_C_147 ⟨w_553, w_29⟩ k0 ⟨rfl, by decide⟩ ⟨_, _, rfl⟩ rfl rfl (Nat.le_of_ble_eq_true rfl) ⟨Nat.le_of_ble_eq_true rfl, Nat.le_of_ble_eq_true rfl⟩ ⟨rfl, rfl⟩ ⟨Nat.zero_le _, Nat.zero_le _⟩ (j_C_isQuorum hro k0 ev5) rfl ?_
    refine kJ_if_eq 40 75 d_C_closeItem_37 rfl rfl (fun hc => ?_) (fun hc => ?_)
    · have hf := kIf_f hf (kB2_0 hc)
      refine kJ_aload_n 76 0 d_C_closeItem_75 rfl rfl rfl rfl ?_
      obtain ⟨h6, eh6, hf⟩ := kBi_some hf
      refine kM_callv 79 m_I_putOff [] [] d_C_closeItem_76 cl_C_164 ⟨w_593, w_37⟩ (kC_item k0 (kIn_lt hg2)) ⟨rfl, by decide⟩ ⟨_, _, rfl⟩ rfl rfl (Nat.le_of_ble_eq_true rfl) ⟨Nat.le_of_ble_eq_true rfl, Nat.le_of_ble_eq_true rfl⟩ ⟨rfl, rfl⟩ ⟨Nat.zero_le _, Nat.zero_le _⟩ (j_I_putOff hro (kC_item k0 (kIn_lt hg2)) eh6) rfl ?_
      refine kJ_aload_n 80 0 d_C_closeItem_79 rfl rfl rfl rfl ?_
      refine kM_getI 83 d_C_closeItem_80 l_C_89 (kC_item k0 (kIn_lt hg2)) rfl rfl rfl ?_
      cases hf
      exact kJ_iret d_C_closeItem_83 rfl rfl (Nat.zero_le _) (Nat.zero_le _)
    · have hf := kIf_t hf (kB2_1 hc)
      refine kJ_aload_n 41 3 d_C_closeItem_40 rfl rfl rfl rfl ?_
      refine kJ_aload_n 42 2 d_C_closeItem_41 rfl rfl rfl rfl ?_
      refine kJ_aload_n 43 0 d_C_closeItem_42 rfl rfl rfl rfl ?_
      obtain ⟨h7, eh7, hf⟩ := kBi_some hf
      refine kM_callv 46 m_H_tally [.ref x0, .ref (x0 + 10 + 5 * kx v1)] [] d_C_closeItem_43 cl_C_153 ⟨w_581, w_34⟩ k1 ⟨rfl, by decide⟩ ⟨_, _, rfl⟩ rfl rfl (Nat.le_of_ble_eq_true rfl) ⟨Nat.le_of_ble_eq_true rfl, Nat.le_of_ble_eq_true rfl⟩ ⟨rfl, rfl⟩ ⟨Nat.zero_le _, Nat.zero_le _⟩ (j_H_tally hro k1 k0 (kC_item k0 (kIn_lt hg2)) eh7) rfl ?_
      refine kJ_aload_n 47 3 d_C_closeItem_46 rfl rfl rfl rfl ?_
      refine kM_getR 50 2 (x1 + 3) d_C_closeItem_47 l_C_156 k1 rfl rfl rfl rfl ?_
      refine kJ_iconst 51 0 d_C_closeItem_50 ki_0 rfl ?_
      refine kJ_aload_n 52 0 d_C_closeItem_51 rfl rfl rfl rfl ?_
      refine kM_getR 55 0 ((x0 + 10 + 5 * kx v1) + 1) d_C_closeItem_52 l_C_159 (kC_item k0 (kIn_lt hg2)) rfl rfl rfl rfl ?_
      refine kJ_iconst 56 0 d_C_closeItem_55 ki_0 rfl ?_
      refine kJ_bipush 58 6 d_C_closeItem_56 kb_6 rfl ?_
      obtain ⟨⟨g1, g2, g3, g4, g5⟩, hf⟩ := kCg_some hf
      refine kM_copy 61 6 6 d_C_closeItem_58 cp_C_44 (kk_1_2 k1) rfl (kk_3_6 (kC_item k0 (kIn_lt hg2))) rfl g1 g2 g3 g4 g5 ⟨Nat.le_of_ble_eq_true rfl, Nat.le_of_ble_eq_true rfl⟩ rfl ?_
      obtain ⟨h8, eh8, hf⟩ := kLet_e hf
      rw [← eh8]
      refine kJ_aload_n 62 0 d_C_closeItem_61 rfl rfl rfl rfl ?_
      refine kJ_aload_n 63 3 d_C_closeItem_62 rfl rfl rfl rfl ?_
      refine kJ_aload_n 64 2 d_C_closeItem_63 rfl rfl rfl rfl ?_
      refine kJ_aload_n 65 0 d_C_closeItem_64 rfl rfl rfl rfl ?_
      refine kJ_iconst 66 0 d_C_closeItem_65 ki_0 rfl ?_
      obtain ⟨v9, ev9, hf⟩ := kBi_some hf
      refine kM_callv 69 m_H_outcome [.ref x0, .ref (x0 + 10 + 5 * kx v1), .int 0] [.ref (x0 + 10 + 5 * kx v1)] d_C_closeItem_66 cl_C_160 ⟨w_589, w_36⟩ k1 ⟨rfl, by decide⟩ ⟨_, _, rfl⟩ rfl rfl (Nat.le_of_ble_eq_true rfl) ⟨Nat.le_of_ble_eq_true rfl, Nat.le_of_ble_eq_true rfl⟩ ⟨rfl, rfl⟩ ⟨Nat.zero_le _, Nat.zero_le _⟩ (j_H_outcome hro k1 k0 (kC_item k0 (kIn_lt hg2)) ev9) rfl ?_
      refine kM_put 72 d_C_closeItem_69 l_C_89 (kC_item k0 (kIn_lt hg2)) rfl rfl (kFit_int _) rfl ?_
      obtain ⟨h10, eh10, hf⟩ := kLet_e hf
      rw [← eh10]
      refine kJ_goto 79 d_C_closeItem_72 rfl ?_
      refine kJ_aload_n 80 0 d_C_closeItem_79 rfl rfl rfl rfl ?_
      refine kM_getI 83 d_C_closeItem_80 l_C_89 (kC_item k0 (kIn_lt hg2)) rfl rfl rfl ?_
      cases hf
      exact kJ_iret d_C_closeItem_83 rfl rfl (Nat.zero_le _) (Nat.zero_le _)
  · have hf := kIf_t hf hc
    refine kJ_bipush 14 (-5) d_C_closeItem_12 kb_m5 rfl ?_
    cases hf
    exact kJ_iret d_C_closeItem_14 rfl rfl (Nat.zero_le _) (Nat.zero_le _)
def f_P_close (h : kH) : Option (Int32 × kH) := kBi (f_Y_note h 145 1) fun h1 => kBd (f_C_closeItem h1 1 141) fun v3 h2 => kBd (f_Y_settle h2 145 v3) fun v5 h4 => some (v5, h4)
theorem j_P_close {E : kE} {L : Nat} {xs : Nat → Int32} (hro : kRo E L xs) {h : kH} {r : Int32} {h' : kH} (hf : f_P_close h = some (r, h')) : JM E m_P_close [.ref 0] (mk h) (some r) (mk h') := by
  unfold f_P_close at hf
  refine JM.of pn_P (Nat.le_of_ble_eq_true rfl) ?_
  show kJ E m_P_close (some r) (mk h') 0 0 0 [(0, .ref 0)] [] (mk h)
  refine kJ_aload_n 1 0 d_P_close_0 rfl rfl rfl rfl ?_
  refine kM_getR 4 144 145 d_P_close_1 l_P_29 kp_0 rfl rfl rfl rfl ?_
  refine kJ_aload_n 5 0 d_P_close_4 rfl rfl rfl rfl ?_
  refine kM_getR 8 0 1 d_P_close_5 l_P_10 kp_0 rfl rfl rfl rfl ?_
  obtain ⟨h1, eh1, hf⟩ := kBi_some hf
  refine kM_callv 11 m_Y_note [.ref 1] [] d_P_close_8 cl_P_55 ⟨w_372, w_0⟩ kp_145 ⟨rfl, by decide⟩ ⟨_, _, rfl⟩ rfl rfl (Nat.le_of_ble_eq_true rfl) ⟨Nat.le_of_ble_eq_true rfl, Nat.le_of_ble_eq_true rfl⟩ ⟨rfl, rfl⟩ ⟨Nat.zero_le _, Nat.zero_le _⟩ (j_Y_note hro kp_145 kp_1 eh1) rfl ?_
  refine kJ_aload_n 12 0 d_P_close_11 rfl rfl rfl rfl ?_
  refine kM_getR 15 144 145 d_P_close_12 l_P_29 kp_0 rfl rfl rfl rfl ?_
  refine kJ_aload_n 16 0 d_P_close_15 rfl rfl rfl rfl ?_
  refine kM_getR 19 0 1 d_P_close_16 l_P_10 kp_0 rfl rfl rfl rfl ?_
  refine kJ_aload_n 20 0 d_P_close_19 rfl rfl rfl rfl ?_
  refine kM_getR 23 140 141 d_P_close_20 l_P_22 kp_0 rfl rfl rfl rfl ?_
  obtain ⟨v3, h2, ev3, hf⟩ := kBd_some hf
  refine kM_callv 26 m_C_closeItem [.ref 141] [.ref 145] d_P_close_23 cl_P_102 ⟨w_577, w_33⟩ kp_1 ⟨rfl, by decide⟩ ⟨_, _, rfl⟩ rfl rfl (Nat.le_of_ble_eq_true rfl) ⟨Nat.le_of_ble_eq_true rfl, Nat.le_of_ble_eq_true rfl⟩ ⟨rfl, rfl⟩ ⟨Nat.zero_le _, Nat.zero_le _⟩ (j_C_closeItem hro kp_1 kp_141 ev3) rfl ?_
  obtain ⟨v5, h4, ev5, hf⟩ := kBd_some hf
  refine kM_callv 29 m_Y_settle [.int v3] [] d_P_close_26 cl_P_63 ⟨w_396, w_5⟩ kp_145 ⟨rfl, by decide⟩ ⟨_, _, rfl⟩ rfl rfl (Nat.le_of_ble_eq_true rfl) ⟨Nat.le_of_ble_eq_true rfl, Nat.le_of_ble_eq_true rfl⟩ ⟨rfl, rfl⟩ ⟨Nat.zero_le _, Nat.zero_le _⟩ (j_Y_settle hro kp_145 ev5) rfl ?_
  cases hf
  exact kJ_iret d_P_close_29 rfl rfl (Nat.zero_le _) (Nat.zero_le _)
def b_C_chairOfTheMoment_27 (h : kH) (x0 : Nat) : Nat → Int32 → Option Int32
  | 0, _ => none
  | n + 1, x1 => (fun rec27 => if (h x0 1) ≤ x1 then (some (-6)) else (if (f_C_isPresent h x0 x1) = true then (some x1) else (rec27 (x1 + 1)))) (fun x1' => b_C_chairOfTheMoment_27 h x0 n x1')
theorem c_C_chairOfTheMoment_27 {E : kE} {L : Nat} {xs : Nat → Int32} (hro : kRo E L xs) {h : kH} {x0 : Nat} (k0 : kIs x0 0) {r : Int32} : ∀ (n : Nat) (x1 : Int32), b_C_chairOfTheMoment_27 h x0 n x1 = some r → kJ E m_C_chairOfTheMoment (some r) (mk h) 0 0 27 [(0, .ref x0), (1, .int x1)] [] (mk h) := by
  intro n
  induction n with
  | zero =>
    intro x1 hf
    have hf : (none : Option Int32) = some r := hf
    cases hf
  | succ n hrec27 =>
    intro x1 hf
    rw [b_C_chairOfTheMoment_27] at hf
    dsimp only at hf
    refine kJ_iload_n 28 1 d_C_chairOfTheMoment_27 rfl rfl rfl ?_
    refine kJ_aload_n 29 0 d_C_chairOfTheMoment_28 rfl rfl rfl rfl ?_
    refine kM_getI 32 d_C_chairOfTheMoment_29 l_C_54 k0 rfl rfl rfl ?_
    refine kJ_icmp_ge 35 51 d_C_chairOfTheMoment_32 rfl rfl (fun hc => ?_) (fun hc => ?_)
    · have hf := kIf_t hf hc
      refine kJ_bipush 53 (-6) d_C_chairOfTheMoment_51 kb_m6 rfl ?_
      cases hf
      exact kJ_iret d_C_chairOfTheMoment_53 rfl rfl (Nat.zero_le _) (Nat.zero_le _)
    · have hf := kIf_f hf hc
      refine kJ_aload_n 36 0 d_C_chairOfTheMoment_35 rfl rfl rfl rfl ?_
      refine kJ_iload_n 37 1 d_C_chairOfTheMoment_36 rfl rfl rfl ?_
      refine kM_callv 40 m_C_isPresent [.int x1] [] d_C_chairOfTheMoment_37 cl_C_76 ⟨w_449, w_12⟩ k0 ⟨rfl, by decide⟩ ⟨_, _, rfl⟩ rfl rfl (Nat.le_of_ble_eq_true rfl) ⟨Nat.le_of_ble_eq_true rfl, Nat.le_of_ble_eq_true rfl⟩ ⟨rfl, rfl⟩ ⟨Nat.zero_le _, Nat.zero_le _⟩ (j_C_isPresent hro k0 rfl) rfl ?_
      refine kJ_if_eq 43 45 d_C_chairOfTheMoment_40 rfl rfl (fun hc => ?_) (fun hc => ?_)
      · have hf := kIf_f hf (kB2_0 hc)
        refine kJ_iinc 48 1 [(1, .int (x1 + 1)), (0, .ref x0)] d_C_chairOfTheMoment_45 rfl ki_1 (Nat.le_of_ble_eq_true rfl) rfl rfl ?_
        refine kJ_goto 27 d_C_chairOfTheMoment_48 rfl ?_
        refine kJ_sub [1, 0] rfl ?_
        exact hrec27 (x1 + 1) hf
      · have hf := kIf_t hf (kB2_1 hc)
        refine kJ_iload_n 44 1 d_C_chairOfTheMoment_43 rfl rfl rfl ?_
        cases hf
        exact kJ_iret d_C_chairOfTheMoment_44 rfl rfl (Nat.zero_le _) (Nat.zero_le _)
def f_C_chairOfTheMoment (h : kH) (x0 : Nat) : Option Int32 := if (h x0 4) = (-6) then (b_C_chairOfTheMoment_27 h x0 kFuel 0) else (if (f_C_isPresent h x0 (h x0 4)) = true then (some (h x0 4)) else (b_C_chairOfTheMoment_27 h x0 kFuel 0))
theorem j_C_chairOfTheMoment {E : kE} {L : Nat} {xs : Nat → Int32} (hro : kRo E L xs) {h : kH} {x0 : Nat} (k0 : kIs x0 0) {r : Int32} (hf : f_C_chairOfTheMoment h x0 = some r) : JM E m_C_chairOfTheMoment [.ref x0] (mk h) (some r) (mk h) := by
  unfold f_C_chairOfTheMoment at hf
  refine JM.of pn_C (Nat.le_of_ble_eq_true rfl) ?_
  show kJ E m_C_chairOfTheMoment (some r) (mk h) 0 0 0 [(0, .ref x0)] [] (mk h)
  refine kJ_aload_n 1 0 d_C_chairOfTheMoment_0 rfl rfl rfl rfl ?_
  refine kM_getI 4 d_C_chairOfTheMoment_1 l_C_9 k0 rfl rfl rfl ?_
  refine kJ_bipush 6 (-6) d_C_chairOfTheMoment_4 kb_m6 rfl ?_
  refine kJ_icmp_eq 9 25 d_C_chairOfTheMoment_6 rfl rfl (fun hc => ?_) (fun hc => ?_)
  · have hf := kIf_t hf hc
    refine kJ_iconst 26 0 d_C_chairOfTheMoment_25 ki_0 rfl ?_
    refine kJ_istore_n 27 [(1, .int 0), (0, .ref x0)] d_C_chairOfTheMoment_26 rfl (Nat.le_of_ble_eq_true rfl) rfl rfl ?_
    refine kJ_sub [1, 0] rfl ?_
    exact c_C_chairOfTheMoment_27 hro k0 kFuel 0 hf
  · have hf := kIf_f hf hc
    refine kJ_aload_n 10 0 d_C_chairOfTheMoment_9 rfl rfl rfl rfl ?_
    refine kJ_aload_n 11 0 d_C_chairOfTheMoment_10 rfl rfl rfl rfl ?_
    refine kM_getI 14 d_C_chairOfTheMoment_11 l_C_9 k0 rfl rfl rfl ?_
    refine kM_callv 17 m_C_isPresent [.int (h x0 4)] [] d_C_chairOfTheMoment_14 cl_C_76 ⟨w_449, w_12⟩ k0 ⟨rfl, by decide⟩ ⟨_, _, rfl⟩ rfl rfl (Nat.le_of_ble_eq_true rfl) ⟨Nat.le_of_ble_eq_true rfl, Nat.le_of_ble_eq_true rfl⟩ ⟨rfl, rfl⟩ ⟨Nat.zero_le _, Nat.zero_le _⟩ (j_C_isPresent hro k0 rfl) rfl ?_
    refine kJ_if_eq 20 25 d_C_chairOfTheMoment_17 rfl rfl (fun hc => ?_) (fun hc => ?_)
    · have hf := kIf_f hf (kB2_0 hc)
      refine kJ_iconst 26 0 d_C_chairOfTheMoment_25 ki_0 rfl ?_
      refine kJ_istore_n 27 [(1, .int 0), (0, .ref x0)] d_C_chairOfTheMoment_26 rfl (Nat.le_of_ble_eq_true rfl) rfl rfl ?_
      refine kJ_sub [1, 0] rfl ?_
      exact c_C_chairOfTheMoment_27 hro k0 kFuel 0 hf
    · have hf := kIf_t hf (kB2_1 hc)
      refine kJ_aload_n 21 0 d_C_chairOfTheMoment_20 rfl rfl rfl rfl ?_
      refine kM_getI 24 d_C_chairOfTheMoment_21 l_C_9 k0 rfl rfl rfl ?_
      cases hf
      exact kJ_iret d_C_chairOfTheMoment_24 rfl rfl (Nat.zero_le _) (Nat.zero_le _)
def b_C_breakTie_69 (h : kH) (x0 : Nat) (x2 : Int32) (x3 : Int32) (s0 : Nat) (s1 : Int32) : Option (Int32 × kH) := kLet (hset h s0 2 s1) fun h6 => kG x2 12 (kLet (hset h6 (x0 + 10 + 5 * kx x2) 4 x3) fun h8 => kG x2 12 (some ((h8 (x0 + 10 + 5 * kx x2) 2), h8)))
theorem c_C_breakTie_69 {E : kE} {L : Nat} {xs : Nat → Int32} (hro : kRo E L xs) {h : kH} {x0 : Nat} {x2 : Int32} {x3 : Int32} {s0 : Nat} {s1 : Int32} (k0 : kIs x0 0) (ks0 : kIs s0 3) {r : Int32} {h' : kH} (hf : b_C_breakTie_69 h x0 x2 x3 s0 s1 = some (r, h')) : kJ E m_C_breakTie (some r) (mk h') 0 0 69 [(0, .ref x0), (2, .int x2), (3, .int x3)] [.int s1, .ref s0] (mk h) := by
  unfold b_C_breakTie_69 at hf
  refine kM_put 72 d_C_breakTie_69 l_C_89 ks0 rfl rfl (kFit_int _) rfl ?_
  obtain ⟨h6, eh6, hf⟩ := kLet_e hf
  rw [← eh6]
  refine kJ_aload_n 73 0 d_C_breakTie_72 rfl rfl rfl rfl ?_
  refine kM_getR 76 4 (x0 + 5) d_C_breakTie_73 l_C_30 k0 rfl rfl rfl rfl ?_
  refine kJ_iload_n 77 1 d_C_breakTie_76 rfl rfl rfl ?_
  obtain ⟨hg7, hf⟩ := kG_some hf
  refine kM_aald 78 12 5 5 (x0 + 10 + 5 * kx x2) d_C_breakTie_77 (kk_0_9 k0) rfl (by decide) (Or.inl rfl) hg7 (by simp only [Nat.add_assoc, kx]; try omega) rfl ?_
  refine kJ_iload_n 79 2 d_C_breakTie_78 rfl rfl rfl ?_
  refine kM_put 82 d_C_breakTie_79 l_C_95 (kC_item k0 (kIn_lt hg7)) rfl rfl (kFit_int _) rfl ?_
  obtain ⟨h8, eh8, hf⟩ := kLet_e hf
  rw [← eh8]
  refine kJ_aload_n 83 0 d_C_breakTie_82 rfl rfl rfl rfl ?_
  refine kM_getR 86 4 (x0 + 5) d_C_breakTie_83 l_C_30 k0 rfl rfl rfl rfl ?_
  refine kJ_iload_n 87 1 d_C_breakTie_86 rfl rfl rfl ?_
  obtain ⟨hg9, hf⟩ := kG_some hf
  refine kM_aald 88 12 5 5 (x0 + 10 + 5 * kx x2) d_C_breakTie_87 (kk_0_9 k0) rfl (by decide) (Or.inl rfl) hg9 (by simp only [Nat.add_assoc, kx]; try omega) rfl ?_
  refine kM_getI 91 d_C_breakTie_88 l_C_89 (kC_item k0 (kIn_lt hg9)) rfl rfl rfl ?_
  cases hf
  exact kJ_iret d_C_breakTie_91 rfl rfl (Nat.zero_le _) (Nat.zero_le _)
def b_C_breakTie_13 (h : kH) (x0 : Nat) (x1 : Int32) : Option (Int32 × kH) := kBi (f_C_firstIn h x0 2) fun v1 => kBi (f_C_chairOfTheMoment h x0) fun v2 => if v1 = (-6) then (some ((-5), h)) else (if v2 = (-6) then (some ((-5), h)) else (kG v1 12 (kBi (f_C_isRecused h x0 v2 (x0 + 10 + 5 * kx v1)) fun v4 => if v4 = true then (some ((-5), h)) else (kG v1 12 (if x1 = 1 then (b_C_breakTie_69 h x0 v1 v2 (x0 + 10 + 5 * kx v1) 3) else (b_C_breakTie_69 h x0 v1 v2 (x0 + 10 + 5 * kx v1) 4))))))
theorem c_C_breakTie_13 {E : kE} {L : Nat} {xs : Nat → Int32} (hro : kRo E L xs) {h : kH} {x0 : Nat} {x1 : Int32} (k0 : kIs x0 0) {r : Int32} {h' : kH} (hf : b_C_breakTie_13 h x0 x1 = some (r, h')) : kJ E m_C_breakTie (some r) (mk h') 0 0 13 [(0, .ref x0), (1, .int x1)] [] (mk h) := by
  unfold b_C_breakTie_13 at hf
  refine kJ_aload_n 14 0 d_C_breakTie_13 rfl rfl rfl rfl ?_
  refine kJ_iconst 15 2 d_C_breakTie_14 ki_2 rfl ?_
  obtain ⟨v1, ev1, hf⟩ := kBi_some hf
  refine kM_callv 18 m_C_firstIn [.int 2] [] d_C_breakTie_15 cl_C_144 ⟨w_549, w_28⟩ k0 ⟨rfl, by decide⟩ ⟨_, _, rfl⟩ rfl rfl (Nat.le_of_ble_eq_true rfl) ⟨Nat.le_of_ble_eq_true rfl, Nat.le_of_ble_eq_true rfl⟩ ⟨rfl, rfl⟩ ⟨Nat.zero_le _, Nat.zero_le _⟩ (j_C_firstIn hro k0 ev1) rfl ?_
  refine kJ_istore_n 19 [(2, .int v1), (0, .ref x0), (1, .int x1)] d_C_breakTie_18 rfl (Nat.le_of_ble_eq_true rfl) rfl rfl ?_
  refine kJ_aload_n 20 1 d_C_breakTie_19 rfl rfl rfl rfl ?_
  obtain ⟨v2, ev2, hf⟩ := kBi_some hf
  refine kM_callv 23 m_C_chairOfTheMoment [] [] d_C_breakTie_20 cl_C_167 ⟨w_605, w_39⟩ k0 ⟨rfl, by decide⟩ ⟨_, _, rfl⟩ rfl rfl (Nat.le_of_ble_eq_true rfl) ⟨Nat.le_of_ble_eq_true rfl, Nat.le_of_ble_eq_true rfl⟩ ⟨rfl, rfl⟩ ⟨Nat.zero_le _, Nat.zero_le _⟩ (j_C_chairOfTheMoment hro k0 ev2) rfl ?_
  refine kJ_istore_n 24 [(3, .int v2), (2, .int v1), (0, .ref x0), (1, .int x1)] d_C_breakTie_23 rfl (Nat.le_of_ble_eq_true rfl) rfl rfl ?_
  refine kJ_iload_n 25 1 d_C_breakTie_24 rfl rfl rfl ?_
  refine kJ_bipush 27 (-6) d_C_breakTie_25 kb_m6 rfl ?_
  refine kJ_icmp_eq 30 50 d_C_breakTie_27 rfl rfl (fun hc => ?_) (fun hc => ?_)
  · have hf := kIf_t hf hc
    refine kJ_bipush 52 (-5) d_C_breakTie_50 kb_m5 rfl ?_
    cases hf
    exact kJ_iret d_C_breakTie_52 rfl rfl (Nat.zero_le _) (Nat.zero_le _)
  · have hf := kIf_f hf hc
    refine kJ_iload_n 31 0 d_C_breakTie_30 rfl rfl rfl ?_
    refine kJ_bipush 33 (-6) d_C_breakTie_31 kb_m6 rfl ?_
    refine kJ_icmp_eq 36 50 d_C_breakTie_33 rfl rfl (fun hc => ?_) (fun hc => ?_)
    · have hf := kIf_t hf hc
      refine kJ_bipush 52 (-5) d_C_breakTie_50 kb_m5 rfl ?_
      cases hf
      exact kJ_iret d_C_breakTie_52 rfl rfl (Nat.zero_le _) (Nat.zero_le _)
    · have hf := kIf_f hf hc
      refine kJ_aload_n 37 2 d_C_breakTie_36 rfl rfl rfl rfl ?_
      refine kJ_iload_n 38 0 d_C_breakTie_37 rfl rfl rfl ?_
      refine kJ_aload_n 39 2 d_C_breakTie_38 rfl rfl rfl rfl ?_
      refine kM_getR 42 4 (x0 + 5) d_C_breakTie_39 l_C_30 k0 rfl rfl rfl rfl ?_
      refine kJ_iload_n 43 1 d_C_breakTie_42 rfl rfl rfl ?_
      obtain ⟨hg3, hf⟩ := kG_some hf
      refine kM_aald 44 12 5 5 (x0 + 10 + 5 * kx v1) d_C_breakTie_43 (kk_0_9 k0) rfl (by decide) (Or.inl rfl) hg3 (by simp only [Nat.add_assoc, kx]; try omega) rfl ?_
      obtain ⟨v4, ev4, hf⟩ := kBi_some hf
      refine kM_callv 47 m_C_isRecused [.int v2, .ref (x0 + 10 + 5 * kx v1)] [] d_C_breakTie_44 cl_C_80 ⟨w_514, w_21⟩ k0 ⟨rfl, by decide⟩ ⟨_, _, rfl⟩ rfl rfl (Nat.le_of_ble_eq_true rfl) ⟨Nat.le_of_ble_eq_true rfl, Nat.le_of_ble_eq_true rfl⟩ ⟨rfl, rfl⟩ ⟨Nat.zero_le _, Nat.zero_le _⟩ (j_C_isRecused hro k0 (kC_item k0 (kIn_lt hg3)) ev4) rfl ?_
      refine kJ_if_eq 50 53 d_C_breakTie_47 rfl rfl (fun hc => ?_) (fun hc => ?_)
      · have hf := kIf_f hf (kB2_0 hc)
        refine kJ_aload_n 54 2 d_C_breakTie_53 rfl rfl rfl rfl ?_
        refine kM_getR 57 4 (x0 + 5) d_C_breakTie_54 l_C_30 k0 rfl rfl rfl rfl ?_
        refine kJ_iload_n 58 1 d_C_breakTie_57 rfl rfl rfl ?_
        obtain ⟨hg5, hf⟩ := kG_some hf
        refine kM_aald 59 12 5 5 (x0 + 10 + 5 * kx v1) d_C_breakTie_58 (kk_0_9 k0) rfl (by decide) (Or.inl rfl) hg5 (by simp only [Nat.add_assoc, kx]; try omega) rfl ?_
        refine kJ_iload_n 60 3 d_C_breakTie_59 rfl rfl rfl ?_
        refine kJ_iconst 61 1 d_C_breakTie_60 ki_1 rfl ?_
        refine kJ_icmp_ne 64 68 d_C_breakTie_61 rfl rfl (fun hc => ?_) (fun hc => ?_)
        · have hf := kIf_f hf hc
          refine kJ_iconst 69 4 d_C_breakTie_68 ki_4 rfl ?_
          refine kJ_sub [2, 1, 0] rfl ?_
          exact c_C_breakTie_69 hro k0 (kC_item k0 (kIn_lt hg5)) hf
        · have hf := kIf_t hf hc
          refine kJ_iconst 65 3 d_C_breakTie_64 ki_3 rfl ?_
          refine kJ_goto 69 d_C_breakTie_65 rfl ?_
          refine kJ_sub [2, 1, 0] rfl ?_
          exact c_C_breakTie_69 hro k0 (kC_item k0 (kIn_lt hg5)) hf
      · have hf := kIf_t hf (kB2_1 hc)
        refine kJ_bipush 52 (-5) d_C_breakTie_50 kb_m5 rfl ?_
        cases hf
        exact kJ_iret d_C_breakTie_52 rfl rfl (Nat.zero_le _) (Nat.zero_le _)
def f_C_breakTie (h : kH) (x0 : Nat) (x1 : Int32) : Option (Int32 × kH) := if x1 = 1 then (b_C_breakTie_13 h x0 x1) else (if x1 = 2 then (b_C_breakTie_13 h x0 x1) else (some ((-2), h)))
theorem j_C_breakTie {E : kE} {L : Nat} {xs : Nat → Int32} (hro : kRo E L xs) {h : kH} {x0 : Nat} {x1 : Int32} (k0 : kIs x0 0) {r : Int32} {h' : kH} (hf : f_C_breakTie h x0 x1 = some (r, h')) : JM E m_C_breakTie [.ref x0, .int x1] (mk h) (some r) (mk h') := by
  unfold f_C_breakTie at hf
  refine JM.of pn_C (Nat.le_of_ble_eq_true rfl) ?_
  show kJ E m_C_breakTie (some r) (mk h') 0 0 0 [(0, .ref x0), (1, .int x1)] [] (mk h)
  refine kJ_iload_n 1 1 d_C_breakTie_0 rfl rfl rfl ?_
  refine kJ_iconst 2 1 d_C_breakTie_1 ki_1 rfl ?_
  refine kJ_icmp_eq 5 13 d_C_breakTie_2 rfl rfl (fun hc => ?_) (fun hc => ?_)
  · have hf := kIf_t hf hc
    refine kJ_sub [0, 1] rfl ?_
    exact c_C_breakTie_13 hro k0 hf
  · have hf := kIf_f hf hc
    refine kJ_iload_n 6 1 d_C_breakTie_5 rfl rfl rfl ?_
    refine kJ_iconst 7 2 d_C_breakTie_6 ki_2 rfl ?_
    refine kJ_icmp_eq 10 13 d_C_breakTie_7 rfl rfl (fun hc => ?_) (fun hc => ?_)
    · have hf := kIf_t hf hc
      refine kJ_sub [0, 1] rfl ?_
      exact c_C_breakTie_13 hro k0 hf
    · have hf := kIf_f hf hc
      refine kJ_bipush 12 (-2) d_C_breakTie_10 kb_m2 rfl ?_
      cases hf
      exact kJ_iret d_C_breakTie_12 rfl rfl (Nat.zero_le _) (Nat.zero_le _)
def f_P_cast (h : kH) (x1 : Int32) : Option (Int32 × kH) := kBi (f_Y_note h 145 1) fun h1 => kBd (f_C_breakTie h1 1 x1) fun v3 h2 => kBd (f_Y_settle h2 145 v3) fun v5 h4 => some (v5, h4)
theorem j_P_cast {E : kE} {L : Nat} {xs : Nat → Int32} (hro : kRo E L xs) {h : kH} {x1 : Int32} {r : Int32} {h' : kH} (hf : f_P_cast h x1 = some (r, h')) : JM E m_P_cast [.ref 0, .int x1] (mk h) (some r) (mk h') := by
  unfold f_P_cast at hf
  refine JM.of pn_P (Nat.le_of_ble_eq_true rfl) ?_
  show kJ E m_P_cast (some r) (mk h') 0 0 0 [(0, .ref 0), (1, .int x1)] [] (mk h)
  refine kJ_aload_n 1 0 d_P_cast_0 rfl rfl rfl rfl ?_
  refine kM_getR 4 144 145 d_P_cast_1 l_P_29 kp_0 rfl rfl rfl rfl ?_
  refine kJ_aload_n 5 0 d_P_cast_4 rfl rfl rfl rfl ?_
  refine kM_getR 8 0 1 d_P_cast_5 l_P_10 kp_0 rfl rfl rfl rfl ?_
  obtain ⟨h1, eh1, hf⟩ := kBi_some hf
  refine kM_callv 11 m_Y_note [.ref 1] [] d_P_cast_8 cl_P_55 ⟨w_372, w_0⟩ kp_145 ⟨rfl, by decide⟩ ⟨_, _, rfl⟩ rfl rfl (Nat.le_of_ble_eq_true rfl) ⟨Nat.le_of_ble_eq_true rfl, Nat.le_of_ble_eq_true rfl⟩ ⟨rfl, rfl⟩ ⟨Nat.zero_le _, Nat.zero_le _⟩ (j_Y_note hro kp_145 kp_1 eh1) rfl ?_
  refine kJ_aload_n 12 0 d_P_cast_11 rfl rfl rfl rfl ?_
  refine kM_getR 15 144 145 d_P_cast_12 l_P_29 kp_0 rfl rfl rfl rfl ?_
  refine kJ_aload_n 16 0 d_P_cast_15 rfl rfl rfl rfl ?_
  refine kM_getR 19 0 1 d_P_cast_16 l_P_10 kp_0 rfl rfl rfl rfl ?_
  refine kJ_iload_n 20 1 d_P_cast_19 rfl rfl rfl ?_
  obtain ⟨v3, h2, ev3, hf⟩ := kBd_some hf
  refine kM_callv 23 m_C_breakTie [.int x1] [.ref 145] d_P_cast_20 cl_P_106 ⟨w_601, w_38⟩ kp_1 ⟨rfl, by decide⟩ ⟨_, _, rfl⟩ rfl rfl (Nat.le_of_ble_eq_true rfl) ⟨Nat.le_of_ble_eq_true rfl, Nat.le_of_ble_eq_true rfl⟩ ⟨rfl, rfl⟩ ⟨Nat.zero_le _, Nat.zero_le _⟩ (j_C_breakTie hro kp_1 ev3) rfl ?_
  obtain ⟨v5, h4, ev5, hf⟩ := kBd_some hf
  refine kM_callv 26 m_Y_settle [.int v3] [] d_P_cast_23 cl_P_63 ⟨w_396, w_5⟩ kp_145 ⟨rfl, by decide⟩ ⟨_, _, rfl⟩ rfl rfl (Nat.le_of_ble_eq_true rfl) ⟨Nat.le_of_ble_eq_true rfl, Nat.le_of_ble_eq_true rfl⟩ ⟨rfl, rfl⟩ ⟨Nat.zero_le _, Nat.zero_le _⟩ (j_Y_settle hro kp_145 ev5) rfl ?_
  cases hf
  exact kJ_iret d_P_cast_26 rfl rfl (Nat.zero_le _) (Nat.zero_le _)
def b_V_next_5 (h : kH) (x0 : Nat) : Nat → Int32 → Int32 → Option Int32
  | 0, _, _ => none
  | n + 1, x1, x2 => (fun rec5 => if (h x0 0) ≤ x2 then (some x1) else (if x1 = (-6) then (rec5 x2 (x2 + 1)) else (kG x2 20 (kG x1 20 (if (h (x0 + 1) (kx x1)) ≤ (h (x0 + 1) (kx x2)) then (rec5 x1 (x2 + 1)) else (rec5 x2 (x2 + 1))))))) (fun x1' x2' => b_V_next_5 h x0 n x1' x2')
theorem c_V_next_5 {E : kE} {L : Nat} {xs : Nat → Int32} (hro : kRo E L xs) {h : kH} {x0 : Nat} (k0 : kIs x0 4) {r : Int32} : ∀ (n : Nat) (x1 : Int32) (x2 : Int32), b_V_next_5 h x0 n x1 x2 = some r → kJ E m_V_next (some r) (mk h) 0 0 5 [(0, .ref x0), (1, .int x1), (2, .int x2)] [] (mk h) := by
  intro n
  induction n with
  | zero =>
    intro x1 x2 hf
    have hf : (none : Option Int32) = some r := hf
    cases hf
  | succ n hrec5 =>
    intro x1 x2 hf
    rw [b_V_next_5] at hf
    dsimp only at hf
    refine kJ_iload_n 6 2 d_V_next_5 rfl rfl rfl ?_
    refine kJ_aload_n 7 0 d_V_next_6 rfl rfl rfl rfl ?_
    refine kM_getI 10 d_V_next_7 l_V_21 k0 rfl rfl rfl ?_
    refine kJ_icmp_ge 13 42 d_V_next_10 rfl rfl (fun hc => ?_) (fun hc => ?_)
    · have hf := kIf_t hf hc
      refine kJ_iload_n 43 1 d_V_next_42 rfl rfl rfl ?_
      cases hf
      exact kJ_iret d_V_next_43 rfl rfl (Nat.zero_le _) (Nat.zero_le _)
    · have hf := kIf_f hf hc
      refine kJ_iload_n 14 1 d_V_next_13 rfl rfl rfl ?_
      refine kJ_bipush 16 (-6) d_V_next_14 kb_m6 rfl ?_
      refine kJ_icmp_eq 19 34 d_V_next_16 rfl rfl (fun hc => ?_) (fun hc => ?_)
      · have hf := kIf_t hf hc
        refine kJ_iload_n 35 2 d_V_next_34 rfl rfl rfl ?_
        refine kJ_istore_n 36 [(1, .int x2), (0, .ref x0), (2, .int x2)] d_V_next_35 rfl (Nat.le_of_ble_eq_true rfl) rfl rfl ?_
        refine kJ_iinc 39 2 [(2, .int (x2 + 1)), (1, .int x2), (0, .ref x0)] d_V_next_36 rfl ki_1 (Nat.le_of_ble_eq_true rfl) rfl rfl ?_
        refine kJ_goto 5 d_V_next_39 rfl ?_
        refine kJ_sub [2, 1, 0] rfl ?_
        exact hrec5 x2 (x2 + 1) hf
      · have hf := kIf_f hf hc
        refine kJ_aload_n 20 0 d_V_next_19 rfl rfl rfl rfl ?_
        refine kM_getR 23 0 (x0 + 1) d_V_next_20 l_V_9 k0 rfl rfl rfl rfl ?_
        refine kJ_iload_n 24 2 d_V_next_23 rfl rfl rfl ?_
        obtain ⟨hg, hf⟩ := kG_some hf
        refine kM_iald 25 20 d_V_next_24 (kk_4_1 k0) rfl hg rfl ?_
        refine kJ_aload_n 26 0 d_V_next_25 rfl rfl rfl rfl ?_
        refine kM_getR 29 0 (x0 + 1) d_V_next_26 l_V_9 k0 rfl rfl rfl rfl ?_
        refine kJ_iload_n 30 1 d_V_next_29 rfl rfl rfl ?_
        obtain ⟨hg, hf⟩ := kG_some hf
        refine kM_iald 31 20 d_V_next_30 (kk_4_1 k0) rfl hg rfl ?_
        refine kJ_icmp_ge 34 36 d_V_next_31 rfl rfl (fun hc => ?_) (fun hc => ?_)
        · have hf := kIf_t hf hc
          refine kJ_iinc 39 2 [(2, .int (x2 + 1)), (0, .ref x0), (1, .int x1)] d_V_next_36 rfl ki_1 (Nat.le_of_ble_eq_true rfl) rfl rfl ?_
          refine kJ_goto 5 d_V_next_39 rfl ?_
          refine kJ_sub [1, 2, 0] rfl ?_
          exact hrec5 x1 (x2 + 1) hf
        · have hf := kIf_f hf hc
          refine kJ_iload_n 35 2 d_V_next_34 rfl rfl rfl ?_
          refine kJ_istore_n 36 [(1, .int x2), (0, .ref x0), (2, .int x2)] d_V_next_35 rfl (Nat.le_of_ble_eq_true rfl) rfl rfl ?_
          refine kJ_iinc 39 2 [(2, .int (x2 + 1)), (1, .int x2), (0, .ref x0)] d_V_next_36 rfl ki_1 (Nat.le_of_ble_eq_true rfl) rfl rfl ?_
          refine kJ_goto 5 d_V_next_39 rfl ?_
          refine kJ_sub [2, 1, 0] rfl ?_
          exact hrec5 x2 (x2 + 1) hf
def f_V_next (h : kH) (x0 : Nat) : Option Int32 := b_V_next_5 h x0 kFuel (-6) 0
theorem j_V_next {E : kE} {L : Nat} {xs : Nat → Int32} (hro : kRo E L xs) {h : kH} {x0 : Nat} (k0 : kIs x0 4) {r : Int32} (hf : f_V_next h x0 = some r) : JM E m_V_next [.ref x0] (mk h) (some r) (mk h) := by
  unfold f_V_next at hf
  refine JM.of pn_V (Nat.le_of_ble_eq_true rfl) ?_
  show kJ E m_V_next (some r) (mk h) 0 0 0 [(0, .ref x0)] [] (mk h)
  refine kJ_bipush 2 (-6) d_V_next_0 kb_m6 rfl ?_
  refine kJ_istore_n 3 [(1, .int (-6)), (0, .ref x0)] d_V_next_2 rfl (Nat.le_of_ble_eq_true rfl) rfl rfl ?_
  refine kJ_iconst 4 0 d_V_next_3 ki_0 rfl ?_
  refine kJ_istore_n 5 [(2, .int 0), (1, .int (-6)), (0, .ref x0)] d_V_next_4 rfl (Nat.le_of_ble_eq_true rfl) rfl rfl ?_
  refine kJ_sub [2, 1, 0] rfl ?_
  exact c_V_next_5 hro k0 kFuel (-6) 0 hf
def f_V_drop (h : kH) (x0 : Nat) (x1 : Int32) : Option (kH) := kCg (x1 + 1) x1 (((h x0 0) - x1) - 1) 20 20 (kLet (hcpy h (x0 + 1) (x0 + 1) (kx (x1 + 1)) (kx x1) (kx (((h x0 0) - x1) - 1))) fun h1 => kCg (x1 + 1) x1 (((h x0 0) - x1) - 1) 20 20 (kLet (hcpy h1 (x0 + 2) (x0 + 2) (kx (x1 + 1)) (kx x1) (kx (((h x0 0) - x1) - 1))) fun h2 => kCg (x1 + 1) x1 (((h x0 0) - x1) - 1) 20 20 (kLet (hcpy h2 (x0 + 3) (x0 + 3) (kx (x1 + 1)) (kx x1) (kx (((h x0 0) - x1) - 1))) fun h3 => kLet (hset h3 x0 0 ((h3 x0 0) - 1)) fun h4 => some h4)))
theorem j_V_drop {E : kE} {L : Nat} {xs : Nat → Int32} (hro : kRo E L xs) {h : kH} {x0 : Nat} {x1 : Int32} (k0 : kIs x0 4) {h' : kH} (hf : f_V_drop h x0 x1 = some h') : JM E m_V_drop [.ref x0, .int x1] (mk h) none (mk h') := by
  unfold f_V_drop at hf
  refine JM.of pn_V (Nat.le_of_ble_eq_true rfl) ?_
  show kJ E m_V_drop none (mk h') 0 0 0 [(0, .ref x0), (1, .int x1)] [] (mk h)
  refine kJ_aload_n 1 0 d_V_drop_0 rfl rfl rfl rfl ?_
  refine kM_getI 4 d_V_drop_1 l_V_21 k0 rfl rfl rfl ?_
  refine kJ_iload_n 5 1 d_V_drop_4 rfl rfl rfl ?_
  refine kJ_isub 6 d_V_drop_5 rfl ?_
  refine kJ_iconst 7 1 d_V_drop_6 ki_1 rfl ?_
  refine kJ_isub 8 d_V_drop_7 rfl ?_
  refine kJ_istore_n 9 [(2, .int (((h x0 0) - x1) - 1)), (0, .ref x0), (1, .int x1)] d_V_drop_8 rfl (Nat.le_of_ble_eq_true rfl) rfl rfl ?_
  refine kJ_aload_n 10 1 d_V_drop_9 rfl rfl rfl rfl ?_
  refine kM_getR 13 0 (x0 + 1) d_V_drop_10 l_V_9 k0 rfl rfl rfl rfl ?_
  refine kJ_iload_n 14 2 d_V_drop_13 rfl rfl rfl ?_
  refine kJ_iconst 15 1 d_V_drop_14 ki_1 rfl ?_
  refine kJ_iadd 16 d_V_drop_15 rfl ?_
  refine kJ_aload_n 17 1 d_V_drop_16 rfl rfl rfl rfl ?_
  refine kM_getR 20 0 (x0 + 1) d_V_drop_17 l_V_9 k0 rfl rfl rfl rfl ?_
  refine kJ_iload_n 21 2 d_V_drop_20 rfl rfl rfl ?_
  refine kJ_iload_n 22 0 d_V_drop_21 rfl rfl rfl ?_
  obtain ⟨⟨g1, g2, g3, g4, g5⟩, hf⟩ := kCg_some hf
  refine kM_copy 25 20 20 d_V_drop_22 cp_V_25 (kk_4_1 k0) rfl (kk_4_1 k0) rfl g1 g2 g3 g4 g5 ⟨Nat.le_of_ble_eq_true rfl, Nat.le_of_ble_eq_true rfl⟩ rfl ?_
  obtain ⟨h1, eh1, hf⟩ := kLet_e hf
  rw [← eh1]
  refine kJ_aload_n 26 1 d_V_drop_25 rfl rfl rfl rfl ?_
  refine kM_getR 29 1 (x0 + 2) d_V_drop_26 l_V_15 k0 rfl rfl rfl rfl ?_
  refine kJ_iload_n 30 2 d_V_drop_29 rfl rfl rfl ?_
  refine kJ_iconst 31 1 d_V_drop_30 ki_1 rfl ?_
  refine kJ_iadd 32 d_V_drop_31 rfl ?_
  refine kJ_aload_n 33 1 d_V_drop_32 rfl rfl rfl rfl ?_
  refine kM_getR 36 1 (x0 + 2) d_V_drop_33 l_V_15 k0 rfl rfl rfl rfl ?_
  refine kJ_iload_n 37 2 d_V_drop_36 rfl rfl rfl ?_
  refine kJ_iload_n 38 0 d_V_drop_37 rfl rfl rfl ?_
  obtain ⟨⟨g1, g2, g3, g4, g5⟩, hf⟩ := kCg_some hf
  refine kM_copy 41 20 20 d_V_drop_38 cp_V_25 (kk_4_2 k0) rfl (kk_4_2 k0) rfl g1 g2 g3 g4 g5 ⟨Nat.le_of_ble_eq_true rfl, Nat.le_of_ble_eq_true rfl⟩ rfl ?_
  obtain ⟨h2, eh2, hf⟩ := kLet_e hf
  rw [← eh2]
  refine kJ_aload_n 42 1 d_V_drop_41 rfl rfl rfl rfl ?_
  refine kM_getR 45 2 (x0 + 3) d_V_drop_42 l_V_18 k0 rfl rfl rfl rfl ?_
  refine kJ_iload_n 46 2 d_V_drop_45 rfl rfl rfl ?_
  refine kJ_iconst 47 1 d_V_drop_46 ki_1 rfl ?_
  refine kJ_iadd 48 d_V_drop_47 rfl ?_
  refine kJ_aload_n 49 1 d_V_drop_48 rfl rfl rfl rfl ?_
  refine kM_getR 52 2 (x0 + 3) d_V_drop_49 l_V_18 k0 rfl rfl rfl rfl ?_
  refine kJ_iload_n 53 2 d_V_drop_52 rfl rfl rfl ?_
  refine kJ_iload_n 54 0 d_V_drop_53 rfl rfl rfl ?_
  obtain ⟨⟨g1, g2, g3, g4, g5⟩, hf⟩ := kCg_some hf
  refine kM_copy 57 20 20 d_V_drop_54 cp_V_25 (kk_4_3 k0) rfl (kk_4_3 k0) rfl g1 g2 g3 g4 g5 ⟨Nat.le_of_ble_eq_true rfl, Nat.le_of_ble_eq_true rfl⟩ rfl ?_
  obtain ⟨h3, eh3, hf⟩ := kLet_e hf
  rw [← eh3]
  refine kJ_aload_n 58 1 d_V_drop_57 rfl rfl rfl rfl ?_
  refine kJ_dup 59 d_V_drop_58 rfl rfl ?_
  refine kM_getI 62 d_V_drop_59 l_V_21 k0 rfl rfl rfl ?_
  refine kJ_iconst 63 1 d_V_drop_62 ki_1 rfl ?_
  refine kJ_isub 64 d_V_drop_63 rfl ?_
  refine kM_put 67 d_V_drop_64 l_V_21 k0 rfl rfl (kFit_int _) rfl ?_
  obtain ⟨h4, eh4, hf⟩ := kLet_e hf
  rw [← eh4]
  cases hf
  exact kJ_ret d_V_drop_67 rfl (Nat.zero_le _) (Nat.zero_le _)
def b_C_moveTo_88 (rec8 : kH → Int32 → Option (kH)) (h : kH) (x0 : Nat) (x1 : Int32) (x2 : Int32) (x3 : Int32) (s0 : Nat) (s1 : Int32) : Option (kH) := kLet (hset h s0 3 s1) fun h5 => kBi (f_V_drop h5 (x0 + 6) x3) fun h6 => rec8 h6 (x2 + (-1))
theorem c_C_moveTo_88 {E : kE} {L : Nat} {xs : Nat → Int32} (hro : kRo E L xs) {rec8 : kH → Int32 → Option (kH)} {h : kH} {x0 : Nat} {x1 : Int32} {x2 : Int32} {x3 : Int32} {s0 : Nat} {s1 : Int32} (k0 : kIs x0 0) (ks0 : kIs s0 0) {h' : kH} (hrec8 : ∀ (h : kH) (x2 : Int32), rec8 h x2 = some h' → kJ E m_C_moveTo none (mk h') 0 0 8 [(0, .ref x0), (1, .int x1), (2, .int x2)] [] (mk h)) (hf : b_C_moveTo_88 rec8 h x0 x1 x2 x3 s0 s1 = some h') : kJ E m_C_moveTo none (mk h') 0 0 88 [(0, .ref x0), (1, .int x1), (2, .int x2), (3, .int x3)] [.int s1, .ref s0] (mk h) := by
  unfold b_C_moveTo_88 at hf
  refine kM_put 91 d_C_moveTo_88 l_C_60 ks0 rfl rfl (kFit_int _) rfl ?_
  obtain ⟨h5, eh5, hf⟩ := kLet_e hf
  rw [← eh5]
  refine kJ_aload_n 92 0 d_C_moveTo_91 rfl rfl rfl rfl ?_
  refine kM_getR 95 5 (x0 + 6) d_C_moveTo_92 l_C_37 k0 rfl rfl rfl rfl ?_
  refine kJ_iload_n 96 3 d_C_moveTo_95 rfl rfl rfl ?_
  obtain ⟨h6, eh6, hf⟩ := kBi_some hf
  refine kM_callv 99 m_V_drop [.int x3] [] d_C_moveTo_96 cl_C_186 ⟨w_625, w_43⟩ (kk_0_10 k0) ⟨rfl, by decide⟩ ⟨_, _, rfl⟩ rfl rfl (Nat.le_of_ble_eq_true rfl) ⟨Nat.le_of_ble_eq_true rfl, Nat.le_of_ble_eq_true rfl⟩ ⟨rfl, rfl⟩ ⟨Nat.zero_le _, Nat.zero_le _⟩ (j_V_drop hro (kk_0_10 k0) eh6) rfl ?_
  refine kJ_iinc 102 2 [(2, .int (x2 + (-1))), (0, .ref x0), (1, .int x1), (3, .int x3)] d_C_moveTo_99 rfl ki_m1 (Nat.le_of_ble_eq_true rfl) rfl rfl ?_
  refine kJ_goto 8 d_C_moveTo_102 rfl ?_
  refine kJ_sub [1, 2, 0] rfl ?_
  exact hrec8 h6 (x2 + (-1)) hf
def b_C_moveTo_8 (x0 : Nat) (x1 : Int32) : Nat → kH → Int32 → Option (kH)
  | 0, _, _ => none
  | n + 1, h, x2 => (fun rec8 => if x2 ≤ 0 then (kLet (hset h x0 0 x1) fun h1 => some h1) else (kBi (f_V_next h (x0 + 6)) fun v2 => if v2 = (-6) then (kLet (hset h x0 0 x1) fun h3 => some h3) else (kG v2 20 (if (h (x0 + 7) (kx v2)) ≤ x1 then (kG v2 20 (kLet (1 <<< ((h (x0 + 8) (kx v2)) &&& 31)) fun v4 => kG v2 20 (if (h (x0 + 9) (kx v2)) = 1 then (b_C_moveTo_88 rec8 h x0 x1 x2 v2 x0 ((h x0 3) ||| v4)) else (b_C_moveTo_88 rec8 h x0 x1 x2 v2 x0 ((h x0 3) &&& (v4 ^^^ (-1))))))) else (kLet (hset h x0 0 x1) fun h7 => some h7))))) (fun h' x2' => b_C_moveTo_8 x0 x1 n h' x2')
theorem c_C_moveTo_8 {E : kE} {L : Nat} {xs : Nat → Int32} (hro : kRo E L xs) {x0 : Nat} {x1 : Int32} (k0 : kIs x0 0) {h' : kH} : ∀ (n : Nat) (h : kH) (x2 : Int32), b_C_moveTo_8 x0 x1 n h x2 = some h' → kJ E m_C_moveTo none (mk h') 0 0 8 [(0, .ref x0), (1, .int x1), (2, .int x2)] [] (mk h) := by
  intro n
  induction n with
  | zero =>
    intro h x2 hf
    have hf : (none : Option (kH)) = some h' := hf
    cases hf
  | succ n hrec8 =>
    intro h x2 hf
    rw [b_C_moveTo_8] at hf
    dsimp only at hf
    refine kJ_iload_n 9 2 d_C_moveTo_8 rfl rfl rfl ?_
    refine kJ_if_le 12 105 d_C_moveTo_9 rfl rfl (fun hc => ?_) (fun hc => ?_)
    · have hf := kIf_t hf hc
      refine kJ_aload_n 106 0 d_C_moveTo_105 rfl rfl rfl rfl ?_
      refine kJ_iload_n 107 1 d_C_moveTo_106 rfl rfl rfl ?_
      refine kM_put 110 d_C_moveTo_107 l_C_51 k0 rfl rfl (kFit_int _) rfl ?_
      obtain ⟨h1, eh1, hf⟩ := kLet_e hf
      rw [← eh1]
      cases hf
      exact kJ_ret d_C_moveTo_110 rfl (Nat.zero_le _) (Nat.zero_le _)
    · have hf := kIf_f hf hc
      refine kJ_aload_n 13 0 d_C_moveTo_12 rfl rfl rfl rfl ?_
      refine kM_getR 16 5 (x0 + 6) d_C_moveTo_13 l_C_37 k0 rfl rfl rfl rfl ?_
      obtain ⟨v2, ev2, hf⟩ := kBi_some hf
      refine kM_callv 19 m_V_next [] [] d_C_moveTo_16 cl_C_174 ⟨w_621, w_42⟩ (kk_0_10 k0) ⟨rfl, by decide⟩ ⟨_, _, rfl⟩ rfl rfl (Nat.le_of_ble_eq_true rfl) ⟨Nat.le_of_ble_eq_true rfl, Nat.le_of_ble_eq_true rfl⟩ ⟨rfl, rfl⟩ ⟨Nat.zero_le _, Nat.zero_le _⟩ (j_V_next hro (kk_0_10 k0) ev2) rfl ?_
      refine kJ_istore_n 20 [(3, .int v2), (0, .ref x0), (1, .int x1), (2, .int x2)] d_C_moveTo_19 rfl (Nat.le_of_ble_eq_true rfl) rfl rfl ?_
      refine kJ_iload_n 21 0 d_C_moveTo_20 rfl rfl rfl ?_
      refine kJ_bipush 23 (-6) d_C_moveTo_21 kb_m6 rfl ?_
      refine kJ_icmp_eq 26 105 d_C_moveTo_23 rfl rfl (fun hc => ?_) (fun hc => ?_)
      · have hf := kIf_t hf hc
        refine kJ_aload_n 106 1 d_C_moveTo_105 rfl rfl rfl rfl ?_
        refine kJ_iload_n 107 2 d_C_moveTo_106 rfl rfl rfl ?_
        refine kM_put 110 d_C_moveTo_107 l_C_51 k0 rfl rfl (kFit_int _) rfl ?_
        obtain ⟨h3, eh3, hf⟩ := kLet_e hf
        rw [← eh3]
        cases hf
        exact kJ_ret d_C_moveTo_110 rfl (Nat.zero_le _) (Nat.zero_le _)
      · have hf := kIf_f hf hc
        refine kJ_aload_n 27 1 d_C_moveTo_26 rfl rfl rfl rfl ?_
        refine kM_getR 30 5 (x0 + 6) d_C_moveTo_27 l_C_37 k0 rfl rfl rfl rfl ?_
        refine kM_getR 33 0 (x0 + 7) d_C_moveTo_30 l_C_177 (kk_0_10 k0) rfl rfl rfl rfl ?_
        refine kJ_iload_n 34 0 d_C_moveTo_33 rfl rfl rfl ?_
        obtain ⟨hg, hf⟩ := kG_some hf
        refine kM_iald 35 20 d_C_moveTo_34 (kk_4_1 (kk_0_10 k0)) rfl hg rfl ?_
        refine kJ_iload_n 36 2 d_C_moveTo_35 rfl rfl rfl ?_
        refine kJ_icmp_le 39 42 d_C_moveTo_36 rfl rfl (fun hc => ?_) (fun hc => ?_)
        · have hf := kIf_t hf hc
          refine kJ_iconst 43 1 d_C_moveTo_42 ki_1 rfl ?_
          refine kJ_aload_n 44 1 d_C_moveTo_43 rfl rfl rfl rfl ?_
          refine kM_getR 47 5 (x0 + 6) d_C_moveTo_44 l_C_37 k0 rfl rfl rfl rfl ?_
          refine kM_getR 50 1 (x0 + 8) d_C_moveTo_47 l_C_180 (kk_0_10 k0) rfl rfl rfl rfl ?_
          refine kJ_iload_n 51 0 d_C_moveTo_50 rfl rfl rfl ?_
          obtain ⟨hg, hf⟩ := kG_some hf
          refine kM_iald 52 20 d_C_moveTo_51 (kk_4_2 (kk_0_10 k0)) rfl hg rfl ?_
          refine kJ_ishl 53 d_C_moveTo_52 rfl ?_
          obtain ⟨v4, ev4, hf⟩ := kLet_e hf
          rw [← ev4]
          refine kJ_istore 55 [(4, .int v4), (3, .int v2), (0, .ref x0), (1, .int x1), (2, .int x2)] d_C_moveTo_53 (Nat.le_of_ble_eq_true rfl) rfl rfl ?_
          refine kJ_aload_n 56 2 d_C_moveTo_55 rfl rfl rfl rfl ?_
          refine kJ_aload_n 57 2 d_C_moveTo_56 rfl rfl rfl rfl ?_
          refine kM_getR 60 5 (x0 + 6) d_C_moveTo_57 l_C_37 k0 rfl rfl rfl rfl ?_
          refine kM_getR 63 2 (x0 + 9) d_C_moveTo_60 l_C_183 (kk_0_10 k0) rfl rfl rfl rfl ?_
          refine kJ_iload_n 64 1 d_C_moveTo_63 rfl rfl rfl ?_
          obtain ⟨hg, hf⟩ := kG_some hf
          refine kM_iald 65 20 d_C_moveTo_64 (kk_4_3 (kk_0_10 k0)) rfl hg rfl ?_
          refine kJ_iconst 66 1 d_C_moveTo_65 ki_1 rfl ?_
          refine kJ_icmp_ne 69 79 d_C_moveTo_66 rfl rfl (fun hc => ?_) (fun hc => ?_)
          · have hf := kIf_f hf hc
            refine kJ_aload_n 80 2 d_C_moveTo_79 rfl rfl rfl rfl ?_
            refine kM_getI 83 d_C_moveTo_80 l_C_60 k0 rfl rfl rfl ?_
            refine kJ_iload 85 0 d_C_moveTo_83 rfl rfl ?_
            refine kJ_iconst 86 (-1) d_C_moveTo_85 ki_m1 rfl ?_
            refine kJ_ixor 87 d_C_moveTo_86 rfl ?_
            refine kJ_iand 88 d_C_moveTo_87 rfl ?_
            refine kJ_sub [2, 3, 4, 1] rfl ?_
            exact c_C_moveTo_88 hro k0 k0 hrec8 hf
          · have hf := kIf_t hf hc
            refine kJ_aload_n 70 2 d_C_moveTo_69 rfl rfl rfl rfl ?_
            refine kM_getI 73 d_C_moveTo_70 l_C_60 k0 rfl rfl rfl ?_
            refine kJ_iload 75 0 d_C_moveTo_73 rfl rfl ?_
            refine kJ_ior 76 d_C_moveTo_75 rfl ?_
            refine kJ_goto 88 d_C_moveTo_76 rfl ?_
            refine kJ_sub [2, 3, 4, 1] rfl ?_
            exact c_C_moveTo_88 hro k0 k0 hrec8 hf
        · have hf := kIf_f hf hc
          refine kJ_goto 105 d_C_moveTo_39 rfl ?_
          refine kJ_aload_n 106 1 d_C_moveTo_105 rfl rfl rfl rfl ?_
          refine kJ_iload_n 107 2 d_C_moveTo_106 rfl rfl rfl ?_
          refine kM_put 110 d_C_moveTo_107 l_C_51 k0 rfl rfl (kFit_int _) rfl ?_
          obtain ⟨h7, eh7, hf⟩ := kLet_e hf
          rw [← eh7]
          cases hf
          exact kJ_ret d_C_moveTo_110 rfl (Nat.zero_le _) (Nat.zero_le _)
def f_C_moveTo (h : kH) (x0 : Nat) (x1 : Int32) : Option (kH) := b_C_moveTo_8 x0 x1 kFuel h (h (x0 + 6) 0)
theorem j_C_moveTo {E : kE} {L : Nat} {xs : Nat → Int32} (hro : kRo E L xs) {h : kH} {x0 : Nat} {x1 : Int32} (k0 : kIs x0 0) {h' : kH} (hf : f_C_moveTo h x0 x1 = some h') : JM E m_C_moveTo [.ref x0, .int x1] (mk h) none (mk h') := by
  unfold f_C_moveTo at hf
  refine JM.of pn_C (Nat.le_of_ble_eq_true rfl) ?_
  show kJ E m_C_moveTo none (mk h') 0 0 0 [(0, .ref x0), (1, .int x1)] [] (mk h)
  refine kJ_aload_n 1 0 d_C_moveTo_0 rfl rfl rfl rfl ?_
  refine kM_getR 4 5 (x0 + 6) d_C_moveTo_1 l_C_37 k0 rfl rfl rfl rfl ?_
  refine kM_getI 7 d_C_moveTo_4 l_C_114 (kk_0_10 k0) rfl rfl rfl ?_
  refine kJ_istore_n 8 [(2, .int (h (x0 + 6) 0)), (0, .ref x0), (1, .int x1)] d_C_moveTo_7 rfl (Nat.le_of_ble_eq_true rfl) rfl rfl ?_
  refine kJ_sub [1, 2, 0] rfl ?_
  exact c_C_moveTo_8 hro k0 kFuel h (h (x0 + 6) 0) hf
def f_C_letPass (h : kH) (x0 : Nat) (x1 : Int32) : Option (Int32 × kH) := if x1 < 1 then (some ((-2), h)) else (if x1 ≤ 600 then (if ((h x0 0) + x1) ≤ 9000 then (kBi (f_C_moveTo h x0 ((h x0 0) + x1)) fun h1 => some ((h1 x0 0), h1)) else (some ((-5), h))) else (some ((-2), h)))
theorem j_C_letPass {E : kE} {L : Nat} {xs : Nat → Int32} (hro : kRo E L xs) {h : kH} {x0 : Nat} {x1 : Int32} (k0 : kIs x0 0) {r : Int32} {h' : kH} (hf : f_C_letPass h x0 x1 = some (r, h')) : JM E m_C_letPass [.ref x0, .int x1] (mk h) (some r) (mk h') := by
  unfold f_C_letPass at hf
  refine JM.of pn_C (Nat.le_of_ble_eq_true rfl) ?_
  show kJ E m_C_letPass (some r) (mk h') 0 0 0 [(0, .ref x0), (1, .int x1)] [] (mk h)
  refine kJ_iload_n 1 1 d_C_letPass_0 rfl rfl rfl ?_
  refine kJ_iconst 2 1 d_C_letPass_1 ki_1 rfl ?_
  refine kJ_icmp_lt 5 12 d_C_letPass_2 rfl rfl (fun hc => ?_) (fun hc => ?_)
  · have hf := kIf_t hf hc
    refine kJ_bipush 14 (-2) d_C_letPass_12 kb_m2 rfl ?_
    cases hf
    exact kJ_iret d_C_letPass_14 rfl rfl (Nat.zero_le _) (Nat.zero_le _)
  · have hf := kIf_f hf hc
    refine kJ_iload_n 6 1 d_C_letPass_5 rfl rfl rfl ?_
    refine kJ_sipush 9 600 d_C_letPass_6 ks_600 rfl ?_
    refine kJ_icmp_le 12 15 d_C_letPass_9 rfl rfl (fun hc => ?_) (fun hc => ?_)
    · have hf := kIf_t hf hc
      refine kJ_aload_n 16 0 d_C_letPass_15 rfl rfl rfl rfl ?_
      refine kM_getI 19 d_C_letPass_16 l_C_51 k0 rfl rfl rfl ?_
      refine kJ_iload_n 20 1 d_C_letPass_19 rfl rfl rfl ?_
      refine kJ_iadd 21 d_C_letPass_20 rfl ?_
      refine kJ_sipush 24 9000 d_C_letPass_21 ks_9000 rfl ?_
      refine kJ_icmp_le 27 30 d_C_letPass_24 rfl rfl (fun hc => ?_) (fun hc => ?_)
      · have hf := kIf_t hf hc
        refine kJ_aload_n 31 0 d_C_letPass_30 rfl rfl rfl rfl ?_
        refine kJ_aload_n 32 0 d_C_letPass_31 rfl rfl rfl rfl ?_
        refine kM_getI 35 d_C_letPass_32 l_C_51 k0 rfl rfl rfl ?_
        refine kJ_iload_n 36 1 d_C_letPass_35 rfl rfl rfl ?_
        refine kJ_iadd 37 d_C_letPass_36 rfl ?_
        obtain ⟨h1, eh1, hf⟩ := kBi_some hf
        refine kM_callv 40 m_C_moveTo [.int ((h x0 0) + x1)] [] d_C_letPass_37 cl_C_170 ⟨w_617, w_41⟩ k0 ⟨rfl, by decide⟩ ⟨_, _, rfl⟩ rfl rfl (Nat.le_of_ble_eq_true rfl) ⟨Nat.le_of_ble_eq_true rfl, Nat.le_of_ble_eq_true rfl⟩ ⟨rfl, rfl⟩ ⟨Nat.zero_le _, Nat.zero_le _⟩ (j_C_moveTo hro k0 eh1) rfl ?_
        refine kJ_aload_n 41 0 d_C_letPass_40 rfl rfl rfl rfl ?_
        refine kM_getI 44 d_C_letPass_41 l_C_51 k0 rfl rfl rfl ?_
        cases hf
        exact kJ_iret d_C_letPass_44 rfl rfl (Nat.zero_le _) (Nat.zero_le _)
      · have hf := kIf_f hf hc
        refine kJ_bipush 29 (-5) d_C_letPass_27 kb_m5 rfl ?_
        cases hf
        exact kJ_iret d_C_letPass_29 rfl rfl (Nat.zero_le _) (Nat.zero_le _)
    · have hf := kIf_f hf hc
      refine kJ_bipush 14 (-2) d_C_letPass_12 kb_m2 rfl ?_
      cases hf
      exact kJ_iret d_C_letPass_14 rfl rfl (Nat.zero_le _) (Nat.zero_le _)
def f_P_pass (h : kH) (x1 : Int32) : Option (Int32 × kH) := kBi (f_Y_note h 145 1) fun h1 => kBd (f_C_letPass h1 1 x1) fun v3 h2 => kBd (f_Y_settle h2 145 v3) fun v5 h4 => some (v5, h4)
theorem j_P_pass {E : kE} {L : Nat} {xs : Nat → Int32} (hro : kRo E L xs) {h : kH} {x1 : Int32} {r : Int32} {h' : kH} (hf : f_P_pass h x1 = some (r, h')) : JM E m_P_pass [.ref 0, .int x1] (mk h) (some r) (mk h') := by
  unfold f_P_pass at hf
  refine JM.of pn_P (Nat.le_of_ble_eq_true rfl) ?_
  show kJ E m_P_pass (some r) (mk h') 0 0 0 [(0, .ref 0), (1, .int x1)] [] (mk h)
  refine kJ_aload_n 1 0 d_P_pass_0 rfl rfl rfl rfl ?_
  refine kM_getR 4 144 145 d_P_pass_1 l_P_29 kp_0 rfl rfl rfl rfl ?_
  refine kJ_aload_n 5 0 d_P_pass_4 rfl rfl rfl rfl ?_
  refine kM_getR 8 0 1 d_P_pass_5 l_P_10 kp_0 rfl rfl rfl rfl ?_
  obtain ⟨h1, eh1, hf⟩ := kBi_some hf
  refine kM_callv 11 m_Y_note [.ref 1] [] d_P_pass_8 cl_P_55 ⟨w_372, w_0⟩ kp_145 ⟨rfl, by decide⟩ ⟨_, _, rfl⟩ rfl rfl (Nat.le_of_ble_eq_true rfl) ⟨Nat.le_of_ble_eq_true rfl, Nat.le_of_ble_eq_true rfl⟩ ⟨rfl, rfl⟩ ⟨Nat.zero_le _, Nat.zero_le _⟩ (j_Y_note hro kp_145 kp_1 eh1) rfl ?_
  refine kJ_aload_n 12 0 d_P_pass_11 rfl rfl rfl rfl ?_
  refine kM_getR 15 144 145 d_P_pass_12 l_P_29 kp_0 rfl rfl rfl rfl ?_
  refine kJ_aload_n 16 0 d_P_pass_15 rfl rfl rfl rfl ?_
  refine kM_getR 19 0 1 d_P_pass_16 l_P_10 kp_0 rfl rfl rfl rfl ?_
  refine kJ_iload_n 20 1 d_P_pass_19 rfl rfl rfl ?_
  obtain ⟨v3, h2, ev3, hf⟩ := kBd_some hf
  refine kM_callv 23 m_C_letPass [.int x1] [.ref 145] d_P_pass_20 cl_P_109 ⟨w_613, w_40⟩ kp_1 ⟨rfl, by decide⟩ ⟨_, _, rfl⟩ rfl rfl (Nat.le_of_ble_eq_true rfl) ⟨Nat.le_of_ble_eq_true rfl, Nat.le_of_ble_eq_true rfl⟩ ⟨rfl, rfl⟩ ⟨Nat.zero_le _, Nat.zero_le _⟩ (j_C_letPass hro kp_1 ev3) rfl ?_
  obtain ⟨v5, h4, ev5, hf⟩ := kBd_some hf
  refine kM_callv 26 m_Y_settle [.int v3] [] d_P_pass_23 cl_P_63 ⟨w_396, w_5⟩ kp_145 ⟨rfl, by decide⟩ ⟨_, _, rfl⟩ rfl rfl (Nat.le_of_ble_eq_true rfl) ⟨Nat.le_of_ble_eq_true rfl, Nat.le_of_ble_eq_true rfl⟩ ⟨rfl, rfl⟩ ⟨Nat.zero_le _, Nat.zero_le _⟩ (j_Y_settle hro kp_145 ev5) rfl ?_
  cases hf
  exact kJ_iret d_P_pass_26 rfl rfl (Nat.zero_le _) (Nat.zero_le _)
def b_C_votesOf_4 (h : kH) (x0 : Nat) (x1 : Int32) : Nat → Int32 → Int32 → Option Int32
  | 0, _, _ => none
  | n + 1, x2, x3 => (fun rec4 => if (h x0 2) ≤ x3 then (some x2) else (kG x3 12 (kG x1 12 (if (h ((x0 + 10 + 5 * kx x3) + 2) (kx x1)) = (-6) then (rec4 x2 (x3 + 1)) else (rec4 (x2 + 1) (x3 + 1)))))) (fun x2' x3' => b_C_votesOf_4 h x0 x1 n x2' x3')
theorem c_C_votesOf_4 {E : kE} {L : Nat} {xs : Nat → Int32} (hro : kRo E L xs) {h : kH} {x0 : Nat} {x1 : Int32} (k0 : kIs x0 0) {r : Int32} : ∀ (n : Nat) (x2 : Int32) (x3 : Int32), b_C_votesOf_4 h x0 x1 n x2 x3 = some r → kJ E m_C_votesOf (some r) (mk h) 0 0 4 [(0, .ref x0), (1, .int x1), (2, .int x2), (3, .int x3)] [] (mk h) := by
  intro n
  induction n with
  | zero =>
    intro x2 x3 hf
    have hf : (none : Option Int32) = some r := hf
    cases hf
  | succ n hrec4 =>
    intro x2 x3 hf
    rw [b_C_votesOf_4] at hf
    dsimp only at hf
    refine kJ_iload_n 5 3 d_C_votesOf_4 rfl rfl rfl ?_
    refine kJ_aload_n 6 0 d_C_votesOf_5 rfl rfl rfl rfl ?_
    refine kM_getI 9 d_C_votesOf_6 l_C_57 k0 rfl rfl rfl ?_
    refine kJ_icmp_ge 12 37 d_C_votesOf_9 rfl rfl (fun hc => ?_) (fun hc => ?_)
    · have hf := kIf_t hf hc
      refine kJ_iload_n 38 2 d_C_votesOf_37 rfl rfl rfl ?_
      cases hf
      exact kJ_iret d_C_votesOf_38 rfl rfl (Nat.zero_le _) (Nat.zero_le _)
    · have hf := kIf_f hf hc
      refine kJ_aload_n 13 0 d_C_votesOf_12 rfl rfl rfl rfl ?_
      refine kM_getR 16 4 (x0 + 5) d_C_votesOf_13 l_C_30 k0 rfl rfl rfl rfl ?_
      refine kJ_iload_n 17 3 d_C_votesOf_16 rfl rfl rfl ?_
      obtain ⟨hg1, hf⟩ := kG_some hf
      refine kM_aald 18 12 5 5 (x0 + 10 + 5 * kx x3) d_C_votesOf_17 (kk_0_9 k0) rfl (by decide) (Or.inl rfl) hg1 (by simp only [Nat.add_assoc, kx]; try omega) rfl ?_
      refine kM_getR 21 1 ((x0 + 10 + 5 * kx x3) + 2) d_C_votesOf_18 l_C_92 (kC_item k0 (kIn_lt hg1)) rfl rfl rfl rfl ?_
      refine kJ_iload_n 22 1 d_C_votesOf_21 rfl rfl rfl ?_
      obtain ⟨hg, hf⟩ := kG_some hf
      refine kM_iald 23 12 d_C_votesOf_22 (kk_3_7 (kC_item k0 (kIn_lt hg1))) rfl hg rfl ?_
      refine kJ_bipush 25 (-6) d_C_votesOf_23 kb_m6 rfl ?_
      refine kJ_icmp_eq 28 31 d_C_votesOf_25 rfl rfl (fun hc => ?_) (fun hc => ?_)
      · have hf := kIf_t hf hc
        refine kJ_iinc 34 3 [(3, .int (x3 + 1)), (0, .ref x0), (1, .int x1), (2, .int x2)] d_C_votesOf_31 rfl ki_1 (Nat.le_of_ble_eq_true rfl) rfl rfl ?_
        refine kJ_goto 4 d_C_votesOf_34 rfl ?_
        refine kJ_sub [1, 2, 3, 0] rfl ?_
        exact hrec4 x2 (x3 + 1) hf
      · have hf := kIf_f hf hc
        refine kJ_iinc 31 2 [(2, .int (x2 + 1)), (0, .ref x0), (1, .int x1), (3, .int x3)] d_C_votesOf_28 rfl ki_1 (Nat.le_of_ble_eq_true rfl) rfl rfl ?_
        refine kJ_iinc 34 3 [(3, .int (x3 + 1)), (2, .int (x2 + 1)), (0, .ref x0), (1, .int x1)] d_C_votesOf_31 rfl ki_1 (Nat.le_of_ble_eq_true rfl) rfl rfl ?_
        refine kJ_goto 4 d_C_votesOf_34 rfl ?_
        refine kJ_sub [2, 3, 1, 0] rfl ?_
        exact hrec4 (x2 + 1) (x3 + 1) hf
def f_C_votesOf (h : kH) (x0 : Nat) (x1 : Int32) : Option Int32 := b_C_votesOf_4 h x0 x1 kFuel 0 0
theorem j_C_votesOf {E : kE} {L : Nat} {xs : Nat → Int32} (hro : kRo E L xs) {h : kH} {x0 : Nat} {x1 : Int32} (k0 : kIs x0 0) {r : Int32} (hf : f_C_votesOf h x0 x1 = some r) : JM E m_C_votesOf [.ref x0, .int x1] (mk h) (some r) (mk h) := by
  unfold f_C_votesOf at hf
  refine JM.of pn_C (Nat.le_of_ble_eq_true rfl) ?_
  show kJ E m_C_votesOf (some r) (mk h) 0 0 0 [(0, .ref x0), (1, .int x1)] [] (mk h)
  refine kJ_iconst 1 0 d_C_votesOf_0 ki_0 rfl ?_
  refine kJ_istore_n 2 [(2, .int 0), (0, .ref x0), (1, .int x1)] d_C_votesOf_1 rfl (Nat.le_of_ble_eq_true rfl) rfl rfl ?_
  refine kJ_iconst 3 0 d_C_votesOf_2 ki_0 rfl ?_
  refine kJ_istore_n 4 [(3, .int 0), (2, .int 0), (0, .ref x0), (1, .int x1)] d_C_votesOf_3 rfl (Nat.le_of_ble_eq_true rfl) rfl rfl ?_
  refine kJ_sub [2, 3, 1, 0] rfl ?_
  exact c_C_votesOf_4 hro k0 kFuel 0 0 hf
def b_C_tiesBrokenBy_4 (h : kH) (x0 : Nat) (x1 : Int32) : Nat → Int32 → Int32 → Option Int32
  | 0, _, _ => none
  | n + 1, x2, x3 => (fun rec4 => if (h x0 2) ≤ x3 then (some x2) else (kG x3 12 (if (h (x0 + 10 + 5 * kx x3) 4) = x1 then (rec4 (x2 + 1) (x3 + 1)) else (rec4 x2 (x3 + 1))))) (fun x2' x3' => b_C_tiesBrokenBy_4 h x0 x1 n x2' x3')
theorem c_C_tiesBrokenBy_4 {E : kE} {L : Nat} {xs : Nat → Int32} (hro : kRo E L xs) {h : kH} {x0 : Nat} {x1 : Int32} (k0 : kIs x0 0) {r : Int32} : ∀ (n : Nat) (x2 : Int32) (x3 : Int32), b_C_tiesBrokenBy_4 h x0 x1 n x2 x3 = some r → kJ E m_C_tiesBrokenBy (some r) (mk h) 0 0 4 [(0, .ref x0), (1, .int x1), (2, .int x2), (3, .int x3)] [] (mk h) := by
  intro n
  induction n with
  | zero =>
    intro x2 x3 hf
    have hf : (none : Option Int32) = some r := hf
    cases hf
  | succ n hrec4 =>
    intro x2 x3 hf
    rw [b_C_tiesBrokenBy_4] at hf
    dsimp only at hf
    refine kJ_iload_n 5 3 d_C_tiesBrokenBy_4 rfl rfl rfl ?_
    refine kJ_aload_n 6 0 d_C_tiesBrokenBy_5 rfl rfl rfl rfl ?_
    refine kM_getI 9 d_C_tiesBrokenBy_6 l_C_57 k0 rfl rfl rfl ?_
    refine kJ_icmp_ge 12 34 d_C_tiesBrokenBy_9 rfl rfl (fun hc => ?_) (fun hc => ?_)
    · have hf := kIf_t hf hc
      refine kJ_iload_n 35 2 d_C_tiesBrokenBy_34 rfl rfl rfl ?_
      cases hf
      exact kJ_iret d_C_tiesBrokenBy_35 rfl rfl (Nat.zero_le _) (Nat.zero_le _)
    · have hf := kIf_f hf hc
      refine kJ_aload_n 13 0 d_C_tiesBrokenBy_12 rfl rfl rfl rfl ?_
      refine kM_getR 16 4 (x0 + 5) d_C_tiesBrokenBy_13 l_C_30 k0 rfl rfl rfl rfl ?_
      refine kJ_iload_n 17 3 d_C_tiesBrokenBy_16 rfl rfl rfl ?_
      obtain ⟨hg1, hf⟩ := kG_some hf
      refine kM_aald 18 12 5 5 (x0 + 10 + 5 * kx x3) d_C_tiesBrokenBy_17 (kk_0_9 k0) rfl (by decide) (Or.inl rfl) hg1 (by simp only [Nat.add_assoc, kx]; try omega) rfl ?_
      refine kM_getI 21 d_C_tiesBrokenBy_18 l_C_95 (kC_item k0 (kIn_lt hg1)) rfl rfl rfl ?_
      refine kJ_iload_n 22 1 d_C_tiesBrokenBy_21 rfl rfl rfl ?_
      refine kJ_icmp_ne 25 28 d_C_tiesBrokenBy_22 rfl rfl (fun hc => ?_) (fun hc => ?_)
      · have hf := kIf_f hf hc
        refine kJ_iinc 31 3 [(3, .int (x3 + 1)), (0, .ref x0), (1, .int x1), (2, .int x2)] d_C_tiesBrokenBy_28 rfl ki_1 (Nat.le_of_ble_eq_true rfl) rfl rfl ?_
        refine kJ_goto 4 d_C_tiesBrokenBy_31 rfl ?_
        refine kJ_sub [1, 2, 3, 0] rfl ?_
        exact hrec4 x2 (x3 + 1) hf
      · have hf := kIf_t hf hc
        refine kJ_iinc 28 2 [(2, .int (x2 + 1)), (0, .ref x0), (1, .int x1), (3, .int x3)] d_C_tiesBrokenBy_25 rfl ki_1 (Nat.le_of_ble_eq_true rfl) rfl rfl ?_
        refine kJ_iinc 31 3 [(3, .int (x3 + 1)), (2, .int (x2 + 1)), (0, .ref x0), (1, .int x1)] d_C_tiesBrokenBy_28 rfl ki_1 (Nat.le_of_ble_eq_true rfl) rfl rfl ?_
        refine kJ_goto 4 d_C_tiesBrokenBy_31 rfl ?_
        refine kJ_sub [2, 3, 1, 0] rfl ?_
        exact hrec4 (x2 + 1) (x3 + 1) hf
def f_C_tiesBrokenBy (h : kH) (x0 : Nat) (x1 : Int32) : Option Int32 := b_C_tiesBrokenBy_4 h x0 x1 kFuel 0 0
theorem j_C_tiesBrokenBy {E : kE} {L : Nat} {xs : Nat → Int32} (hro : kRo E L xs) {h : kH} {x0 : Nat} {x1 : Int32} (k0 : kIs x0 0) {r : Int32} (hf : f_C_tiesBrokenBy h x0 x1 = some r) : JM E m_C_tiesBrokenBy [.ref x0, .int x1] (mk h) (some r) (mk h) := by
  unfold f_C_tiesBrokenBy at hf
  refine JM.of pn_C (Nat.le_of_ble_eq_true rfl) ?_
  show kJ E m_C_tiesBrokenBy (some r) (mk h) 0 0 0 [(0, .ref x0), (1, .int x1)] [] (mk h)
  refine kJ_iconst 1 0 d_C_tiesBrokenBy_0 ki_0 rfl ?_
  refine kJ_istore_n 2 [(2, .int 0), (0, .ref x0), (1, .int x1)] d_C_tiesBrokenBy_1 rfl (Nat.le_of_ble_eq_true rfl) rfl rfl ?_
  refine kJ_iconst 3 0 d_C_tiesBrokenBy_2 ki_0 rfl ?_
  refine kJ_istore_n 4 [(3, .int 0), (2, .int 0), (0, .ref x0), (1, .int x1)] d_C_tiesBrokenBy_3 rfl (Nat.le_of_ble_eq_true rfl) rfl rfl ?_
  refine kJ_sub [2, 3, 1, 0] rfl ?_
  exact c_C_tiesBrokenBy_4 hro k0 kFuel 0 0 hf
