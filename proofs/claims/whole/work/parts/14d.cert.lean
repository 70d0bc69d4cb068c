/-! CODE of the methods as functions, with certificates: printed by wip/whole/emit.py. -/
def f_P_ofMember (h : kH) (x1 : Int32) (x2 : Int32) : Option Int32 := if (f_C_hasMember h 1 x1) = true then (if x2 = 0 then (kG x1 12 (some (h 3 (kx x1)))) else (if x2 = 1 then (kG x1 12 (some (h 4 (kx x1)))) else (if x2 = 2 then (if (f_C_isPresent h 1 x1) = true then (some 1) else (some 0)) else (if x2 = 3 then (kG x1 12 (some (h 5 (kx x1)))) else (if x2 = 4 then (kBi (f_C_votesOf h 1 x1) fun v2 => some v2) else (if x2 = 5 then (kBi (f_C_tiesBrokenBy h 1 x1) fun v3 => some v3) else (some (-2)))))))) else (some (-1))
theorem j_P_ofMember {E : kE} {L : Nat} {xs : Nat → Int32} (hro : kRo E L xs) {h : kH} {x1 : Int32} {x2 : Int32} {r : Int32} (hf : f_P_ofMember h x1 x2 = some r) : JM E m_P_ofMember [.ref 0, .int x1, .int x2] (mk h) (some r) (mk h) := by
  unfold f_P_ofMember at hf
  refine JM.of pn_P (Nat.le_of_ble_eq_true rfl) ?_
  show kJ E m_P_ofMember (some r) (mk h) 0 0 0 [(0, .ref 0), (1, .int x1), (2, .int x2)] [] (mk h)
  refine kJ_aload_n 1 0 d_P_ofMember_0 rfl rfl rfl rfl ?_
  refine kM_getR 4 0 1 d_P_ofMember_1 l_P_10 kp_0 rfl rfl rfl rfl ?_
  refine kJ_iload_n 5 1 d_P_ofMember_4 rfl rfl rfl ?_
  refine kM_callv 8 m_C_hasMember [.int x1] [] d_P_ofMember_5 cl_P_112 ⟨w_437, w_10⟩ kp_1 ⟨rfl, by decide⟩ ⟨_, _, rfl⟩ rfl rfl (Nat.le_of_ble_eq_true rfl) ⟨Nat.le_of_ble_eq_true rfl, Nat.le_of_ble_eq_true rfl⟩ ⟨rfl, rfl⟩ ⟨Nat.zero_le _, Nat.zero_le _⟩ (j_C_hasMember hro kp_1 rfl) rfl ?_
  refine kJ_if_ne 11 13 d_P_ofMember_8 rfl rfl (fun hc => ?_) (fun hc => ?_)
  · have hf := kIf_t hf (kB2_1 hc)
    refine kJ_iload_n 14 2 d_P_ofMember_13 rfl rfl rfl ?_
    by_cases c0 : x2 = 0
    · have hf := kIf_t hf c0
      refine kJ_tabIn 52 d_P_ofMember_14 (by rw [c0]; try decide) (by rw [c0]; try decide) (by rw [c0]; try rfl) rfl ?_
      refine kJ_aload_n 53 0 d_P_ofMember_52 rfl rfl rfl rfl ?_
      refine kM_getR 56 0 1 d_P_ofMember_53 l_P_10 kp_0 rfl rfl rfl rfl ?_
      refine kM_getR 59 1 3 d_P_ofMember_56 l_P_116 kp_1 rfl rfl rfl rfl ?_
      refine kJ_iload_n 60 1 d_P_ofMember_59 rfl rfl rfl ?_
      obtain ⟨hg, hf⟩ := kG_some hf
      refine kM_iald 61 12 d_P_ofMember_60 (kk_0_6 kp_1) rfl hg rfl ?_
      cases hf
      exact kJ_iret d_P_ofMember_61 rfl rfl (Nat.zero_le _) (Nat.zero_le _)
    · have hf := kIf_f hf c0
      by_cases c1 : x2 = 1
      · have hf := kIf_t hf c1
        refine kJ_tabIn 62 d_P_ofMember_14 (by rw [c1]; try decide) (by rw [c1]; try decide) (by rw [c1]; try rfl) rfl ?_
        refine kJ_aload_n 63 0 d_P_ofMember_62 rfl rfl rfl rfl ?_
        refine kM_getR 66 0 1 d_P_ofMember_63 l_P_10 kp_0 rfl rfl rfl rfl ?_
        refine kM_getR 69 2 4 d_P_ofMember_66 l_P_119 kp_1 rfl rfl rfl rfl ?_
        refine kJ_iload_n 70 1 d_P_ofMember_69 rfl rfl rfl ?_
        obtain ⟨hg, hf⟩ := kG_some hf
        refine kM_iald 71 12 d_P_ofMember_70 (kk_0_7 kp_1) rfl hg rfl ?_
        cases hf
        exact kJ_iret d_P_ofMember_71 rfl rfl (Nat.zero_le _) (Nat.zero_le _)
      · have hf := kIf_f hf c1
        by_cases c2 : x2 = 2
        · have hf := kIf_t hf c2
          refine kJ_tabIn 72 d_P_ofMember_14 (by rw [c2]; try decide) (by rw [c2]; try decide) (by rw [c2]; try rfl) rfl ?_
          refine kJ_aload_n 73 0 d_P_ofMember_72 rfl rfl rfl rfl ?_
          refine kM_getR 76 0 1 d_P_ofMember_73 l_P_10 kp_0 rfl rfl rfl rfl ?_
          refine kJ_iload_n 77 1 d_P_ofMember_76 rfl rfl rfl ?_
          refine kM_callv 80 m_C_isPresent [.int x1] [] d_P_ofMember_77 cl_P_122 ⟨w_449, w_12⟩ kp_1 ⟨rfl, by decide⟩ ⟨_, _, rfl⟩ rfl rfl (Nat.le_of_ble_eq_true rfl) ⟨Nat.le_of_ble_eq_true rfl, Nat.le_of_ble_eq_true rfl⟩ ⟨rfl, rfl⟩ ⟨Nat.zero_le _, Nat.zero_le _⟩ (j_C_isPresent hro kp_1 rfl) rfl ?_
          refine kJ_if_eq 83 87 d_P_ofMember_80 rfl rfl (fun hc => ?_) (fun hc => ?_)
          · have hf := kIf_f hf (kB2_0 hc)
            refine kJ_iconst 88 0 d_P_ofMember_87 ki_0 rfl ?_
            cases hf
            exact kJ_iret d_P_ofMember_88 rfl rfl (Nat.zero_le _) (Nat.zero_le _)
          · have hf := kIf_t hf (kB2_1 hc)
            refine kJ_iconst 84 1 d_P_ofMember_83 ki_1 rfl ?_
            refine kJ_goto 88 d_P_ofMember_84 rfl ?_
            cases hf
            exact kJ_iret d_P_ofMember_88 rfl rfl (Nat.zero_le _) (Nat.zero_le _)
        · have hf := kIf_f hf c2
          by_cases c3 : x2 = 3
          · have hf := kIf_t hf c3
            refine kJ_tabIn 89 d_P_ofMember_14 (by rw [c3]; try decide) (by rw [c3]; try decide) (by rw [c3]; try rfl) rfl ?_
            refine kJ_aload_n 90 0 d_P_ofMember_89 rfl rfl rfl rfl ?_
            refine kM_getR 93 0 1 d_P_ofMember_90 l_P_10 kp_0 rfl rfl rfl rfl ?_
            refine kM_getR 96 3 5 d_P_ofMember_93 l_P_125 kp_1 rfl rfl rfl rfl ?_
            refine kJ_iload_n 97 1 d_P_ofMember_96 rfl rfl rfl ?_
            obtain ⟨hg, hf⟩ := kG_some hf
            refine kM_iald 98 12 d_P_ofMember_97 (kk_0_8 kp_1) rfl hg rfl ?_
            cases hf
            exact kJ_iret d_P_ofMember_98 rfl rfl (Nat.zero_le _) (Nat.zero_le _)
          · have hf := kIf_f hf c3
            by_cases c4 : x2 = 4
            · have hf := kIf_t hf c4
              refine kJ_tabIn 99 d_P_ofMember_14 (by rw [c4]; try decide) (by rw [c4]; try decide) (by rw [c4]; try rfl) rfl ?_
              refine kJ_aload_n 100 0 d_P_ofMember_99 rfl rfl rfl rfl ?_
              refine kM_getR 103 0 1 d_P_ofMember_100 l_P_10 kp_0 rfl rfl rfl rfl ?_
              refine kJ_iload_n 104 1 d_P_ofMember_103 rfl rfl rfl ?_
              obtain ⟨v2, ev2, hf⟩ := kBi_some hf
              refine kM_callv 107 m_C_votesOf [.int x1] [] d_P_ofMember_104 cl_P_128 ⟨w_635, w_44⟩ kp_1 ⟨rfl, by decide⟩ ⟨_, _, rfl⟩ rfl rfl (Nat.le_of_ble_eq_true rfl) ⟨Nat.le_of_ble_eq_true rfl, Nat.le_of_ble_eq_true rfl⟩ ⟨rfl, rfl⟩ ⟨Nat.zero_le _, Nat.zero_le _⟩ (j_C_votesOf hro kp_1 ev2) rfl ?_
              cases hf
              exact kJ_iret d_P_ofMember_107 rfl rfl (Nat.zero_le _) (Nat.zero_le _)
            · have hf := kIf_f hf c4
              by_cases c5 : x2 = 5
              · have hf := kIf_t hf c5
                refine kJ_tabIn 108 d_P_ofMember_14 (by rw [c5]; try decide) (by rw [c5]; try decide) (by rw [c5]; try rfl) rfl ?_
                refine kJ_aload_n 109 0 d_P_ofMember_108 rfl rfl rfl rfl ?_
                refine kM_getR 112 0 1 d_P_ofMember_109 l_P_10 kp_0 rfl rfl rfl rfl ?_
                refine kJ_iload_n 113 1 d_P_ofMember_112 rfl rfl rfl ?_
                obtain ⟨v3, ev3, hf⟩ := kBi_some hf
                refine kM_callv 116 m_C_tiesBrokenBy [.int x1] [] d_P_ofMember_113 cl_P_131 ⟨w_639, w_45⟩ kp_1 ⟨rfl, by decide⟩ ⟨_, _, rfl⟩ rfl rfl (Nat.le_of_ble_eq_true rfl) ⟨Nat.le_of_ble_eq_true rfl, Nat.le_of_ble_eq_true rfl⟩ ⟨rfl, rfl⟩ ⟨Nat.zero_le _, Nat.zero_le _⟩ (j_C_tiesBrokenBy hro kp_1 ev3) rfl ?_
                cases hf
                exact kJ_iret d_P_ofMember_116 rfl rfl (Nat.zero_le _) (Nat.zero_le _)
              · have hf := kIf_f hf c5
                refine kJ_tabOut 117 d_P_ofMember_14 (by have t0 := kne 0 c0 rfl; have t1 := kne 1 c1 rfl; have t2 := kne 2 c2 rfl; have t3 := kne 3 c3 rfl; have t4 := kne 4 c4 rfl; have t5 := kne 5 c5 rfl; omega) rfl ?_
                refine kJ_bipush 119 (-2) d_P_ofMember_117 kb_m2 rfl ?_
                cases hf
                exact kJ_iret d_P_ofMember_119 rfl rfl (Nat.zero_le _) (Nat.zero_le _)
  · have hf := kIf_f hf (kB2_0 hc)
    refine kJ_iconst 12 (-1) d_P_ofMember_11 ki_m1 rfl ?_
    cases hf
    exact kJ_iret d_P_ofMember_12 rfl rfl (Nat.zero_le _) (Nat.zero_le _)
def f_P_sumOf (h : kH) (x1 : Nat) (x2 : Int32) : Option (Int32 × kH) := if (f_I_isPending h x1) = true then (kBi (f_H_listen h 141 1 x1) fun h1 => kBi (f_H_tally h1 141 1 x1) fun h2 => kG x2 6 (some ((h2 144 (kx x2)), h2))) else (kG x2 6 (some ((h (x1 + 1) (kx x2)), h)))
theorem j_P_sumOf {E : kE} {L : Nat} {xs : Nat → Int32} (hro : kRo E L xs) {h : kH} {x1 : Nat} {x2 : Int32} (k1 : kIs x1 3) {r : Int32} {h' : kH} (hf : f_P_sumOf h x1 x2 = some (r, h')) : JM E m_P_sumOf [.ref 0, .ref x1, .int x2] (mk h) (some r) (mk h') := by
  unfold f_P_sumOf at hf
  refine JM.of pn_P (Nat.le_of_ble_eq_true rfl) ?_
  show kJ E m_P_sumOf (some r) (mk h') 0 0 0 [(0, .ref 0), (1, .ref x1), (2, .int x2)] [] (mk h)
  refine kJ_aload_n 1 1 d_P_sumOf_0 rfl rfl rfl rfl ?_
  refine kM_callv 4 m_I_isPending [] [] d_P_sumOf_1 cl_P_242 ⟨w_502, w_19⟩ k1 ⟨rfl, by decide⟩ ⟨_, _, rfl⟩ rfl rfl (Nat.le_of_ble_eq_true rfl) ⟨Nat.le_of_ble_eq_true rfl, Nat.le_of_ble_eq_true rfl⟩ ⟨rfl, rfl⟩ ⟨Nat.zero_le _, Nat.zero_le _⟩ (j_I_isPending hro k1 rfl) rfl ?_
  refine kJ_if_ne 7 14 d_P_sumOf_4 rfl rfl (fun hc => ?_) (fun hc => ?_)
  · have hf := kIf_t hf (kB2_1 hc)
    refine kJ_aload_n 15 0 d_P_sumOf_14 rfl rfl rfl rfl ?_
    refine kM_getR 18 140 141 d_P_sumOf_15 l_P_22 kp_0 rfl rfl rfl rfl ?_
    refine kJ_aload_n 19 0 d_P_sumOf_18 rfl rfl rfl rfl ?_
    refine kM_getR 22 0 1 d_P_sumOf_19 l_P_10 kp_0 rfl rfl rfl rfl ?_
    refine kJ_aload_n 23 1 d_P_sumOf_22 rfl rfl rfl rfl ?_
    obtain ⟨h1, eh1, hf⟩ := kBi_some hf
    refine kM_callv 26 m_H_listen [.ref 1, .ref x1] [] d_P_sumOf_23 cl_P_159 ⟨w_526, w_23⟩ kp_141 ⟨rfl, by decide⟩ ⟨_, _, rfl⟩ rfl rfl (Nat.le_of_ble_eq_true rfl) ⟨Nat.le_of_ble_eq_true rfl, Nat.le_of_ble_eq_true rfl⟩ ⟨rfl, rfl⟩ ⟨Nat.zero_le _, Nat.zero_le _⟩ (j_H_listen hro kp_141 kp_1 k1 eh1) rfl ?_
    refine kJ_aload_n 27 0 d_P_sumOf_26 rfl rfl rfl rfl ?_
    refine kM_getR 30 140 141 d_P_sumOf_27 l_P_22 kp_0 rfl rfl rfl rfl ?_
    refine kJ_aload_n 31 0 d_P_sumOf_30 rfl rfl rfl rfl ?_
    refine kM_getR 34 0 1 d_P_sumOf_31 l_P_10 kp_0 rfl rfl rfl rfl ?_
    refine kJ_aload_n 35 1 d_P_sumOf_34 rfl rfl rfl rfl ?_
    obtain ⟨h2, eh2, hf⟩ := kBi_some hf
    refine kM_callv 38 m_H_tally [.ref 1, .ref x1] [] d_P_sumOf_35 cl_P_249 ⟨w_581, w_34⟩ kp_141 ⟨rfl, by decide⟩ ⟨_, _, rfl⟩ rfl rfl (Nat.le_of_ble_eq_true rfl) ⟨Nat.le_of_ble_eq_true rfl, Nat.le_of_ble_eq_true rfl⟩ ⟨rfl, rfl⟩ ⟨Nat.zero_le _, Nat.zero_le _⟩ (j_H_tally hro kp_141 kp_1 k1 eh2) rfl ?_
    refine kJ_aload_n 39 0 d_P_sumOf_38 rfl rfl rfl rfl ?_
    refine kM_getR 42 140 141 d_P_sumOf_39 l_P_22 kp_0 rfl rfl rfl rfl ?_
    refine kM_getR 45 2 144 d_P_sumOf_42 l_P_252 kp_141 rfl rfl rfl rfl ?_
    refine kJ_iload_n 46 2 d_P_sumOf_45 rfl rfl rfl ?_
    obtain ⟨hg, hf⟩ := kG_some hf
    refine kM_iald 47 6 d_P_sumOf_46 (kk_1_2 kp_141) rfl hg rfl ?_
    cases hf
    exact kJ_iret d_P_sumOf_47 rfl rfl (Nat.zero_le _) (Nat.zero_le _)
  · have hf := kIf_f hf (kB2_0 hc)
    refine kJ_aload_n 8 1 d_P_sumOf_7 rfl rfl rfl rfl ?_
    refine kM_getR 11 0 (x1 + 1) d_P_sumOf_8 l_P_246 k1 rfl rfl rfl rfl ?_
    refine kJ_iload_n 12 2 d_P_sumOf_11 rfl rfl rfl ?_
    obtain ⟨hg, hf⟩ := kG_some hf
    refine kM_iald 13 6 d_P_sumOf_12 (kk_3_6 k1) rfl hg rfl ?_
    cases hf
    exact kJ_iret d_P_sumOf_13 rfl rfl (Nat.zero_le _) (Nat.zero_le _)
def f_P_ofItem (h : kH) (x1 : Int32) (x2 : Int32) : Option (Int32 × kH) := if (f_C_hasItem h 1 x1) = true then (kG x1 12 (if x2 = 0 then (some ((h (1 + 10 + 5 * kx x1) 0), h)) else (if x2 = 1 then (some ((h (1 + 10 + 5 * kx x1) 1), h)) else (if x2 = 2 then (some ((h (1 + 10 + 5 * kx x1) 2), h)) else (if x2 = 3 then (if x2 < 3 then (some ((-2), h)) else (if 9 ≤ x2 then (some ((-2), h)) else (kBd (f_P_sumOf h (1 + 10 + 5 * kx x1) (x2 - 3)) fun v4 h3 => some (v4, h3)))) else (if x2 = 4 then (if x2 < 3 then (some ((-2), h)) else (if 9 ≤ x2 then (some ((-2), h)) else (kBd (f_P_sumOf h (1 + 10 + 5 * kx x1) (x2 - 3)) fun v6 h5 => some (v6, h5)))) else (if x2 = 5 then (if x2 < 3 then (some ((-2), h)) else (if 9 ≤ x2 then (some ((-2), h)) else (kBd (f_P_sumOf h (1 + 10 + 5 * kx x1) (x2 - 3)) fun v8 h7 => some (v8, h7)))) else (if x2 = 6 then (if x2 < 3 then (some ((-2), h)) else (if 9 ≤ x2 then (some ((-2), h)) else (kBd (f_P_sumOf h (1 + 10 + 5 * kx x1) (x2 - 3)) fun v10 h9 => some (v10, h9)))) else (if x2 = 7 then (if x2 < 3 then (some ((-2), h)) else (if 9 ≤ x2 then (some ((-2), h)) else (kBd (f_P_sumOf h (1 + 10 + 5 * kx x1) (x2 - 3)) fun v12 h11 => some (v12, h11)))) else (if x2 = 8 then (if x2 < 3 then (some ((-2), h)) else (if 9 ≤ x2 then (some ((-2), h)) else (kBd (f_P_sumOf h (1 + 10 + 5 * kx x1) (x2 - 3)) fun v14 h13 => some (v14, h13)))) else (if x2 = 9 then (some ((h (1 + 10 + 5 * kx x1) 4), h)) else (if x2 = 10 then (some ((h (1 + 10 + 5 * kx x1) 5), h)) else (if x2 = 11 then (kBi (f_H_listen h 141 1 (1 + 10 + 5 * kx x1)) fun h15 => kBi (f_H_weightThere h15 141 1) fun v16 => kBi (f_C_isQuorum h15 1 v16) fun v17 => if v17 = true then (some (1, h15)) else (some (0, h15))) else (if x2 < 3 then (some ((-2), h)) else (if 9 ≤ x2 then (some ((-2), h)) else (kBd (f_P_sumOf h (1 + 10 + 5 * kx x1) (x2 - 3)) fun v19 h18 => some (v19, h18))))))))))))))))) else (some ((-1), h))
theorem j_P_ofItem {E : kE} {L : Nat} {xs : Nat → Int32} (hro : kRo E L xs) {h : kH} {x1 : Int32} {x2 : Int32} {r : Int32} {h' : kH} (hf : f_P_ofItem h x1 x2 = some (r, h')) : JM E m_P_ofItem [.ref 0, .int x1, .int x2] (mk h) (some r) (mk h') := by
  unfold f_P_ofItem at hf
  refine JM.of pn_P (Nat.le_of_ble_eq_true rfl) ?_
  show kJ E m_P_ofItem (some r) (mk h') 0 0 0 [(0, .ref 0), (1, .int x1), (2, .int x2)] [] (mk h)
  refine kJ_aload_n 1 0 d_P_ofItem_0 rfl rfl rfl rfl ?_
  refine kM_getR 4 0 1 d_P_ofItem_1 l_P_10 kp_0 rfl rfl rfl rfl ?_
  refine kJ_iload_n 5 1 d_P_ofItem_4 rfl rfl rfl ?_
  refine kM_callv 8 m_C_hasItem [.int x1] [] d_P_ofItem_5 cl_P_134 ⟨w_487, w_17⟩ kp_1 ⟨rfl, by decide⟩ ⟨_, _, rfl⟩ rfl rfl (Nat.le_of_ble_eq_true rfl) ⟨Nat.le_of_ble_eq_true rfl, Nat.le_of_ble_eq_true rfl⟩ ⟨rfl, rfl⟩ ⟨Nat.zero_le _, Nat.zero_le _⟩ (j_C_hasItem hro kp_1 rfl) rfl ?_
  refine kJ_if_ne 11 13 d_P_ofItem_8 rfl rfl (fun hc => ?_) (fun hc => ?_)
  · have hf := kIf_t hf (kB2_1 hc)
    refine kJ_aload_n 14 0 d_P_ofItem_13 rfl rfl rfl rfl ?_
    refine kM_getR 17 0 1 d_P_ofItem_14 l_P_10 kp_0 rfl rfl rfl rfl ?_
    refine kM_getR 20 4 6 d_P_ofItem_17 l_P_137 kp_1 rfl rfl rfl rfl ?_
    refine kJ_iload_n 21 1 d_P_ofItem_20 rfl rfl rfl ?_
    obtain ⟨hg1, hf⟩ := kG_some hf
    refine kM_aald 22 12 5 5 (1 + 10 + 5 * kx x1) d_P_ofItem_21 (kk_0_9 kp_1) rfl (by decide) (Or.inl rfl) hg1 (by simp only [Nat.add_assoc, kx]; try omega) rfl ?_
    refine kJ_astore_n 23 [(3, .ref (1 + 10 + 5 * kx x1)), (0, .ref 0), (1, .int x1), (2, .int x2)] d_P_ofItem_22 rfl (Nat.le_of_ble_eq_true rfl) rfl rfl rfl ?_
    refine kJ_iload_n 24 3 d_P_ofItem_23 rfl rfl rfl ?_
    by_cases c0 : x2 = 0
    · have hf := kIf_t hf c0
      refine kJ_tabIn 88 d_P_ofItem_24 (by rw [c0]; try decide) (by rw [c0]; try decide) (by rw [c0]; try rfl) rfl ?_
      refine kJ_aload_n 89 0 d_P_ofItem_88 rfl rfl rfl rfl ?_
      refine kM_getI 92 d_P_ofItem_89 l_P_141 (kC_item kp_1 (kIn_lt hg1)) rfl rfl rfl ?_
      cases hf
      exact kJ_iret d_P_ofItem_92 rfl rfl (Nat.zero_le _) (Nat.zero_le _)
    · have hf := kIf_f hf c0
      by_cases c1 : x2 = 1
      · have hf := kIf_t hf c1
        refine kJ_tabIn 93 d_P_ofItem_24 (by rw [c1]; try decide) (by rw [c1]; try decide) (by rw [c1]; try rfl) rfl ?_
        refine kJ_aload_n 94 0 d_P_ofItem_93 rfl rfl rfl rfl ?_
        refine kM_getI 97 d_P_ofItem_94 l_P_147 (kC_item kp_1 (kIn_lt hg1)) rfl rfl rfl ?_
        cases hf
        exact kJ_iret d_P_ofItem_97 rfl rfl (Nat.zero_le _) (Nat.zero_le _)
      · have hf := kIf_f hf c1
        by_cases c2 : x2 = 2
        · have hf := kIf_t hf c2
          refine kJ_tabIn 98 d_P_ofItem_24 (by rw [c2]; try decide) (by rw [c2]; try decide) (by rw [c2]; try rfl) rfl ?_
          refine kJ_aload_n 99 0 d_P_ofItem_98 rfl rfl rfl rfl ?_
          refine kM_getI 102 d_P_ofItem_99 l_P_150 (kC_item kp_1 (kIn_lt hg1)) rfl rfl rfl ?_
          cases hf
          exact kJ_iret d_P_ofItem_102 rfl rfl (Nat.zero_le _) (Nat.zero_le _)
        · have hf := kIf_f hf c2
          by_cases c3 : x2 = 3
          · have hf := kIf_t hf c3
            refine kJ_tabIn 152 d_P_ofItem_24 (by rw [c3]; try decide) (by rw [c3]; try decide) (by rw [c3]; try rfl) rfl ?_
            refine kJ_iload_n 153 3 d_P_ofItem_152 rfl rfl rfl ?_
            refine kJ_iconst 154 3 d_P_ofItem_153 ki_3 rfl ?_
            refine kJ_icmp_lt 157 174 d_P_ofItem_154 rfl rfl (fun hc => ?_) (fun hc => ?_)
            · have hf := kIf_t hf hc
              refine kJ_bipush 176 (-2) d_P_ofItem_174 kb_m2 rfl ?_
              cases hf
              exact kJ_iret d_P_ofItem_176 rfl rfl (Nat.zero_le _) (Nat.zero_le _)
            · have hf := kIf_f hf hc
              refine kJ_iload_n 158 3 d_P_ofItem_157 rfl rfl rfl ?_
              refine kJ_bipush 160 9 d_P_ofItem_158 kb_9 rfl ?_
              refine kJ_icmp_ge 163 174 d_P_ofItem_160 rfl rfl (fun hc => ?_) (fun hc => ?_)
              · have hf := kIf_t hf hc
                refine kJ_bipush 176 (-2) d_P_ofItem_174 kb_m2 rfl ?_
                cases hf
                exact kJ_iret d_P_ofItem_176 rfl rfl (Nat.zero_le _) (Nat.zero_le _)
              · have hf := kIf_f hf hc
                refine kJ_aload_n 164 1 d_P_ofItem_163 rfl rfl rfl rfl ?_
                refine kJ_aload_n 165 0 d_P_ofItem_164 rfl rfl rfl rfl ?_
                refine kJ_iload_n 166 3 d_P_ofItem_165 rfl rfl rfl ?_
                refine kJ_iconst 167 3 d_P_ofItem_166 ki_3 rfl ?_
                refine kJ_isub 168 d_P_ofItem_167 rfl ?_
                obtain ⟨v4, h3, ev4, hf⟩ := kBd_some hf
                refine kM_callv 171 m_P_sumOf [.ref (1 + 10 + 5 * kx x1), .int (x2 - 3)] [] d_P_ofItem_168 cl_P_170 ⟨w_651, w_46⟩ kp_0 ⟨rfl, by decide⟩ ⟨_, _, rfl⟩ rfl rfl (Nat.le_of_ble_eq_true rfl) ⟨Nat.le_of_ble_eq_true rfl, Nat.le_of_ble_eq_true rfl⟩ ⟨rfl, rfl⟩ ⟨Nat.zero_le _, Nat.zero_le _⟩ (j_P_sumOf hro (kC_item kp_1 (kIn_lt hg1)) ev4) rfl ?_
                refine kJ_goto 176 d_P_ofItem_171 rfl ?_
                cases hf
                exact kJ_iret d_P_ofItem_176 rfl rfl (Nat.zero_le _) (Nat.zero_le _)
          · have hf := kIf_f hf c3
            by_cases c4 : x2 = 4
            · have hf := kIf_t hf c4
              refine kJ_tabIn 152 d_P_ofItem_24 (by rw [c4]; try decide) (by rw [c4]; try decide) (by rw [c4]; try rfl) rfl ?_
              refine kJ_iload_n 153 3 d_P_ofItem_152 rfl rfl rfl ?_
              refine kJ_iconst 154 3 d_P_ofItem_153 ki_3 rfl ?_
              refine kJ_icmp_lt 157 174 d_P_ofItem_154 rfl rfl (fun hc => ?_) (fun hc => ?_)
              · have hf := kIf_t hf hc
                refine kJ_bipush 176 (-2) d_P_ofItem_174 kb_m2 rfl ?_
                cases hf
                exact kJ_iret d_P_ofItem_176 rfl rfl (Nat.zero_le _) (Nat.zero_le _)
              · have hf := kIf_f hf hc
                refine kJ_iload_n 158 3 d_P_ofItem_157 rfl rfl rfl ?_
                refine kJ_bipush 160 9 d_P_ofItem_158 kb_9 rfl ?_
                refine kJ_icmp_ge 163 174 d_P_ofItem_160 rfl rfl (fun hc => ?_) (fun hc => ?_)
                · have hf := kIf_t hf hc
                  refine kJ_bipush 176 (-2) d_P_ofItem_174 kb_m2 rfl ?_
                  cases hf
                  exact kJ_iret d_P_ofItem_176 rfl rfl (Nat.zero_le _) (Nat.zero_le _)
                · have hf := kIf_f hf hc
                  refine kJ_aload_n 164 1 d_P_ofItem_163 rfl rfl rfl rfl ?_
                  refine kJ_aload_n 165 0 d_P_ofItem_164 rfl rfl rfl rfl ?_
                  refine kJ_iload_n 166 3 d_P_ofItem_165 rfl rfl rfl ?_
                  refine kJ_iconst 167 3 d_P_ofItem_166 ki_3 rfl ?_
                  refine kJ_isub 168 d_P_ofItem_167 rfl ?_
                  obtain ⟨v6, h5, ev6, hf⟩ := kBd_some hf
                  refine kM_callv 171 m_P_sumOf [.ref (1 + 10 + 5 * kx x1), .int (x2 - 3)] [] d_P_ofItem_168 cl_P_170 ⟨w_651, w_46⟩ kp_0 ⟨rfl, by decide⟩ ⟨_, _, rfl⟩ rfl rfl (Nat.le_of_ble_eq_true rfl) ⟨Nat.le_of_ble_eq_true rfl, Nat.le_of_ble_eq_true rfl⟩ ⟨rfl, rfl⟩ ⟨Nat.zero_le _, Nat.zero_le _⟩ (j_P_sumOf hro (kC_item kp_1 (kIn_lt hg1)) ev6) rfl ?_
                  refine kJ_goto 176 d_P_ofItem_171 rfl ?_
                  cases hf
                  exact kJ_iret d_P_ofItem_176 rfl rfl (Nat.zero_le _) (Nat.zero_le _)
            · have hf := kIf_f hf c4
              by_cases c5 : x2 = 5
              · have hf := kIf_t hf c5
                refine kJ_tabIn 152 d_P_ofItem_24 (by rw [c5]; try decide) (by rw [c5]; try decide) (by rw [c5]; try rfl) rfl ?_
                refine kJ_iload_n 153 3 d_P_ofItem_152 rfl rfl rfl ?_
                refine kJ_iconst 154 3 d_P_ofItem_153 ki_3 rfl ?_
                refine kJ_icmp_lt 157 174 d_P_ofItem_154 rfl rfl (fun hc => ?_) (fun hc => ?_)
                · have hf := kIf_t hf hc
                  refine kJ_bipush 176 (-2) d_P_ofItem_174 kb_m2 rfl ?_
                  cases hf
                  exact kJ_iret d_P_ofItem_176 rfl rfl (Nat.zero_le _) (Nat.zero_le _)
                · have hf := kIf_f hf hc
                  refine kJ_iload_n 158 3 d_P_ofItem_157 rfl rfl rfl ?_
                  refine kJ_bipush 160 9 d_P_ofItem_158 kb_9 rfl ?_
                  refine kJ_icmp_ge 163 174 d_P_ofItem_160 rfl rfl (fun hc => ?_) (fun hc => ?_)
                  · have hf := kIf_t hf hc
                    refine kJ_bipush 176 (-2) d_P_ofItem_174 kb_m2 rfl ?_
                    cases hf
                    exact kJ_iret d_P_ofItem_176 rfl rfl (Nat.zero_le _) (Nat.zero_le _)
                  · have hf := kIf_f hf hc
                    refine kJ_aload_n 164 1 d_P_ofItem_163 rfl rfl rfl rfl ?_
                    refine kJ_aload_n 165 0 d_P_ofItem_164 rfl rfl rfl rfl ?_
                    refine kJ_iload_n 166 3 d_P_ofItem_165 rfl rfl rfl ?_
                    refine kJ_iconst 167 3 d_P_ofItem_166 ki_3 rfl ?_
                    refine kJ_isub 168 d_P_ofItem_167 rfl ?_
                    obtain ⟨v8, h7, ev8, hf⟩ := kBd_some hf
                    refine kM_callv 171 m_P_sumOf [.ref (1 + 10 + 5 * kx x1), .int (x2 - 3)] [] d_P_ofItem_168 cl_P_170 ⟨w_651, w_46⟩ kp_0 ⟨rfl, by decide⟩ ⟨_, _, rfl⟩ rfl rfl (Nat.le_of_ble_eq_true rfl) ⟨Nat.le_of_ble_eq_true rfl, Nat.le_of_ble_eq_true rfl⟩ ⟨rfl, rfl⟩ ⟨Nat.zero_le _, Nat.zero_le _⟩ (j_P_sumOf hro (kC_item kp_1 (kIn_lt hg1)) ev8) rfl ?_
                    refine kJ_goto 176 d_P_ofItem_171 rfl ?_
                    cases hf
                    exact kJ_iret d_P_ofItem_176 rfl rfl (Nat.zero_le _) (Nat.zero_le _)
              · have hf := kIf_f hf c5
                by_cases c6 : x2 = 6
                · have hf := kIf_t hf c6
                  refine kJ_tabIn 152 d_P_ofItem_24 (by rw [c6]; try decide) (by rw [c6]; try decide) (by rw [c6]; try rfl) rfl ?_
                  refine kJ_iload_n 153 3 d_P_ofItem_152 rfl rfl rfl ?_
                  refine kJ_iconst 154 3 d_P_ofItem_153 ki_3 rfl ?_
                  refine kJ_icmp_lt 157 174 d_P_ofItem_154 rfl rfl (fun hc => ?_) (fun hc => ?_)
                  · have hf := kIf_t hf hc
                    refine kJ_bipush 176 (-2) d_P_ofItem_174 kb_m2 rfl ?_
                    cases hf
                    exact kJ_iret d_P_ofItem_176 rfl rfl (Nat.zero_le _) (Nat.zero_le _)
                  · have hf := kIf_f hf hc
                    refine kJ_iload_n 158 3 d_P_ofItem_157 rfl rfl rfl ?_
                    refine kJ_bipush 160 9 d_P_ofItem_158 kb_9 rfl ?_
                    refine kJ_icmp_ge 163 174 d_P_ofItem_160 rfl rfl (fun hc => ?_) (fun hc => ?_)
                    · have hf := kIf_t hf hc
                      refine kJ_bipush 176 (-2) d_P_ofItem_174 kb_m2 rfl ?_
                      cases hf
                      exact kJ_iret d_P_ofItem_176 rfl rfl (Nat.zero_le _) (Nat.zero_le _)
                    · have hf := kIf_f hf hc
                      refine kJ_aload_n 164 1 d_P_ofItem_163 rfl rfl rfl rfl ?_
                      refine kJ_aload_n 165 0 d_P_ofItem_164 rfl rfl rfl rfl ?_
                      refine kJ_iload_n 166 3 d_P_ofItem_165 rfl rfl rfl ?_
                      refine kJ_iconst 167 3 d_P_ofItem_166 ki_3 rfl ?_
                      refine kJ_isub 168 d_P_ofItem_167 rfl ?_
                      obtain ⟨v10, h9, ev10, hf⟩ := kBd_some hf
                      refine kM_callv 171 m_P_sumOf [.ref (1 + 10 + 5 * kx x1), .int (x2 - 3)] [] d_P_ofItem_168 cl_P_170 ⟨w_651, w_46⟩ kp_0 ⟨rfl, by decide⟩ ⟨_, _, rfl⟩ rfl rfl (Nat.le_of_ble_eq_true rfl) ⟨Nat.le_of_ble_eq_true rfl, Nat.le_of_ble_eq_true rfl⟩ ⟨rfl, rfl⟩ ⟨Nat.zero_le _, Nat.zero_le _⟩ (j_P_sumOf hro (kC_item kp_1 (kIn_lt hg1)) ev10) rfl ?_
                      refine kJ_goto 176 d_P_ofItem_171 rfl ?_
                      cases hf
                      exact kJ_iret d_P_ofItem_176 rfl rfl (Nat.zero_le _) (Nat.zero_le _)
                · have hf := kIf_f hf c6
                  by_cases c7 : x2 = 7
                  · have hf := kIf_t hf c7
                    refine kJ_tabIn 152 d_P_ofItem_24 (by rw [c7]; try decide) (by rw [c7]; try decide) (by rw [c7]; try rfl) rfl ?_
                    refine kJ_iload_n 153 3 d_P_ofItem_152 rfl rfl rfl ?_
                    refine kJ_iconst 154 3 d_P_ofItem_153 ki_3 rfl ?_
                    refine kJ_icmp_lt 157 174 d_P_ofItem_154 rfl rfl (fun hc => ?_) (fun hc => ?_)
                    · have hf := kIf_t hf hc
                      refine kJ_bipush 176 (-2) d_P_ofItem_174 kb_m2 rfl ?_
                      cases hf
                      exact kJ_iret d_P_ofItem_176 rfl rfl (Nat.zero_le _) (Nat.zero_le _)
                    · have hf := kIf_f hf hc
                      refine kJ_iload_n 158 3 d_P_ofItem_157 rfl rfl rfl ?_
                      refine kJ_bipush 160 9 d_P_ofItem_158 kb_9 rfl ?_
                      refine kJ_icmp_ge 163 174 d_P_ofItem_160 rfl rfl (fun hc => ?_) (fun hc => ?_)
                      · have hf := kIf_t hf hc
                        refine kJ_bipush 176 (-2) d_P_ofItem_174 kb_m2 rfl ?_
                        cases hf
                        exact kJ_iret d_P_ofItem_176 rfl rfl (Nat.zero_le _) (Nat.zero_le _)
                      · have hf := kIf_f hf hc
                        refine kJ_aload_n 164 1 d_P_ofItem_163 rfl rfl rfl rfl ?_
                        refine kJ_aload_n 165 0 d_P_ofItem_164 rfl rfl rfl rfl ?_
                        refine kJ_iload_n 166 3 d_P_ofItem_165 rfl rfl rfl ?_
                        refine kJ_iconst 167 3 d_P_ofItem_166 ki_3 rfl ?_
                        refine kJ_isub 168 d_P_ofItem_167 rfl ?_
                        obtain ⟨v12, h11, ev12, hf⟩ := kBd_some hf
                        refine kM_callv 171 m_P_sumOf [.ref (1 + 10 + 5 * kx x1), .int (x2 - 3)] [] d_P_ofItem_168 cl_P_170 ⟨w_651, w_46⟩ kp_0 ⟨rfl, by decide⟩ ⟨_, _, rfl⟩ rfl rfl (Nat.le_of_ble_eq_true rfl) ⟨Nat.le_of_ble_eq_true rfl, Nat.le_of_ble_eq_true rfl⟩ ⟨rfl, rfl⟩ ⟨Nat.zero_le _, Nat.zero_le _⟩ (j_P_sumOf hro (kC_item kp_1 (kIn_lt hg1)) ev12) rfl ?_
                        refine kJ_goto 176 d_P_ofItem_171 rfl ?_
                        cases hf
                        exact kJ_iret d_P_ofItem_176 rfl rfl (Nat.zero_le _) (Nat.zero_le _)
                  · have hf := kIf_f hf c7
                    by_cases c8 : x2 = 8
                    · have hf := kIf_t hf c8
                      refine kJ_tabIn 152 d_P_ofItem_24 (by rw [c8]; try decide) (by rw [c8]; try decide) (by rw [c8]; try rfl) rfl ?_
                      refine kJ_iload_n 153 3 d_P_ofItem_152 rfl rfl rfl ?_
                      refine kJ_iconst 154 3 d_P_ofItem_153 ki_3 rfl ?_
                      refine kJ_icmp_lt 157 174 d_P_ofItem_154 rfl rfl (fun hc => ?_) (fun hc => ?_)
                      · have hf := kIf_t hf hc
                        refine kJ_bipush 176 (-2) d_P_ofItem_174 kb_m2 rfl ?_
                        cases hf
                        exact kJ_iret d_P_ofItem_176 rfl rfl (Nat.zero_le _) (Nat.zero_le _)
                      · have hf := kIf_f hf hc
                        refine kJ_iload_n 158 3 d_P_ofItem_157 rfl rfl rfl ?_
                        refine kJ_bipush 160 9 d_P_ofItem_158 kb_9 rfl ?_
                        refine kJ_icmp_ge 163 174 d_P_ofItem_160 rfl rfl (fun hc => ?_) (fun hc => ?_)
                        · have hf := kIf_t hf hc
                          refine kJ_bipush 176 (-2) d_P_ofItem_174 kb_m2 rfl ?_
                          cases hf
                          exact kJ_iret d_P_ofItem_176 rfl rfl (Nat.zero_le _) (Nat.zero_le _)
                        · have hf := kIf_f hf hc
                          refine kJ_aload_n 164 1 d_P_ofItem_163 rfl rfl rfl rfl ?_
                          refine kJ_aload_n 165 0 d_P_ofItem_164 rfl rfl rfl rfl ?_
                          refine kJ_iload_n 166 3 d_P_ofItem_165 rfl rfl rfl ?_
                          refine kJ_iconst 167 3 d_P_ofItem_166 ki_3 rfl ?_
                          refine kJ_isub 168 d_P_ofItem_167 rfl ?_
                          obtain ⟨v14, h13, ev14, hf⟩ := kBd_some hf
                          refine kM_callv 171 m_P_sumOf [.ref (1 + 10 + 5 * kx x1), .int (x2 - 3)] [] d_P_ofItem_168 cl_P_170 ⟨w_651, w_46⟩ kp_0 ⟨rfl, by decide⟩ ⟨_, _, rfl⟩ rfl rfl (Nat.le_of_ble_eq_true rfl) ⟨Nat.le_of_ble_eq_true rfl, Nat.le_of_ble_eq_true rfl⟩ ⟨rfl, rfl⟩ ⟨Nat.zero_le _, Nat.zero_le _⟩ (j_P_sumOf hro (kC_item kp_1 (kIn_lt hg1)) ev14) rfl ?_
                          refine kJ_goto 176 d_P_ofItem_171 rfl ?_
                          cases hf
                          exact kJ_iret d_P_ofItem_176 rfl rfl (Nat.zero_le _) (Nat.zero_le _)
                    · have hf := kIf_f hf c8
                      by_cases c9 : x2 = 9
                      · have hf := kIf_t hf c9
                        refine kJ_tabIn 103 d_P_ofItem_24 (by rw [c9]; try decide) (by rw [c9]; try decide) (by rw [c9]; try rfl) rfl ?_
                        refine kJ_aload_n 104 0 d_P_ofItem_103 rfl rfl rfl rfl ?_
                        refine kM_getI 107 d_P_ofItem_104 l_P_153 (kC_item kp_1 (kIn_lt hg1)) rfl rfl rfl ?_
                        cases hf
                        exact kJ_iret d_P_ofItem_107 rfl rfl (Nat.zero_le _) (Nat.zero_le _)
                      · have hf := kIf_f hf c9
                        by_cases c10 : x2 = 10
                        · have hf := kIf_t hf c10
                          refine kJ_tabIn 108 d_P_ofItem_24 (by rw [c10]; try decide) (by rw [c10]; try decide) (by rw [c10]; try rfl) rfl ?_
                          refine kJ_aload_n 109 0 d_P_ofItem_108 rfl rfl rfl rfl ?_
                          refine kM_getI 112 d_P_ofItem_109 l_P_156 (kC_item kp_1 (kIn_lt hg1)) rfl rfl rfl ?_
                          cases hf
                          exact kJ_iret d_P_ofItem_112 rfl rfl (Nat.zero_le _) (Nat.zero_le _)
                        · have hf := kIf_f hf c10
                          by_cases c11 : x2 = 11
                          · have hf := kIf_t hf c11
                            refine kJ_tabIn 113 d_P_ofItem_24 (by rw [c11]; try decide) (by rw [c11]; try decide) (by rw [c11]; try rfl) rfl ?_
                            refine kJ_aload_n 114 1 d_P_ofItem_113 rfl rfl rfl rfl ?_
                            refine kM_getR 117 140 141 d_P_ofItem_114 l_P_22 kp_0 rfl rfl rfl rfl ?_
                            refine kJ_aload_n 118 1 d_P_ofItem_117 rfl rfl rfl rfl ?_
                            refine kM_getR 121 0 1 d_P_ofItem_118 l_P_10 kp_0 rfl rfl rfl rfl ?_
                            refine kJ_aload_n 122 0 d_P_ofItem_121 rfl rfl rfl rfl ?_
                            obtain ⟨h15, eh15, hf⟩ := kBi_some hf
                            refine kM_callv 125 m_H_listen [.ref 1, .ref (1 + 10 + 5 * kx x1)] [] d_P_ofItem_122 cl_P_159 ⟨w_526, w_23⟩ kp_141 ⟨rfl, by decide⟩ ⟨_, _, rfl⟩ rfl rfl (Nat.le_of_ble_eq_true rfl) ⟨Nat.le_of_ble_eq_true rfl, Nat.le_of_ble_eq_true rfl⟩ ⟨rfl, rfl⟩ ⟨Nat.zero_le _, Nat.zero_le _⟩ (j_H_listen hro kp_141 kp_1 (kC_item kp_1 (kIn_lt hg1)) eh15) rfl ?_
                            refine kJ_aload_n 126 1 d_P_ofItem_125 rfl rfl rfl rfl ?_
                            refine kM_getR 129 0 1 d_P_ofItem_126 l_P_10 kp_0 rfl rfl rfl rfl ?_
                            refine kJ_aload_n 130 1 d_P_ofItem_129 rfl rfl rfl rfl ?_
                            refine kM_getR 133 140 141 d_P_ofItem_130 l_P_22 kp_0 rfl rfl rfl rfl ?_
                            refine kJ_aload_n 134 1 d_P_ofItem_133 rfl rfl rfl rfl ?_
                            refine kM_getR 137 0 1 d_P_ofItem_134 l_P_10 kp_0 rfl rfl rfl rfl ?_
                            obtain ⟨v16, ev16, hf⟩ := kBi_some hf
                            refine kM_callv 140 m_H_weightThere [.ref 1] [.ref 1] d_P_ofItem_137 cl_P_163 ⟨w_545, w_27⟩ kp_141 ⟨rfl, by decide⟩ ⟨_, _, rfl⟩ rfl rfl (Nat.le_of_ble_eq_true rfl) ⟨Nat.le_of_ble_eq_true rfl, Nat.le_of_ble_eq_true rfl⟩ ⟨rfl, rfl⟩ ⟨Nat.zero_le _, Nat.zero_le _⟩ (j_H_weightThere hro kp_141 kp_1 ev16) rfl ?_
                            obtain ⟨v17, ev17, hf⟩ := kBi_some hf
                            refine kM_callv 143 m_C_isQuorum [.int v16] [] d_P_ofItem_140 cl_P_167 ⟨w_553, w_29⟩ kp_1 ⟨rfl, by decide⟩ ⟨_, _, rfl⟩ rfl rfl (Nat.le_of_ble_eq_true rfl) ⟨Nat.le_of_ble_eq_true rfl, Nat.le_of_ble_eq_true rfl⟩ ⟨rfl, rfl⟩ ⟨Nat.zero_le _, Nat.zero_le _⟩ (j_C_isQuorum hro kp_1 ev17) rfl ?_
                            refine kJ_if_eq 146 150 d_P_ofItem_143 rfl rfl (fun hc => ?_) (fun hc => ?_)
                            · have hf := kIf_f hf (kB2_0 hc)
                              refine kJ_iconst 151 0 d_P_ofItem_150 ki_0 rfl ?_
                              cases hf
                              exact kJ_iret d_P_ofItem_151 rfl rfl (Nat.zero_le _) (Nat.zero_le _)
                            · have hf := kIf_t hf (kB2_1 hc)
                              refine kJ_iconst 147 1 d_P_ofItem_146 ki_1 rfl ?_
                              refine kJ_goto 151 d_P_ofItem_147 rfl ?_
                              cases hf
                              exact kJ_iret d_P_ofItem_151 rfl rfl (Nat.zero_le _) (Nat.zero_le _)
                          · have hf := kIf_f hf c11
                            refine kJ_tabOut 152 d_P_ofItem_24 (by have t0 := kne 0 c0 rfl; have t1 := kne 1 c1 rfl; have t2 := kne 2 c2 rfl; have t3 := kne 3 c3 rfl; have t4 := kne 4 c4 rfl; have t5 := kne 5 c5 rfl; have t6 := kne 6 c6 rfl; have t7 := kne 7 c7 rfl; have t8 := kne 8 c8 rfl; have t9 := kne 9 c9 rfl; have t10 := kne 10 c10 rfl; have t11 := kne 11 c11 rfl; omega) rfl ?_
                            refine kJ_iload_n 153 3 d_P_ofItem_152 rfl rfl rfl ?_
                            refine kJ_iconst 154 3 d_P_ofItem_153 ki_3 rfl ?_
                            refine kJ_icmp_lt 157 174 d_P_ofItem_154 rfl rfl (fun hc => ?_) (fun hc => ?_)
                            · have hf := kIf_t hf hc
                              refine kJ_bipush 176 (-2) d_P_ofItem_174 kb_m2 rfl ?_
                              cases hf
                              exact kJ_iret d_P_ofItem_176 rfl rfl (Nat.zero_le _) (Nat.zero_le _)
                            · have hf := kIf_f hf hc
                              refine kJ_iload_n 158 3 d_P_ofItem_157 rfl rfl rfl ?_
                              refine kJ_bipush 160 9 d_P_ofItem_158 kb_9 rfl ?_
                              refine kJ_icmp_ge 163 174 d_P_ofItem_160 rfl rfl (fun hc => ?_) (fun hc => ?_)
                              · have hf := kIf_t hf hc
                                refine kJ_bipush 176 (-2) d_P_ofItem_174 kb_m2 rfl ?_
                                cases hf
                                exact kJ_iret d_P_ofItem_176 rfl rfl (Nat.zero_le _) (Nat.zero_le _)
                              · have hf := kIf_f hf hc
                                refine kJ_aload_n 164 1 d_P_ofItem_163 rfl rfl rfl rfl ?_
                                refine kJ_aload_n 165 0 d_P_ofItem_164 rfl rfl rfl rfl ?_
                                refine kJ_iload_n 166 3 d_P_ofItem_165 rfl rfl rfl ?_
                                refine kJ_iconst 167 3 d_P_ofItem_166 ki_3 rfl ?_
                                refine kJ_isub 168 d_P_ofItem_167 rfl ?_
                                obtain ⟨v19, h18, ev19, hf⟩ := kBd_some hf
                                refine kM_callv 171 m_P_sumOf [.ref (1 + 10 + 5 * kx x1), .int (x2 - 3)] [] d_P_ofItem_168 cl_P_170 ⟨w_651, w_46⟩ kp_0 ⟨rfl, by decide⟩ ⟨_, _, rfl⟩ rfl rfl (Nat.le_of_ble_eq_true rfl) ⟨Nat.le_of_ble_eq_true rfl, Nat.le_of_ble_eq_true rfl⟩ ⟨rfl, rfl⟩ ⟨Nat.zero_le _, Nat.zero_le _⟩ (j_P_sumOf hro (kC_item kp_1 (kIn_lt hg1)) ev19) rfl ?_
                                refine kJ_goto 176 d_P_ofItem_171 rfl ?_
                                cases hf
                                exact kJ_iret d_P_ofItem_176 rfl rfl (Nat.zero_le _) (Nat.zero_le _)
  · have hf := kIf_f hf (kB2_0 hc)
    refine kJ_iconst 12 (-1) d_P_ofItem_11 ki_m1 rfl ?_
    cases hf
    exact kJ_iret d_P_ofItem_12 rfl rfl (Nat.zero_le _) (Nat.zero_le _)
def b_H_spokenForBy_5 (h : kH) (x0 : Nat) (x1 : Nat) (x2 : Int32) : Nat → Int32 → Int32 → Option Int32
  | 0, _, _ => none
  | n + 1, x3, x4 => (fun rec5 => if (h x1 1) ≤ x4 then (some x3) else (kG x4 12 (if (h (x0 + 1) (kx x4)) = x2 then (if (f_C_isPresent h x1 x4) = true then (rec5 x3 (x4 + 1)) else (kLet (x3 ||| (1 <<< (x4 &&& 31))) fun v1 => rec5 v1 (x4 + 1))) else (rec5 x3 (x4 + 1))))) (fun x3' x4' => b_H_spokenForBy_5 h x0 x1 x2 n x3' x4')
theorem c_H_spokenForBy_5 {E : kE} {L : Nat} {xs : Nat → Int32} (hro : kRo E L xs) {h : kH} {x0 : Nat} {x1 : Nat} {x2 : Int32} (k0 : kIs x0 1) (k1 : kIs x1 0) {r : Int32} : ∀ (n : Nat) (x3 : Int32) (x4 : Int32), b_H_spokenForBy_5 h x0 x1 x2 n x3 x4 = some r → kJ E m_H_spokenForBy (some r) (mk h) 0 0 5 [(0, .ref x0), (1, .ref x1), (2, .int x2), (3, .int x3), (4, .int x4)] [] (mk h) := by
  intro n
  induction n with
  | zero =>
    intro x3 x4 hf
    have hf : (none : Option Int32) = some r := hf
    cases hf
  | succ n hrec5 =>
    intro x3 x4 hf
    rw [b_H_spokenForBy_5] at hf
    dsimp only at hf
    refine kJ_iload 7 4 d_H_spokenForBy_5 rfl rfl ?_
    refine kJ_aload_n 8 1 d_H_spokenForBy_7 rfl rfl rfl rfl ?_
    refine kM_getI 11 d_H_spokenForBy_8 l_H_27 k1 rfl rfl rfl ?_
    refine kJ_icmp_ge 14 47 d_H_spokenForBy_11 rfl rfl (fun hc => ?_) (fun hc => ?_)
    · have hf := kIf_t hf hc
      refine kJ_iload_n 48 3 d_H_spokenForBy_47 rfl rfl rfl ?_
      cases hf
      exact kJ_iret d_H_spokenForBy_48 rfl rfl (Nat.zero_le _) (Nat.zero_le _)
    · have hf := kIf_f hf hc
      refine kJ_aload_n 15 0 d_H_spokenForBy_14 rfl rfl rfl rfl ?_
      refine kM_getR 18 0 (x0 + 1) d_H_spokenForBy_15 l_H_9 k0 rfl rfl rfl rfl ?_
      refine kJ_iload 20 4 d_H_spokenForBy_18 rfl rfl ?_
      obtain ⟨hg, hf⟩ := kG_some hf
      refine kM_iald 21 12 d_H_spokenForBy_20 (kk_1_0 k0) rfl hg rfl ?_
      refine kJ_iload_n 22 2 d_H_spokenForBy_21 rfl rfl rfl ?_
      refine kJ_icmp_ne 25 41 d_H_spokenForBy_22 rfl rfl (fun hc => ?_) (fun hc => ?_)
      · have hf := kIf_f hf hc
        refine kJ_iinc 44 4 [(4, .int (x4 + 1)), (0, .ref x0), (1, .ref x1), (2, .int x2), (3, .int x3)] d_H_spokenForBy_41 rfl ki_1 (Nat.le_of_ble_eq_true rfl) rfl rfl ?_
        refine kJ_goto 5 d_H_spokenForBy_44 rfl ?_
        refine kJ_sub [1, 2, 3, 4, 0] rfl ?_
        exact hrec5 x3 (x4 + 1) hf
      · have hf := kIf_t hf hc
        refine kJ_aload_n 26 1 d_H_spokenForBy_25 rfl rfl rfl rfl ?_
        refine kJ_iload 28 4 d_H_spokenForBy_26 rfl rfl ?_
        refine kM_callv 31 m_C_isPresent [.int x4] [] d_H_spokenForBy_28 cl_H_37 ⟨w_449, w_12⟩ k1 ⟨rfl, by decide⟩ ⟨_, _, rfl⟩ rfl rfl (Nat.le_of_ble_eq_true rfl) ⟨Nat.le_of_ble_eq_true rfl, Nat.le_of_ble_eq_true rfl⟩ ⟨rfl, rfl⟩ ⟨Nat.zero_le _, Nat.zero_le _⟩ (j_C_isPresent hro k1 rfl) rfl ?_
        refine kJ_if_ne 34 41 d_H_spokenForBy_31 rfl rfl (fun hc => ?_) (fun hc => ?_)
        · have hf := kIf_t hf (kB2_1 hc)
          refine kJ_iinc 44 4 [(4, .int (x4 + 1)), (0, .ref x0), (1, .ref x1), (2, .int x2), (3, .int x3)] d_H_spokenForBy_41 rfl ki_1 (Nat.le_of_ble_eq_true rfl) rfl rfl ?_
          refine kJ_goto 5 d_H_spokenForBy_44 rfl ?_
          refine kJ_sub [1, 2, 3, 4, 0] rfl ?_
          exact hrec5 x3 (x4 + 1) hf
        · have hf := kIf_f hf (kB2_0 hc)
          refine kJ_iload_n 35 3 d_H_spokenForBy_34 rfl rfl rfl ?_
          refine kJ_iconst 36 1 d_H_spokenForBy_35 ki_1 rfl ?_
          refine kJ_iload 38 4 d_H_spokenForBy_36 rfl rfl ?_
          refine kJ_ishl 39 d_H_spokenForBy_38 rfl ?_
          refine kJ_ior 40 d_H_spokenForBy_39 rfl ?_
          obtain ⟨v1, ev1, hf⟩ := kLet_e hf
          rw [← ev1]
          refine kJ_istore_n 41 [(3, .int v1), (0, .ref x0), (1, .ref x1), (2, .int x2), (4, .int x4)] d_H_spokenForBy_40 rfl (Nat.le_of_ble_eq_true rfl) rfl rfl ?_
          refine kJ_iinc 44 4 [(4, .int (x4 + 1)), (3, .int v1), (0, .ref x0), (1, .ref x1), (2, .int x2)] d_H_spokenForBy_41 rfl ki_1 (Nat.le_of_ble_eq_true rfl) rfl rfl ?_
          refine kJ_goto 5 d_H_spokenForBy_44 rfl ?_
          refine kJ_sub [2, 3, 4, 1, 0] rfl ?_
          exact hrec5 v1 (x4 + 1) hf
def f_H_spokenForBy (h : kH) (x0 : Nat) (x1 : Nat) (x2 : Int32) : Option Int32 := b_H_spokenForBy_5 h x0 x1 x2 kFuel 0 0
theorem j_H_spokenForBy {E : kE} {L : Nat} {xs : Nat → Int32} (hro : kRo E L xs) {h : kH} {x0 : Nat} {x1 : Nat} {x2 : Int32} (k0 : kIs x0 1) (k1 : kIs x1 0) {r : Int32} (hf : f_H_spokenForBy h x0 x1 x2 = some r) : JM E m_H_spokenForBy [.ref x0, .ref x1, .int x2] (mk h) (some r) (mk h) := by
  unfold f_H_spokenForBy at hf
  refine JM.of pn_H (Nat.le_of_ble_eq_true rfl) ?_
  show kJ E m_H_spokenForBy (some r) (mk h) 0 0 0 [(0, .ref x0), (1, .ref x1), (2, .int x2)] [] (mk h)
  refine kJ_iconst 1 0 d_H_spokenForBy_0 ki_0 rfl ?_
  refine kJ_istore_n 2 [(3, .int 0), (0, .ref x0), (1, .ref x1), (2, .int x2)] d_H_spokenForBy_1 rfl (Nat.le_of_ble_eq_true rfl) rfl rfl ?_
  refine kJ_iconst 3 0 d_H_spokenForBy_2 ki_0 rfl ?_
  refine kJ_istore 5 [(4, .int 0), (3, .int 0), (0, .ref x0), (1, .ref x1), (2, .int x2)] d_H_spokenForBy_3 (Nat.le_of_ble_eq_true rfl) rfl rfl ?_
  refine kJ_sub [2, 3, 4, 1, 0] rfl ?_
  exact c_H_spokenForBy_5 hro k0 k1 kFuel 0 0 hf
def f_P_at (h : kH) (x1 : Int32) (x2 : Int32) (x3 : Int32) : Option (Int32 × kH) := if (f_C_hasMember h 1 x1) = true then (if (f_C_hasItem h 1 x2) = true then (kG x2 12 (kBi (f_H_listen h 141 1 (1 + 10 + 5 * kx x2)) fun h2 => if x3 = 0 then (kG x1 12 (some ((h2 142 (kx x1)), h2))) else (if x3 = 1 then (kG x1 12 (some ((h2 ((1 + 10 + 5 * kx x2) + 2) (kx x1)), h2))) else (if x3 = 2 then (kG x1 12 (some ((h2 ((1 + 10 + 5 * kx x2) + 3) (kx x1)), h2))) else (if x3 = 3 then (kBi (f_H_wayOf h2 141 1 (1 + 10 + 5 * kx x2) x1) fun v4 => some (v4, h2)) else (if x3 = 4 then (kG x1 12 (some ((h2 ((1 + 10 + 5 * kx x2) + 4) (kx x1)), h2))) else (if x3 = 5 then (kBi (f_C_isRecused h2 1 x1 (1 + 10 + 5 * kx x2)) fun v5 => if v5 = true then (some (1, h2)) else (some (0, h2))) else (if x3 = 6 then (kBi (f_H_spokenForBy h2 141 1 x1) fun v6 => some (v6, h2)) else (some ((-2), h2)))))))))) else (some ((-1), h))) else (some ((-1), h))
theorem j_P_at {E : kE} {L : Nat} {xs : Nat → Int32} (hro : kRo E L xs) {h : kH} {x1 : Int32} {x2 : Int32} {x3 : Int32} {r : Int32} {h' : kH} (hf : f_P_at h x1 x2 x3 = some (r, h')) : JM E m_P_at [.ref 0, .int x1, .int x2, .int x3] (mk h) (some r) (mk h') := by
  unfold f_P_at at hf
  refine JM.of pn_P (Nat.le_of_ble_eq_true rfl) ?_
  show kJ E m_P_at (some r) (mk h') 0 0 0 [(0, .ref 0), (1, .int x1), (2, .int x2), (3, .int x3)] [] (mk h)
  refine kJ_aload_n 1 0 d_P_at_0 rfl rfl rfl rfl ?_
  refine kM_getR 4 0 1 d_P_at_1 l_P_10 kp_0 rfl rfl rfl rfl ?_
  refine kJ_iload_n 5 1 d_P_at_4 rfl rfl rfl ?_
  refine kM_callv 8 m_C_hasMember [.int x1] [] d_P_at_5 cl_P_112 ⟨w_437, w_10⟩ kp_1 ⟨rfl, by decide⟩ ⟨_, _, rfl⟩ rfl rfl (Nat.le_of_ble_eq_true rfl) ⟨Nat.le_of_ble_eq_true rfl, Nat.le_of_ble_eq_true rfl⟩ ⟨rfl, rfl⟩ ⟨Nat.zero_le _, Nat.zero_le _⟩ (j_C_hasMember hro kp_1 rfl) rfl ?_
  refine kJ_if_eq 11 22 d_P_at_8 rfl rfl (fun hc => ?_) (fun hc => ?_)
  · have hf := kIf_f hf (kB2_0 hc)
    refine kJ_iconst 23 (-1) d_P_at_22 ki_m1 rfl ?_
    cases hf
    exact kJ_iret d_P_at_23 rfl rfl (Nat.zero_le _) (Nat.zero_le _)
  · have hf := kIf_t hf (kB2_1 hc)
    refine kJ_aload_n 12 0 d_P_at_11 rfl rfl rfl rfl ?_
    refine kM_getR 15 0 1 d_P_at_12 l_P_10 kp_0 rfl rfl rfl rfl ?_
    refine kJ_iload_n 16 2 d_P_at_15 rfl rfl rfl ?_
    refine kM_callv 19 m_C_hasItem [.int x2] [] d_P_at_16 cl_P_134 ⟨w_487, w_17⟩ kp_1 ⟨rfl, by decide⟩ ⟨_, _, rfl⟩ rfl rfl (Nat.le_of_ble_eq_true rfl) ⟨Nat.le_of_ble_eq_true rfl, Nat.le_of_ble_eq_true rfl⟩ ⟨rfl, rfl⟩ ⟨Nat.zero_le _, Nat.zero_le _⟩ (j_C_hasItem hro kp_1 rfl) rfl ?_
    refine kJ_if_ne 22 24 d_P_at_19 rfl rfl (fun hc => ?_) (fun hc => ?_)
    · have hf := kIf_t hf (kB2_1 hc)
      refine kJ_aload_n 25 0 d_P_at_24 rfl rfl rfl rfl ?_
      refine kM_getR 28 0 1 d_P_at_25 l_P_10 kp_0 rfl rfl rfl rfl ?_
      refine kM_getR 31 4 6 d_P_at_28 l_P_137 kp_1 rfl rfl rfl rfl ?_
      refine kJ_iload_n 32 2 d_P_at_31 rfl rfl rfl ?_
      obtain ⟨hg1, hf⟩ := kG_some hf
      refine kM_aald 33 12 5 5 (1 + 10 + 5 * kx x2) d_P_at_32 (kk_0_9 kp_1) rfl (by decide) (Or.inl rfl) hg1 (by simp only [Nat.add_assoc, kx]; try omega) rfl ?_
      refine kJ_astore 35 [(4, .ref (1 + 10 + 5 * kx x2)), (0, .ref 0), (1, .int x1), (2, .int x2), (3, .int x3)] d_P_at_33 (Nat.le_of_ble_eq_true rfl) rfl rfl rfl ?_
      refine kJ_aload_n 36 1 d_P_at_35 rfl rfl rfl rfl ?_
      refine kM_getR 39 140 141 d_P_at_36 l_P_22 kp_0 rfl rfl rfl rfl ?_
      refine kJ_aload_n 40 1 d_P_at_39 rfl rfl rfl rfl ?_
      refine kM_getR 43 0 1 d_P_at_40 l_P_10 kp_0 rfl rfl rfl rfl ?_
      refine kJ_aload 45 0 d_P_at_43 rfl rfl rfl ?_
      obtain ⟨h2, eh2, hf⟩ := kBi_some hf
      refine kM_callv 48 m_H_listen [.ref 1, .ref (1 + 10 + 5 * kx x2)] [] d_P_at_45 cl_P_159 ⟨w_526, w_23⟩ kp_141 ⟨rfl, by decide⟩ ⟨_, _, rfl⟩ rfl rfl (Nat.le_of_ble_eq_true rfl) ⟨Nat.le_of_ble_eq_true rfl, Nat.le_of_ble_eq_true rfl⟩ ⟨rfl, rfl⟩ ⟨Nat.zero_le _, Nat.zero_le _⟩ (j_H_listen hro kp_141 kp_1 (kC_item kp_1 (kIn_lt hg1)) eh2) rfl ?_
      refine kJ_iload_n 49 4 d_P_at_48 rfl rfl rfl ?_
      by_cases c0 : x3 = 0
      · have hf := kIf_t hf c0
        refine kJ_tabIn 92 d_P_at_49 (by rw [c0]; try decide) (by rw [c0]; try decide) (by rw [c0]; try rfl) rfl ?_
        refine kJ_aload_n 93 1 d_P_at_92 rfl rfl rfl rfl ?_
        refine kM_getR 96 140 141 d_P_at_93 l_P_22 kp_0 rfl rfl rfl rfl ?_
        refine kM_getR 99 0 142 d_P_at_96 l_P_174 kp_141 rfl rfl rfl rfl ?_
        refine kJ_iload_n 100 2 d_P_at_99 rfl rfl rfl ?_
        obtain ⟨hg, hf⟩ := kG_some hf
        refine kM_iald 101 12 d_P_at_100 (kk_1_0 kp_141) rfl hg rfl ?_
        cases hf
        exact kJ_iret d_P_at_101 rfl rfl (Nat.zero_le _) (Nat.zero_le _)
      · have hf := kIf_f hf c0
        by_cases c1 : x3 = 1
        · have hf := kIf_t hf c1
          refine kJ_tabIn 102 d_P_at_49 (by rw [c1]; try decide) (by rw [c1]; try decide) (by rw [c1]; try rfl) rfl ?_
          refine kJ_aload 104 0 d_P_at_102 rfl rfl rfl ?_
          refine kM_getR 107 1 ((1 + 10 + 5 * kx x2) + 2) d_P_at_104 l_P_177 (kC_item kp_1 (kIn_lt hg1)) rfl rfl rfl rfl ?_
          refine kJ_iload_n 108 2 d_P_at_107 rfl rfl rfl ?_
          obtain ⟨hg, hf⟩ := kG_some hf
          refine kM_iald 109 12 d_P_at_108 (kk_3_7 (kC_item kp_1 (kIn_lt hg1))) rfl hg rfl ?_
          cases hf
          exact kJ_iret d_P_at_109 rfl rfl (Nat.zero_le _) (Nat.zero_le _)
        · have hf := kIf_f hf c1
          by_cases c2 : x3 = 2
          · have hf := kIf_t hf c2
            refine kJ_tabIn 110 d_P_at_49 (by rw [c2]; try decide) (by rw [c2]; try decide) (by rw [c2]; try rfl) rfl ?_
            refine kJ_aload 112 0 d_P_at_110 rfl rfl rfl ?_
            refine kM_getR 115 2 ((1 + 10 + 5 * kx x2) + 3) d_P_at_112 l_P_180 (kC_item kp_1 (kIn_lt hg1)) rfl rfl rfl rfl ?_
            refine kJ_iload_n 116 2 d_P_at_115 rfl rfl rfl ?_
            obtain ⟨hg, hf⟩ := kG_some hf
            refine kM_iald 117 12 d_P_at_116 (kk_3_8 (kC_item kp_1 (kIn_lt hg1))) rfl hg rfl ?_
            cases hf
            exact kJ_iret d_P_at_117 rfl rfl (Nat.zero_le _) (Nat.zero_le _)
          · have hf := kIf_f hf c2
            by_cases c3 : x3 = 3
            · have hf := kIf_t hf c3
              refine kJ_tabIn 118 d_P_at_49 (by rw [c3]; try decide) (by rw [c3]; try decide) (by rw [c3]; try rfl) rfl ?_
              refine kJ_aload_n 119 1 d_P_at_118 rfl rfl rfl rfl ?_
              refine kM_getR 122 140 141 d_P_at_119 l_P_22 kp_0 rfl rfl rfl rfl ?_
              refine kJ_aload_n 123 1 d_P_at_122 rfl rfl rfl rfl ?_
              refine kM_getR 126 0 1 d_P_at_123 l_P_10 kp_0 rfl rfl rfl rfl ?_
              refine kJ_aload 128 0 d_P_at_126 rfl rfl rfl ?_
              refine kJ_iload_n 129 2 d_P_at_128 rfl rfl rfl ?_
              obtain ⟨v4, ev4, hf⟩ := kBi_some hf
              refine kM_callv 132 m_H_wayOf [.ref 1, .ref (1 + 10 + 5 * kx x2), .int x1] [] d_P_at_129 cl_P_183 ⟨w_585, w_35⟩ kp_141 ⟨rfl, by decide⟩ ⟨_, _, rfl⟩ rfl rfl (Nat.le_of_ble_eq_true rfl) ⟨Nat.le_of_ble_eq_true rfl, Nat.le_of_ble_eq_true rfl⟩ ⟨rfl, rfl⟩ ⟨Nat.zero_le _, Nat.zero_le _⟩ (j_H_wayOf hro kp_141 kp_1 (kC_item kp_1 (kIn_lt hg1)) ev4) rfl ?_
              cases hf
              exact kJ_iret d_P_at_132 rfl rfl (Nat.zero_le _) (Nat.zero_le _)
            · have hf := kIf_f hf c3
              by_cases c4 : x3 = 4
              · have hf := kIf_t hf c4
                refine kJ_tabIn 133 d_P_at_49 (by rw [c4]; try decide) (by rw [c4]; try decide) (by rw [c4]; try rfl) rfl ?_
                refine kJ_aload 135 0 d_P_at_133 rfl rfl rfl ?_
                refine kM_getR 138 3 ((1 + 10 + 5 * kx x2) + 4) d_P_at_135 l_P_187 (kC_item kp_1 (kIn_lt hg1)) rfl rfl rfl rfl ?_
                refine kJ_iload_n 139 2 d_P_at_138 rfl rfl rfl ?_
                obtain ⟨hg, hf⟩ := kG_some hf
                refine kM_iald 140 12 d_P_at_139 (kk_3_9 (kC_item kp_1 (kIn_lt hg1))) rfl hg rfl ?_
                cases hf
                exact kJ_iret d_P_at_140 rfl rfl (Nat.zero_le _) (Nat.zero_le _)
              · have hf := kIf_f hf c4
                by_cases c5 : x3 = 5
                · have hf := kIf_t hf c5
                  refine kJ_tabIn 141 d_P_at_49 (by rw [c5]; try decide) (by rw [c5]; try decide) (by rw [c5]; try rfl) rfl ?_
                  refine kJ_aload_n 142 1 d_P_at_141 rfl rfl rfl rfl ?_
                  refine kM_getR 145 0 1 d_P_at_142 l_P_10 kp_0 rfl rfl rfl rfl ?_
                  refine kJ_iload_n 146 2 d_P_at_145 rfl rfl rfl ?_
                  refine kJ_aload 148 0 d_P_at_146 rfl rfl rfl ?_
                  obtain ⟨v5, ev5, hf⟩ := kBi_some hf
                  refine kM_callv 151 m_C_isRecused [.int x1, .ref (1 + 10 + 5 * kx x2)] [] d_P_at_148 cl_P_188 ⟨w_514, w_21⟩ kp_1 ⟨rfl, by decide⟩ ⟨_, _, rfl⟩ rfl rfl (Nat.le_of_ble_eq_true rfl) ⟨Nat.le_of_ble_eq_true rfl, Nat.le_of_ble_eq_true rfl⟩ ⟨rfl, rfl⟩ ⟨Nat.zero_le _, Nat.zero_le _⟩ (j_C_isRecused hro kp_1 (kC_item kp_1 (kIn_lt hg1)) ev5) rfl ?_
                  refine kJ_if_eq 154 158 d_P_at_151 rfl rfl (fun hc => ?_) (fun hc => ?_)
                  · have hf := kIf_f hf (kB2_0 hc)
                    refine kJ_iconst 159 0 d_P_at_158 ki_0 rfl ?_
                    cases hf
                    exact kJ_iret d_P_at_159 rfl rfl (Nat.zero_le _) (Nat.zero_le _)
                  · have hf := kIf_t hf (kB2_1 hc)
                    refine kJ_iconst 155 1 d_P_at_154 ki_1 rfl ?_
                    refine kJ_goto 159 d_P_at_155 rfl ?_
                    cases hf
                    exact kJ_iret d_P_at_159 rfl rfl (Nat.zero_le _) (Nat.zero_le _)
                · have hf := kIf_f hf c5
                  by_cases c6 : x3 = 6
                  · have hf := kIf_t hf c6
                    refine kJ_tabIn 160 d_P_at_49 (by rw [c6]; try decide) (by rw [c6]; try decide) (by rw [c6]; try rfl) rfl ?_
                    refine kJ_aload_n 161 1 d_P_at_160 rfl rfl rfl rfl ?_
                    refine kM_getR 164 140 141 d_P_at_161 l_P_22 kp_0 rfl rfl rfl rfl ?_
                    refine kJ_aload_n 165 1 d_P_at_164 rfl rfl rfl rfl ?_
                    refine kM_getR 168 0 1 d_P_at_165 l_P_10 kp_0 rfl rfl rfl rfl ?_
                    refine kJ_iload_n 169 2 d_P_at_168 rfl rfl rfl ?_
                    obtain ⟨v6, ev6, hf⟩ := kBi_some hf
                    refine kM_callv 172 m_H_spokenForBy [.ref 1, .int x1] [] d_P_at_169 cl_P_192 ⟨w_663, w_47⟩ kp_141 ⟨rfl, by decide⟩ ⟨_, _, rfl⟩ rfl rfl (Nat.le_of_ble_eq_true rfl) ⟨Nat.le_of_ble_eq_true rfl, Nat.le_of_ble_eq_true rfl⟩ ⟨rfl, rfl⟩ ⟨Nat.zero_le _, Nat.zero_le _⟩ (j_H_spokenForBy hro kp_141 kp_1 ev6) rfl ?_
                    cases hf
                    exact kJ_iret d_P_at_172 rfl rfl (Nat.zero_le _) (Nat.zero_le _)
                  · have hf := kIf_f hf c6
                    refine kJ_tabOut 173 d_P_at_49 (by have t0 := kne 0 c0 rfl; have t1 := kne 1 c1 rfl; have t2 := kne 2 c2 rfl; have t3 := kne 3 c3 rfl; have t4 := kne 4 c4 rfl; have t5 := kne 5 c5 rfl; have t6 := kne 6 c6 rfl; omega) rfl ?_
                    refine kJ_bipush 175 (-2) d_P_at_173 kb_m2 rfl ?_
                    cases hf
                    exact kJ_iret d_P_at_175 rfl rfl (Nat.zero_le _) (Nat.zero_le _)
    · have hf := kIf_f hf (kB2_0 hc)
      refine kJ_iconst 23 (-1) d_P_at_22 ki_m1 rfl ?_
      cases hf
      exact kJ_iret d_P_at_23 rfl rfl (Nat.zero_le _) (Nat.zero_le _)
def b_C_itemsIn_4 (h : kH) (x0 : Nat) (x1 : Int32) : Nat → Int32 → Int32 → Option Int32
  | 0, _, _ => none
  | n + 1, x2, x3 => (fun rec4 => if (h x0 2) ≤ x3 then (some x2) else (kG x3 12 (if (h (x0 + 10 + 5 * kx x3) 2) = x1 then (rec4 (x2 + 1) (x3 + 1)) else (rec4 x2 (x3 + 1))))) (fun x2' x3' => b_C_itemsIn_4 h x0 x1 n x2' x3')
theorem c_C_itemsIn_4 {E : kE} {L : Nat} {xs : Nat → Int32} (hro : kRo E L xs) {h : kH} {x0 : Nat} {x1 : Int32} (k0 : kIs x0 0) {r : Int32} : ∀ (n : Nat) (x2 : Int32) (x3 : Int32), b_C_itemsIn_4 h x0 x1 n x2 x3 = some r → kJ E m_C_itemsIn (some r) (mk h) 0 0 4 [(0, .ref x0), (1, .int x1), (2, .int x2), (3, .int x3)] [] (mk h) := by
  intro n
  induction n with
  | zero =>
    intro x2 x3 hf
    have hf : (none : Option Int32) = some r := hf
    cases hf
  | succ n hrec4 =>
    intro x2 x3 hf
    rw [b_C_itemsIn_4] at hf
    dsimp only at hf
    refine kJ_iload_n 5 3 d_C_itemsIn_4 rfl rfl rfl ?_
    refine kJ_aload_n 6 0 d_C_itemsIn_5 rfl rfl rfl rfl ?_
    refine kM_getI 9 d_C_itemsIn_6 l_C_57 k0 rfl rfl rfl ?_
    refine kJ_icmp_ge 12 34 d_C_itemsIn_9 rfl rfl (fun hc => ?_) (fun hc => ?_)
    · have hf := kIf_t hf hc
      refine kJ_iload_n 35 2 d_C_itemsIn_34 rfl rfl rfl ?_
      cases hf
      exact kJ_iret d_C_itemsIn_35 rfl rfl (Nat.zero_le _) (Nat.zero_le _)
    · have hf := kIf_f hf hc
      refine kJ_aload_n 13 0 d_C_itemsIn_12 rfl rfl rfl rfl ?_
      refine kM_getR 16 4 (x0 + 5) d_C_itemsIn_13 l_C_30 k0 rfl rfl rfl rfl ?_
      refine kJ_iload_n 17 3 d_C_itemsIn_16 rfl rfl rfl ?_
      obtain ⟨hg1, hf⟩ := kG_some hf
      refine kM_aald 18 12 5 5 (x0 + 10 + 5 * kx x3) d_C_itemsIn_17 (kk_0_9 k0) rfl (by decide) (Or.inl rfl) hg1 (by simp only [Nat.add_assoc, kx]; try omega) rfl ?_
      refine kM_getI 21 d_C_itemsIn_18 l_C_89 (kC_item k0 (kIn_lt hg1)) rfl rfl rfl ?_
      refine kJ_iload_n 22 1 d_C_itemsIn_21 rfl rfl rfl ?_
      refine kJ_icmp_ne 25 28 d_C_itemsIn_22 rfl rfl (fun hc => ?_) (fun hc => ?_)
      · have hf := kIf_f hf hc
        refine kJ_iinc 31 3 [(3, .int (x3 + 1)), (0, .ref x0), (1, .int x1), (2, .int x2)] d_C_itemsIn_28 rfl ki_1 (Nat.le_of_ble_eq_true rfl) rfl rfl ?_
        refine kJ_goto 4 d_C_itemsIn_31 rfl ?_
        refine kJ_sub [1, 2, 3, 0] rfl ?_
        exact hrec4 x2 (x3 + 1) hf
      · have hf := kIf_t hf hc
        refine kJ_iinc 28 2 [(2, .int (x2 + 1)), (0, .ref x0), (1, .int x1), (3, .int x3)] d_C_itemsIn_25 rfl ki_1 (Nat.le_of_ble_eq_true rfl) rfl rfl ?_
        refine kJ_iinc 31 3 [(3, .int (x3 + 1)), (2, .int (x2 + 1)), (0, .ref x0), (1, .int x1)] d_C_itemsIn_28 rfl ki_1 (Nat.le_of_ble_eq_true rfl) rfl rfl ?_
        refine kJ_goto 4 d_C_itemsIn_31 rfl ?_
        refine kJ_sub [2, 3, 1, 0] rfl ?_
        exact hrec4 (x2 + 1) (x3 + 1) hf
def f_C_itemsIn (h : kH) (x0 : Nat) (x1 : Int32) : Option Int32 := b_C_itemsIn_4 h x0 x1 kFuel 0 0
theorem j_C_itemsIn {E : kE} {L : Nat} {xs : Nat → Int32} (hro : kRo E L xs) {h : kH} {x0 : Nat} {x1 : Int32} (k0 : kIs x0 0) {r : Int32} (hf : f_C_itemsIn h x0 x1 = some r) : JM E m_C_itemsIn [.ref x0, .int x1] (mk h) (some r) (mk h) := by
  unfold f_C_itemsIn at hf
  refine JM.of pn_C (Nat.le_of_ble_eq_true rfl) ?_
  show kJ E m_C_itemsIn (some r) (mk h) 0 0 0 [(0, .ref x0), (1, .int x1)] [] (mk h)
  refine kJ_iconst 1 0 d_C_itemsIn_0 ki_0 rfl ?_
  refine kJ_istore_n 2 [(2, .int 0), (0, .ref x0), (1, .int x1)] d_C_itemsIn_1 rfl (Nat.le_of_ble_eq_true rfl) rfl rfl ?_
  refine kJ_iconst 3 0 d_C_itemsIn_2 ki_0 rfl ?_
  refine kJ_istore_n 4 [(3, .int 0), (2, .int 0), (0, .ref x0), (1, .int x1)] d_C_itemsIn_3 rfl (Nat.le_of_ble_eq_true rfl) rfl rfl ?_
  refine kJ_sub [2, 3, 1, 0] rfl ?_
  exact c_C_itemsIn_4 hro k0 kFuel 0 0 hf
def b_P_count_49 (h : kH) (x1 : Int32) : Option Int32 := if x1 = 0 then (some (h 1 0)) else (if x1 = 1 then (some (h 1 1)) else (if x1 = 2 then (some (h 1 2)) else (if x1 = 3 then (some (h 1 3)) else (if x1 = 4 then (kBi (f_C_firstIn h 1 1) fun v2 => some v2) else (if x1 = 5 then (some (h 1 4)) else (if x1 = 6 then (kBi (f_C_chairOfTheMoment h 1) fun v3 => some v3) else (if x1 = 7 then (kBi (f_C_weightOfAll h 1) fun v4 => some v4) else (if x1 = 8 then (some (-2)) else (if x1 = 9 then (some (-2)) else (if x1 = 10 then (some (-2)) else (if x1 = 11 then (some (-2)) else (if x1 = 12 then (some (-2)) else (if x1 = 13 then (some (h 7 0)) else (if x1 = 14 then (some (h 637 1)) else (if x1 = 15 then (some (h 145 2)) else (some (-2)))))))))))))))))
theorem c_P_count_49 {E : kE} {L : Nat} {xs : Nat → Int32} (hro : kRo E L xs) {h : kH} {x1 : Int32} {r : Int32} (hf : b_P_count_49 h x1 = some r) : kJ E m_P_count (some r) (mk h) 0 0 49 [(0, .ref 0), (1, .int x1)] [] (mk h) := by
  unfold b_P_count_49 at hf
  refine kJ_iload_n 50 1 d_P_count_49 rfl rfl rfl ?_
  by_cases c0 : x1 = 0
  · have hf := kIf_t hf c0
    refine kJ_tabIn 128 d_P_count_50 (by rw [c0]; try decide) (by rw [c0]; try decide) (by rw [c0]; try rfl) rfl ?_
    refine kJ_aload_n 129 0 d_P_count_128 rfl rfl rfl rfl ?_
    refine kM_getR 132 0 1 d_P_count_129 l_P_10 kp_0 rfl rfl rfl rfl ?_
    refine kM_getI 135 d_P_count_132 l_P_202 kp_1 rfl rfl rfl ?_
    cases hf
    exact kJ_iret d_P_count_135 rfl rfl (Nat.zero_le _) (Nat.zero_le _)
  · have hf := kIf_f hf c0
    by_cases c1 : x1 = 1
    · have hf := kIf_t hf c1
      refine kJ_tabIn 136 d_P_count_50 (by rw [c1]; try decide) (by rw [c1]; try decide) (by rw [c1]; try rfl) rfl ?_
      refine kJ_aload_n 137 0 d_P_count_136 rfl rfl rfl rfl ?_
      refine kM_getR 140 0 1 d_P_count_137 l_P_10 kp_0 rfl rfl rfl rfl ?_
      refine kM_getI 143 d_P_count_140 l_P_205 kp_1 rfl rfl rfl ?_
      cases hf
      exact kJ_iret d_P_count_143 rfl rfl (Nat.zero_le _) (Nat.zero_le _)
    · have hf := kIf_f hf c1
      by_cases c2 : x1 = 2
      · have hf := kIf_t hf c2
        refine kJ_tabIn 144 d_P_count_50 (by rw [c2]; try decide) (by rw [c2]; try decide) (by rw [c2]; try rfl) rfl ?_
        refine kJ_aload_n 145 0 d_P_count_144 rfl rfl rfl rfl ?_
        refine kM_getR 148 0 1 d_P_count_145 l_P_10 kp_0 rfl rfl rfl rfl ?_
        refine kM_getI 151 d_P_count_148 l_P_208 kp_1 rfl rfl rfl ?_
        cases hf
        exact kJ_iret d_P_count_151 rfl rfl (Nat.zero_le _) (Nat.zero_le _)
      · have hf := kIf_f hf c2
        by_cases c3 : x1 = 3
        · have hf := kIf_t hf c3
          refine kJ_tabIn 152 d_P_count_50 (by rw [c3]; try decide) (by rw [c3]; try decide) (by rw [c3]; try rfl) rfl ?_
          refine kJ_aload_n 153 0 d_P_count_152 rfl rfl rfl rfl ?_
          refine kM_getR 156 0 1 d_P_count_153 l_P_10 kp_0 rfl rfl rfl rfl ?_
          refine kM_getI 159 d_P_count_156 l_P_211 kp_1 rfl rfl rfl ?_
          cases hf
          exact kJ_iret d_P_count_159 rfl rfl (Nat.zero_le _) (Nat.zero_le _)
        · have hf := kIf_f hf c3
          by_cases c4 : x1 = 4
          · have hf := kIf_t hf c4
            refine kJ_tabIn 160 d_P_count_50 (by rw [c4]; try decide) (by rw [c4]; try decide) (by rw [c4]; try rfl) rfl ?_
            refine kJ_aload_n 161 0 d_P_count_160 rfl rfl rfl rfl ?_
            refine kM_getR 164 0 1 d_P_count_161 l_P_10 kp_0 rfl rfl rfl rfl ?_
            refine kJ_iconst 165 1 d_P_count_164 ki_1 rfl ?_
            obtain ⟨v2, ev2, hf⟩ := kBi_some hf
            refine kM_callv 168 m_C_firstIn [.int 1] [] d_P_count_165 cl_P_214 ⟨w_549, w_28⟩ kp_1 ⟨rfl, by decide⟩ ⟨_, _, rfl⟩ rfl rfl (Nat.le_of_ble_eq_true rfl) ⟨Nat.le_of_ble_eq_true rfl, Nat.le_of_ble_eq_true rfl⟩ ⟨rfl, rfl⟩ ⟨Nat.zero_le _, Nat.zero_le _⟩ (j_C_firstIn hro kp_1 ev2) rfl ?_
            cases hf
            exact kJ_iret d_P_count_168 rfl rfl (Nat.zero_le _) (Nat.zero_le _)
          · have hf := kIf_f hf c4
            by_cases c5 : x1 = 5
            · have hf := kIf_t hf c5
              refine kJ_tabIn 169 d_P_count_50 (by rw [c5]; try decide) (by rw [c5]; try decide) (by rw [c5]; try rfl) rfl ?_
              refine kJ_aload_n 170 0 d_P_count_169 rfl rfl rfl rfl ?_
              refine kM_getR 173 0 1 d_P_count_170 l_P_10 kp_0 rfl rfl rfl rfl ?_
              refine kM_getI 176 d_P_count_173 l_P_217 kp_1 rfl rfl rfl ?_
              cases hf
              exact kJ_iret d_P_count_176 rfl rfl (Nat.zero_le _) (Nat.zero_le _)
            · have hf := kIf_f hf c5
              by_cases c6 : x1 = 6
              · have hf := kIf_t hf c6
                refine kJ_tabIn 177 d_P_count_50 (by rw [c6]; try decide) (by rw [c6]; try decide) (by rw [c6]; try rfl) rfl ?_
                refine kJ_aload_n 178 0 d_P_count_177 rfl rfl rfl rfl ?_
                refine kM_getR 181 0 1 d_P_count_178 l_P_10 kp_0 rfl rfl rfl rfl ?_
                obtain ⟨v3, ev3, hf⟩ := kBi_some hf
                refine kM_callv 184 m_C_chairOfTheMoment [] [] d_P_count_181 cl_P_220 ⟨w_605, w_39⟩ kp_1 ⟨rfl, by decide⟩ ⟨_, _, rfl⟩ rfl rfl (Nat.le_of_ble_eq_true rfl) ⟨Nat.le_of_ble_eq_true rfl, Nat.le_of_ble_eq_true rfl⟩ ⟨rfl, rfl⟩ ⟨Nat.zero_le _, Nat.zero_le _⟩ (j_C_chairOfTheMoment hro kp_1 ev3) rfl ?_
                cases hf
                exact kJ_iret d_P_count_184 rfl rfl (Nat.zero_le _) (Nat.zero_le _)
              · have hf := kIf_f hf c6
                by_cases c7 : x1 = 7
                · have hf := kIf_t hf c7
                  refine kJ_tabIn 185 d_P_count_50 (by rw [c7]; try decide) (by rw [c7]; try decide) (by rw [c7]; try rfl) rfl ?_
                  refine kJ_aload_n 186 0 d_P_count_185 rfl rfl rfl rfl ?_
                  refine kM_getR 189 0 1 d_P_count_186 l_P_10 kp_0 rfl rfl rfl rfl ?_
                  obtain ⟨v4, ev4, hf⟩ := kBi_some hf
                  refine kM_callv 192 m_C_weightOfAll [] [] d_P_count_189 cl_P_224 ⟨w_557, w_30⟩ kp_1 ⟨rfl, by decide⟩ ⟨_, _, rfl⟩ rfl rfl (Nat.le_of_ble_eq_true rfl) ⟨Nat.le_of_ble_eq_true rfl, Nat.le_of_ble_eq_true rfl⟩ ⟨rfl, rfl⟩ ⟨Nat.zero_le _, Nat.zero_le _⟩ (j_C_weightOfAll hro kp_1 ev4) rfl ?_
                  cases hf
                  exact kJ_iret d_P_count_192 rfl rfl (Nat.zero_le _) (Nat.zero_le _)
                · have hf := kIf_f hf c7
                  by_cases c8 : x1 = 8
                  · have hf := kIf_t hf c8
                    refine kJ_tabIn 220 d_P_count_50 (by rw [c8]; try decide) (by rw [c8]; try decide) (by rw [c8]; try rfl) rfl ?_
                    refine kJ_bipush 222 (-2) d_P_count_220 kb_m2 rfl ?_
                    cases hf
                    exact kJ_iret d_P_count_222 rfl rfl (Nat.zero_le _) (Nat.zero_le _)
                  · have hf := kIf_f hf c8
                    by_cases c9 : x1 = 9
                    · have hf := kIf_t hf c9
                      refine kJ_tabIn 220 d_P_count_50 (by rw [c9]; try decide) (by rw [c9]; try decide) (by rw [c9]; try rfl) rfl ?_
                      refine kJ_bipush 222 (-2) d_P_count_220 kb_m2 rfl ?_
                      cases hf
                      exact kJ_iret d_P_count_222 rfl rfl (Nat.zero_le _) (Nat.zero_le _)
                    · have hf := kIf_f hf c9
                      by_cases c10 : x1 = 10
                      · have hf := kIf_t hf c10
                        refine kJ_tabIn 220 d_P_count_50 (by rw [c10]; try decide) (by rw [c10]; try decide) (by rw [c10]; try rfl) rfl ?_
                        refine kJ_bipush 222 (-2) d_P_count_220 kb_m2 rfl ?_
                        cases hf
                        exact kJ_iret d_P_count_222 rfl rfl (Nat.zero_le _) (Nat.zero_le _)
                      · have hf := kIf_f hf c10
                        by_cases c11 : x1 = 11
                        · have hf := kIf_t hf c11
                          refine kJ_tabIn 220 d_P_count_50 (by rw [c11]; try decide) (by rw [c11]; try decide) (by rw [c11]; try rfl) rfl ?_
                          refine kJ_bipush 222 (-2) d_P_count_220 kb_m2 rfl ?_
                          cases hf
                          exact kJ_iret d_P_count_222 rfl rfl (Nat.zero_le _) (Nat.zero_le _)
                        · have hf := kIf_f hf c11
                          by_cases c12 : x1 = 12
                          · have hf := kIf_t hf c12
                            refine kJ_tabIn 220 d_P_count_50 (by rw [c12]; try decide) (by rw [c12]; try decide) (by rw [c12]; try rfl) rfl ?_
                            refine kJ_bipush 222 (-2) d_P_count_220 kb_m2 rfl ?_
                            cases hf
                            exact kJ_iret d_P_count_222 rfl rfl (Nat.zero_le _) (Nat.zero_le _)
                          · have hf := kIf_f hf c12
                            by_cases c13 : x1 = 13
                            · have hf := kIf_t hf c13
                              refine kJ_tabIn 193 d_P_count_50 (by rw [c13]; try decide) (by rw [c13]; try decide) (by rw [c13]; try rfl) rfl ?_
                              refine kJ_aload_n 194 0 d_P_count_193 rfl rfl rfl rfl ?_
                              refine kM_getR 197 0 1 d_P_count_194 l_P_10 kp_0 rfl rfl rfl rfl ?_
                              refine kM_getR 200 5 7 d_P_count_197 l_P_227 kp_1 rfl rfl rfl rfl ?_
                              refine kM_getI 203 d_P_count_200 l_P_231 (kk_0_10 kp_1) rfl rfl rfl ?_
                              cases hf
                              exact kJ_iret d_P_count_203 rfl rfl (Nat.zero_le _) (Nat.zero_le _)
                            · have hf := kIf_f hf c13
                              by_cases c14 : x1 = 14
                              · have hf := kIf_t hf c14
                                refine kJ_tabIn 204 d_P_count_50 (by rw [c14]; try decide) (by rw [c14]; try decide) (by rw [c14]; try rfl) rfl ?_
                                refine kJ_aload_n 205 0 d_P_count_204 rfl rfl rfl rfl ?_
                                refine kM_getR 208 636 637 d_P_count_205 l_P_36 kp_0 rfl rfl rfl rfl ?_
                                refine kM_getI 211 d_P_count_208 l_P_236 kp_637 rfl rfl rfl ?_
                                cases hf
                                exact kJ_iret d_P_count_211 rfl rfl (Nat.zero_le _) (Nat.zero_le _)
                              · have hf := kIf_f hf c14
                                by_cases c15 : x1 = 15
                                · have hf := kIf_t hf c15
                                  refine kJ_tabIn 212 d_P_count_50 (by rw [c15]; try decide) (by rw [c15]; try decide) (by rw [c15]; try rfl) rfl ?_
                                  refine kJ_aload_n 213 0 d_P_count_212 rfl rfl rfl rfl ?_
                                  refine kM_getR 216 144 145 d_P_count_213 l_P_29 kp_0 rfl rfl rfl rfl ?_
                                  refine kM_getI 219 d_P_count_216 l_P_239 kp_145 rfl rfl rfl ?_
                                  cases hf
                                  exact kJ_iret d_P_count_219 rfl rfl (Nat.zero_le _) (Nat.zero_le _)
                                · have hf := kIf_f hf c15
                                  refine kJ_tabOut 220 d_P_count_50 (by have t0 := kne 0 c0 rfl; have t1 := kne 1 c1 rfl; have t2 := kne 2 c2 rfl; have t3 := kne 3 c3 rfl; have t4 := kne 4 c4 rfl; have t5 := kne 5 c5 rfl; have t6 := kne 6 c6 rfl; have t7 := kne 7 c7 rfl; have t8 := kne 8 c8 rfl; have t9 := kne 9 c9 rfl; have t10 := kne 10 c10 rfl; have t11 := kne 11 c11 rfl; have t12 := kne 12 c12 rfl; have t13 := kne 13 c13 rfl; have t14 := kne 14 c14 rfl; have t15 := kne 15 c15 rfl; omega) rfl ?_
                                  refine kJ_bipush 222 (-2) d_P_count_220 kb_m2 rfl ?_
                                  cases hf
                                  exact kJ_iret d_P_count_222 rfl rfl (Nat.zero_le _) (Nat.zero_le _)
def b_P_count_24 (h : kH) (x1 : Int32) : Option Int32 := if x1 < 16 then (b_P_count_49 h x1) else (if 22 ≤ x1 then (b_P_count_49 h x1) else (kG (x1 - 16) 6 (some (h 2 (kx (x1 - 16))))))
theorem c_P_count_24 {E : kE} {L : Nat} {xs : Nat → Int32} (hro : kRo E L xs) {h : kH} {x1 : Int32} {r : Int32} (hf : b_P_count_24 h x1 = some r) : kJ E m_P_count (some r) (mk h) 0 0 24 [(0, .ref 0), (1, .int x1)] [] (mk h) := by
  unfold b_P_count_24 at hf
  refine kJ_iload_n 25 1 d_P_count_24 rfl rfl rfl ?_
  refine kJ_bipush 27 16 d_P_count_25 kb_16 rfl ?_
  refine kJ_icmp_lt 30 49 d_P_count_27 rfl rfl (fun hc => ?_) (fun hc => ?_)
  · have hf := kIf_t hf hc
    refine kJ_sub [0, 1] rfl ?_
    exact c_P_count_49 hro hf
  · have hf := kIf_f hf hc
    refine kJ_iload_n 31 1 d_P_count_30 rfl rfl rfl ?_
    refine kJ_bipush 33 22 d_P_count_31 kb_22 rfl ?_
    refine kJ_icmp_ge 36 49 d_P_count_33 rfl rfl (fun hc => ?_) (fun hc => ?_)
    · have hf := kIf_t hf hc
      refine kJ_sub [0, 1] rfl ?_
      exact c_P_count_49 hro hf
    · have hf := kIf_f hf hc
      refine kJ_aload_n 37 0 d_P_count_36 rfl rfl rfl rfl ?_
      refine kM_getR 40 0 1 d_P_count_37 l_P_10 kp_0 rfl rfl rfl rfl ?_
      refine kM_getR 43 0 2 d_P_count_40 l_P_199 kp_1 rfl rfl rfl rfl ?_
      refine kJ_iload_n 44 1 d_P_count_43 rfl rfl rfl ?_
      refine kJ_bipush 46 16 d_P_count_44 kb_16 rfl ?_
      refine kJ_isub 47 d_P_count_46 rfl ?_
      obtain ⟨hg, hf⟩ := kG_some hf
      refine kM_iald 48 6 d_P_count_47 (kk_0_5 kp_1) rfl hg rfl ?_
      cases hf
      exact kJ_iret d_P_count_48 rfl rfl (Nat.zero_le _) (Nat.zero_le _)
def f_P_count (h : kH) (x1 : Int32) : Option Int32 := if x1 < 8 then (b_P_count_24 h x1) else (if 12 < x1 then (b_P_count_24 h x1) else (kBi (f_C_itemsIn h 1 (x1 - 8)) fun v5 => some v5))
theorem j_P_count {E : kE} {L : Nat} {xs : Nat → Int32} (hro : kRo E L xs) {h : kH} {x1 : Int32} {r : Int32} (hf : f_P_count h x1 = some r) : JM E m_P_count [.ref 0, .int x1] (mk h) (some r) (mk h) := by
  unfold f_P_count at hf
  refine JM.of pn_P (Nat.le_of_ble_eq_true rfl) ?_
  show kJ E m_P_count (some r) (mk h) 0 0 0 [(0, .ref 0), (1, .int x1)] [] (mk h)
  refine kJ_iload_n 1 1 d_P_count_0 rfl rfl rfl ?_
  refine kJ_bipush 3 8 d_P_count_1 kb_8 rfl ?_
  refine kJ_icmp_lt 6 24 d_P_count_3 rfl rfl (fun hc => ?_) (fun hc => ?_)
  · have hf := kIf_t hf hc
    refine kJ_sub [0, 1] rfl ?_
    exact c_P_count_24 hro hf
  · have hf := kIf_f hf hc
    refine kJ_iload_n 7 1 d_P_count_6 rfl rfl rfl ?_
    refine kJ_bipush 9 12 d_P_count_7 kb_12 rfl ?_
    refine kJ_icmp_gt 12 24 d_P_count_9 rfl rfl (fun hc => ?_) (fun hc => ?_)
    · have hf := kIf_t hf hc
      refine kJ_sub [0, 1] rfl ?_
      exact c_P_count_24 hro hf
    · have hf := kIf_f hf hc
      refine kJ_aload_n 13 0 d_P_count_12 rfl rfl rfl rfl ?_
      refine kM_getR 16 0 1 d_P_count_13 l_P_10 kp_0 rfl rfl rfl rfl ?_
      refine kJ_iload_n 17 1 d_P_count_16 rfl rfl rfl ?_
      refine kJ_bipush 19 8 d_P_count_17 kb_8 rfl ?_
      refine kJ_isub 20 d_P_count_19 rfl ?_
      obtain ⟨v5, ev5, hf⟩ := kBi_some hf
      refine kM_callv 23 m_C_itemsIn [.int (x1 - 8)] [] d_P_count_20 cl_P_196 ⟨w_671, w_48⟩ kp_1 ⟨rfl, by decide⟩ ⟨_, _, rfl⟩ rfl rfl (Nat.le_of_ble_eq_true rfl) ⟨Nat.le_of_ble_eq_true rfl, Nat.le_of_ble_eq_true rfl⟩ ⟨rfl, rfl⟩ ⟨Nat.zero_le _, Nat.zero_le _⟩ (j_C_itemsIn hro kp_1 ev5) rfl ?_
      cases hf
      exact kJ_iret d_P_count_23 rfl rfl (Nat.zero_le _) (Nat.zero_le _)
def f_P_wouldBe (h : kH) (x1 : Int32) : Option (Int32 × kH) := if (f_C_hasItem h 1 x1) = true then (kG x1 12 (if (f_I_isPending h (1 + 10 + 5 * kx x1)) = true then (kBi (f_H_listen h 141 1 (1 + 10 + 5 * kx x1)) fun h2 => kBi (f_H_tally h2 141 1 (1 + 10 + 5 * kx x1)) fun h3 => kBi (f_H_outcome h3 141 1 (1 + 10 + 5 * kx x1) 0) fun v4 => some (v4, h3)) else (some ((-5), h)))) else (some ((-1), h))
theorem j_P_wouldBe {E : kE} {L : Nat} {xs : Nat → Int32} (hro : kRo E L xs) {h : kH} {x1 : Int32} {r : Int32} {h' : kH} (hf : f_P_wouldBe h x1 = some (r, h')) : JM E m_P_wouldBe [.ref 0, .int x1] (mk h) (some r) (mk h') := by
  unfold f_P_wouldBe at hf
  refine JM.of pn_P (Nat.le_of_ble_eq_true rfl) ?_
  show kJ E m_P_wouldBe (some r) (mk h') 0 0 0 [(0, .ref 0), (1, .int x1)] [] (mk h)
  refine kJ_aload_n 1 0 d_P_wouldBe_0 rfl rfl rfl rfl ?_
  refine kM_getR 4 0 1 d_P_wouldBe_1 l_P_10 kp_0 rfl rfl rfl rfl ?_
  refine kJ_iload_n 5 1 d_P_wouldBe_4 rfl rfl rfl ?_
  refine kM_callv 8 m_C_hasItem [.int x1] [] d_P_wouldBe_5 cl_P_134 ⟨w_487, w_17⟩ kp_1 ⟨rfl, by decide⟩ ⟨_, _, rfl⟩ rfl rfl (Nat.le_of_ble_eq_true rfl) ⟨Nat.le_of_ble_eq_true rfl, Nat.le_of_ble_eq_true rfl⟩ ⟨rfl, rfl⟩ ⟨Nat.zero_le _, Nat.zero_le _⟩ (j_C_hasItem hro kp_1 rfl) rfl ?_
  refine kJ_if_ne 11 13 d_P_wouldBe_8 rfl rfl (fun hc => ?_) (fun hc => ?_)
  · have hf := kIf_t hf (kB2_1 hc)
    refine kJ_aload_n 14 0 d_P_wouldBe_13 rfl rfl rfl rfl ?_
    refine kM_getR 17 0 1 d_P_wouldBe_14 l_P_10 kp_0 rfl rfl rfl rfl ?_
    refine kM_getR 20 4 6 d_P_wouldBe_17 l_P_137 kp_1 rfl rfl rfl rfl ?_
    refine kJ_iload_n 21 1 d_P_wouldBe_20 rfl rfl rfl ?_
    obtain ⟨hg1, hf⟩ := kG_some hf
    refine kM_aald 22 12 5 5 (1 + 10 + 5 * kx x1) d_P_wouldBe_21 (kk_0_9 kp_1) rfl (by decide) (Or.inl rfl) hg1 (by simp only [Nat.add_assoc, kx]; try omega) rfl ?_
    refine kJ_astore_n 23 [(2, .ref (1 + 10 + 5 * kx x1)), (0, .ref 0), (1, .int x1)] d_P_wouldBe_22 rfl (Nat.le_of_ble_eq_true rfl) rfl rfl rfl ?_
    refine kJ_aload_n 24 0 d_P_wouldBe_23 rfl rfl rfl rfl ?_
    refine kM_callv 27 m_I_isPending [] [] d_P_wouldBe_24 cl_P_242 ⟨w_502, w_19⟩ (kC_item kp_1 (kIn_lt hg1)) ⟨rfl, by decide⟩ ⟨_, _, rfl⟩ rfl rfl (Nat.le_of_ble_eq_true rfl) ⟨Nat.le_of_ble_eq_true rfl, Nat.le_of_ble_eq_true rfl⟩ ⟨rfl, rfl⟩ ⟨Nat.zero_le _, Nat.zero_le _⟩ (j_I_isPending hro (kC_item kp_1 (kIn_lt hg1)) rfl) rfl ?_
    refine kJ_if_ne 30 33 d_P_wouldBe_27 rfl rfl (fun hc => ?_) (fun hc => ?_)
    · have hf := kIf_t hf (kB2_1 hc)
      refine kJ_aload_n 34 1 d_P_wouldBe_33 rfl rfl rfl rfl ?_
      refine kM_getR 37 140 141 d_P_wouldBe_34 l_P_22 kp_0 rfl rfl rfl rfl ?_
      refine kJ_aload_n 38 1 d_P_wouldBe_37 rfl rfl rfl rfl ?_
      refine kM_getR 41 0 1 d_P_wouldBe_38 l_P_10 kp_0 rfl rfl rfl rfl ?_
      refine kJ_aload_n 42 0 d_P_wouldBe_41 rfl rfl rfl rfl ?_
      obtain ⟨h2, eh2, hf⟩ := kBi_some hf
      refine kM_callv 45 m_H_listen [.ref 1, .ref (1 + 10 + 5 * kx x1)] [] d_P_wouldBe_42 cl_P_159 ⟨w_526, w_23⟩ kp_141 ⟨rfl, by decide⟩ ⟨_, _, rfl⟩ rfl rfl (Nat.le_of_ble_eq_true rfl) ⟨Nat.le_of_ble_eq_true rfl, Nat.le_of_ble_eq_true rfl⟩ ⟨rfl, rfl⟩ ⟨Nat.zero_le _, Nat.zero_le _⟩ (j_H_listen hro kp_141 kp_1 (kC_item kp_1 (kIn_lt hg1)) eh2) rfl ?_
      refine kJ_aload_n 46 1 d_P_wouldBe_45 rfl rfl rfl rfl ?_
      refine kM_getR 49 140 141 d_P_wouldBe_46 l_P_22 kp_0 rfl rfl rfl rfl ?_
      refine kJ_aload_n 50 1 d_P_wouldBe_49 rfl rfl rfl rfl ?_
      refine kM_getR 53 0 1 d_P_wouldBe_50 l_P_10 kp_0 rfl rfl rfl rfl ?_
      refine kJ_aload_n 54 0 d_P_wouldBe_53 rfl rfl rfl rfl ?_
      obtain ⟨h3, eh3, hf⟩ := kBi_some hf
      refine kM_callv 57 m_H_tally [.ref 1, .ref (1 + 10 + 5 * kx x1)] [] d_P_wouldBe_54 cl_P_249 ⟨w_581, w_34⟩ kp_141 ⟨rfl, by decide⟩ ⟨_, _, rfl⟩ rfl rfl (Nat.le_of_ble_eq_true rfl) ⟨Nat.le_of_ble_eq_true rfl, Nat.le_of_ble_eq_true rfl⟩ ⟨rfl, rfl⟩ ⟨Nat.zero_le _, Nat.zero_le _⟩ (j_H_tally hro kp_141 kp_1 (kC_item kp_1 (kIn_lt hg1)) eh3) rfl ?_
      refine kJ_aload_n 58 1 d_P_wouldBe_57 rfl rfl rfl rfl ?_
      refine kM_getR 61 140 141 d_P_wouldBe_58 l_P_22 kp_0 rfl rfl rfl rfl ?_
      refine kJ_aload_n 62 1 d_P_wouldBe_61 rfl rfl rfl rfl ?_
      refine kM_getR 65 0 1 d_P_wouldBe_62 l_P_10 kp_0 rfl rfl rfl rfl ?_
      refine kJ_aload_n 66 0 d_P_wouldBe_65 rfl rfl rfl rfl ?_
      refine kJ_iconst 67 0 d_P_wouldBe_66 ki_0 rfl ?_
      obtain ⟨v4, ev4, hf⟩ := kBi_some hf
      refine kM_callv 70 m_H_outcome [.ref 1, .ref (1 + 10 + 5 * kx x1), .int 0] [] d_P_wouldBe_67 cl_P_253 ⟨w_589, w_36⟩ kp_141 ⟨rfl, by decide⟩ ⟨_, _, rfl⟩ rfl rfl (Nat.le_of_ble_eq_true rfl) ⟨Nat.le_of_ble_eq_true rfl, Nat.le_of_ble_eq_true rfl⟩ ⟨rfl, rfl⟩ ⟨Nat.zero_le _, Nat.zero_le _⟩ (j_H_outcome hro kp_141 kp_1 (kC_item kp_1 (kIn_lt hg1)) ev4) rfl ?_
      cases hf
      exact kJ_iret d_P_wouldBe_70 rfl rfl (Nat.zero_le _) (Nat.zero_le _)
    · have hf := kIf_f hf (kB2_0 hc)
      refine kJ_bipush 32 (-5) d_P_wouldBe_30 kb_m5 rfl ?_
      cases hf
      exact kJ_iret d_P_wouldBe_32 rfl rfl (Nat.zero_le _) (Nat.zero_le _)
  · have hf := kIf_f hf (kB2_0 hc)
    refine kJ_iconst 12 (-1) d_P_wouldBe_11 ki_m1 rfl ?_
    cases hf
    exact kJ_iret d_P_wouldBe_12 rfl rfl (Nat.zero_le _) (Nat.zero_le _)
def b_P_canTurn_14 (x1 : Int32) (x2 : Nat) (x3 : Int32) (x4 : Int32) : Nat → kH → Int32 → Int32 → Option (Bool × kH)
  | 0, _, _, _ => none
  | n + 1, h, x5, x6 => (fun rec14 => if 2 < x6 then (kG x1 12 (kLet (hset h (x2 + 2) (kx x1) x4) fun h1 => kBi (kRz x5) fun b2 => some (b2, h1))) else (kG x1 12 (kLet (hset h (x2 + 2) (kx x1) x6) fun h3 => kBi (f_H_tally h3 141 71 x2) fun h4 => kBi (f_H_outcome h4 141 71 x2 0) fun v5 => if v5 = x3 then (rec14 h4 (x5 ||| 0) (x6 + 1)) else (rec14 h4 (x5 ||| 1) (x6 + 1))))) (fun h' x5' x6' => b_P_canTurn_14 x1 x2 x3 x4 n h' x5' x6')
theorem c_P_canTurn_14 {E : kE} {L : Nat} {xs : Nat → Int32} (hro : kRo E L xs) {x1 : Int32} {x2 : Nat} {x3 : Int32} {x4 : Int32} (k2 : kIs x2 3) {r : Bool} {h' : kH} : ∀ (n : Nat) (h : kH) (x5 : Int32) (x6 : Int32), b_P_canTurn_14 x1 x2 x3 x4 n h x5 x6 = some (r, h') → kJ E m_P_canTurn (some (kB2 r)) (mk h') 0 0 14 [(0, .ref 0), (1, .int x1), (2, .ref x2), (3, .int x3), (4, .int x4), (5, .int x5), (6, .int x6)] [] (mk h) := by
  intro n
  induction n with
  | zero =>
    intro h x5 x6 hf
    have hf : (none : Option (Bool × kH)) = some (r, h') := hf
    cases hf
  | succ n hrec14 =>
    intro h x5 x6 hf
    rw [b_P_canTurn_14] at hf
    dsimp only at hf
    refine kJ_iload 16 6 d_P_canTurn_14 rfl rfl ?_
    refine kJ_iconst 17 2 d_P_canTurn_16 ki_2 rfl ?_
    refine kJ_icmp_gt 20 73 d_P_canTurn_17 rfl rfl (fun hc => ?_) (fun hc => ?_)
    · have hf := kIf_t hf hc
      refine kJ_aload_n 74 2 d_P_canTurn_73 rfl rfl rfl rfl ?_
      refine kM_getR 77 1 (x2 + 2) d_P_canTurn_74 l_P_177 k2 rfl rfl rfl rfl ?_
      refine kJ_iload_n 78 1 d_P_canTurn_77 rfl rfl rfl ?_
      refine kJ_iload 80 4 d_P_canTurn_78 rfl rfl ?_
      obtain ⟨hg, hf⟩ := kG_some hf
      refine kM_iast 81 12 d_P_canTurn_80 (kk_3_7 k2) rfl hg rfl ?_
      obtain ⟨h1, eh1, hf⟩ := kLet_e hf
      rw [← eh1]
      refine kJ_iload 83 5 d_P_canTurn_81 rfl rfl ?_
      obtain ⟨b2, eb2, hf⟩ := kBi_some hf
      have he := kRz_some eb2
      rw [he]
      cases hf
      exact kJ_iret d_P_canTurn_83 rfl (kB2_z _) (Nat.zero_le _) (Nat.zero_le _)
    · have hf := kIf_f hf hc
      refine kJ_aload_n 21 2 d_P_canTurn_20 rfl rfl rfl rfl ?_
      refine kM_getR 24 1 (x2 + 2) d_P_canTurn_21 l_P_177 k2 rfl rfl rfl rfl ?_
      refine kJ_iload_n 25 1 d_P_canTurn_24 rfl rfl rfl ?_
      refine kJ_iload 27 6 d_P_canTurn_25 rfl rfl ?_
      obtain ⟨hg, hf⟩ := kG_some hf
      refine kM_iast 28 12 d_P_canTurn_27 (kk_3_7 k2) rfl hg rfl ?_
      obtain ⟨h3, eh3, hf⟩ := kLet_e hf
      rw [← eh3]
      refine kJ_aload_n 29 0 d_P_canTurn_28 rfl rfl rfl rfl ?_
      refine kM_getR 32 140 141 d_P_canTurn_29 l_P_22 kp_0 rfl rfl rfl rfl ?_
      refine kJ_aload_n 33 0 d_P_canTurn_32 rfl rfl rfl rfl ?_
      refine kM_getR 36 70 71 d_P_canTurn_33 l_P_16 kp_0 rfl rfl rfl rfl ?_
      refine kJ_aload_n 37 2 d_P_canTurn_36 rfl rfl rfl rfl ?_
      obtain ⟨h4, eh4, hf⟩ := kBi_some hf
      refine kM_callv 40 m_H_tally [.ref 71, .ref x2] [] d_P_canTurn_37 cl_P_249 ⟨w_581, w_34⟩ kp_141 ⟨rfl, by decide⟩ ⟨_, _, rfl⟩ rfl rfl (Nat.le_of_ble_eq_true rfl) ⟨Nat.le_of_ble_eq_true rfl, Nat.le_of_ble_eq_true rfl⟩ ⟨rfl, rfl⟩ ⟨Nat.zero_le _, Nat.zero_le _⟩ (j_H_tally hro kp_141 kp_71 k2 eh4) rfl ?_
      refine kJ_iload 42 5 d_P_canTurn_40 rfl rfl ?_
      refine kJ_aload_n 43 0 d_P_canTurn_42 rfl rfl rfl rfl ?_
      refine kM_getR 46 140 141 d_P_canTurn_43 l_P_22 kp_0 rfl rfl rfl rfl ?_
      refine kJ_aload_n 47 0 d_P_canTurn_46 rfl rfl rfl rfl ?_
      refine kM_getR 50 70 71 d_P_canTurn_47 l_P_16 kp_0 rfl rfl rfl rfl ?_
      refine kJ_aload_n 51 2 d_P_canTurn_50 rfl rfl rfl rfl ?_
      refine kJ_iconst 52 0 d_P_canTurn_51 ki_0 rfl ?_
      obtain ⟨v5, ev5, hf⟩ := kBi_some hf
      refine kM_callv 55 m_H_outcome [.ref 71, .ref x2, .int 0] [.int x5] d_P_canTurn_52 cl_P_253 ⟨w_589, w_36⟩ kp_141 ⟨rfl, by decide⟩ ⟨_, _, rfl⟩ rfl rfl (Nat.le_of_ble_eq_true rfl) ⟨Nat.le_of_ble_eq_true rfl, Nat.le_of_ble_eq_true rfl⟩ ⟨rfl, rfl⟩ ⟨Nat.zero_le _, Nat.zero_le _⟩ (j_H_outcome hro kp_141 kp_71 k2 ev5) rfl ?_
      refine kJ_iload_n 56 3 d_P_canTurn_55 rfl rfl rfl ?_
      refine kJ_icmp_eq 59 63 d_P_canTurn_56 rfl rfl (fun hc => ?_) (fun hc => ?_)
      · have hf := kIf_t hf hc
        refine kJ_iconst 64 0 d_P_canTurn_63 ki_0 rfl ?_
        refine kJ_ior 65 d_P_canTurn_64 rfl ?_
        refine kJ_istore 67 [(5, .int (x5 ||| 0)), (0, .ref 0), (1, .int x1), (2, .ref x2), (3, .int x3), (4, .int x4), (6, .int x6)] d_P_canTurn_65 (Nat.le_of_ble_eq_true rfl) rfl rfl ?_
        refine kJ_iinc 70 6 [(6, .int (x6 + 1)), (5, .int (x5 ||| 0)), (0, .ref 0), (1, .int x1), (2, .ref x2), (3, .int x3), (4, .int x4)] d_P_canTurn_67 rfl ki_1 (Nat.le_of_ble_eq_true rfl) rfl rfl ?_
        refine kJ_goto 14 d_P_canTurn_70 rfl ?_
        refine kJ_sub [2, 3, 4, 5, 6, 1, 0] rfl ?_
        exact hrec14 h4 (x5 ||| 0) (x6 + 1) hf
      · have hf := kIf_f hf hc
        refine kJ_iconst 60 1 d_P_canTurn_59 ki_1 rfl ?_
        refine kJ_goto 64 d_P_canTurn_60 rfl ?_
        refine kJ_ior 65 d_P_canTurn_64 rfl ?_
        refine kJ_istore 67 [(5, .int (x5 ||| 1)), (0, .ref 0), (1, .int x1), (2, .ref x2), (3, .int x3), (4, .int x4), (6, .int x6)] d_P_canTurn_65 (Nat.le_of_ble_eq_true rfl) rfl rfl ?_
        refine kJ_iinc 70 6 [(6, .int (x6 + 1)), (5, .int (x5 ||| 1)), (0, .ref 0), (1, .int x1), (2, .ref x2), (3, .int x3), (4, .int x4)] d_P_canTurn_67 rfl ki_1 (Nat.le_of_ble_eq_true rfl) rfl rfl ?_
        refine kJ_goto 14 d_P_canTurn_70 rfl ?_
        refine kJ_sub [2, 3, 4, 5, 6, 1, 0] rfl ?_
        exact hrec14 h4 (x5 ||| 1) (x6 + 1) hf
def f_P_canTurn (h : kH) (x1 : Int32) (x2 : Nat) (x3 : Int32) : Option (Bool × kH) := kG x1 12 (b_P_canTurn_14 x1 x2 x3 (h (x2 + 2) (kx x1)) kFuel h 0 0)
theorem j_P_canTurn {E : kE} {L : Nat} {xs : Nat → Int32} (hro : kRo E L xs) {h : kH} {x1 : Int32} {x2 : Nat} {x3 : Int32} (k2 : kIs x2 3) {r : Bool} {h' : kH} (hf : f_P_canTurn h x1 x2 x3 = some (r, h')) : JM E m_P_canTurn [.ref 0, .int x1, .ref x2, .int x3] (mk h) (some (kB2 r)) (mk h') := by
  unfold f_P_canTurn at hf
  refine JM.of pn_P (Nat.le_of_ble_eq_true rfl) ?_
  show kJ E m_P_canTurn (some (kB2 r)) (mk h') 0 0 0 [(0, .ref 0), (1, .int x1), (2, .ref x2), (3, .int x3)] [] (mk h)
  refine kJ_aload_n 1 2 d_P_canTurn_0 rfl rfl rfl rfl ?_
  refine kM_getR 4 1 (x2 + 2) d_P_canTurn_1 l_P_177 k2 rfl rfl rfl rfl ?_
  refine kJ_iload_n 5 1 d_P_canTurn_4 rfl rfl rfl ?_
  obtain ⟨hg, hf⟩ := kG_some hf
  refine kM_iald 6 12 d_P_canTurn_5 (kk_3_7 k2) rfl hg rfl ?_
  refine kJ_istore 8 [(4, .int (h (x2 + 2) (kx x1))), (0, .ref 0), (1, .int x1), (2, .ref x2), (3, .int x3)] d_P_canTurn_6 (Nat.le_of_ble_eq_true rfl) rfl rfl ?_
  refine kJ_iconst 9 0 d_P_canTurn_8 ki_0 rfl ?_
  refine kJ_istore 11 [(5, .int 0), (4, .int (h (x2 + 2) (kx x1))), (0, .ref 0), (1, .int x1), (2, .ref x2), (3, .int x3)] d_P_canTurn_9 (Nat.le_of_ble_eq_true rfl) rfl rfl ?_
  refine kJ_iconst 12 0 d_P_canTurn_11 ki_0 rfl ?_
  refine kJ_istore 14 [(6, .int 0), (5, .int 0), (4, .int (h (x2 + 2) (kx x1))), (0, .ref 0), (1, .int x1), (2, .ref x2), (3, .int x3)] d_P_canTurn_12 (Nat.le_of_ble_eq_true rfl) rfl rfl ?_
  refine kJ_sub [3, 4, 5, 6, 2, 1, 0] rfl ?_
  exact c_P_canTurn_14 hro k2 kFuel h 0 0 hf
