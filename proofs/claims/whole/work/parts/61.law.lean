/-! THE LAW as a function, with its certificate: printed by wip/whole/emit.py. -/
def b_L_law_18 (L : Nat) (xs : Nat → Int32) : Nat → kH → Int32 → Option (Bool × kH)
  | 0, _, _ => none
  | n + 1, h, x3 => (fun rec18 => if ((Int32.ofNat L) - 4) < x3 then (some (true, h)) else (kG x3 L (kLet ((xs (kx x3)) &&& 31) fun v1 => (if v1 = 0 then (kG (x3 + 1) L (kG (x3 + 2) L (kBd (f_P_set h (xs (kx (x3 + 1))) (xs (kx (x3 + 2)))) fun v3 h2 => kG (x3 + 1) L (kG (x3 + 2) L (kBd (f_M_set h2 (xs (kx (x3 + 1))) (xs (kx (x3 + 2)))) fun v5 h4 => if v3 = v5 then (rec18 h4 (x3 + 4)) else (some (false, h4))))))) else (if v1 = 1 then (kG (x3 + 1) L (kG (x3 + 2) L (kBd (f_P_member h (xs (kx (x3 + 1))) (xs (kx (x3 + 2)))) fun v7 h6 => kG (x3 + 1) L (kG (x3 + 2) L (kBd (f_M_member h6 (xs (kx (x3 + 1))) (xs (kx (x3 + 2)))) fun v9 h8 => if v7 = v9 then (rec18 h8 (x3 + 4)) else (some (false, h8))))))) else (if v1 = 2 then (kG (x3 + 1) L (kG (x3 + 2) L (kBd (f_P_item h (xs (kx (x3 + 1))) (xs (kx (x3 + 2)))) fun v11 h10 => kG (x3 + 1) L (kG (x3 + 2) L (kBd (f_M_item h10 (xs (kx (x3 + 1))) (xs (kx (x3 + 2)))) fun v13 h12 => if v11 = v13 then (rec18 h12 (x3 + 4)) else (some (false, h12))))))) else (if v1 = 3 then (kG (x3 + 1) L (kBd (f_P_chair h (xs (kx (x3 + 1)))) fun v15 h14 => kG (x3 + 1) L (kBd (f_M_chair h14 (xs (kx (x3 + 1)))) fun v17 h16 => if v15 = v17 then (rec18 h16 (x3 + 4)) else (some (false, h16))))) else (if v1 = 4 then (kG (x3 + 1) L (kBd (f_P_come h (xs (kx (x3 + 1)))) fun v19 h18 => kG (x3 + 1) L (kBd (f_M_come h18 (xs (kx (x3 + 1)))) fun v21 h20 => if v19 = v21 then (rec18 h20 (x3 + 4)) else (some (false, h20))))) else (if v1 = 5 then (kG (x3 + 1) L (kBd (f_P_go h (xs (kx (x3 + 1)))) fun v23 h22 => kG (x3 + 1) L (kBd (f_M_go h22 (xs (kx (x3 + 1)))) fun v25 h24 => if v23 = v25 then (rec18 h24 (x3 + 4)) else (some (false, h24))))) else (if v1 = 6 then (kG (x3 + 1) L (kG (x3 + 2) L (kG (x3 + 3) L (kBd (f_P_later h (xs (kx (x3 + 1))) (xs (kx (x3 + 2))) (xs (kx (x3 + 3)))) fun v27 h26 => kG (x3 + 1) L (kG (x3 + 2) L (kG (x3 + 3) L (kBd (f_M_later h26 (xs (kx (x3 + 1))) (xs (kx (x3 + 2))) (xs (kx (x3 + 3)))) fun v29 h28 => if v27 = v29 then (rec18 h28 (x3 + 4)) else (some (false, h28))))))))) else (if v1 = 7 then (kG (x3 + 1) L (kG (x3 + 2) L (kG (x3 + 3) L (kBd (f_P_proxy h (xs (kx (x3 + 1))) (xs (kx (x3 + 2))) (xs (kx (x3 + 3)))) fun v31 h30 => kG (x3 + 1) L (kG (x3 + 2) L (kG (x3 + 3) L (kBd (f_M_proxy h30 (xs (kx (x3 + 1))) (xs (kx (x3 + 2))) (xs (kx (x3 + 3)))) fun v33 h32 => if v31 = v33 then (rec18 h32 (x3 + 4)) else (some (false, h32))))))))) else (if v1 = 8 then (kG (x3 + 1) L (kG (x3 + 2) L (kG (x3 + 3) L (kBd (f_P_tell h (xs (kx (x3 + 1))) (xs (kx (x3 + 2))) (xs (kx (x3 + 3)))) fun v35 h34 => kG (x3 + 1) L (kG (x3 + 2) L (kG (x3 + 3) L (kBd (f_M_tell h34 (xs (kx (x3 + 1))) (xs (kx (x3 + 2))) (xs (kx (x3 + 3)))) fun v37 h36 => if v35 = v37 then (rec18 h36 (x3 + 4)) else (some (false, h36))))))))) else (if v1 = 9 then (kG (x3 + 1) L (kG (x3 + 2) L (kG (x3 + 3) L (kBd (f_P_recuse h (xs (kx (x3 + 1))) (xs (kx (x3 + 2))) (xs (kx (x3 + 3)))) fun v39 h38 => kG (x3 + 1) L (kG (x3 + 2) L (kG (x3 + 3) L (kBd (f_M_recuse h38 (xs (kx (x3 + 1))) (xs (kx (x3 + 2))) (xs (kx (x3 + 3)))) fun v41 h40 => if v39 = v41 then (rec18 h40 (x3 + 4)) else (some (false, h40))))))))) else (if v1 = 10 then (kG (x3 + 1) L (kBd (f_P_open h (xs (kx (x3 + 1)))) fun v43 h42 => kG (x3 + 1) L (kBd (f_M_open h42 (xs (kx (x3 + 1)))) fun v45 h44 => if v43 = v45 then (rec18 h44 (x3 + 4)) else (some (false, h44))))) else (if v1 = 11 then (kG (x3 + 1) L (kG (x3 + 2) L (kBd (f_P_vote h (xs (kx (x3 + 1))) (xs (kx (x3 + 2)))) fun v47 h46 => kG (x3 + 1) L (kG (x3 + 2) L (kBd (f_M_vote h46 (xs (kx (x3 + 1))) (xs (kx (x3 + 2)))) fun v49 h48 => if v47 = v49 then (rec18 h48 (x3 + 4)) else (some (false, h48))))))) else (if v1 = 12 then (kBd (f_P_close h) fun v51 h50 => kBd (f_M_close h50) fun v53 h52 => if v51 = v53 then (rec18 h52 (x3 + 4)) else (some (false, h52))) else (if v1 = 13 then (kG (x3 + 1) L (kBd (f_P_cast h (xs (kx (x3 + 1)))) fun v55 h54 => kG (x3 + 1) L (kBd (f_M_cast h54 (xs (kx (x3 + 1)))) fun v57 h56 => if v55 = v57 then (rec18 h56 (x3 + 4)) else (some (false, h56))))) else (if v1 = 14 then (kG (x3 + 1) L (kBd (f_P_pass h (xs (kx (x3 + 1)))) fun v59 h58 => kG (x3 + 1) L (kBd (f_M_pass h58 (xs (kx (x3 + 1)))) fun v61 h60 => if v59 = v61 then (rec18 h60 (x3 + 4)) else (some (false, h60))))) else (if v1 = 15 then (kG (x3 + 1) L (kG (x3 + 2) L (kBi (f_P_ofMember h (xs (kx (x3 + 1))) (xs (kx (x3 + 2)))) fun v62 => kG (x3 + 1) L (kG (x3 + 2) L (kBi (f_M_ofMember h (xs (kx (x3 + 1))) (xs (kx (x3 + 2)))) fun v63 => if v62 = v63 then (rec18 h (x3 + 4)) else (some (false, h))))))) else (if v1 = 16 then (kG (x3 + 1) L (kG (x3 + 2) L (kBd (f_P_ofItem h (xs (kx (x3 + 1))) (xs (kx (x3 + 2)))) fun v65 h64 => kG (x3 + 1) L (kG (x3 + 2) L (kBd (f_M_ofItem h64 (xs (kx (x3 + 1))) (xs (kx (x3 + 2)))) fun v67 h66 => if v65 = v67 then (rec18 h66 (x3 + 4)) else (some (false, h66))))))) else (if v1 = 17 then (kG (x3 + 1) L (kG (x3 + 2) L (kG (x3 + 3) L (kBd (f_P_at h (xs (kx (x3 + 1))) (xs (kx (x3 + 2))) (xs (kx (x3 + 3)))) fun v69 h68 => kG (x3 + 1) L (kG (x3 + 2) L (kG (x3 + 3) L (kBd (f_M_at h68 (xs (kx (x3 + 1))) (xs (kx (x3 + 2))) (xs (kx (x3 + 3)))) fun v71 h70 => if v69 = v71 then (rec18 h70 (x3 + 4)) else (some (false, h70))))))))) else (if v1 = 18 then (kG (x3 + 1) L (kBi (f_P_count h (xs (kx (x3 + 1)))) fun v72 => kG (x3 + 1) L (kBi (f_M_count h (xs (kx (x3 + 1)))) fun v73 => if v72 = v73 then (rec18 h (x3 + 4)) else (some (false, h))))) else (if v1 = 19 then (kG (x3 + 1) L (kBd (f_P_wouldBe h (xs (kx (x3 + 1)))) fun v75 h74 => kG (x3 + 1) L (kBd (f_M_wouldBe h74 (xs (kx (x3 + 1)))) fun v77 h76 => if v75 = v77 then (rec18 h76 (x3 + 4)) else (some (false, h76))))) else (if v1 = 20 then (kG (x3 + 1) L (kBd (f_P_decisive h (xs (kx (x3 + 1)))) fun v79 h78 => kG (x3 + 1) L (kBd (f_M_decisive h78 (xs (kx (x3 + 1)))) fun v81 h80 => if v79 = v81 then (rec18 h80 (x3 + 4)) else (some (false, h80))))) else (if v1 = 21 then (kG (x3 + 1) L (kG (x3 + 2) L (kBd (f_P_needed h (xs (kx (x3 + 1))) (xs (kx (x3 + 2)))) fun v83 h82 => kG (x3 + 1) L (kG (x3 + 2) L (kBd (f_M_needed h82 (xs (kx (x3 + 1))) (xs (kx (x3 + 2)))) fun v85 h84 => if v83 = v85 then (rec18 h84 (x3 + 4)) else (some (false, h84))))))) else (if v1 = 22 then (kG (x3 + 1) L (kBd (f_P_power h (xs (kx (x3 + 1)))) fun v87 h86 => kG (x3 + 1) L (kBi (f_M_power h86 (xs (kx (x3 + 1)))) fun v88 => if v87 = v88 then (rec18 h86 (x3 + 4)) else (some (false, h86))))) else (if v1 = 23 then (kG (x3 + 1) L (kBd (f_P_quorumAt h (xs (kx (x3 + 1)))) fun v90 h89 => kG (x3 + 1) L (kBd (f_M_quorumAt h89 (xs (kx (x3 + 1)))) fun v92 h91 => if v90 = v92 then (rec18 h91 (x3 + 4)) else (some (false, h91))))) else (if v1 = 24 then (kG (x3 + 1) L (kG (x3 + 2) L (kBd (f_P_bestHolder h (xs (kx (x3 + 1))) (xs (kx (x3 + 2)))) fun v94 h93 => kG (x3 + 1) L (kG (x3 + 2) L (kBd (f_M_bestHolder h93 (xs (kx (x3 + 1))) (xs (kx (x3 + 2)))) fun v96 h95 => if v94 = v96 then (rec18 h95 (x3 + 4)) else (some (false, h95))))))) else (if v1 = 25 then (kG (x3 + 1) L (kG (x3 + 2) L (kBd (f_P_put h (((Int32.toInt64 (xs (kx (x3 + 1)))) <<< (Int32.toInt64 32 &&& 63)) ||| ((Int32.toInt64 (xs (kx (x3 + 2)))) &&& 4294967295))) fun v98 h97 => kG (x3 + 1) L (kG (x3 + 2) L (kBd (f_M_put h97 (((Int32.toInt64 (xs (kx (x3 + 1)))) <<< (Int32.toInt64 32 &&& 63)) ||| ((Int32.toInt64 (xs (kx (x3 + 2)))) &&& 4294967295))) fun v100 h99 => if v98 = v100 then (rec18 h99 (x3 + 4)) else (some (false, h99))))))) else (if v1 = 26 then (kBd (f_P_wipe h) fun v102 h101 => kBd (f_M_wipe h101) fun v104 h103 => if v102 = v104 then (rec18 h103 (x3 + 4)) else (some (false, h103))) else (if v1 = 27 then (kBd (f_P_fault h) fun v106 h105 => kBd (f_M_fault h105) fun v108 h107 => if v106 = v108 then (rec18 h107 (x3 + 4)) else (some (false, h107))) else (if v1 = 28 then (kBd (f_P_carryOut h) fun v110 h109 => kBd (f_M_carryOut h109) fun v112 h111 => if v110 = v112 then (rec18 h111 (x3 + 4)) else (some (false, h111))) else (if v1 = 29 then (kBd (f_P_undo h) fun v114 h113 => kBd (f_M_undo h113) fun v116 h115 => if v114 = v116 then (rec18 h115 (x3 + 4)) else (some (false, h115))) else (if v1 = 30 then (kG (x3 + 1) L (kBd (f_P_save h (xs (kx (x3 + 1)))) fun v118 h117 => kG (x3 + 1) L (kBd (f_M_save h117 (xs (kx (x3 + 1)))) fun v120 h119 => if v118 = v120 then (rec18 h119 (x3 + 4)) else (some (false, h119))))) else (if v1 = 31 then (kG (x3 + 1) L (kBd (f_P_restore h (xs (kx (x3 + 1)))) fun v122 h121 => kG (x3 + 1) L (kBd (f_M_restore h121 (xs (kx (x3 + 1)))) fun v124 h123 => if v122 = v124 then (rec18 h123 (x3 + 4)) else (some (false, h123))))) else (rec18 h (x3 + 4))))))))))))))))))))))))))))))))))))) (fun h' x3' => b_L_law_18 L xs n h' x3')
theorem c_L_law_18 {E : kE} {L : Nat} {xs : Nat → Int32} (hro : kRo E L xs) {fc fs : Nat} (hfc : fc ≤ kMC m_L_law) (hfs : fs ≤ kMS m_L_law) {r : Bool} {h' : kH} : ∀ (n : Nat) (h : kH) (x3 : Int32), b_L_law_18 L xs n h x3 = some (r, h') → kJ E m_L_law (some (kB2 r)) (mk h') fc fs 18 [(0, .retAddr 2), (1, .ref 0), (2, .ref 786), (3, .int x3)] [] (mk h) := by
  intro n
  induction n with
  | zero =>
    intro h x3 hf
    have hf : (none : Option (Bool × kH)) = some (r, h') := hf
    cases hf
  | succ n hrec18 =>
    intro h x3 hf
    rw [b_L_law_18] at hf
    dsimp only at hf
    refine kJ_iload_n 19 3 d_L_law_18 rfl rfl rfl ?_
    refine kJ_aload_n 20 0 d_L_law_19 rfl rfl rfl rfl ?_
    refine kM_scrl 21 hro d_L_law_20 rfl ?_
    refine kJ_iconst 22 4 d_L_law_21 ki_4 rfl ?_
    refine kJ_isub 23 d_L_law_22 rfl ?_
    refine kJ_icmp_gt 26 1078 d_L_law_23 rfl rfl (fun hc => ?_) (fun hc => ?_)
    · have hf := kIf_t hf hc
      refine kJ_iconst 1079 1 d_L_law_1078 ki_1 rfl ?_
      cases hf
      exact kJ_iret d_L_law_1079 rfl (kB2_z _) hfc hfs
    · have hf := kIf_f hf hc
      refine kJ_aload_n 27 0 d_L_law_26 rfl rfl rfl rfl ?_
      refine kJ_iload_n 28 3 d_L_law_27 rfl rfl rfl ?_
      obtain ⟨hg, hf⟩ := kG_some hf
      refine kM_scr 29 hro d_L_law_28 hg rfl ?_
      refine kJ_bipush 31 31 d_L_law_29 kb_31 rfl ?_
      refine kJ_iand 32 d_L_law_31 rfl ?_
      obtain ⟨v1, ev1, hf⟩ := kLet_e hf
      rw [← ev1]
      by_cases c0 : v1 = 0
      · have hf := kIf_t hf c0
        refine kJ_tabIn 176 d_L_law_32 (by rw [c0]; try decide) (by rw [c0]; try decide) (by rw [c0]; try rfl) rfl ?_
        refine kJ_aload_n 177 1 d_L_law_176 rfl rfl rfl rfl ?_
        refine kJ_aload_n 178 0 d_L_law_177 rfl rfl rfl rfl ?_
        refine kJ_iload_n 179 3 d_L_law_178 rfl rfl rfl ?_
        refine kJ_iconst 180 1 d_L_law_179 ki_1 rfl ?_
        refine kJ_iadd 181 d_L_law_180 rfl ?_
        obtain ⟨hg, hf⟩ := kG_some hf
        refine kM_scr 182 hro d_L_law_181 hg rfl ?_
        refine kJ_aload_n 183 0 d_L_law_182 rfl rfl rfl rfl ?_
        refine kJ_iload_n 184 3 d_L_law_183 rfl rfl rfl ?_
        refine kJ_iconst 185 2 d_L_law_184 ki_2 rfl ?_
        refine kJ_iadd 186 d_L_law_185 rfl ?_
        obtain ⟨hg, hf⟩ := kG_some hf
        refine kM_scr 187 hro d_L_law_186 hg rfl ?_
        obtain ⟨v3, h2, ev3, hf⟩ := kBd_some hf
        refine kM_callv 190 m_P_set [.int (xs (kx (x3 + 1))), .int (xs (kx (x3 + 2)))] [] d_L_law_187 cl_L_13 ⟨w_367, w_368⟩ kp_0 ⟨rfl, by decide⟩ ⟨_, _, rfl⟩ rfl rfl (Nat.le_of_ble_eq_true rfl) ⟨Nat.le_of_ble_eq_true rfl, Nat.le_of_ble_eq_true rfl⟩ ⟨rfl, rfl⟩ ⟨hfc, hfs⟩ (j_P_set hro ev3) rfl ?_
        refine kJ_aload_n 191 2 d_L_law_190 rfl rfl rfl rfl ?_
        refine kJ_aload_n 192 0 d_L_law_191 rfl rfl rfl rfl ?_
        refine kJ_iload_n 193 3 d_L_law_192 rfl rfl rfl ?_
        refine kJ_iconst 194 1 d_L_law_193 ki_1 rfl ?_
        refine kJ_iadd 195 d_L_law_194 rfl ?_
        obtain ⟨hg, hf⟩ := kG_some hf
        refine kM_scr 196 hro d_L_law_195 hg rfl ?_
        refine kJ_aload_n 197 0 d_L_law_196 rfl rfl rfl rfl ?_
        refine kJ_iload_n 198 3 d_L_law_197 rfl rfl rfl ?_
        refine kJ_iconst 199 2 d_L_law_198 ki_2 rfl ?_
        refine kJ_iadd 200 d_L_law_199 rfl ?_
        obtain ⟨hg, hf⟩ := kG_some hf
        refine kM_scr 201 hro d_L_law_200 hg rfl ?_
        obtain ⟨v5, h4, ev5, hf⟩ := kBd_some hf
        refine kM_callv 204 m_M_set [.int (xs (kx (x3 + 1))), .int (xs (kx (x3 + 2)))] [.int v3] d_L_law_201 cl_L_17 ⟨w_865, w_866⟩ km_786 ⟨rfl, by decide⟩ ⟨_, _, rfl⟩ rfl rfl (Nat.le_of_ble_eq_true rfl) ⟨Nat.le_of_ble_eq_true rfl, Nat.le_of_ble_eq_true rfl⟩ ⟨rfl, rfl⟩ ⟨hfc, hfs⟩ (j_M_set hro ev5) rfl ?_
        refine kJ_icmp_eq 207 1072 d_L_law_204 rfl rfl (fun hc => ?_) (fun hc => ?_)
        · have hf := kIf_t hf hc
          refine kJ_iinc 1075 3 [(3, .int (x3 + 4)), (0, .retAddr 2), (1, .ref 0), (2, .ref 786)] d_L_law_1072 rfl ki_4 (Nat.le_of_ble_eq_true rfl) rfl rfl ?_
          refine kJ_goto 18 d_L_law_1075 rfl ?_
          refine kJ_sub [1, 2, 3, 0] rfl ?_
          exact hrec18 h4 (x3 + 4) hf
        · have hf := kIf_f hf hc
          refine kJ_iconst 208 0 d_L_law_207 ki_0 rfl ?_
          cases hf
          exact kJ_iret d_L_law_208 rfl (kB2_z _) hfc hfs
      · have hf := kIf_f hf c0
        by_cases c1 : v1 = 1
        · have hf := kIf_t hf c1
          refine kJ_tabIn 209 d_L_law_32 (by rw [c1]; try decide) (by rw [c1]; try decide) (by rw [c1]; try rfl) rfl ?_
          refine kJ_aload_n 210 1 d_L_law_209 rfl rfl rfl rfl ?_
          refine kJ_aload_n 211 0 d_L_law_210 rfl rfl rfl rfl ?_
          refine kJ_iload_n 212 3 d_L_law_211 rfl rfl rfl ?_
          refine kJ_iconst 213 1 d_L_law_212 ki_1 rfl ?_
          refine kJ_iadd 214 d_L_law_213 rfl ?_
          obtain ⟨hg, hf⟩ := kG_some hf
          refine kM_scr 215 hro d_L_law_214 hg rfl ?_
          refine kJ_aload_n 216 0 d_L_law_215 rfl rfl rfl rfl ?_
          refine kJ_iload_n 217 3 d_L_law_216 rfl rfl rfl ?_
          refine kJ_iconst 218 2 d_L_law_217 ki_2 rfl ?_
          refine kJ_iadd 219 d_L_law_218 rfl ?_
          obtain ⟨hg, hf⟩ := kG_some hf
          refine kM_scr 220 hro d_L_law_219 hg rfl ?_
          obtain ⟨v7, h6, ev7, hf⟩ := kBd_some hf
          refine kM_callv 223 m_P_member [.int (xs (kx (x3 + 1))), .int (xs (kx (x3 + 2)))] [] d_L_law_220 cl_L_18 ⟨w_405, w_406⟩ kp_0 ⟨rfl, by decide⟩ ⟨_, _, rfl⟩ rfl rfl (Nat.le_of_ble_eq_true rfl) ⟨Nat.le_of_ble_eq_true rfl, Nat.le_of_ble_eq_true rfl⟩ ⟨rfl, rfl⟩ ⟨hfc, hfs⟩ (j_P_member hro ev7) rfl ?_
          refine kJ_aload_n 224 2 d_L_law_223 rfl rfl rfl rfl ?_
          refine kJ_aload_n 225 0 d_L_law_224 rfl rfl rfl rfl ?_
          refine kJ_iload_n 226 3 d_L_law_225 rfl rfl rfl ?_
          refine kJ_iconst 227 1 d_L_law_226 ki_1 rfl ?_
          refine kJ_iadd 228 d_L_law_227 rfl ?_
          obtain ⟨hg, hf⟩ := kG_some hf
          refine kM_scr 229 hro d_L_law_228 hg rfl ?_
          refine kJ_aload_n 230 0 d_L_law_229 rfl rfl rfl rfl ?_
          refine kJ_iload_n 231 3 d_L_law_230 rfl rfl rfl ?_
          refine kJ_iconst 232 2 d_L_law_231 ki_2 rfl ?_
          refine kJ_iadd 233 d_L_law_232 rfl ?_
          obtain ⟨hg, hf⟩ := kG_some hf
          refine kM_scr 234 hro d_L_law_233 hg rfl ?_
          obtain ⟨v9, h8, ev9, hf⟩ := kBd_some hf
          refine kM_callv 237 m_M_member [.int (xs (kx (x3 + 1))), .int (xs (kx (x3 + 2)))] [.int v7] d_L_law_234 cl_L_21 ⟨w_876, w_877⟩ km_786 ⟨rfl, by decide⟩ ⟨_, _, rfl⟩ rfl rfl (Nat.le_of_ble_eq_true rfl) ⟨Nat.le_of_ble_eq_true rfl, Nat.le_of_ble_eq_true rfl⟩ ⟨rfl, rfl⟩ ⟨hfc, hfs⟩ (j_M_member hro ev9) rfl ?_
          refine kJ_icmp_eq 240 1072 d_L_law_237 rfl rfl (fun hc => ?_) (fun hc => ?_)
          · have hf := kIf_t hf hc
            refine kJ_iinc 1075 3 [(3, .int (x3 + 4)), (0, .retAddr 2), (1, .ref 0), (2, .ref 786)] d_L_law_1072 rfl ki_4 (Nat.le_of_ble_eq_true rfl) rfl rfl ?_
            refine kJ_goto 18 d_L_law_1075 rfl ?_
            refine kJ_sub [1, 2, 3, 0] rfl ?_
            exact hrec18 h8 (x3 + 4) hf
          · have hf := kIf_f hf hc
            refine kJ_iconst 241 0 d_L_law_240 ki_0 rfl ?_
            cases hf
            exact kJ_iret d_L_law_241 rfl (kB2_z _) hfc hfs
        · have hf := kIf_f hf c1
          by_cases c2 : v1 = 2
          · have hf := kIf_t hf c2
            refine kJ_tabIn 242 d_L_law_32 (by rw [c2]; try decide) (by rw [c2]; try decide) (by rw [c2]; try rfl) rfl ?_
            refine kJ_aload_n 243 1 d_L_law_242 rfl rfl rfl rfl ?_
            refine kJ_aload_n 244 0 d_L_law_243 rfl rfl rfl rfl ?_
            refine kJ_iload_n 245 3 d_L_law_244 rfl rfl rfl ?_
            refine kJ_iconst 246 1 d_L_law_245 ki_1 rfl ?_
            refine kJ_iadd 247 d_L_law_246 rfl ?_
            obtain ⟨hg, hf⟩ := kG_some hf
            refine kM_scr 248 hro d_L_law_247 hg rfl ?_
            refine kJ_aload_n 249 0 d_L_law_248 rfl rfl rfl rfl ?_
            refine kJ_iload_n 250 3 d_L_law_249 rfl rfl rfl ?_
            refine kJ_iconst 251 2 d_L_law_250 ki_2 rfl ?_
            refine kJ_iadd 252 d_L_law_251 rfl ?_
            obtain ⟨hg, hf⟩ := kG_some hf
            refine kM_scr 253 hro d_L_law_252 hg rfl ?_
            obtain ⟨v11, h10, ev11, hf⟩ := kBd_some hf
            refine kM_callv 256 m_P_item [.int (xs (kx (x3 + 1))), .int (xs (kx (x3 + 2)))] [] d_L_law_253 cl_L_22 ⟨w_413, w_414⟩ kp_0 ⟨rfl, by decide⟩ ⟨_, _, rfl⟩ rfl rfl (Nat.le_of_ble_eq_true rfl) ⟨Nat.le_of_ble_eq_true rfl, Nat.le_of_ble_eq_true rfl⟩ ⟨rfl, rfl⟩ ⟨hfc, hfs⟩ (j_P_item hro ev11) rfl ?_
            refine kJ_aload_n 257 2 d_L_law_256 rfl rfl rfl rfl ?_
            refine kJ_aload_n 258 0 d_L_law_257 rfl rfl rfl rfl ?_
            refine kJ_iload_n 259 3 d_L_law_258 rfl rfl rfl ?_
            refine kJ_iconst 260 1 d_L_law_259 ki_1 rfl ?_
            refine kJ_iadd 261 d_L_law_260 rfl ?_
            obtain ⟨hg, hf⟩ := kG_some hf
            refine kM_scr 262 hro d_L_law_261 hg rfl ?_
            refine kJ_aload_n 263 0 d_L_law_262 rfl rfl rfl rfl ?_
            refine kJ_iload_n 264 3 d_L_law_263 rfl rfl rfl ?_
            refine kJ_iconst 265 2 d_L_law_264 ki_2 rfl ?_
            refine kJ_iadd 266 d_L_law_265 rfl ?_
            obtain ⟨hg, hf⟩ := kG_some hf
            refine kM_scr 267 hro d_L_law_266 hg rfl ?_
            obtain ⟨v13, h12, ev13, hf⟩ := kBd_some hf
            refine kM_callv 270 m_M_item [.int (xs (kx (x3 + 1))), .int (xs (kx (x3 + 2)))] [.int v11] d_L_law_267 cl_L_25 ⟨w_880, w_881⟩ km_786 ⟨rfl, by decide⟩ ⟨_, _, rfl⟩ rfl rfl (Nat.le_of_ble_eq_true rfl) ⟨Nat.le_of_ble_eq_true rfl, Nat.le_of_ble_eq_true rfl⟩ ⟨rfl, rfl⟩ ⟨hfc, hfs⟩ (j_M_item hro ev13) rfl ?_
            refine kJ_icmp_eq 273 1072 d_L_law_270 rfl rfl (fun hc => ?_) (fun hc => ?_)
            · have hf := kIf_t hf hc
              refine kJ_iinc 1075 3 [(3, .int (x3 + 4)), (0, .retAddr 2), (1, .ref 0), (2, .ref 786)] d_L_law_1072 rfl ki_4 (Nat.le_of_ble_eq_true rfl) rfl rfl ?_
              refine kJ_goto 18 d_L_law_1075 rfl ?_
              refine kJ_sub [1, 2, 3, 0] rfl ?_
              exact hrec18 h12 (x3 + 4) hf
            · have hf := kIf_f hf hc
              refine kJ_iconst 274 0 d_L_law_273 ki_0 rfl ?_
              cases hf
              exact kJ_iret d_L_law_274 rfl (kB2_z _) hfc hfs
          · have hf := kIf_f hf c2
            by_cases c3 : v1 = 3
            · have hf := kIf_t hf c3
              refine kJ_tabIn 275 d_L_law_32 (by rw [c3]; try decide) (by rw [c3]; try decide) (by rw [c3]; try rfl) rfl ?_
              refine kJ_aload_n 276 1 d_L_law_275 rfl rfl rfl rfl ?_
              refine kJ_aload_n 277 0 d_L_law_276 rfl rfl rfl rfl ?_
              refine kJ_iload_n 278 3 d_L_law_277 rfl rfl rfl ?_
              refine kJ_iconst 279 1 d_L_law_278 ki_1 rfl ?_
              refine kJ_iadd 280 d_L_law_279 rfl ?_
              obtain ⟨hg, hf⟩ := kG_some hf
              refine kM_scr 281 hro d_L_law_280 hg rfl ?_
              obtain ⟨v15, h14, ev15, hf⟩ := kBd_some hf
              refine kM_callv 284 m_P_chair [.int (xs (kx (x3 + 1)))] [] d_L_law_281 cl_L_26 ⟨w_428, w_429⟩ kp_0 ⟨rfl, by decide⟩ ⟨_, _, rfl⟩ rfl rfl (Nat.le_of_ble_eq_true rfl) ⟨Nat.le_of_ble_eq_true rfl, Nat.le_of_ble_eq_true rfl⟩ ⟨rfl, rfl⟩ ⟨hfc, hfs⟩ (j_P_chair hro ev15) rfl ?_
              refine kJ_aload_n 285 2 d_L_law_284 rfl rfl rfl rfl ?_
              refine kJ_aload_n 286 0 d_L_law_285 rfl rfl rfl rfl ?_
              refine kJ_iload_n 287 3 d_L_law_286 rfl rfl rfl ?_
              refine kJ_iconst 288 1 d_L_law_287 ki_1 rfl ?_
              refine kJ_iadd 289 d_L_law_288 rfl ?_
              obtain ⟨hg, hf⟩ := kG_some hf
              refine kM_scr 290 hro d_L_law_289 hg rfl ?_
              obtain ⟨v17, h16, ev17, hf⟩ := kBd_some hf
              refine kM_callv 293 m_M_chair [.int (xs (kx (x3 + 1)))] [.int v15] d_L_law_290 cl_L_30 ⟨w_884, w_885⟩ km_786 ⟨rfl, by decide⟩ ⟨_, _, rfl⟩ rfl rfl (Nat.le_of_ble_eq_true rfl) ⟨Nat.le_of_ble_eq_true rfl, Nat.le_of_ble_eq_true rfl⟩ ⟨rfl, rfl⟩ ⟨hfc, hfs⟩ (j_M_chair hro ev17) rfl ?_
              refine kJ_icmp_eq 296 1072 d_L_law_293 rfl rfl (fun hc => ?_) (fun hc => ?_)
              · have hf := kIf_t hf hc
                refine kJ_iinc 1075 3 [(3, .int (x3 + 4)), (0, .retAddr 2), (1, .ref 0), (2, .ref 786)] d_L_law_1072 rfl ki_4 (Nat.le_of_ble_eq_true rfl) rfl rfl ?_
                refine kJ_goto 18 d_L_law_1075 rfl ?_
                refine kJ_sub [1, 2, 3, 0] rfl ?_
                exact hrec18 h16 (x3 + 4) hf
              · have hf := kIf_f hf hc
                refine kJ_iconst 297 0 d_L_law_296 ki_0 rfl ?_
                cases hf
                exact kJ_iret d_L_law_297 rfl (kB2_z _) hfc hfs
            · have hf := kIf_f hf c3
              by_cases c4 : v1 = 4
              · have hf := kIf_t hf c4
                refine kJ_tabIn 298 d_L_law_32 (by rw [c4]; try decide) (by rw [c4]; try decide) (by rw [c4]; try rfl) rfl ?_
                refine kJ_aload_n 299 1 d_L_law_298 rfl rfl rfl rfl ?_
                refine kJ_aload_n 300 0 d_L_law_299 rfl rfl rfl rfl ?_
                refine kJ_iload_n 301 3 d_L_law_300 rfl rfl rfl ?_
                refine kJ_iconst 302 1 d_L_law_301 ki_1 rfl ?_
                refine kJ_iadd 303 d_L_law_302 rfl ?_
                obtain ⟨hg, hf⟩ := kG_some hf
                refine kM_scr 304 hro d_L_law_303 hg rfl ?_
                obtain ⟨v19, h18, ev19, hf⟩ := kBd_some hf
                refine kM_callv 307 m_P_come [.int (xs (kx (x3 + 1)))] [] d_L_law_304 cl_L_31 ⟨w_440, w_441⟩ kp_0 ⟨rfl, by decide⟩ ⟨_, _, rfl⟩ rfl rfl (Nat.le_of_ble_eq_true rfl) ⟨Nat.le_of_ble_eq_true rfl, Nat.le_of_ble_eq_true rfl⟩ ⟨rfl, rfl⟩ ⟨hfc, hfs⟩ (j_P_come hro ev19) rfl ?_
                refine kJ_aload_n 308 2 d_L_law_307 rfl rfl rfl rfl ?_
                refine kJ_aload_n 309 0 d_L_law_308 rfl rfl rfl rfl ?_
                refine kJ_iload_n 310 3 d_L_law_309 rfl rfl rfl ?_
                refine kJ_iconst 311 1 d_L_law_310 ki_1 rfl ?_
                refine kJ_iadd 312 d_L_law_311 rfl ?_
                obtain ⟨hg, hf⟩ := kG_some hf
                refine kM_scr 313 hro d_L_law_312 hg rfl ?_
                obtain ⟨v21, h20, ev21, hf⟩ := kBd_some hf
                refine kM_callv 316 m_M_come [.int (xs (kx (x3 + 1)))] [.int v19] d_L_law_313 cl_L_34 ⟨w_892, w_893⟩ km_786 ⟨rfl, by decide⟩ ⟨_, _, rfl⟩ rfl rfl (Nat.le_of_ble_eq_true rfl) ⟨Nat.le_of_ble_eq_true rfl, Nat.le_of_ble_eq_true rfl⟩ ⟨rfl, rfl⟩ ⟨hfc, hfs⟩ (j_M_come hro ev21) rfl ?_
                refine kJ_icmp_eq 319 1072 d_L_law_316 rfl rfl (fun hc => ?_) (fun hc => ?_)
                · have hf := kIf_t hf hc
                  refine kJ_iinc 1075 3 [(3, .int (x3 + 4)), (0, .retAddr 2), (1, .ref 0), (2, .ref 786)] d_L_law_1072 rfl ki_4 (Nat.le_of_ble_eq_true rfl) rfl rfl ?_
                  refine kJ_goto 18 d_L_law_1075 rfl ?_
                  refine kJ_sub [1, 2, 3, 0] rfl ?_
                  exact hrec18 h20 (x3 + 4) hf
                · have hf := kIf_f hf hc
                  refine kJ_iconst 320 0 d_L_law_319 ki_0 rfl ?_
                  cases hf
                  exact kJ_iret d_L_law_320 rfl (kB2_z _) hfc hfs
              · have hf := kIf_f hf c4
                by_cases c5 : v1 = 5
                · have hf := kIf_t hf c5
                  refine kJ_tabIn 321 d_L_law_32 (by rw [c5]; try decide) (by rw [c5]; try decide) (by rw [c5]; try rfl) rfl ?_
                  refine kJ_aload_n 322 1 d_L_law_321 rfl rfl rfl rfl ?_
                  refine kJ_aload_n 323 0 d_L_law_322 rfl rfl rfl rfl ?_
                  refine kJ_iload_n 324 3 d_L_law_323 rfl rfl rfl ?_
                  refine kJ_iconst 325 1 d_L_law_324 ki_1 rfl ?_
                  refine kJ_iadd 326 d_L_law_325 rfl ?_
                  obtain ⟨hg, hf⟩ := kG_some hf
                  refine kM_scr 327 hro d_L_law_326 hg rfl ?_
                  obtain ⟨v23, h22, ev23, hf⟩ := kBd_some hf
                  refine kM_callv 330 m_P_go [.int (xs (kx (x3 + 1)))] [] d_L_law_327 cl_L_35 ⟨w_458, w_459⟩ kp_0 ⟨rfl, by decide⟩ ⟨_, _, rfl⟩ rfl rfl (Nat.le_of_ble_eq_true rfl) ⟨Nat.le_of_ble_eq_true rfl, Nat.le_of_ble_eq_true rfl⟩ ⟨rfl, rfl⟩ ⟨hfc, hfs⟩ (j_P_go hro ev23) rfl ?_
                  refine kJ_aload_n 331 2 d_L_law_330 rfl rfl rfl rfl ?_
                  refine kJ_aload_n 332 0 d_L_law_331 rfl rfl rfl rfl ?_
                  refine kJ_iload_n 333 3 d_L_law_332 rfl rfl rfl ?_
                  refine kJ_iconst 334 1 d_L_law_333 ki_1 rfl ?_
                  refine kJ_iadd 335 d_L_law_334 rfl ?_
                  obtain ⟨hg, hf⟩ := kG_some hf
                  refine kM_scr 336 hro d_L_law_335 hg rfl ?_
                  obtain ⟨v25, h24, ev25, hf⟩ := kBd_some hf
                  refine kM_callv 339 m_M_go [.int (xs (kx (x3 + 1)))] [.int v23] d_L_law_336 cl_L_38 ⟨w_915, w_916⟩ km_786 ⟨rfl, by decide⟩ ⟨_, _, rfl⟩ rfl rfl (Nat.le_of_ble_eq_true rfl) ⟨Nat.le_of_ble_eq_true rfl, Nat.le_of_ble_eq_true rfl⟩ ⟨rfl, rfl⟩ ⟨hfc, hfs⟩ (j_M_go hro ev25) rfl ?_
                  refine kJ_icmp_eq 342 1072 d_L_law_339 rfl rfl (fun hc => ?_) (fun hc => ?_)
                  · have hf := kIf_t hf hc
                    refine kJ_iinc 1075 3 [(3, .int (x3 + 4)), (0, .retAddr 2), (1, .ref 0), (2, .ref 786)] d_L_law_1072 rfl ki_4 (Nat.le_of_ble_eq_true rfl) rfl rfl ?_
                    refine kJ_goto 18 d_L_law_1075 rfl ?_
                    refine kJ_sub [1, 2, 3, 0] rfl ?_
                    exact hrec18 h24 (x3 + 4) hf
                  · have hf := kIf_f hf hc
                    refine kJ_iconst 343 0 d_L_law_342 ki_0 rfl ?_
                    cases hf
                    exact kJ_iret d_L_law_343 rfl (kB2_z _) hfc hfs
                · have hf := kIf_f hf c5
                  by_cases c6 : v1 = 6
                  · have hf := kIf_t hf c6
                    refine kJ_tabIn 344 d_L_law_32 (by rw [c6]; try decide) (by rw [c6]; try decide) (by rw [c6]; try rfl) rfl ?_
                    refine kJ_aload_n 345 1 d_L_law_344 rfl rfl rfl rfl ?_
                    refine kJ_aload_n 346 0 d_L_law_345 rfl rfl rfl rfl ?_
                    refine kJ_iload_n 347 3 d_L_law_346 rfl rfl rfl ?_
                    refine kJ_iconst 348 1 d_L_law_347 ki_1 rfl ?_
                    refine kJ_iadd 349 d_L_law_348 rfl ?_
                    obtain ⟨hg, hf⟩ := kG_some hf
                    refine kM_scr 350 hro d_L_law_349 hg rfl ?_
                    refine kJ_aload_n 351 0 d_L_law_350 rfl rfl rfl rfl ?_
                    refine kJ_iload_n 352 3 d_L_law_351 rfl rfl rfl ?_
                    refine kJ_iconst 353 2 d_L_law_352 ki_2 rfl ?_
                    refine kJ_iadd 354 d_L_law_353 rfl ?_
                    obtain ⟨hg, hf⟩ := kG_some hf
                    refine kM_scr 355 hro d_L_law_354 hg rfl ?_
                    refine kJ_aload_n 356 0 d_L_law_355 rfl rfl rfl rfl ?_
                    refine kJ_iload_n 357 3 d_L_law_356 rfl rfl rfl ?_
                    refine kJ_iconst 358 3 d_L_law_357 ki_3 rfl ?_
                    refine kJ_iadd 359 d_L_law_358 rfl ?_
                    obtain ⟨hg, hf⟩ := kG_some hf
                    refine kM_scr 360 hro d_L_law_359 hg rfl ?_
                    obtain ⟨v27, h26, ev27, hf⟩ := kBd_some hf
                    refine kM_callv 363 m_P_later [.int (xs (kx (x3 + 1))), .int (xs (kx (x3 + 2))), .int (xs (kx (x3 + 3)))] [] d_L_law_360 cl_L_39 ⟨w_466, w_467⟩ kp_0 ⟨rfl, by decide⟩ ⟨_, _, rfl⟩ rfl rfl (Nat.le_of_ble_eq_true rfl) ⟨Nat.le_of_ble_eq_true rfl, Nat.le_of_ble_eq_true rfl⟩ ⟨rfl, rfl⟩ ⟨hfc, hfs⟩ (j_P_later hro ev27) rfl ?_
                    refine kJ_aload_n 364 2 d_L_law_363 rfl rfl rfl rfl ?_
                    refine kJ_aload_n 365 0 d_L_law_364 rfl rfl rfl rfl ?_
                    refine kJ_iload_n 366 3 d_L_law_365 rfl rfl rfl ?_
                    refine kJ_iconst 367 1 d_L_law_366 ki_1 rfl ?_
                    refine kJ_iadd 368 d_L_law_367 rfl ?_
                    obtain ⟨hg, hf⟩ := kG_some hf
                    refine kM_scr 369 hro d_L_law_368 hg rfl ?_
                    refine kJ_aload_n 370 0 d_L_law_369 rfl rfl rfl rfl ?_
                    refine kJ_iload_n 371 3 d_L_law_370 rfl rfl rfl ?_
                    refine kJ_iconst 372 2 d_L_law_371 ki_2 rfl ?_
                    refine kJ_iadd 373 d_L_law_372 rfl ?_
                    obtain ⟨hg, hf⟩ := kG_some hf
                    refine kM_scr 374 hro d_L_law_373 hg rfl ?_
                    refine kJ_aload_n 375 0 d_L_law_374 rfl rfl rfl rfl ?_
                    refine kJ_iload_n 376 3 d_L_law_375 rfl rfl rfl ?_
                    refine kJ_iconst 377 3 d_L_law_376 ki_3 rfl ?_
                    refine kJ_iadd 378 d_L_law_377 rfl ?_
                    obtain ⟨hg, hf⟩ := kG_some hf
                    refine kM_scr 379 hro d_L_law_378 hg rfl ?_
                    obtain ⟨v29, h28, ev29, hf⟩ := kBd_some hf
                    refine kM_callv 382 m_M_later [.int (xs (kx (x3 + 1))), .int (xs (kx (x3 + 2))), .int (xs (kx (x3 + 3)))] [.int v27] d_L_law_379 cl_L_43 ⟨w_919, w_920⟩ km_786 ⟨rfl, by decide⟩ ⟨_, _, rfl⟩ rfl rfl (Nat.le_of_ble_eq_true rfl) ⟨Nat.le_of_ble_eq_true rfl, Nat.le_of_ble_eq_true rfl⟩ ⟨rfl, rfl⟩ ⟨hfc, hfs⟩ (j_M_later hro ev29) rfl ?_
                    refine kJ_icmp_eq 385 1072 d_L_law_382 rfl rfl (fun hc => ?_) (fun hc => ?_)
                    · have hf := kIf_t hf hc
                      refine kJ_iinc 1075 3 [(3, .int (x3 + 4)), (0, .retAddr 2), (1, .ref 0), (2, .ref 786)] d_L_law_1072 rfl ki_4 (Nat.le_of_ble_eq_true rfl) rfl rfl ?_
                      refine kJ_goto 18 d_L_law_1075 rfl ?_
                      refine kJ_sub [1, 2, 3, 0] rfl ?_
                      exact hrec18 h28 (x3 + 4) hf
                    · have hf := kIf_f hf hc
                      refine kJ_iconst 386 0 d_L_law_385 ki_0 rfl ?_
                      cases hf
                      exact kJ_iret d_L_law_386 rfl (kB2_z _) hfc hfs
                  · have hf := kIf_f hf c6
                    by_cases c7 : v1 = 7
                    · have hf := kIf_t hf c7
                      refine kJ_tabIn 387 d_L_law_32 (by rw [c7]; try decide) (by rw [c7]; try decide) (by rw [c7]; try rfl) rfl ?_
                      refine kJ_aload_n 388 1 d_L_law_387 rfl rfl rfl rfl ?_
                      refine kJ_aload_n 389 0 d_L_law_388 rfl rfl rfl rfl ?_
                      refine kJ_iload_n 390 3 d_L_law_389 rfl rfl rfl ?_
                      refine kJ_iconst 391 1 d_L_law_390 ki_1 rfl ?_
                      refine kJ_iadd 392 d_L_law_391 rfl ?_
                      obtain ⟨hg, hf⟩ := kG_some hf
                      refine kM_scr 393 hro d_L_law_392 hg rfl ?_
                      refine kJ_aload_n 394 0 d_L_law_393 rfl rfl rfl rfl ?_
                      refine kJ_iload_n 395 3 d_L_law_394 rfl rfl rfl ?_
                      refine kJ_iconst 396 2 d_L_law_395 ki_2 rfl ?_
                      refine kJ_iadd 397 d_L_law_396 rfl ?_
                      obtain ⟨hg, hf⟩ := kG_some hf
                      refine kM_scr 398 hro d_L_law_397 hg rfl ?_
                      refine kJ_aload_n 399 0 d_L_law_398 rfl rfl rfl rfl ?_
                      refine kJ_iload_n 400 3 d_L_law_399 rfl rfl rfl ?_
                      refine kJ_iconst 401 3 d_L_law_400 ki_3 rfl ?_
                      refine kJ_iadd 402 d_L_law_401 rfl ?_
                      obtain ⟨hg, hf⟩ := kG_some hf
                      refine kM_scr 403 hro d_L_law_402 hg rfl ?_
                      obtain ⟨v31, h30, ev31, hf⟩ := kBd_some hf
                      refine kM_callv 406 m_P_proxy [.int (xs (kx (x3 + 1))), .int (xs (kx (x3 + 2))), .int (xs (kx (x3 + 3)))] [] d_L_law_403 cl_L_44 ⟨w_478, w_479⟩ kp_0 ⟨rfl, by decide⟩ ⟨_, _, rfl⟩ rfl rfl (Nat.le_of_ble_eq_true rfl) ⟨Nat.le_of_ble_eq_true rfl, Nat.le_of_ble_eq_true rfl⟩ ⟨rfl, rfl⟩ ⟨hfc, hfs⟩ (j_P_proxy hro ev31) rfl ?_
                      refine kJ_aload_n 407 2 d_L_law_406 rfl rfl rfl rfl ?_
                      refine kJ_aload_n 408 0 d_L_law_407 rfl rfl rfl rfl ?_
                      refine kJ_iload_n 409 3 d_L_law_408 rfl rfl rfl ?_
                      refine kJ_iconst 410 1 d_L_law_409 ki_1 rfl ?_
                      refine kJ_iadd 411 d_L_law_410 rfl ?_
                      obtain ⟨hg, hf⟩ := kG_some hf
                      refine kM_scr 412 hro d_L_law_411 hg rfl ?_
                      refine kJ_aload_n 413 0 d_L_law_412 rfl rfl rfl rfl ?_
                      refine kJ_iload_n 414 3 d_L_law_413 rfl rfl rfl ?_
                      refine kJ_iconst 415 2 d_L_law_414 ki_2 rfl ?_
                      refine kJ_iadd 416 d_L_law_415 rfl ?_
                      obtain ⟨hg, hf⟩ := kG_some hf
                      refine kM_scr 417 hro d_L_law_416 hg rfl ?_
                      refine kJ_aload_n 418 0 d_L_law_417 rfl rfl rfl rfl ?_
                      refine kJ_iload_n 419 3 d_L_law_418 rfl rfl rfl ?_
                      refine kJ_iconst 420 3 d_L_law_419 ki_3 rfl ?_
                      refine kJ_iadd 421 d_L_law_420 rfl ?_
                      obtain ⟨hg, hf⟩ := kG_some hf
                      refine kM_scr 422 hro d_L_law_421 hg rfl ?_
                      obtain ⟨v33, h32, ev33, hf⟩ := kBd_some hf
                      refine kM_callv 425 m_M_proxy [.int (xs (kx (x3 + 1))), .int (xs (kx (x3 + 2))), .int (xs (kx (x3 + 3)))] [.int v31] d_L_law_422 cl_L_47 ⟨w_923, w_924⟩ km_786 ⟨rfl, by decide⟩ ⟨_, _, rfl⟩ rfl rfl (Nat.le_of_ble_eq_true rfl) ⟨Nat.le_of_ble_eq_true rfl, Nat.le_of_ble_eq_true rfl⟩ ⟨rfl, rfl⟩ ⟨hfc, hfs⟩ (j_M_proxy hro ev33) rfl ?_
                      refine kJ_icmp_eq 428 1072 d_L_law_425 rfl rfl (fun hc => ?_) (fun hc => ?_)
                      · have hf := kIf_t hf hc
                        refine kJ_iinc 1075 3 [(3, .int (x3 + 4)), (0, .retAddr 2), (1, .ref 0), (2, .ref 786)] d_L_law_1072 rfl ki_4 (Nat.le_of_ble_eq_true rfl) rfl rfl ?_
                        refine kJ_goto 18 d_L_law_1075 rfl ?_
                        refine kJ_sub [1, 2, 3, 0] rfl ?_
                        exact hrec18 h32 (x3 + 4) hf
                      · have hf := kIf_f hf hc
                        refine kJ_iconst 429 0 d_L_law_428 ki_0 rfl ?_
                        cases hf
                        exact kJ_iret d_L_law_429 rfl (kB2_z _) hfc hfs
                    · have hf := kIf_f hf c7
                      by_cases c8 : v1 = 8
                      · have hf := kIf_t hf c8
                        refine kJ_tabIn 430 d_L_law_32 (by rw [c8]; try decide) (by rw [c8]; try decide) (by rw [c8]; try rfl) rfl ?_
                        refine kJ_aload_n 431 1 d_L_law_430 rfl rfl rfl rfl ?_
                        refine kJ_aload_n 432 0 d_L_law_431 rfl rfl rfl rfl ?_
                        refine kJ_iload_n 433 3 d_L_law_432 rfl rfl rfl ?_
                        refine kJ_iconst 434 1 d_L_law_433 ki_1 rfl ?_
                        refine kJ_iadd 435 d_L_law_434 rfl ?_
                        obtain ⟨hg, hf⟩ := kG_some hf
                        refine kM_scr 436 hro d_L_law_435 hg rfl ?_
                        refine kJ_aload_n 437 0 d_L_law_436 rfl rfl rfl rfl ?_
                        refine kJ_iload_n 438 3 d_L_law_437 rfl rfl rfl ?_
                        refine kJ_iconst 439 2 d_L_law_438 ki_2 rfl ?_
                        refine kJ_iadd 440 d_L_law_439 rfl ?_
                        obtain ⟨hg, hf⟩ := kG_some hf
                        refine kM_scr 441 hro d_L_law_440 hg rfl ?_
                        refine kJ_aload_n 442 0 d_L_law_441 rfl rfl rfl rfl ?_
                        refine kJ_iload_n 443 3 d_L_law_442 rfl rfl rfl ?_
                        refine kJ_iconst 444 3 d_L_law_443 ki_3 rfl ?_
                        refine kJ_iadd 445 d_L_law_444 rfl ?_
                        obtain ⟨hg, hf⟩ := kG_some hf
                        refine kM_scr 446 hro d_L_law_445 hg rfl ?_
                        obtain ⟨v35, h34, ev35, hf⟩ := kBd_some hf
                        refine kM_callv 449 m_P_tell [.int (xs (kx (x3 + 1))), .int (xs (kx (x3 + 2))), .int (xs (kx (x3 + 3)))] [] d_L_law_446 cl_L_48 ⟨w_490, w_491⟩ kp_0 ⟨rfl, by decide⟩ ⟨_, _, rfl⟩ rfl rfl (Nat.le_of_ble_eq_true rfl) ⟨Nat.le_of_ble_eq_true rfl, Nat.le_of_ble_eq_true rfl⟩ ⟨rfl, rfl⟩ ⟨hfc, hfs⟩ (j_P_tell hro ev35) rfl ?_
                        refine kJ_aload_n 450 2 d_L_law_449 rfl rfl rfl rfl ?_
                        refine kJ_aload_n 451 0 d_L_law_450 rfl rfl rfl rfl ?_
                        refine kJ_iload_n 452 3 d_L_law_451 rfl rfl rfl ?_
                        refine kJ_iconst 453 1 d_L_law_452 ki_1 rfl ?_
                        refine kJ_iadd 454 d_L_law_453 rfl ?_
                        obtain ⟨hg, hf⟩ := kG_some hf
                        refine kM_scr 455 hro d_L_law_454 hg rfl ?_
                        refine kJ_aload_n 456 0 d_L_law_455 rfl rfl rfl rfl ?_
                        refine kJ_iload_n 457 3 d_L_law_456 rfl rfl rfl ?_
                        refine kJ_iconst 458 2 d_L_law_457 ki_2 rfl ?_
                        refine kJ_iadd 459 d_L_law_458 rfl ?_
                        obtain ⟨hg, hf⟩ := kG_some hf
                        refine kM_scr 460 hro d_L_law_459 hg rfl ?_
                        refine kJ_aload_n 461 0 d_L_law_460 rfl rfl rfl rfl ?_
                        refine kJ_iload_n 462 3 d_L_law_461 rfl rfl rfl ?_
                        refine kJ_iconst 463 3 d_L_law_462 ki_3 rfl ?_
                        refine kJ_iadd 464 d_L_law_463 rfl ?_
                        obtain ⟨hg, hf⟩ := kG_some hf
                        refine kM_scr 465 hro d_L_law_464 hg rfl ?_
                        obtain ⟨v37, h36, ev37, hf⟩ := kBd_some hf
                        refine kM_callv 468 m_M_tell [.int (xs (kx (x3 + 1))), .int (xs (kx (x3 + 2))), .int (xs (kx (x3 + 3)))] [.int v35] d_L_law_465 cl_L_51 ⟨w_931, w_932⟩ km_786 ⟨rfl, by decide⟩ ⟨_, _, rfl⟩ rfl rfl (Nat.le_of_ble_eq_true rfl) ⟨Nat.le_of_ble_eq_true rfl, Nat.le_of_ble_eq_true rfl⟩ ⟨rfl, rfl⟩ ⟨hfc, hfs⟩ (j_M_tell hro ev37) rfl ?_
                        refine kJ_icmp_eq 471 1072 d_L_law_468 rfl rfl (fun hc => ?_) (fun hc => ?_)
                        · have hf := kIf_t hf hc
                          refine kJ_iinc 1075 3 [(3, .int (x3 + 4)), (0, .retAddr 2), (1, .ref 0), (2, .ref 786)] d_L_law_1072 rfl ki_4 (Nat.le_of_ble_eq_true rfl) rfl rfl ?_
                          refine kJ_goto 18 d_L_law_1075 rfl ?_
                          refine kJ_sub [1, 2, 3, 0] rfl ?_
                          exact hrec18 h36 (x3 + 4) hf
                        · have hf := kIf_f hf hc
                          refine kJ_iconst 472 0 d_L_law_471 ki_0 rfl ?_
                          cases hf
                          exact kJ_iret d_L_law_472 rfl (kB2_z _) hfc hfs
                      · have hf := kIf_f hf c8
                        by_cases c9 : v1 = 9
                        · have hf := kIf_t hf c9
                          refine kJ_tabIn 473 d_L_law_32 (by rw [c9]; try decide) (by rw [c9]; try decide) (by rw [c9]; try rfl) rfl ?_
                          refine kJ_aload_n 474 1 d_L_law_473 rfl rfl rfl rfl ?_
                          refine kJ_aload_n 475 0 d_L_law_474 rfl rfl rfl rfl ?_
                          refine kJ_iload_n 476 3 d_L_law_475 rfl rfl rfl ?_
                          refine kJ_iconst 477 1 d_L_law_476 ki_1 rfl ?_
                          refine kJ_iadd 478 d_L_law_477 rfl ?_
                          obtain ⟨hg, hf⟩ := kG_some hf
                          refine kM_scr 479 hro d_L_law_478 hg rfl ?_
                          refine kJ_aload_n 480 0 d_L_law_479 rfl rfl rfl rfl ?_
                          refine kJ_iload_n 481 3 d_L_law_480 rfl rfl rfl ?_
                          refine kJ_iconst 482 2 d_L_law_481 ki_2 rfl ?_
                          refine kJ_iadd 483 d_L_law_482 rfl ?_
                          obtain ⟨hg, hf⟩ := kG_some hf
                          refine kM_scr 484 hro d_L_law_483 hg rfl ?_
                          refine kJ_aload_n 485 0 d_L_law_484 rfl rfl rfl rfl ?_
                          refine kJ_iload_n 486 3 d_L_law_485 rfl rfl rfl ?_
                          refine kJ_iconst 487 3 d_L_law_486 ki_3 rfl ?_
                          refine kJ_iadd 488 d_L_law_487 rfl ?_
                          obtain ⟨hg, hf⟩ := kG_some hf
                          refine kM_scr 489 hro d_L_law_488 hg rfl ?_
                          obtain ⟨v39, h38, ev39, hf⟩ := kBd_some hf
                          refine kM_callv 492 m_P_recuse [.int (xs (kx (x3 + 1))), .int (xs (kx (x3 + 2))), .int (xs (kx (x3 + 3)))] [] d_L_law_489 cl_L_52 ⟨w_505, w_506⟩ kp_0 ⟨rfl, by decide⟩ ⟨_, _, rfl⟩ rfl rfl (Nat.le_of_ble_eq_true rfl) ⟨Nat.le_of_ble_eq_true rfl, Nat.le_of_ble_eq_true rfl⟩ ⟨rfl, rfl⟩ ⟨hfc, hfs⟩ (j_P_recuse hro ev39) rfl ?_
                          refine kJ_aload_n 493 2 d_L_law_492 rfl rfl rfl rfl ?_
                          refine kJ_aload_n 494 0 d_L_law_493 rfl rfl rfl rfl ?_
                          refine kJ_iload_n 495 3 d_L_law_494 rfl rfl rfl ?_
                          refine kJ_iconst 496 1 d_L_law_495 ki_1 rfl ?_
                          refine kJ_iadd 497 d_L_law_496 rfl ?_
                          obtain ⟨hg, hf⟩ := kG_some hf
                          refine kM_scr 498 hro d_L_law_497 hg rfl ?_
                          refine kJ_aload_n 499 0 d_L_law_498 rfl rfl rfl rfl ?_
                          refine kJ_iload_n 500 3 d_L_law_499 rfl rfl rfl ?_
                          refine kJ_iconst 501 2 d_L_law_500 ki_2 rfl ?_
                          refine kJ_iadd 502 d_L_law_501 rfl ?_
                          obtain ⟨hg, hf⟩ := kG_some hf
                          refine kM_scr 503 hro d_L_law_502 hg rfl ?_
                          refine kJ_aload_n 504 0 d_L_law_503 rfl rfl rfl rfl ?_
                          refine kJ_iload_n 505 3 d_L_law_504 rfl rfl rfl ?_
                          refine kJ_iconst 506 3 d_L_law_505 ki_3 rfl ?_
                          refine kJ_iadd 507 d_L_law_506 rfl ?_
                          obtain ⟨hg, hf⟩ := kG_some hf
                          refine kM_scr 508 hro d_L_law_507 hg rfl ?_
                          obtain ⟨v41, h40, ev41, hf⟩ := kBd_some hf
                          refine kM_callv 511 m_M_recuse [.int (xs (kx (x3 + 1))), .int (xs (kx (x3 + 2))), .int (xs (kx (x3 + 3)))] [.int v39] d_L_law_508 cl_L_55 ⟨w_943, w_944⟩ km_786 ⟨rfl, by decide⟩ ⟨_, _, rfl⟩ rfl rfl (Nat.le_of_ble_eq_true rfl) ⟨Nat.le_of_ble_eq_true rfl, Nat.le_of_ble_eq_true rfl⟩ ⟨rfl, rfl⟩ ⟨hfc, hfs⟩ (j_M_recuse hro ev41) rfl ?_
                          refine kJ_icmp_eq 514 1072 d_L_law_511 rfl rfl (fun hc => ?_) (fun hc => ?_)
                          · have hf := kIf_t hf hc
                            refine kJ_iinc 1075 3 [(3, .int (x3 + 4)), (0, .retAddr 2), (1, .ref 0), (2, .ref 786)] d_L_law_1072 rfl ki_4 (Nat.le_of_ble_eq_true rfl) rfl rfl ?_
                            refine kJ_goto 18 d_L_law_1075 rfl ?_
                            refine kJ_sub [1, 2, 3, 0] rfl ?_
                            exact hrec18 h40 (x3 + 4) hf
                          · have hf := kIf_f hf hc
                            refine kJ_iconst 515 0 d_L_law_514 ki_0 rfl ?_
                            cases hf
                            exact kJ_iret d_L_law_515 rfl (kB2_z _) hfc hfs
                        · have hf := kIf_f hf c9
                          by_cases c10 : v1 = 10
                          · have hf := kIf_t hf c10
                            refine kJ_tabIn 516 d_L_law_32 (by rw [c10]; try decide) (by rw [c10]; try decide) (by rw [c10]; try rfl) rfl ?_
                            refine kJ_aload_n 517 1 d_L_law_516 rfl rfl rfl rfl ?_
                            refine kJ_aload_n 518 0 d_L_law_517 rfl rfl rfl rfl ?_
                            refine kJ_iload_n 519 3 d_L_law_518 rfl rfl rfl ?_
                            refine kJ_iconst 520 1 d_L_law_519 ki_1 rfl ?_
                            refine kJ_iadd 521 d_L_law_520 rfl ?_
                            obtain ⟨hg, hf⟩ := kG_some hf
                            refine kM_scr 522 hro d_L_law_521 hg rfl ?_
                            obtain ⟨v43, h42, ev43, hf⟩ := kBd_some hf
                            refine kM_callv 525 m_P_open [.int (xs (kx (x3 + 1)))] [] d_L_law_522 cl_L_56 ⟨w_517, w_518⟩ kp_0 ⟨rfl, by decide⟩ ⟨_, _, rfl⟩ rfl rfl (Nat.le_of_ble_eq_true rfl) ⟨Nat.le_of_ble_eq_true rfl, Nat.le_of_ble_eq_true rfl⟩ ⟨rfl, rfl⟩ ⟨hfc, hfs⟩ (j_P_open hro ev43) rfl ?_
                            refine kJ_aload_n 526 2 d_L_law_525 rfl rfl rfl rfl ?_
                            refine kJ_aload_n 527 0 d_L_law_526 rfl rfl rfl rfl ?_
                            refine kJ_iload_n 528 3 d_L_law_527 rfl rfl rfl ?_
                            refine kJ_iconst 529 1 d_L_law_528 ki_1 rfl ?_
                            refine kJ_iadd 530 d_L_law_529 rfl ?_
                            obtain ⟨hg, hf⟩ := kG_some hf
                            refine kM_scr 531 hro d_L_law_530 hg rfl ?_
                            obtain ⟨v45, h44, ev45, hf⟩ := kBd_some hf
                            refine kM_callv 534 m_M_open [.int (xs (kx (x3 + 1)))] [.int v43] d_L_law_531 cl_L_59 ⟨w_954, w_955⟩ km_786 ⟨rfl, by decide⟩ ⟨_, _, rfl⟩ rfl rfl (Nat.le_of_ble_eq_true rfl) ⟨Nat.le_of_ble_eq_true rfl, Nat.le_of_ble_eq_true rfl⟩ ⟨rfl, rfl⟩ ⟨hfc, hfs⟩ (j_M_open hro ev45) rfl ?_
                            refine kJ_icmp_eq 537 1072 d_L_law_534 rfl rfl (fun hc => ?_) (fun hc => ?_)
                            · have hf := kIf_t hf hc
                              refine kJ_iinc 1075 3 [(3, .int (x3 + 4)), (0, .retAddr 2), (1, .ref 0), (2, .ref 786)] d_L_law_1072 rfl ki_4 (Nat.le_of_ble_eq_true rfl) rfl rfl ?_
                              refine kJ_goto 18 d_L_law_1075 rfl ?_
                              refine kJ_sub [1, 2, 3, 0] rfl ?_
                              exact hrec18 h44 (x3 + 4) hf
                            · have hf := kIf_f hf hc
                              refine kJ_iconst 538 0 d_L_law_537 ki_0 rfl ?_
                              cases hf
                              exact kJ_iret d_L_law_538 rfl (kB2_z _) hfc hfs
                          · have hf := kIf_f hf c10
                            by_cases c11 : v1 = 11
                            · have hf := kIf_t hf c11
                              refine kJ_tabIn 539 d_L_law_32 (by rw [c11]; try decide) (by rw [c11]; try decide) (by rw [c11]; try rfl) rfl ?_
                              refine kJ_aload_n 540 1 d_L_law_539 rfl rfl rfl rfl ?_
                              refine kJ_aload_n 541 0 d_L_law_540 rfl rfl rfl rfl ?_
                              refine kJ_iload_n 542 3 d_L_law_541 rfl rfl rfl ?_
                              refine kJ_iconst 543 1 d_L_law_542 ki_1 rfl ?_
                              refine kJ_iadd 544 d_L_law_543 rfl ?_
                              obtain ⟨hg, hf⟩ := kG_some hf
                              refine kM_scr 545 hro d_L_law_544 hg rfl ?_
                              refine kJ_aload_n 546 0 d_L_law_545 rfl rfl rfl rfl ?_
                              refine kJ_iload_n 547 3 d_L_law_546 rfl rfl rfl ?_
                              refine kJ_iconst 548 2 d_L_law_547 ki_2 rfl ?_
                              refine kJ_iadd 549 d_L_law_548 rfl ?_
                              obtain ⟨hg, hf⟩ := kG_some hf
                              refine kM_scr 550 hro d_L_law_549 hg rfl ?_
                              obtain ⟨v47, h46, ev47, hf⟩ := kBd_some hf
                              refine kM_callv 553 m_P_vote [.int (xs (kx (x3 + 1))), .int (xs (kx (x3 + 2)))] [] d_L_law_550 cl_L_60 ⟨w_560, w_561⟩ kp_0 ⟨rfl, by decide⟩ ⟨_, _, rfl⟩ rfl rfl (Nat.le_of_ble_eq_true rfl) ⟨Nat.le_of_ble_eq_true rfl, Nat.le_of_ble_eq_true rfl⟩ ⟨rfl, rfl⟩ ⟨hfc, hfs⟩ (j_P_vote hro ev47) rfl ?_
                              refine kJ_aload_n 554 2 d_L_law_553 rfl rfl rfl rfl ?_
                              refine kJ_aload_n 555 0 d_L_law_554 rfl rfl rfl rfl ?_
                              refine kJ_iload_n 556 3 d_L_law_555 rfl rfl rfl ?_
                              refine kJ_iconst 557 1 d_L_law_556 ki_1 rfl ?_
                              refine kJ_iadd 558 d_L_law_557 rfl ?_
                              obtain ⟨hg, hf⟩ := kG_some hf
                              refine kM_scr 559 hro d_L_law_558 hg rfl ?_
                              refine kJ_aload_n 560 0 d_L_law_559 rfl rfl rfl rfl ?_
                              refine kJ_iload_n 561 3 d_L_law_560 rfl rfl rfl ?_
                              refine kJ_iconst 562 2 d_L_law_561 ki_2 rfl ?_
                              refine kJ_iadd 563 d_L_law_562 rfl ?_
                              obtain ⟨hg, hf⟩ := kG_some hf
                              refine kM_scr 564 hro d_L_law_563 hg rfl ?_
                              obtain ⟨v49, h48, ev49, hf⟩ := kBd_some hf
                              refine kM_callv 567 m_M_vote [.int (xs (kx (x3 + 1))), .int (xs (kx (x3 + 2)))] [.int v47] d_L_law_564 cl_L_63 ⟨w_990, w_991⟩ km_786 ⟨rfl, by decide⟩ ⟨_, _, rfl⟩ rfl rfl (Nat.le_of_ble_eq_true rfl) ⟨Nat.le_of_ble_eq_true rfl, Nat.le_of_ble_eq_true rfl⟩ ⟨rfl, rfl⟩ ⟨hfc, hfs⟩ (j_M_vote hro ev49) rfl ?_
                              refine kJ_icmp_eq 570 1072 d_L_law_567 rfl rfl (fun hc => ?_) (fun hc => ?_)
                              · have hf := kIf_t hf hc
                                refine kJ_iinc 1075 3 [(3, .int (x3 + 4)), (0, .retAddr 2), (1, .ref 0), (2, .ref 786)] d_L_law_1072 rfl ki_4 (Nat.le_of_ble_eq_true rfl) rfl rfl ?_
                                refine kJ_goto 18 d_L_law_1075 rfl ?_
                                refine kJ_sub [1, 2, 3, 0] rfl ?_
                                exact hrec18 h48 (x3 + 4) hf
                              · have hf := kIf_f hf hc
                                refine kJ_iconst 571 0 d_L_law_570 ki_0 rfl ?_
                                cases hf
                                exact kJ_iret d_L_law_571 rfl (kB2_z _) hfc hfs
                            · have hf := kIf_f hf c11
                              by_cases c12 : v1 = 12
                              · have hf := kIf_t hf c12
                                refine kJ_tabIn 572 d_L_law_32 (by rw [c12]; try decide) (by rw [c12]; try decide) (by rw [c12]; try rfl) rfl ?_
                                refine kJ_aload_n 573 1 d_L_law_572 rfl rfl rfl rfl ?_
                                obtain ⟨v51, h50, ev51, hf⟩ := kBd_some hf
                                refine kM_callv 576 m_P_close [] [] d_L_law_573 cl_L_64 ⟨w_572, w_573⟩ kp_0 ⟨rfl, by decide⟩ ⟨_, _, rfl⟩ rfl rfl (Nat.le_of_ble_eq_true rfl) ⟨Nat.le_of_ble_eq_true rfl, Nat.le_of_ble_eq_true rfl⟩ ⟨rfl, rfl⟩ ⟨hfc, hfs⟩ (j_P_close hro ev51) rfl ?_
                                refine kJ_aload_n 577 2 d_L_law_576 rfl rfl rfl rfl ?_
                                obtain ⟨v53, h52, ev53, hf⟩ := kBd_some hf
                                refine kM_callv 580 m_M_close [] [.int v51] d_L_law_577 cl_L_68 ⟨w_994, w_995⟩ km_786 ⟨rfl, by decide⟩ ⟨_, _, rfl⟩ rfl rfl (Nat.le_of_ble_eq_true rfl) ⟨Nat.le_of_ble_eq_true rfl, Nat.le_of_ble_eq_true rfl⟩ ⟨rfl, rfl⟩ ⟨hfc, hfs⟩ (j_M_close hro ev53) rfl ?_
                                refine kJ_icmp_eq 583 1072 d_L_law_580 rfl rfl (fun hc => ?_) (fun hc => ?_)
                                · have hf := kIf_t hf hc
                                  refine kJ_iinc 1075 3 [(3, .int (x3 + 4)), (0, .retAddr 2), (1, .ref 0), (2, .ref 786)] d_L_law_1072 rfl ki_4 (Nat.le_of_ble_eq_true rfl) rfl rfl ?_
                                  refine kJ_goto 18 d_L_law_1075 rfl ?_
                                  refine kJ_sub [1, 2, 3, 0] rfl ?_
                                  exact hrec18 h52 (x3 + 4) hf
                                · have hf := kIf_f hf hc
                                  refine kJ_iconst 584 0 d_L_law_583 ki_0 rfl ?_
                                  cases hf
                                  exact kJ_iret d_L_law_584 rfl (kB2_z _) hfc hfs
                              · have hf := kIf_f hf c12
                                by_cases c13 : v1 = 13
                                · have hf := kIf_t hf c13
                                  refine kJ_tabIn 585 d_L_law_32 (by rw [c13]; try decide) (by rw [c13]; try decide) (by rw [c13]; try rfl) rfl ?_
                                  refine kJ_aload_n 586 1 d_L_law_585 rfl rfl rfl rfl ?_
                                  refine kJ_aload_n 587 0 d_L_law_586 rfl rfl rfl rfl ?_
                                  refine kJ_iload_n 588 3 d_L_law_587 rfl rfl rfl ?_
                                  refine kJ_iconst 589 1 d_L_law_588 ki_1 rfl ?_
                                  refine kJ_iadd 590 d_L_law_589 rfl ?_
                                  obtain ⟨hg, hf⟩ := kG_some hf
                                  refine kM_scr 591 hro d_L_law_590 hg rfl ?_
                                  obtain ⟨v55, h54, ev55, hf⟩ := kBd_some hf
                                  refine kM_callv 594 m_P_cast [.int (xs (kx (x3 + 1)))] [] d_L_law_591 cl_L_69 ⟨w_596, w_597⟩ kp_0 ⟨rfl, by decide⟩ ⟨_, _, rfl⟩ rfl rfl (Nat.le_of_ble_eq_true rfl) ⟨Nat.le_of_ble_eq_true rfl, Nat.le_of_ble_eq_true rfl⟩ ⟨rfl, rfl⟩ ⟨hfc, hfs⟩ (j_P_cast hro ev55) rfl ?_
                                  refine kJ_aload_n 595 2 d_L_law_594 rfl rfl rfl rfl ?_
                                  refine kJ_aload_n 596 0 d_L_law_595 rfl rfl rfl rfl ?_
                                  refine kJ_iload_n 597 3 d_L_law_596 rfl rfl rfl ?_
                                  refine kJ_iconst 598 1 d_L_law_597 ki_1 rfl ?_
                                  refine kJ_iadd 599 d_L_law_598 rfl ?_
                                  obtain ⟨hg, hf⟩ := kG_some hf
                                  refine kM_scr 600 hro d_L_law_599 hg rfl ?_
                                  obtain ⟨v57, h56, ev57, hf⟩ := kBd_some hf
                                  refine kM_callv 603 m_M_cast [.int (xs (kx (x3 + 1)))] [.int v55] d_L_law_600 cl_L_72 ⟨w_1010, w_1011⟩ km_786 ⟨rfl, by decide⟩ ⟨_, _, rfl⟩ rfl rfl (Nat.le_of_ble_eq_true rfl) ⟨Nat.le_of_ble_eq_true rfl, Nat.le_of_ble_eq_true rfl⟩ ⟨rfl, rfl⟩ ⟨hfc, hfs⟩ (j_M_cast hro ev57) rfl ?_
                                  refine kJ_icmp_eq 606 1072 d_L_law_603 rfl rfl (fun hc => ?_) (fun hc => ?_)
                                  · have hf := kIf_t hf hc
                                    refine kJ_iinc 1075 3 [(3, .int (x3 + 4)), (0, .retAddr 2), (1, .ref 0), (2, .ref 786)] d_L_law_1072 rfl ki_4 (Nat.le_of_ble_eq_true rfl) rfl rfl ?_
                                    refine kJ_goto 18 d_L_law_1075 rfl ?_
                                    refine kJ_sub [1, 2, 3, 0] rfl ?_
                                    exact hrec18 h56 (x3 + 4) hf
                                  · have hf := kIf_f hf hc
                                    refine kJ_iconst 607 0 d_L_law_606 ki_0 rfl ?_
                                    cases hf
                                    exact kJ_iret d_L_law_607 rfl (kB2_z _) hfc hfs
                                · have hf := kIf_f hf c13
                                  by_cases c14 : v1 = 14
                                  · have hf := kIf_t hf c14
                                    refine kJ_tabIn 608 d_L_law_32 (by rw [c14]; try decide) (by rw [c14]; try decide) (by rw [c14]; try rfl) rfl ?_
                                    refine kJ_aload_n 609 1 d_L_law_608 rfl rfl rfl rfl ?_
                                    refine kJ_aload_n 610 0 d_L_law_609 rfl rfl rfl rfl ?_
                                    refine kJ_iload_n 611 3 d_L_law_610 rfl rfl rfl ?_
                                    refine kJ_iconst 612 1 d_L_law_611 ki_1 rfl ?_
                                    refine kJ_iadd 613 d_L_law_612 rfl ?_
                                    obtain ⟨hg, hf⟩ := kG_some hf
                                    refine kM_scr 614 hro d_L_law_613 hg rfl ?_
                                    obtain ⟨v59, h58, ev59, hf⟩ := kBd_some hf
                                    refine kM_callv 617 m_P_pass [.int (xs (kx (x3 + 1)))] [] d_L_law_614 cl_L_73 ⟨w_608, w_609⟩ kp_0 ⟨rfl, by decide⟩ ⟨_, _, rfl⟩ rfl rfl (Nat.le_of_ble_eq_true rfl) ⟨Nat.le_of_ble_eq_true rfl, Nat.le_of_ble_eq_true rfl⟩ ⟨rfl, rfl⟩ ⟨hfc, hfs⟩ (j_P_pass hro ev59) rfl ?_
                                    refine kJ_aload_n 618 2 d_L_law_617 rfl rfl rfl rfl ?_
                                    refine kJ_aload_n 619 0 d_L_law_618 rfl rfl rfl rfl ?_
                                    refine kJ_iload_n 620 3 d_L_law_619 rfl rfl rfl ?_
                                    refine kJ_iconst 621 1 d_L_law_620 ki_1 rfl ?_
                                    refine kJ_iadd 622 d_L_law_621 rfl ?_
                                    obtain ⟨hg, hf⟩ := kG_some hf
                                    refine kM_scr 623 hro d_L_law_622 hg rfl ?_
                                    obtain ⟨v61, h60, ev61, hf⟩ := kBd_some hf
                                    refine kM_callv 626 m_M_pass [.int (xs (kx (x3 + 1)))] [.int v59] d_L_law_623 cl_L_76 ⟨w_1018, w_1019⟩ km_786 ⟨rfl, by decide⟩ ⟨_, _, rfl⟩ rfl rfl (Nat.le_of_ble_eq_true rfl) ⟨Nat.le_of_ble_eq_true rfl, Nat.le_of_ble_eq_true rfl⟩ ⟨rfl, rfl⟩ ⟨hfc, hfs⟩ (j_M_pass hro ev61) rfl ?_
                                    refine kJ_icmp_eq 629 1072 d_L_law_626 rfl rfl (fun hc => ?_) (fun hc => ?_)
                                    · have hf := kIf_t hf hc
                                      refine kJ_iinc 1075 3 [(3, .int (x3 + 4)), (0, .retAddr 2), (1, .ref 0), (2, .ref 786)] d_L_law_1072 rfl ki_4 (Nat.le_of_ble_eq_true rfl) rfl rfl ?_
                                      refine kJ_goto 18 d_L_law_1075 rfl ?_
                                      refine kJ_sub [1, 2, 3, 0] rfl ?_
                                      exact hrec18 h60 (x3 + 4) hf
                                    · have hf := kIf_f hf hc
                                      refine kJ_iconst 630 0 d_L_law_629 ki_0 rfl ?_
                                      cases hf
                                      exact kJ_iret d_L_law_630 rfl (kB2_z _) hfc hfs
                                  · have hf := kIf_f hf c14
                                    by_cases c15 : v1 = 15
                                    · have hf := kIf_t hf c15
                                      refine kJ_tabIn 631 d_L_law_32 (by rw [c15]; try decide) (by rw [c15]; try decide) (by rw [c15]; try rfl) rfl ?_
                                      refine kJ_aload_n 632 1 d_L_law_631 rfl rfl rfl rfl ?_
                                      refine kJ_aload_n 633 0 d_L_law_632 rfl rfl rfl rfl ?_
                                      refine kJ_iload_n 634 3 d_L_law_633 rfl rfl rfl ?_
                                      refine kJ_iconst 635 1 d_L_law_634 ki_1 rfl ?_
                                      refine kJ_iadd 636 d_L_law_635 rfl ?_
                                      obtain ⟨hg, hf⟩ := kG_some hf
                                      refine kM_scr 637 hro d_L_law_636 hg rfl ?_
                                      refine kJ_aload_n 638 0 d_L_law_637 rfl rfl rfl rfl ?_
                                      refine kJ_iload_n 639 3 d_L_law_638 rfl rfl rfl ?_
                                      refine kJ_iconst 640 2 d_L_law_639 ki_2 rfl ?_
                                      refine kJ_iadd 641 d_L_law_640 rfl ?_
                                      obtain ⟨hg, hf⟩ := kG_some hf
                                      refine kM_scr 642 hro d_L_law_641 hg rfl ?_
                                      obtain ⟨v62, ev62, hf⟩ := kBi_some hf
                                      refine kM_callv 645 m_P_ofMember [.int (xs (kx (x3 + 1))), .int (xs (kx (x3 + 2)))] [] d_L_law_642 cl_L_77 ⟨w_628, w_629⟩ kp_0 ⟨rfl, by decide⟩ ⟨_, _, rfl⟩ rfl rfl (Nat.le_of_ble_eq_true rfl) ⟨Nat.le_of_ble_eq_true rfl, Nat.le_of_ble_eq_true rfl⟩ ⟨rfl, rfl⟩ ⟨hfc, hfs⟩ (j_P_ofMember hro ev62) rfl ?_
                                      refine kJ_aload_n 646 2 d_L_law_645 rfl rfl rfl rfl ?_
                                      refine kJ_aload_n 647 0 d_L_law_646 rfl rfl rfl rfl ?_
                                      refine kJ_iload_n 648 3 d_L_law_647 rfl rfl rfl ?_
                                      refine kJ_iconst 649 1 d_L_law_648 ki_1 rfl ?_
                                      refine kJ_iadd 650 d_L_law_649 rfl ?_
                                      obtain ⟨hg, hf⟩ := kG_some hf
                                      refine kM_scr 651 hro d_L_law_650 hg rfl ?_
                                      refine kJ_aload_n 652 0 d_L_law_651 rfl rfl rfl rfl ?_
                                      refine kJ_iload_n 653 3 d_L_law_652 rfl rfl rfl ?_
                                      refine kJ_iconst 654 2 d_L_law_653 ki_2 rfl ?_
                                      refine kJ_iadd 655 d_L_law_654 rfl ?_
                                      obtain ⟨hg, hf⟩ := kG_some hf
                                      refine kM_scr 656 hro d_L_law_655 hg rfl ?_
                                      obtain ⟨v63, ev63, hf⟩ := kBi_some hf
                                      refine kM_callv 659 m_M_ofMember [.int (xs (kx (x3 + 1))), .int (xs (kx (x3 + 2)))] [.int v62] d_L_law_656 cl_L_80 ⟨w_1026, w_1027⟩ km_786 ⟨rfl, by decide⟩ ⟨_, _, rfl⟩ rfl rfl (Nat.le_of_ble_eq_true rfl) ⟨Nat.le_of_ble_eq_true rfl, Nat.le_of_ble_eq_true rfl⟩ ⟨rfl, rfl⟩ ⟨hfc, hfs⟩ (j_M_ofMember hro ev63) rfl ?_
                                      refine kJ_icmp_eq 662 1072 d_L_law_659 rfl rfl (fun hc => ?_) (fun hc => ?_)
                                      · have hf := kIf_t hf hc
                                        refine kJ_iinc 1075 3 [(3, .int (x3 + 4)), (0, .retAddr 2), (1, .ref 0), (2, .ref 786)] d_L_law_1072 rfl ki_4 (Nat.le_of_ble_eq_true rfl) rfl rfl ?_
                                        refine kJ_goto 18 d_L_law_1075 rfl ?_
                                        refine kJ_sub [1, 2, 3, 0] rfl ?_
                                        exact hrec18 h (x3 + 4) hf
                                      · have hf := kIf_f hf hc
                                        refine kJ_iconst 663 0 d_L_law_662 ki_0 rfl ?_
                                        cases hf
                                        exact kJ_iret d_L_law_663 rfl (kB2_z _) hfc hfs
                                    · have hf := kIf_f hf c15
                                      by_cases c16 : v1 = 16
                                      · have hf := kIf_t hf c16
                                        refine kJ_tabIn 664 d_L_law_32 (by rw [c16]; try decide) (by rw [c16]; try decide) (by rw [c16]; try rfl) rfl ?_
                                        refine kJ_aload_n 665 1 d_L_law_664 rfl rfl rfl rfl ?_
                                        refine kJ_aload_n 666 0 d_L_law_665 rfl rfl rfl rfl ?_
                                        refine kJ_iload_n 667 3 d_L_law_666 rfl rfl rfl ?_
                                        refine kJ_iconst 668 1 d_L_law_667 ki_1 rfl ?_
                                        refine kJ_iadd 669 d_L_law_668 rfl ?_
                                        obtain ⟨hg, hf⟩ := kG_some hf
                                        refine kM_scr 670 hro d_L_law_669 hg rfl ?_
                                        refine kJ_aload_n 671 0 d_L_law_670 rfl rfl rfl rfl ?_
                                        refine kJ_iload_n 672 3 d_L_law_671 rfl rfl rfl ?_
                                        refine kJ_iconst 673 2 d_L_law_672 ki_2 rfl ?_
                                        refine kJ_iadd 674 d_L_law_673 rfl ?_
                                        obtain ⟨hg, hf⟩ := kG_some hf
                                        refine kM_scr 675 hro d_L_law_674 hg rfl ?_
                                        obtain ⟨v65, h64, ev65, hf⟩ := kBd_some hf
                                        refine kM_callv 678 m_P_ofItem [.int (xs (kx (x3 + 1))), .int (xs (kx (x3 + 2)))] [] d_L_law_675 cl_L_81 ⟨w_642, w_643⟩ kp_0 ⟨rfl, by decide⟩ ⟨_, _, rfl⟩ rfl rfl (Nat.le_of_ble_eq_true rfl) ⟨Nat.le_of_ble_eq_true rfl, Nat.le_of_ble_eq_true rfl⟩ ⟨rfl, rfl⟩ ⟨hfc, hfs⟩ (j_P_ofItem hro ev65) rfl ?_
                                        refine kJ_aload_n 679 2 d_L_law_678 rfl rfl rfl rfl ?_
                                        refine kJ_aload_n 680 0 d_L_law_679 rfl rfl rfl rfl ?_
                                        refine kJ_iload_n 681 3 d_L_law_680 rfl rfl rfl ?_
                                        refine kJ_iconst 682 1 d_L_law_681 ki_1 rfl ?_
                                        refine kJ_iadd 683 d_L_law_682 rfl ?_
                                        obtain ⟨hg, hf⟩ := kG_some hf
                                        refine kM_scr 684 hro d_L_law_683 hg rfl ?_
                                        refine kJ_aload_n 685 0 d_L_law_684 rfl rfl rfl rfl ?_
                                        refine kJ_iload_n 686 3 d_L_law_685 rfl rfl rfl ?_
                                        refine kJ_iconst 687 2 d_L_law_686 ki_2 rfl ?_
                                        refine kJ_iadd 688 d_L_law_687 rfl ?_
                                        obtain ⟨hg, hf⟩ := kG_some hf
                                        refine kM_scr 689 hro d_L_law_688 hg rfl ?_
                                        obtain ⟨v67, h66, ev67, hf⟩ := kBd_some hf
                                        refine kM_callv 692 m_M_ofItem [.int (xs (kx (x3 + 1))), .int (xs (kx (x3 + 2)))] [.int v65] d_L_law_689 cl_L_84 ⟨w_1034, w_1035⟩ km_786 ⟨rfl, by decide⟩ ⟨_, _, rfl⟩ rfl rfl (Nat.le_of_ble_eq_true rfl) ⟨Nat.le_of_ble_eq_true rfl, Nat.le_of_ble_eq_true rfl⟩ ⟨rfl, rfl⟩ ⟨hfc, hfs⟩ (j_M_ofItem hro ev67) rfl ?_
                                        refine kJ_icmp_eq 695 1072 d_L_law_692 rfl rfl (fun hc => ?_) (fun hc => ?_)
                                        · have hf := kIf_t hf hc
                                          refine kJ_iinc 1075 3 [(3, .int (x3 + 4)), (0, .retAddr 2), (1, .ref 0), (2, .ref 786)] d_L_law_1072 rfl ki_4 (Nat.le_of_ble_eq_true rfl) rfl rfl ?_
                                          refine kJ_goto 18 d_L_law_1075 rfl ?_
                                          refine kJ_sub [1, 2, 3, 0] rfl ?_
                                          exact hrec18 h66 (x3 + 4) hf
                                        · have hf := kIf_f hf hc
                                          refine kJ_iconst 696 0 d_L_law_695 ki_0 rfl ?_
                                          cases hf
                                          exact kJ_iret d_L_law_696 rfl (kB2_z _) hfc hfs
                                      · have hf := kIf_f hf c16
                                        by_cases c17 : v1 = 17
                                        · have hf := kIf_t hf c17
                                          refine kJ_tabIn 697 d_L_law_32 (by rw [c17]; try decide) (by rw [c17]; try decide) (by rw [c17]; try rfl) rfl ?_
                                          refine kJ_aload_n 698 1 d_L_law_697 rfl rfl rfl rfl ?_
                                          refine kJ_aload_n 699 0 d_L_law_698 rfl rfl rfl rfl ?_
                                          refine kJ_iload_n 700 3 d_L_law_699 rfl rfl rfl ?_
                                          refine kJ_iconst 701 1 d_L_law_700 ki_1 rfl ?_
                                          refine kJ_iadd 702 d_L_law_701 rfl ?_
                                          obtain ⟨hg, hf⟩ := kG_some hf
                                          refine kM_scr 703 hro d_L_law_702 hg rfl ?_
                                          refine kJ_aload_n 704 0 d_L_law_703 rfl rfl rfl rfl ?_
                                          refine kJ_iload_n 705 3 d_L_law_704 rfl rfl rfl ?_
                                          refine kJ_iconst 706 2 d_L_law_705 ki_2 rfl ?_
                                          refine kJ_iadd 707 d_L_law_706 rfl ?_
                                          obtain ⟨hg, hf⟩ := kG_some hf
                                          refine kM_scr 708 hro d_L_law_707 hg rfl ?_
                                          refine kJ_aload_n 709 0 d_L_law_708 rfl rfl rfl rfl ?_
                                          refine kJ_iload_n 710 3 d_L_law_709 rfl rfl rfl ?_
                                          refine kJ_iconst 711 3 d_L_law_710 ki_3 rfl ?_
                                          refine kJ_iadd 712 d_L_law_711 rfl ?_
                                          obtain ⟨hg, hf⟩ := kG_some hf
                                          refine kM_scr 713 hro d_L_law_712 hg rfl ?_
                                          obtain ⟨v69, h68, ev69, hf⟩ := kBd_some hf
                                          refine kM_callv 716 m_P_at [.int (xs (kx (x3 + 1))), .int (xs (kx (x3 + 2))), .int (xs (kx (x3 + 3)))] [] d_L_law_713 cl_L_85 ⟨w_656, w_657⟩ kp_0 ⟨rfl, by decide⟩ ⟨_, _, rfl⟩ rfl rfl (Nat.le_of_ble_eq_true rfl) ⟨Nat.le_of_ble_eq_true rfl, Nat.le_of_ble_eq_true rfl⟩ ⟨rfl, rfl⟩ ⟨hfc, hfs⟩ (j_P_at hro ev69) rfl ?_
                                          refine kJ_aload_n 717 2 d_L_law_716 rfl rfl rfl rfl ?_
                                          refine kJ_aload_n 718 0 d_L_law_717 rfl rfl rfl rfl ?_
                                          refine kJ_iload_n 719 3 d_L_law_718 rfl rfl rfl ?_
                                          refine kJ_iconst 720 1 d_L_law_719 ki_1 rfl ?_
                                          refine kJ_iadd 721 d_L_law_720 rfl ?_
                                          obtain ⟨hg, hf⟩ := kG_some hf
                                          refine kM_scr 722 hro d_L_law_721 hg rfl ?_
                                          refine kJ_aload_n 723 0 d_L_law_722 rfl rfl rfl rfl ?_
                                          refine kJ_iload_n 724 3 d_L_law_723 rfl rfl rfl ?_
                                          refine kJ_iconst 725 2 d_L_law_724 ki_2 rfl ?_
                                          refine kJ_iadd 726 d_L_law_725 rfl ?_
                                          obtain ⟨hg, hf⟩ := kG_some hf
                                          refine kM_scr 727 hro d_L_law_726 hg rfl ?_
                                          refine kJ_aload_n 728 0 d_L_law_727 rfl rfl rfl rfl ?_
                                          refine kJ_iload_n 729 3 d_L_law_728 rfl rfl rfl ?_
                                          refine kJ_iconst 730 3 d_L_law_729 ki_3 rfl ?_
                                          refine kJ_iadd 731 d_L_law_730 rfl ?_
                                          obtain ⟨hg, hf⟩ := kG_some hf
                                          refine kM_scr 732 hro d_L_law_731 hg rfl ?_
                                          obtain ⟨v71, h70, ev71, hf⟩ := kBd_some hf
                                          refine kM_callv 735 m_M_at [.int (xs (kx (x3 + 1))), .int (xs (kx (x3 + 2))), .int (xs (kx (x3 + 3)))] [.int v69] d_L_law_732 cl_L_88 ⟨w_1038, w_1039⟩ km_786 ⟨rfl, by decide⟩ ⟨_, _, rfl⟩ rfl rfl (Nat.le_of_ble_eq_true rfl) ⟨Nat.le_of_ble_eq_true rfl, Nat.le_of_ble_eq_true rfl⟩ ⟨rfl, rfl⟩ ⟨hfc, hfs⟩ (j_M_at hro ev71) rfl ?_
                                          refine kJ_icmp_eq 738 1072 d_L_law_735 rfl rfl (fun hc => ?_) (fun hc => ?_)
                                          · have hf := kIf_t hf hc
                                            refine kJ_iinc 1075 3 [(3, .int (x3 + 4)), (0, .retAddr 2), (1, .ref 0), (2, .ref 786)] d_L_law_1072 rfl ki_4 (Nat.le_of_ble_eq_true rfl) rfl rfl ?_
                                            refine kJ_goto 18 d_L_law_1075 rfl ?_
                                            refine kJ_sub [1, 2, 3, 0] rfl ?_
                                            exact hrec18 h70 (x3 + 4) hf
                                          · have hf := kIf_f hf hc
                                            refine kJ_iconst 739 0 d_L_law_738 ki_0 rfl ?_
                                            cases hf
                                            exact kJ_iret d_L_law_739 rfl (kB2_z _) hfc hfs
                                        · have hf := kIf_f hf c17
                                          by_cases c18 : v1 = 18
                                          · have hf := kIf_t hf c18
                                            refine kJ_tabIn 740 d_L_law_32 (by rw [c18]; try decide) (by rw [c18]; try decide) (by rw [c18]; try rfl) rfl ?_
                                            refine kJ_aload_n 741 1 d_L_law_740 rfl rfl rfl rfl ?_
                                            refine kJ_aload_n 742 0 d_L_law_741 rfl rfl rfl rfl ?_
                                            refine kJ_iload_n 743 3 d_L_law_742 rfl rfl rfl ?_
                                            refine kJ_iconst 744 1 d_L_law_743 ki_1 rfl ?_
                                            refine kJ_iadd 745 d_L_law_744 rfl ?_
                                            obtain ⟨hg, hf⟩ := kG_some hf
                                            refine kM_scr 746 hro d_L_law_745 hg rfl ?_
                                            obtain ⟨v72, ev72, hf⟩ := kBi_some hf
                                            refine kM_callv 749 m_P_count [.int (xs (kx (x3 + 1)))] [] d_L_law_746 cl_L_89 ⟨w_666, w_667⟩ kp_0 ⟨rfl, by decide⟩ ⟨_, _, rfl⟩ rfl rfl (Nat.le_of_ble_eq_true rfl) ⟨Nat.le_of_ble_eq_true rfl, Nat.le_of_ble_eq_true rfl⟩ ⟨rfl, rfl⟩ ⟨hfc, hfs⟩ (j_P_count hro ev72) rfl ?_
                                            refine kJ_aload_n 750 2 d_L_law_749 rfl rfl rfl rfl ?_
                                            refine kJ_aload_n 751 0 d_L_law_750 rfl rfl rfl rfl ?_
                                            refine kJ_iload_n 752 3 d_L_law_751 rfl rfl rfl ?_
                                            refine kJ_iconst 753 1 d_L_law_752 ki_1 rfl ?_
                                            refine kJ_iadd 754 d_L_law_753 rfl ?_
                                            obtain ⟨hg, hf⟩ := kG_some hf
                                            refine kM_scr 755 hro d_L_law_754 hg rfl ?_
                                            obtain ⟨v73, ev73, hf⟩ := kBi_some hf
                                            refine kM_callv 758 m_M_count [.int (xs (kx (x3 + 1)))] [.int v72] d_L_law_755 cl_L_92 ⟨w_1042, w_1043⟩ km_786 ⟨rfl, by decide⟩ ⟨_, _, rfl⟩ rfl rfl (Nat.le_of_ble_eq_true rfl) ⟨Nat.le_of_ble_eq_true rfl, Nat.le_of_ble_eq_true rfl⟩ ⟨rfl, rfl⟩ ⟨hfc, hfs⟩ (j_M_count hro ev73) rfl ?_
                                            refine kJ_icmp_eq 761 1072 d_L_law_758 rfl rfl (fun hc => ?_) (fun hc => ?_)
                                            · have hf := kIf_t hf hc
                                              refine kJ_iinc 1075 3 [(3, .int (x3 + 4)), (0, .retAddr 2), (1, .ref 0), (2, .ref 786)] d_L_law_1072 rfl ki_4 (Nat.le_of_ble_eq_true rfl) rfl rfl ?_
                                              refine kJ_goto 18 d_L_law_1075 rfl ?_
                                              refine kJ_sub [1, 2, 3, 0] rfl ?_
                                              exact hrec18 h (x3 + 4) hf
                                            · have hf := kIf_f hf hc
                                              refine kJ_iconst 762 0 d_L_law_761 ki_0 rfl ?_
                                              cases hf
                                              exact kJ_iret d_L_law_762 rfl (kB2_z _) hfc hfs
                                          · have hf := kIf_f hf c18
                                            by_cases c19 : v1 = 19
                                            · have hf := kIf_t hf c19
                                              refine kJ_tabIn 763 d_L_law_32 (by rw [c19]; try decide) (by rw [c19]; try decide) (by rw [c19]; try rfl) rfl ?_
                                              refine kJ_aload_n 764 1 d_L_law_763 rfl rfl rfl rfl ?_
                                              refine kJ_aload_n 765 0 d_L_law_764 rfl rfl rfl rfl ?_
                                              refine kJ_iload_n 766 3 d_L_law_765 rfl rfl rfl ?_
                                              refine kJ_iconst 767 1 d_L_law_766 ki_1 rfl ?_
                                              refine kJ_iadd 768 d_L_law_767 rfl ?_
                                              obtain ⟨hg, hf⟩ := kG_some hf
                                              refine kM_scr 769 hro d_L_law_768 hg rfl ?_
                                              obtain ⟨v75, h74, ev75, hf⟩ := kBd_some hf
                                              refine kM_callv 772 m_P_wouldBe [.int (xs (kx (x3 + 1)))] [] d_L_law_769 cl_L_93 ⟨w_677, w_678⟩ kp_0 ⟨rfl, by decide⟩ ⟨_, _, rfl⟩ rfl rfl (Nat.le_of_ble_eq_true rfl) ⟨Nat.le_of_ble_eq_true rfl, Nat.le_of_ble_eq_true rfl⟩ ⟨rfl, rfl⟩ ⟨hfc, hfs⟩ (j_P_wouldBe hro ev75) rfl ?_
                                              refine kJ_aload_n 773 2 d_L_law_772 rfl rfl rfl rfl ?_
                                              refine kJ_aload_n 774 0 d_L_law_773 rfl rfl rfl rfl ?_
                                              refine kJ_iload_n 775 3 d_L_law_774 rfl rfl rfl ?_
                                              refine kJ_iconst 776 1 d_L_law_775 ki_1 rfl ?_
                                              refine kJ_iadd 777 d_L_law_776 rfl ?_
                                              obtain ⟨hg, hf⟩ := kG_some hf
                                              refine kM_scr 778 hro d_L_law_777 hg rfl ?_
                                              obtain ⟨v77, h76, ev77, hf⟩ := kBd_some hf
                                              refine kM_callv 781 m_M_wouldBe [.int (xs (kx (x3 + 1)))] [.int v75] d_L_law_778 cl_L_96 ⟨w_1050, w_1051⟩ km_786 ⟨rfl, by decide⟩ ⟨_, _, rfl⟩ rfl rfl (Nat.le_of_ble_eq_true rfl) ⟨Nat.le_of_ble_eq_true rfl, Nat.le_of_ble_eq_true rfl⟩ ⟨rfl, rfl⟩ ⟨hfc, hfs⟩ (j_M_wouldBe hro ev77) rfl ?_
                                              refine kJ_icmp_eq 784 1072 d_L_law_781 rfl rfl (fun hc => ?_) (fun hc => ?_)
                                              · have hf := kIf_t hf hc
                                                refine kJ_iinc 1075 3 [(3, .int (x3 + 4)), (0, .retAddr 2), (1, .ref 0), (2, .ref 786)] d_L_law_1072 rfl ki_4 (Nat.le_of_ble_eq_true rfl) rfl rfl ?_
                                                refine kJ_goto 18 d_L_law_1075 rfl ?_
                                                refine kJ_sub [1, 2, 3, 0] rfl ?_
                                                exact hrec18 h76 (x3 + 4) hf
                                              · have hf := kIf_f hf hc
                                                refine kJ_iconst 785 0 d_L_law_784 ki_0 rfl ?_
                                                cases hf
                                                exact kJ_iret d_L_law_785 rfl (kB2_z _) hfc hfs
                                            · have hf := kIf_f hf c19
                                              by_cases c20 : v1 = 20
                                              · have hf := kIf_t hf c20
                                                refine kJ_tabIn 786 d_L_law_32 (by rw [c20]; try decide) (by rw [c20]; try decide) (by rw [c20]; try rfl) rfl ?_
                                                refine kJ_aload_n 787 1 d_L_law_786 rfl rfl rfl rfl ?_
                                                refine kJ_aload_n 788 0 d_L_law_787 rfl rfl rfl rfl ?_
                                                refine kJ_iload_n 789 3 d_L_law_788 rfl rfl rfl ?_
                                                refine kJ_iconst 790 1 d_L_law_789 ki_1 rfl ?_
                                                refine kJ_iadd 791 d_L_law_790 rfl ?_
                                                obtain ⟨hg, hf⟩ := kG_some hf
                                                refine kM_scr 792 hro d_L_law_791 hg rfl ?_
                                                obtain ⟨v79, h78, ev79, hf⟩ := kBd_some hf
                                                refine kM_callv 795 m_P_decisive [.int (xs (kx (x3 + 1)))] [] d_L_law_792 cl_L_97 ⟨w_682, w_683⟩ kp_0 ⟨rfl, by decide⟩ ⟨_, _, rfl⟩ rfl rfl (Nat.le_of_ble_eq_true rfl) ⟨Nat.le_of_ble_eq_true rfl, Nat.le_of_ble_eq_true rfl⟩ ⟨rfl, rfl⟩ ⟨hfc, hfs⟩ (j_P_decisive hro ev79) rfl ?_
                                                refine kJ_aload_n 796 2 d_L_law_795 rfl rfl rfl rfl ?_
                                                refine kJ_aload_n 797 0 d_L_law_796 rfl rfl rfl rfl ?_
                                                refine kJ_iload_n 798 3 d_L_law_797 rfl rfl rfl ?_
                                                refine kJ_iconst 799 1 d_L_law_798 ki_1 rfl ?_
                                                refine kJ_iadd 800 d_L_law_799 rfl ?_
                                                obtain ⟨hg, hf⟩ := kG_some hf
                                                refine kM_scr 801 hro d_L_law_800 hg rfl ?_
                                                obtain ⟨v81, h80, ev81, hf⟩ := kBd_some hf
                                                refine kM_callv 804 m_M_decisive [.int (xs (kx (x3 + 1)))] [.int v79] d_L_law_801 cl_L_100 ⟨w_1054, w_1055⟩ km_786 ⟨rfl, by decide⟩ ⟨_, _, rfl⟩ rfl rfl (Nat.le_of_ble_eq_true rfl) ⟨Nat.le_of_ble_eq_true rfl, Nat.le_of_ble_eq_true rfl⟩ ⟨rfl, rfl⟩ ⟨hfc, hfs⟩ (j_M_decisive hro ev81) rfl ?_
                                                refine kJ_icmp_eq 807 1072 d_L_law_804 rfl rfl (fun hc => ?_) (fun hc => ?_)
                                                · have hf := kIf_t hf hc
                                                  refine kJ_iinc 1075 3 [(3, .int (x3 + 4)), (0, .retAddr 2), (1, .ref 0), (2, .ref 786)] d_L_law_1072 rfl ki_4 (Nat.le_of_ble_eq_true rfl) rfl rfl ?_
                                                  refine kJ_goto 18 d_L_law_1075 rfl ?_
                                                  refine kJ_sub [1, 2, 3, 0] rfl ?_
                                                  exact hrec18 h80 (x3 + 4) hf
                                                · have hf := kIf_f hf hc
                                                  refine kJ_iconst 808 0 d_L_law_807 ki_0 rfl ?_
                                                  cases hf
                                                  exact kJ_iret d_L_law_808 rfl (kB2_z _) hfc hfs
                                              · have hf := kIf_f hf c20
                                                by_cases c21 : v1 = 21
                                                · have hf := kIf_t hf c21
                                                  refine kJ_tabIn 809 d_L_law_32 (by rw [c21]; try decide) (by rw [c21]; try decide) (by rw [c21]; try rfl) rfl ?_
                                                  refine kJ_aload_n 810 1 d_L_law_809 rfl rfl rfl rfl ?_
                                                  refine kJ_aload_n 811 0 d_L_law_810 rfl rfl rfl rfl ?_
                                                  refine kJ_iload_n 812 3 d_L_law_811 rfl rfl rfl ?_
                                                  refine kJ_iconst 813 1 d_L_law_812 ki_1 rfl ?_
                                                  refine kJ_iadd 814 d_L_law_813 rfl ?_
                                                  obtain ⟨hg, hf⟩ := kG_some hf
                                                  refine kM_scr 815 hro d_L_law_814 hg rfl ?_
                                                  refine kJ_aload_n 816 0 d_L_law_815 rfl rfl rfl rfl ?_
                                                  refine kJ_iload_n 817 3 d_L_law_816 rfl rfl rfl ?_
                                                  refine kJ_iconst 818 2 d_L_law_817 ki_2 rfl ?_
                                                  refine kJ_iadd 819 d_L_law_818 rfl ?_
                                                  obtain ⟨hg, hf⟩ := kG_some hf
                                                  refine kM_scr 820 hro d_L_law_819 hg rfl ?_
                                                  obtain ⟨v83, h82, ev83, hf⟩ := kBd_some hf
                                                  refine kM_callv 823 m_P_needed [.int (xs (kx (x3 + 1))), .int (xs (kx (x3 + 2)))] [] d_L_law_820 cl_L_101 ⟨w_692, w_693⟩ kp_0 ⟨rfl, by decide⟩ ⟨_, _, rfl⟩ rfl rfl (Nat.le_of_ble_eq_true rfl) ⟨Nat.le_of_ble_eq_true rfl, Nat.le_of_ble_eq_true rfl⟩ ⟨rfl, rfl⟩ ⟨hfc, hfs⟩ (j_P_needed hro ev83) rfl ?_
                                                  refine kJ_aload_n 824 2 d_L_law_823 rfl rfl rfl rfl ?_
                                                  refine kJ_aload_n 825 0 d_L_law_824 rfl rfl rfl rfl ?_
                                                  refine kJ_iload_n 826 3 d_L_law_825 rfl rfl rfl ?_
                                                  refine kJ_iconst 827 1 d_L_law_826 ki_1 rfl ?_
                                                  refine kJ_iadd 828 d_L_law_827 rfl ?_
                                                  obtain ⟨hg, hf⟩ := kG_some hf
                                                  refine kM_scr 829 hro d_L_law_828 hg rfl ?_
                                                  refine kJ_aload_n 830 0 d_L_law_829 rfl rfl rfl rfl ?_
                                                  refine kJ_iload_n 831 3 d_L_law_830 rfl rfl rfl ?_
                                                  refine kJ_iconst 832 2 d_L_law_831 ki_2 rfl ?_
                                                  refine kJ_iadd 833 d_L_law_832 rfl ?_
                                                  obtain ⟨hg, hf⟩ := kG_some hf
                                                  refine kM_scr 834 hro d_L_law_833 hg rfl ?_
                                                  obtain ⟨v85, h84, ev85, hf⟩ := kBd_some hf
                                                  refine kM_callv 837 m_M_needed [.int (xs (kx (x3 + 1))), .int (xs (kx (x3 + 2)))] [.int v83] d_L_law_834 cl_L_104 ⟨w_1062, w_1063⟩ km_786 ⟨rfl, by decide⟩ ⟨_, _, rfl⟩ rfl rfl (Nat.le_of_ble_eq_true rfl) ⟨Nat.le_of_ble_eq_true rfl, Nat.le_of_ble_eq_true rfl⟩ ⟨rfl, rfl⟩ ⟨hfc, hfs⟩ (j_M_needed hro ev85) rfl ?_
                                                  refine kJ_icmp_eq 840 1072 d_L_law_837 rfl rfl (fun hc => ?_) (fun hc => ?_)
                                                  · have hf := kIf_t hf hc
                                                    refine kJ_iinc 1075 3 [(3, .int (x3 + 4)), (0, .retAddr 2), (1, .ref 0), (2, .ref 786)] d_L_law_1072 rfl ki_4 (Nat.le_of_ble_eq_true rfl) rfl rfl ?_
                                                    refine kJ_goto 18 d_L_law_1075 rfl ?_
                                                    refine kJ_sub [1, 2, 3, 0] rfl ?_
                                                    exact hrec18 h84 (x3 + 4) hf
                                                  · have hf := kIf_f hf hc
                                                    refine kJ_iconst 841 0 d_L_law_840 ki_0 rfl ?_
                                                    cases hf
                                                    exact kJ_iret d_L_law_841 rfl (kB2_z _) hfc hfs
                                                · have hf := kIf_f hf c21
                                                  by_cases c22 : v1 = 22
                                                  · have hf := kIf_t hf c22
                                                    refine kJ_tabIn 842 d_L_law_32 (by rw [c22]; try decide) (by rw [c22]; try decide) (by rw [c22]; try rfl) rfl ?_
                                                    refine kJ_aload_n 843 1 d_L_law_842 rfl rfl rfl rfl ?_
                                                    refine kJ_aload_n 844 0 d_L_law_843 rfl rfl rfl rfl ?_
                                                    refine kJ_iload_n 845 3 d_L_law_844 rfl rfl rfl ?_
                                                    refine kJ_iconst 846 1 d_L_law_845 ki_1 rfl ?_
                                                    refine kJ_iadd 847 d_L_law_846 rfl ?_
                                                    obtain ⟨hg, hf⟩ := kG_some hf
                                                    refine kM_scr 848 hro d_L_law_847 hg rfl ?_
                                                    obtain ⟨v87, h86, ev87, hf⟩ := kBd_some hf
                                                    refine kM_callv 851 m_P_power [.int (xs (kx (x3 + 1)))] [] d_L_law_848 cl_L_105 ⟨w_709, w_710⟩ kp_0 ⟨rfl, by decide⟩ ⟨_, _, rfl⟩ rfl rfl (Nat.le_of_ble_eq_true rfl) ⟨Nat.le_of_ble_eq_true rfl, Nat.le_of_ble_eq_true rfl⟩ ⟨rfl, rfl⟩ ⟨hfc, hfs⟩ (j_P_power hro ev87) rfl ?_
                                                    refine kJ_aload_n 852 2 d_L_law_851 rfl rfl rfl rfl ?_
                                                    refine kJ_aload_n 853 0 d_L_law_852 rfl rfl rfl rfl ?_
                                                    refine kJ_iload_n 854 3 d_L_law_853 rfl rfl rfl ?_
                                                    refine kJ_iconst 855 1 d_L_law_854 ki_1 rfl ?_
                                                    refine kJ_iadd 856 d_L_law_855 rfl ?_
                                                    obtain ⟨hg, hf⟩ := kG_some hf
                                                    refine kM_scr 857 hro d_L_law_856 hg rfl ?_
                                                    obtain ⟨v88, ev88, hf⟩ := kBi_some hf
                                                    refine kM_callv 860 m_M_power [.int (xs (kx (x3 + 1)))] [.int v87] d_L_law_857 cl_L_108 ⟨w_1070, w_1071⟩ km_786 ⟨rfl, by decide⟩ ⟨_, _, rfl⟩ rfl rfl (Nat.le_of_ble_eq_true rfl) ⟨Nat.le_of_ble_eq_true rfl, Nat.le_of_ble_eq_true rfl⟩ ⟨rfl, rfl⟩ ⟨hfc, hfs⟩ (j_M_power hro ev88) rfl ?_
                                                    refine kJ_icmp_eq 863 1072 d_L_law_860 rfl rfl (fun hc => ?_) (fun hc => ?_)
                                                    · have hf := kIf_t hf hc
                                                      refine kJ_iinc 1075 3 [(3, .int (x3 + 4)), (0, .retAddr 2), (1, .ref 0), (2, .ref 786)] d_L_law_1072 rfl ki_4 (Nat.le_of_ble_eq_true rfl) rfl rfl ?_
                                                      refine kJ_goto 18 d_L_law_1075 rfl ?_
                                                      refine kJ_sub [1, 2, 3, 0] rfl ?_
                                                      exact hrec18 h86 (x3 + 4) hf
                                                    · have hf := kIf_f hf hc
                                                      refine kJ_iconst 864 0 d_L_law_863 ki_0 rfl ?_
                                                      cases hf
                                                      exact kJ_iret d_L_law_864 rfl (kB2_z _) hfc hfs
                                                  · have hf := kIf_f hf c22
                                                    by_cases c23 : v1 = 23
                                                    · have hf := kIf_t hf c23
                                                      refine kJ_tabIn 865 d_L_law_32 (by rw [c23]; try decide) (by rw [c23]; try decide) (by rw [c23]; try rfl) rfl ?_
                                                      refine kJ_aload_n 866 1 d_L_law_865 rfl rfl rfl rfl ?_
                                                      refine kJ_aload_n 867 0 d_L_law_866 rfl rfl rfl rfl ?_
                                                      refine kJ_iload_n 868 3 d_L_law_867 rfl rfl rfl ?_
                                                      refine kJ_iconst 869 1 d_L_law_868 ki_1 rfl ?_
                                                      refine kJ_iadd 870 d_L_law_869 rfl ?_
                                                      obtain ⟨hg, hf⟩ := kG_some hf
                                                      refine kM_scr 871 hro d_L_law_870 hg rfl ?_
                                                      obtain ⟨v90, h89, ev90, hf⟩ := kBd_some hf
                                                      refine kM_callv 874 m_P_quorumAt [.int (xs (kx (x3 + 1)))] [] d_L_law_871 cl_L_109 ⟨w_718, w_719⟩ kp_0 ⟨rfl, by decide⟩ ⟨_, _, rfl⟩ rfl rfl (Nat.le_of_ble_eq_true rfl) ⟨Nat.le_of_ble_eq_true rfl, Nat.le_of_ble_eq_true rfl⟩ ⟨rfl, rfl⟩ ⟨hfc, hfs⟩ (j_P_quorumAt hro ev90) rfl ?_
                                                      refine kJ_aload_n 875 2 d_L_law_874 rfl rfl rfl rfl ?_
                                                      refine kJ_aload_n 876 0 d_L_law_875 rfl rfl rfl rfl ?_
                                                      refine kJ_iload_n 877 3 d_L_law_876 rfl rfl rfl ?_
                                                      refine kJ_iconst 878 1 d_L_law_877 ki_1 rfl ?_
                                                      refine kJ_iadd 879 d_L_law_878 rfl ?_
                                                      obtain ⟨hg, hf⟩ := kG_some hf
                                                      refine kM_scr 880 hro d_L_law_879 hg rfl ?_
                                                      obtain ⟨v92, h91, ev92, hf⟩ := kBd_some hf
                                                      refine kM_callv 883 m_M_quorumAt [.int (xs (kx (x3 + 1)))] [.int v90] d_L_law_880 cl_L_112 ⟨w_1074, w_1075⟩ km_786 ⟨rfl, by decide⟩ ⟨_, _, rfl⟩ rfl rfl (Nat.le_of_ble_eq_true rfl) ⟨Nat.le_of_ble_eq_true rfl, Nat.le_of_ble_eq_true rfl⟩ ⟨rfl, rfl⟩ ⟨hfc, hfs⟩ (j_M_quorumAt hro ev92) rfl ?_
                                                      refine kJ_icmp_eq 886 1072 d_L_law_883 rfl rfl (fun hc => ?_) (fun hc => ?_)
                                                      · have hf := kIf_t hf hc
                                                        refine kJ_iinc 1075 3 [(3, .int (x3 + 4)), (0, .retAddr 2), (1, .ref 0), (2, .ref 786)] d_L_law_1072 rfl ki_4 (Nat.le_of_ble_eq_true rfl) rfl rfl ?_
                                                        refine kJ_goto 18 d_L_law_1075 rfl ?_
                                                        refine kJ_sub [1, 2, 3, 0] rfl ?_
                                                        exact hrec18 h91 (x3 + 4) hf
                                                      · have hf := kIf_f hf hc
                                                        refine kJ_iconst 887 0 d_L_law_886 ki_0 rfl ?_
                                                        cases hf
                                                        exact kJ_iret d_L_law_887 rfl (kB2_z _) hfc hfs
                                                    · have hf := kIf_f hf c23
                                                      by_cases c24 : v1 = 24
                                                      · have hf := kIf_t hf c24
                                                        refine kJ_tabIn 888 d_L_law_32 (by rw [c24]; try decide) (by rw [c24]; try decide) (by rw [c24]; try rfl) rfl ?_
                                                        refine kJ_aload_n 889 1 d_L_law_888 rfl rfl rfl rfl ?_
                                                        refine kJ_aload_n 890 0 d_L_law_889 rfl rfl rfl rfl ?_
                                                        refine kJ_iload_n 891 3 d_L_law_890 rfl rfl rfl ?_
                                                        refine kJ_iconst 892 1 d_L_law_891 ki_1 rfl ?_
                                                        refine kJ_iadd 893 d_L_law_892 rfl ?_
                                                        obtain ⟨hg, hf⟩ := kG_some hf
                                                        refine kM_scr 894 hro d_L_law_893 hg rfl ?_
                                                        refine kJ_aload_n 895 0 d_L_law_894 rfl rfl rfl rfl ?_
                                                        refine kJ_iload_n 896 3 d_L_law_895 rfl rfl rfl ?_
                                                        refine kJ_iconst 897 2 d_L_law_896 ki_2 rfl ?_
                                                        refine kJ_iadd 898 d_L_law_897 rfl ?_
                                                        obtain ⟨hg, hf⟩ := kG_some hf
                                                        refine kM_scr 899 hro d_L_law_898 hg rfl ?_
                                                        obtain ⟨v94, h93, ev94, hf⟩ := kBd_some hf
                                                        refine kM_callv 902 m_P_bestHolder [.int (xs (kx (x3 + 1))), .int (xs (kx (x3 + 2)))] [] d_L_law_899 cl_L_113 ⟨w_728, w_729⟩ kp_0 ⟨rfl, by decide⟩ ⟨_, _, rfl⟩ rfl rfl (Nat.le_of_ble_eq_true rfl) ⟨Nat.le_of_ble_eq_true rfl, Nat.le_of_ble_eq_true rfl⟩ ⟨rfl, rfl⟩ ⟨hfc, hfs⟩ (j_P_bestHolder hro ev94) rfl ?_
                                                        refine kJ_aload_n 903 2 d_L_law_902 rfl rfl rfl rfl ?_
                                                        refine kJ_aload_n 904 0 d_L_law_903 rfl rfl rfl rfl ?_
                                                        refine kJ_iload_n 905 3 d_L_law_904 rfl rfl rfl ?_
                                                        refine kJ_iconst 906 1 d_L_law_905 ki_1 rfl ?_
                                                        refine kJ_iadd 907 d_L_law_906 rfl ?_
                                                        obtain ⟨hg, hf⟩ := kG_some hf
                                                        refine kM_scr 908 hro d_L_law_907 hg rfl ?_
                                                        refine kJ_aload_n 909 0 d_L_law_908 rfl rfl rfl rfl ?_
                                                        refine kJ_iload_n 910 3 d_L_law_909 rfl rfl rfl ?_
                                                        refine kJ_iconst 911 2 d_L_law_910 ki_2 rfl ?_
                                                        refine kJ_iadd 912 d_L_law_911 rfl ?_
                                                        obtain ⟨hg, hf⟩ := kG_some hf
                                                        refine kM_scr 913 hro d_L_law_912 hg rfl ?_
                                                        obtain ⟨v96, h95, ev96, hf⟩ := kBd_some hf
                                                        refine kM_callv 916 m_M_bestHolder [.int (xs (kx (x3 + 1))), .int (xs (kx (x3 + 2)))] [.int v94] d_L_law_913 cl_L_116 ⟨w_1086, w_1087⟩ km_786 ⟨rfl, by decide⟩ ⟨_, _, rfl⟩ rfl rfl (Nat.le_of_ble_eq_true rfl) ⟨Nat.le_of_ble_eq_true rfl, Nat.le_of_ble_eq_true rfl⟩ ⟨rfl, rfl⟩ ⟨hfc, hfs⟩ (j_M_bestHolder hro ev96) rfl ?_
                                                        refine kJ_icmp_eq 919 1072 d_L_law_916 rfl rfl (fun hc => ?_) (fun hc => ?_)
                                                        · have hf := kIf_t hf hc
                                                          refine kJ_iinc 1075 3 [(3, .int (x3 + 4)), (0, .retAddr 2), (1, .ref 0), (2, .ref 786)] d_L_law_1072 rfl ki_4 (Nat.le_of_ble_eq_true rfl) rfl rfl ?_
                                                          refine kJ_goto 18 d_L_law_1075 rfl ?_
                                                          refine kJ_sub [1, 2, 3, 0] rfl ?_
                                                          exact hrec18 h95 (x3 + 4) hf
                                                        · have hf := kIf_f hf hc
                                                          refine kJ_iconst 920 0 d_L_law_919 ki_0 rfl ?_
                                                          cases hf
                                                          exact kJ_iret d_L_law_920 rfl (kB2_z _) hfc hfs
                                                      · have hf := kIf_f hf c24
                                                        by_cases c25 : v1 = 25
                                                        · have hf := kIf_t hf c25
                                                          refine kJ_tabIn 921 d_L_law_32 (by rw [c25]; try decide) (by rw [c25]; try decide) (by rw [c25]; try rfl) rfl ?_
                                                          refine kJ_aload_n 922 1 d_L_law_921 rfl rfl rfl rfl ?_
                                                          refine kJ_aload_n 923 0 d_L_law_922 rfl rfl rfl rfl ?_
                                                          refine kJ_iload_n 924 3 d_L_law_923 rfl rfl rfl ?_
                                                          refine kJ_iconst 925 1 d_L_law_924 ki_1 rfl ?_
                                                          refine kJ_iadd 926 d_L_law_925 rfl ?_
                                                          obtain ⟨hg, hf⟩ := kG_some hf
                                                          refine kM_scr 927 hro d_L_law_926 hg rfl ?_
                                                          refine kJ_i2l 928 d_L_law_927 rfl ?_
                                                          refine kJ_bipush 930 32 d_L_law_928 kb_32 rfl ?_
                                                          refine kJ_lshl 931 d_L_law_930 rfl ?_
                                                          refine kJ_aload_n 932 0 d_L_law_931 rfl rfl rfl rfl ?_
                                                          refine kJ_iload_n 933 3 d_L_law_932 rfl rfl rfl ?_
                                                          refine kJ_iconst 934 2 d_L_law_933 ki_2 rfl ?_
                                                          refine kJ_iadd 935 d_L_law_934 rfl ?_
                                                          obtain ⟨hg, hf⟩ := kG_some hf
                                                          refine kM_scr 936 hro d_L_law_935 hg rfl ?_
                                                          refine kJ_i2l 937 d_L_law_936 rfl ?_
                                                          refine kJ_ldc2 940 4294967295 d_L_law_937 w_1149 rfl ?_
                                                          refine kJ_land 941 d_L_law_940 rfl ?_
                                                          refine kJ_lor 942 d_L_law_941 rfl ?_
                                                          obtain ⟨v98, h97, ev98, hf⟩ := kBd_some hf
                                                          refine kM_callv 945 m_P_put [.long (((Int32.toInt64 (xs (kx (x3 + 1)))) <<< (Int32.toInt64 32 &&& 63)) ||| ((Int32.toInt64 (xs (kx (x3 + 2)))) &&& 4294967295))] [] d_L_law_942 cl_L_119 ⟨w_732, w_733⟩ kp_0 ⟨rfl, by decide⟩ ⟨_, _, rfl⟩ rfl rfl (Nat.le_of_ble_eq_true rfl) ⟨Nat.le_of_ble_eq_true rfl, Nat.le_of_ble_eq_true rfl⟩ ⟨rfl, rfl⟩ ⟨hfc, hfs⟩ (j_P_put hro ev98) rfl ?_
                                                          refine kJ_aload_n 946 2 d_L_law_945 rfl rfl rfl rfl ?_
                                                          refine kJ_aload_n 947 0 d_L_law_946 rfl rfl rfl rfl ?_
                                                          refine kJ_iload_n 948 3 d_L_law_947 rfl rfl rfl ?_
                                                          refine kJ_iconst 949 1 d_L_law_948 ki_1 rfl ?_
                                                          refine kJ_iadd 950 d_L_law_949 rfl ?_
                                                          obtain ⟨hg, hf⟩ := kG_some hf
                                                          refine kM_scr 951 hro d_L_law_950 hg rfl ?_
                                                          refine kJ_i2l 952 d_L_law_951 rfl ?_
                                                          refine kJ_bipush 954 32 d_L_law_952 kb_32 rfl ?_
                                                          refine kJ_lshl 955 d_L_law_954 rfl ?_
                                                          refine kJ_aload_n 956 0 d_L_law_955 rfl rfl rfl rfl ?_
                                                          refine kJ_iload_n 957 3 d_L_law_956 rfl rfl rfl ?_
                                                          refine kJ_iconst 958 2 d_L_law_957 ki_2 rfl ?_
                                                          refine kJ_iadd 959 d_L_law_958 rfl ?_
                                                          obtain ⟨hg, hf⟩ := kG_some hf
                                                          refine kM_scr 960 hro d_L_law_959 hg rfl ?_
                                                          refine kJ_i2l 961 d_L_law_960 rfl ?_
                                                          refine kJ_ldc2 964 4294967295 d_L_law_961 w_1149 rfl ?_
                                                          refine kJ_land 965 d_L_law_964 rfl ?_
                                                          refine kJ_lor 966 d_L_law_965 rfl ?_
                                                          obtain ⟨v100, h99, ev100, hf⟩ := kBd_some hf
                                                          refine kM_callv 969 m_M_put [.long (((Int32.toInt64 (xs (kx (x3 + 1)))) <<< (Int32.toInt64 32 &&& 63)) ||| ((Int32.toInt64 (xs (kx (x3 + 2)))) &&& 4294967295))] [.int v98] d_L_law_966 cl_L_123 ⟨w_1090, w_1091⟩ km_786 ⟨rfl, by decide⟩ ⟨_, _, rfl⟩ rfl rfl (Nat.le_of_ble_eq_true rfl) ⟨Nat.le_of_ble_eq_true rfl, Nat.le_of_ble_eq_true rfl⟩ ⟨rfl, rfl⟩ ⟨hfc, hfs⟩ (j_M_put hro ev100) rfl ?_
                                                          refine kJ_icmp_eq 972 1072 d_L_law_969 rfl rfl (fun hc => ?_) (fun hc => ?_)
                                                          · have hf := kIf_t hf hc
                                                            refine kJ_iinc 1075 3 [(3, .int (x3 + 4)), (0, .retAddr 2), (1, .ref 0), (2, .ref 786)] d_L_law_1072 rfl ki_4 (Nat.le_of_ble_eq_true rfl) rfl rfl ?_
                                                            refine kJ_goto 18 d_L_law_1075 rfl ?_
                                                            refine kJ_sub [1, 2, 3, 0] rfl ?_
                                                            exact hrec18 h99 (x3 + 4) hf
                                                          · have hf := kIf_f hf hc
                                                            refine kJ_iconst 973 0 d_L_law_972 ki_0 rfl ?_
                                                            cases hf
                                                            exact kJ_iret d_L_law_973 rfl (kB2_z _) hfc hfs
                                                        · have hf := kIf_f hf c25
                                                          by_cases c26 : v1 = 26
                                                          · have hf := kIf_t hf c26
                                                            refine kJ_tabIn 974 d_L_law_32 (by rw [c26]; try decide) (by rw [c26]; try decide) (by rw [c26]; try rfl) rfl ?_
                                                            refine kJ_aload_n 975 1 d_L_law_974 rfl rfl rfl rfl ?_
                                                            obtain ⟨v102, h101, ev102, hf⟩ := kBd_some hf
                                                            refine kM_callv 978 m_P_wipe [] [] d_L_law_975 cl_L_124 ⟨w_743, w_744⟩ kp_0 ⟨rfl, by decide⟩ ⟨_, _, rfl⟩ rfl rfl (Nat.le_of_ble_eq_true rfl) ⟨Nat.le_of_ble_eq_true rfl, Nat.le_of_ble_eq_true rfl⟩ ⟨rfl, rfl⟩ ⟨hfc, hfs⟩ (j_P_wipe hro ev102) rfl ?_
                                                            refine kJ_aload_n 979 2 d_L_law_978 rfl rfl rfl rfl ?_
                                                            obtain ⟨v104, h103, ev104, hf⟩ := kBd_some hf
                                                            refine kM_callv 982 m_M_wipe [] [.int v102] d_L_law_979 cl_L_127 ⟨w_1095, w_1096⟩ km_786 ⟨rfl, by decide⟩ ⟨_, _, rfl⟩ rfl rfl (Nat.le_of_ble_eq_true rfl) ⟨Nat.le_of_ble_eq_true rfl, Nat.le_of_ble_eq_true rfl⟩ ⟨rfl, rfl⟩ ⟨hfc, hfs⟩ (j_M_wipe hro ev104) rfl ?_
                                                            refine kJ_icmp_eq 985 1072 d_L_law_982 rfl rfl (fun hc => ?_) (fun hc => ?_)
                                                            · have hf := kIf_t hf hc
                                                              refine kJ_iinc 1075 3 [(3, .int (x3 + 4)), (0, .retAddr 2), (1, .ref 0), (2, .ref 786)] d_L_law_1072 rfl ki_4 (Nat.le_of_ble_eq_true rfl) rfl rfl ?_
                                                              refine kJ_goto 18 d_L_law_1075 rfl ?_
                                                              refine kJ_sub [1, 2, 3, 0] rfl ?_
                                                              exact hrec18 h103 (x3 + 4) hf
                                                            · have hf := kIf_f hf hc
                                                              refine kJ_iconst 986 0 d_L_law_985 ki_0 rfl ?_
                                                              cases hf
                                                              exact kJ_iret d_L_law_986 rfl (kB2_z _) hfc hfs
                                                          · have hf := kIf_f hf c26
                                                            by_cases c27 : v1 = 27
                                                            · have hf := kIf_t hf c27
                                                              refine kJ_tabIn 987 d_L_law_32 (by rw [c27]; try decide) (by rw [c27]; try decide) (by rw [c27]; try rfl) rfl ?_
                                                              refine kJ_aload_n 988 1 d_L_law_987 rfl rfl rfl rfl ?_
                                                              obtain ⟨v106, h105, ev106, hf⟩ := kBd_some hf
                                                              refine kM_callv 991 m_P_fault [] [] d_L_law_988 cl_L_128 ⟨w_751, w_752⟩ kp_0 ⟨rfl, by decide⟩ ⟨_, _, rfl⟩ rfl rfl (Nat.le_of_ble_eq_true rfl) ⟨Nat.le_of_ble_eq_true rfl, Nat.le_of_ble_eq_true rfl⟩ ⟨rfl, rfl⟩ ⟨hfc, hfs⟩ (j_P_fault hro ev106) rfl ?_
                                                              refine kJ_aload_n 992 2 d_L_law_991 rfl rfl rfl rfl ?_
                                                              obtain ⟨v108, h107, ev108, hf⟩ := kBd_some hf
                                                              refine kM_callv 995 m_M_fault [] [.int v106] d_L_law_992 cl_L_131 ⟨w_1099, w_1100⟩ km_786 ⟨rfl, by decide⟩ ⟨_, _, rfl⟩ rfl rfl (Nat.le_of_ble_eq_true rfl) ⟨Nat.le_of_ble_eq_true rfl, Nat.le_of_ble_eq_true rfl⟩ ⟨rfl, rfl⟩ ⟨hfc, hfs⟩ (j_M_fault hro ev108) rfl ?_
                                                              refine kJ_icmp_eq 998 1072 d_L_law_995 rfl rfl (fun hc => ?_) (fun hc => ?_)
                                                              · have hf := kIf_t hf hc
                                                                refine kJ_iinc 1075 3 [(3, .int (x3 + 4)), (0, .retAddr 2), (1, .ref 0), (2, .ref 786)] d_L_law_1072 rfl ki_4 (Nat.le_of_ble_eq_true rfl) rfl rfl ?_
                                                                refine kJ_goto 18 d_L_law_1075 rfl ?_
                                                                refine kJ_sub [1, 2, 3, 0] rfl ?_
                                                                exact hrec18 h107 (x3 + 4) hf
                                                              · have hf := kIf_f hf hc
                                                                refine kJ_iconst 999 0 d_L_law_998 ki_0 rfl ?_
                                                                cases hf
                                                                exact kJ_iret d_L_law_999 rfl (kB2_z _) hfc hfs
                                                            · have hf := kIf_f hf c27
                                                              by_cases c28 : v1 = 28
                                                              · have hf := kIf_t hf c28
                                                                refine kJ_tabIn 1000 d_L_law_32 (by rw [c28]; try decide) (by rw [c28]; try decide) (by rw [c28]; try rfl) rfl ?_
                                                                refine kJ_aload_n 1001 1 d_L_law_1000 rfl rfl rfl rfl ?_
                                                                obtain ⟨v110, h109, ev110, hf⟩ := kBd_some hf
                                                                refine kM_callv 1004 m_P_carryOut [] [] d_L_law_1001 cl_L_132 ⟨w_785, w_786⟩ kp_0 ⟨rfl, by decide⟩ ⟨_, _, rfl⟩ rfl rfl (Nat.le_of_ble_eq_true rfl) ⟨Nat.le_of_ble_eq_true rfl, Nat.le_of_ble_eq_true rfl⟩ ⟨rfl, rfl⟩ ⟨hfc, hfs⟩ (j_P_carryOut hro ev110) rfl ?_
                                                                refine kJ_aload_n 1005 2 d_L_law_1004 rfl rfl rfl rfl ?_
                                                                obtain ⟨v112, h111, ev112, hf⟩ := kBd_some hf
                                                                refine kM_callv 1008 m_M_carryOut [] [.int v110] d_L_law_1005 cl_L_135 ⟨w_1123, w_1124⟩ km_786 ⟨rfl, by decide⟩ ⟨_, _, rfl⟩ rfl rfl (Nat.le_of_ble_eq_true rfl) ⟨Nat.le_of_ble_eq_true rfl, Nat.le_of_ble_eq_true rfl⟩ ⟨rfl, rfl⟩ ⟨hfc, hfs⟩ (j_M_carryOut hro ev112) rfl ?_
                                                                refine kJ_icmp_eq 1011 1072 d_L_law_1008 rfl rfl (fun hc => ?_) (fun hc => ?_)
                                                                · have hf := kIf_t hf hc
                                                                  refine kJ_iinc 1075 3 [(3, .int (x3 + 4)), (0, .retAddr 2), (1, .ref 0), (2, .ref 786)] d_L_law_1072 rfl ki_4 (Nat.le_of_ble_eq_true rfl) rfl rfl ?_
                                                                  refine kJ_goto 18 d_L_law_1075 rfl ?_
                                                                  refine kJ_sub [1, 2, 3, 0] rfl ?_
                                                                  exact hrec18 h111 (x3 + 4) hf
                                                                · have hf := kIf_f hf hc
                                                                  refine kJ_iconst 1012 0 d_L_law_1011 ki_0 rfl ?_
                                                                  cases hf
                                                                  exact kJ_iret d_L_law_1012 rfl (kB2_z _) hfc hfs
                                                              · have hf := kIf_f hf c28
                                                                by_cases c29 : v1 = 29
                                                                · have hf := kIf_t hf c29
                                                                  refine kJ_tabIn 1013 d_L_law_32 (by rw [c29]; try decide) (by rw [c29]; try decide) (by rw [c29]; try rfl) rfl ?_
                                                                  refine kJ_aload_n 1014 1 d_L_law_1013 rfl rfl rfl rfl ?_
                                                                  obtain ⟨v114, h113, ev114, hf⟩ := kBd_some hf
                                                                  refine kM_callv 1017 m_P_undo [] [] d_L_law_1014 cl_L_136 ⟨w_794, w_795⟩ kp_0 ⟨rfl, by decide⟩ ⟨_, _, rfl⟩ rfl rfl (Nat.le_of_ble_eq_true rfl) ⟨Nat.le_of_ble_eq_true rfl, Nat.le_of_ble_eq_true rfl⟩ ⟨rfl, rfl⟩ ⟨hfc, hfs⟩ (j_P_undo hro ev114) rfl ?_
                                                                  refine kJ_aload_n 1018 2 d_L_law_1017 rfl rfl rfl rfl ?_
                                                                  obtain ⟨v116, h115, ev116, hf⟩ := kBd_some hf
                                                                  refine kM_callv 1021 m_M_undo [] [.int v114] d_L_law_1018 cl_L_139 ⟨w_1138, w_1139⟩ km_786 ⟨rfl, by decide⟩ ⟨_, _, rfl⟩ rfl rfl (Nat.le_of_ble_eq_true rfl) ⟨Nat.le_of_ble_eq_true rfl, Nat.le_of_ble_eq_true rfl⟩ ⟨rfl, rfl⟩ ⟨hfc, hfs⟩ (j_M_undo hro ev116) rfl ?_
                                                                  refine kJ_icmp_eq 1024 1072 d_L_law_1021 rfl rfl (fun hc => ?_) (fun hc => ?_)
                                                                  · have hf := kIf_t hf hc
                                                                    refine kJ_iinc 1075 3 [(3, .int (x3 + 4)), (0, .retAddr 2), (1, .ref 0), (2, .ref 786)] d_L_law_1072 rfl ki_4 (Nat.le_of_ble_eq_true rfl) rfl rfl ?_
                                                                    refine kJ_goto 18 d_L_law_1075 rfl ?_
                                                                    refine kJ_sub [1, 2, 3, 0] rfl ?_
                                                                    exact hrec18 h115 (x3 + 4) hf
                                                                  · have hf := kIf_f hf hc
                                                                    refine kJ_iconst 1025 0 d_L_law_1024 ki_0 rfl ?_
                                                                    cases hf
                                                                    exact kJ_iret d_L_law_1025 rfl (kB2_z _) hfc hfs
                                                                · have hf := kIf_f hf c29
                                                                  by_cases c30 : v1 = 30
                                                                  · have hf := kIf_t hf c30
                                                                    refine kJ_tabIn 1026 d_L_law_32 (by rw [c30]; try decide) (by rw [c30]; try decide) (by rw [c30]; try rfl) rfl ?_
                                                                    refine kJ_aload_n 1027 1 d_L_law_1026 rfl rfl rfl rfl ?_
                                                                    refine kJ_aload_n 1028 0 d_L_law_1027 rfl rfl rfl rfl ?_
                                                                    refine kJ_iload_n 1029 3 d_L_law_1028 rfl rfl rfl ?_
                                                                    refine kJ_iconst 1030 1 d_L_law_1029 ki_1 rfl ?_
                                                                    refine kJ_iadd 1031 d_L_law_1030 rfl ?_
                                                                    obtain ⟨hg, hf⟩ := kG_some hf
                                                                    refine kM_scr 1032 hro d_L_law_1031 hg rfl ?_
                                                                    obtain ⟨v118, h117, ev118, hf⟩ := kBd_some hf
                                                                    refine kM_callv 1035 m_P_save [.int (xs (kx (x3 + 1)))] [] d_L_law_1032 cl_L_140 ⟨w_802, w_803⟩ kp_0 ⟨rfl, by decide⟩ ⟨_, _, rfl⟩ rfl rfl (Nat.le_of_ble_eq_true rfl) ⟨Nat.le_of_ble_eq_true rfl, Nat.le_of_ble_eq_true rfl⟩ ⟨rfl, rfl⟩ ⟨hfc, hfs⟩ (j_P_save hro ev118) rfl ?_
                                                                    refine kJ_aload_n 1036 2 d_L_law_1035 rfl rfl rfl rfl ?_
                                                                    refine kJ_aload_n 1037 0 d_L_law_1036 rfl rfl rfl rfl ?_
                                                                    refine kJ_iload_n 1038 3 d_L_law_1037 rfl rfl rfl ?_
                                                                    refine kJ_iconst 1039 1 d_L_law_1038 ki_1 rfl ?_
                                                                    refine kJ_iadd 1040 d_L_law_1039 rfl ?_
                                                                    obtain ⟨hg, hf⟩ := kG_some hf
                                                                    refine kM_scr 1041 hro d_L_law_1040 hg rfl ?_
                                                                    obtain ⟨v120, h119, ev120, hf⟩ := kBd_some hf
                                                                    refine kM_callv 1044 m_M_save [.int (xs (kx (x3 + 1)))] [.int v118] d_L_law_1041 cl_L_143 ⟨w_1142, w_1143⟩ km_786 ⟨rfl, by decide⟩ ⟨_, _, rfl⟩ rfl rfl (Nat.le_of_ble_eq_true rfl) ⟨Nat.le_of_ble_eq_true rfl, Nat.le_of_ble_eq_true rfl⟩ ⟨rfl, rfl⟩ ⟨hfc, hfs⟩ (j_M_save hro ev120) rfl ?_
                                                                    refine kJ_icmp_eq 1047 1072 d_L_law_1044 rfl rfl (fun hc => ?_) (fun hc => ?_)
                                                                    · have hf := kIf_t hf hc
                                                                      refine kJ_iinc 1075 3 [(3, .int (x3 + 4)), (0, .retAddr 2), (1, .ref 0), (2, .ref 786)] d_L_law_1072 rfl ki_4 (Nat.le_of_ble_eq_true rfl) rfl rfl ?_
                                                                      refine kJ_goto 18 d_L_law_1075 rfl ?_
                                                                      refine kJ_sub [1, 2, 3, 0] rfl ?_
                                                                      exact hrec18 h119 (x3 + 4) hf
                                                                    · have hf := kIf_f hf hc
                                                                      refine kJ_iconst 1048 0 d_L_law_1047 ki_0 rfl ?_
                                                                      cases hf
                                                                      exact kJ_iret d_L_law_1048 rfl (kB2_z _) hfc hfs
                                                                  · have hf := kIf_f hf c30
                                                                    by_cases c31 : v1 = 31
                                                                    · have hf := kIf_t hf c31
                                                                      refine kJ_tabIn 1049 d_L_law_32 (by rw [c31]; try decide) (by rw [c31]; try decide) (by rw [c31]; try rfl) rfl ?_
                                                                      refine kJ_aload_n 1050 1 d_L_law_1049 rfl rfl rfl rfl ?_
                                                                      refine kJ_aload_n 1051 0 d_L_law_1050 rfl rfl rfl rfl ?_
                                                                      refine kJ_iload_n 1052 3 d_L_law_1051 rfl rfl rfl ?_
                                                                      refine kJ_iconst 1053 1 d_L_law_1052 ki_1 rfl ?_
                                                                      refine kJ_iadd 1054 d_L_law_1053 rfl ?_
                                                                      obtain ⟨hg, hf⟩ := kG_some hf
                                                                      refine kM_scr 1055 hro d_L_law_1054 hg rfl ?_
                                                                      obtain ⟨v122, h121, ev122, hf⟩ := kBd_some hf
                                                                      refine kM_callv 1058 m_P_restore [.int (xs (kx (x3 + 1)))] [] d_L_law_1055 cl_L_144 ⟨w_806, w_807⟩ kp_0 ⟨rfl, by decide⟩ ⟨_, _, rfl⟩ rfl rfl (Nat.le_of_ble_eq_true rfl) ⟨Nat.le_of_ble_eq_true rfl, Nat.le_of_ble_eq_true rfl⟩ ⟨rfl, rfl⟩ ⟨hfc, hfs⟩ (j_P_restore hro ev122) rfl ?_
                                                                      refine kJ_aload_n 1059 2 d_L_law_1058 rfl rfl rfl rfl ?_
                                                                      refine kJ_aload_n 1060 0 d_L_law_1059 rfl rfl rfl rfl ?_
                                                                      refine kJ_iload_n 1061 3 d_L_law_1060 rfl rfl rfl ?_
                                                                      refine kJ_iconst 1062 1 d_L_law_1061 ki_1 rfl ?_
                                                                      refine kJ_iadd 1063 d_L_law_1062 rfl ?_
                                                                      obtain ⟨hg, hf⟩ := kG_some hf
                                                                      refine kM_scr 1064 hro d_L_law_1063 hg rfl ?_
                                                                      obtain ⟨v124, h123, ev124, hf⟩ := kBd_some hf
                                                                      refine kM_callv 1067 m_M_restore [.int (xs (kx (x3 + 1)))] [.int v122] d_L_law_1064 cl_L_147 ⟨w_1146, w_1147⟩ km_786 ⟨rfl, by decide⟩ ⟨_, _, rfl⟩ rfl rfl (Nat.le_of_ble_eq_true rfl) ⟨Nat.le_of_ble_eq_true rfl, Nat.le_of_ble_eq_true rfl⟩ ⟨rfl, rfl⟩ ⟨hfc, hfs⟩ (j_M_restore hro ev124) rfl ?_
                                                                      refine kJ_icmp_eq 1070 1072 d_L_law_1067 rfl rfl (fun hc => ?_) (fun hc => ?_)
                                                                      · have hf := kIf_t hf hc
                                                                        refine kJ_iinc 1075 3 [(3, .int (x3 + 4)), (0, .retAddr 2), (1, .ref 0), (2, .ref 786)] d_L_law_1072 rfl ki_4 (Nat.le_of_ble_eq_true rfl) rfl rfl ?_
                                                                        refine kJ_goto 18 d_L_law_1075 rfl ?_
                                                                        refine kJ_sub [1, 2, 3, 0] rfl ?_
                                                                        exact hrec18 h123 (x3 + 4) hf
                                                                      · have hf := kIf_f hf hc
                                                                        refine kJ_iconst 1071 0 d_L_law_1070 ki_0 rfl ?_
                                                                        cases hf
                                                                        exact kJ_iret d_L_law_1071 rfl (kB2_z _) hfc hfs
                                                                    · have hf := kIf_f hf c31
                                                                      refine kJ_tabOut 1072 d_L_law_32 (by have t0 := kne 0 c0 rfl; have t1 := kne 1 c1 rfl; have t2 := kne 2 c2 rfl; have t3 := kne 3 c3 rfl; have t4 := kne 4 c4 rfl; have t5 := kne 5 c5 rfl; have t6 := kne 6 c6 rfl; have t7 := kne 7 c7 rfl; have t8 := kne 8 c8 rfl; have t9 := kne 9 c9 rfl; have t10 := kne 10 c10 rfl; have t11 := kne 11 c11 rfl; have t12 := kne 12 c12 rfl; have t13 := kne 13 c13 rfl; have t14 := kne 14 c14 rfl; have t15 := kne 15 c15 rfl; have t16 := kne 16 c16 rfl; have t17 := kne 17 c17 rfl; have t18 := kne 18 c18 rfl; have t19 := kne 19 c19 rfl; have t20 := kne 20 c20 rfl; have t21 := kne 21 c21 rfl; have t22 := kne 22 c22 rfl; have t23 := kne 23 c23 rfl; have t24 := kne 24 c24 rfl; have t25 := kne 25 c25 rfl; have t26 := kne 26 c26 rfl; have t27 := kne 27 c27 rfl; have t28 := kne 28 c28 rfl; have t29 := kne 29 c29 rfl; have t30 := kne 30 c30 rfl; have t31 := kne 31 c31 rfl; omega) rfl ?_
                                                                      refine kJ_iinc 1075 3 [(3, .int (x3 + 4)), (0, .retAddr 2), (1, .ref 0), (2, .ref 786)] d_L_law_1072 rfl ki_4 (Nat.le_of_ble_eq_true rfl) rfl rfl ?_
                                                                      refine kJ_goto 18 d_L_law_1075 rfl ?_
                                                                      refine kJ_sub [1, 2, 3, 0] rfl ?_
                                                                      exact hrec18 h (x3 + 4) hf
