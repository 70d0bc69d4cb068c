/-! CODE of the methods as functions, with certificates: printed by wip/p35/emit.py. -/
def f_P_ofItem (h : kH) (x1 : Int32) (x2 : Int32) : Option (Int32 × kH) := if (f_C_hasItem h 1 x1) = true then (kG x1 12 (if x2 = 0 then (some ((h (1 + 10 + 5 * kx x1) 0), h)) else (if x2 = 1 then (some ((h (1 + 10 + 5 * kx x1) 1), h)) else (if x2 = 2 then (some ((h (1 + 10 + 5 * kx x1) 2), h)) else (if x2 = 3 then (if x2 < 3 then (some ((-2), h)) else (if 9 ≤ x2 then (some ((-2), h)) else (kBd (f_P_sumOf h (1 + 10 + 5 * kx x1) (x2 - 3)) fun v4 h3 => some (v4, h3)))) else (if x2 = 4 then (if x2 < 3 then (some ((-2), h)) else (if 9 ≤ x2 then (some ((-2), h)) else (kBd (f_P_sumOf h (1 + 10 + 5 * kx x1) (x2 - 3)) fun v6 h5 => some (v6, h5)))) else (if x2 = 5 then (if x2 < 3 then (some ((-2), h)) else (if 9 ≤ x2 then (some ((-2), h)) else (kBd (f_P_sumOf h (1 + 10 + 5 * kx x1) (x2 - 3)) fun v8 h7 => some (v8, h7)))) else (if x2 = 6 then (if x2 < 3 then (some ((-2), h)) else (if 9 ≤ x2 then (some ((-2), h)) else (kBd (f_P_sumOf h (1 + 10 + 5 * kx x1) (x2 - 3)) fun v10 h9 => some (v10, h9)))) else (if x2 = 7 then (if x2 < 3 then (some ((-2), h)) else (if 9 ≤ x2 then (some ((-2), h)) else (kBd (f_P_sumOf h (1 + 10 + 5 * kx x1) (x2 - 3)) fun v12 h11 => some (v12, h11)))) else (if x2 = 8 then (if x2 < 3 then (some ((-2), h)) else (if 9 ≤ x2 then (some ((-2), h)) else (kBd (f_P_sumOf h (1 + 10 + 5 * kx x1) (x2 - 3)) fun v14 h13 => some (v14, h13)))) else (if x2 = 9 then (some ((h (1 + 10 + 5 * kx x1) 4), h)) else (if x2 = 10 then (some ((h (1 + 10 + 5 * kx x1) 5), h)) else (if x2 = 11 then (kBi (f_H_listen h 141 1 (1 + 10 + 5 * kx x1)) fun h15 => kBi (f_H_weightThere h15 141 1) fun v16 => kBi (f_C_isQuorum h15 1 v16) fun v17 => if v17 = true then (some (1, h15)) else (some (0, h15))) else (if x2 < 3 then (some ((-2), h)) else (if 9 ≤ x2 then (some ((-2), h)) else (kBd (f_P_sumOf h (1 + 10 + 5 * kx x1) (x2 - 3)) fun v19 h18 => some (v19, h18))))))))))))))))) else (some ((-1), h))
theorem j_P_ofItem {E : kE} {L : Nat} {xs : Nat → Int32} (hro : kRo E L xs) {K : List Nat} {h : kH} {x1 : Int32} {x2 : Int32} {r : Int32} {h' : kH} (hf : f_P_ofItem h x1 x2 = some (r, h')) : JM E m_P_ofItem [.ref 0, .int x1, .int x2] (mk K h) (some r) (mk K h') := by
  unfold f_P_ofItem at hf
  refine JM.of pn_P (Nat.le_of_ble_eq_true rfl) ?_
  show kJ E m_P_ofItem (some r) (mk K h') 0 0 0 [(0, .ref 0), (1, .int x1), (2, .int x2)] [] (mk K h)
  refine kJ_aload_n 1 0 d_P_ofItem_0 rfl rfl rfl rfl ?_
  refine kM_getR 4 0 1 d_P_ofItem_1 l_P_10 (kp_0).x rfl rfl rfl rfl ?_
  refine kJ_iload_n 5 1 d_P_ofItem_4 rfl rfl rfl ?_
  refine kM_callv 8 m_C_hasItem [.int x1] [] d_P_ofItem_5 cl_P_134 ⟨w_433, w_18⟩ (kp_1).x ⟨rfl, by decide⟩ ⟨_, _, rfl⟩ rfl rfl (Nat.le_of_ble_eq_true rfl) ⟨Nat.le_of_ble_eq_true rfl, Nat.le_of_ble_eq_true rfl⟩ ⟨rfl, rfl⟩ ⟨Nat.zero_le _, Nat.zero_le _⟩ (j_C_hasItem hro kp_1 rfl) rfl ?_
  refine kJ_if_ne 11 13 d_P_ofItem_8 rfl rfl (fun hc => ?_) (fun hc => ?_)
  · have hf := kIf_t hf (kB2_1 hc)
    refine kJ_aload_n 14 0 d_P_ofItem_13 rfl rfl rfl rfl ?_
    refine kM_getR 17 0 1 d_P_ofItem_14 l_P_10 (kp_0).x rfl rfl rfl rfl ?_
    refine kM_getR 20 4 6 d_P_ofItem_17 l_P_137 (kp_1).x rfl rfl rfl rfl ?_
    refine kJ_iload_n 21 1 d_P_ofItem_20 rfl rfl rfl ?_
    obtain ⟨hg1, hf⟩ := kG_some hf
    refine kM_aald 22 12 5 5 (1 + 10 + 5 * kx x1) d_P_ofItem_21 ((kk_0_9 kp_1)).x rfl (by decide) (Or.inl rfl) hg1 (by simp only [Nat.add_assoc, kx]; try omega) rfl ?_
    refine kJ_astore_n 23 [(3, .ref (1 + 10 + 5 * kx x1)), (0, .ref 0), (1, .int x1), (2, .int x2)] d_P_ofItem_22 rfl (Nat.le_of_ble_eq_true rfl) rfl rfl rfl ?_
    refine kJ_iload_n 24 3 d_P_ofItem_23 rfl rfl rfl ?_
    by_cases c0 : x2 = 0
    · have hf := kIf_t hf c0
      refine kJ_tabIn 88 d_P_ofItem_24 (by rw [c0]; try decide) (by rw [c0]; try decide) (by rw [c0]; try rfl) rfl ?_
      refine kJ_aload_n 89 0 d_P_ofItem_88 rfl rfl rfl rfl ?_
      refine kM_getI 92 d_P_ofItem_89 l_P_141 ((kC_item kp_1 (kIn_lt hg1))).x rfl rfl rfl ?_
      cases hf
      exact kJ_iret d_P_ofItem_92 rfl rfl (Nat.zero_le _) (Nat.zero_le _)
    · have hf := kIf_f hf c0
      by_cases c1 : x2 = 1
      · have hf := kIf_t hf c1
        refine kJ_tabIn 93 d_P_ofItem_24 (by rw [c1]; try decide) (by rw [c1]; try decide) (by rw [c1]; try rfl) rfl ?_
        refine kJ_aload_n 94 0 d_P_ofItem_93 rfl rfl rfl rfl ?_
        refine kM_getI 97 d_P_ofItem_94 l_P_147 ((kC_item kp_1 (kIn_lt hg1))).x rfl rfl rfl ?_
        cases hf
        exact kJ_iret d_P_ofItem_97 rfl rfl (Nat.zero_le _) (Nat.zero_le _)
      · have hf := kIf_f hf c1
        by_cases c2 : x2 = 2
        · have hf := kIf_t hf c2
          refine kJ_tabIn 98 d_P_ofItem_24 (by rw [c2]; try decide) (by rw [c2]; try decide) (by rw [c2]; try rfl) rfl ?_
          refine kJ_aload_n 99 0 d_P_ofItem_98 rfl rfl rfl rfl ?_
          refine kM_getI 102 d_P_ofItem_99 l_P_150 ((kC_item kp_1 (kIn_lt hg1))).x rfl rfl rfl ?_
          cases hf
          exact kJ_iret d_P_ofItem_102 rfl rfl (Nat.zero_le _) (Nat.zero_le _)
        · have hf := kIf_f hf c2
          by_cases c3 : x2 = 3
          · have hf := kIf_t hf c3
            refine kJ_tabIn 152 d_P_ofItem_24 (by rw [c3]; try decide) (by rw [c3]; try decide) (by rw [c3]; try rfl) rfl ?_
            refine kJ_iload_n 153 3 d_P_ofItem_152 rfl rfl rfl ?_
            refine kJ_iconst 154 3 d_P_ofItem_153 ki_3 rfl ?_
            refine kJ_icmp_lt 157 174 d_P_ofItem_154 rfl rfl (fun hc => ?_) (fun hc => ?_)
            · have hf := kIf_t hf hc
              refine kJ_bipush 176 (-2) d_P_ofItem_174 kb_m2 rfl ?_
              cases hf
              exact kJ_iret d_P_ofItem_176 rfl rfl (Nat.zero_le _) (Nat.zero_le _)
            · have hf := kIf_f hf hc
              refine kJ_iload_n 158 3 d_P_ofItem_157 rfl rfl rfl ?_
              refine kJ_bipush 160 9 d_P_ofItem_158 kb_9 rfl ?_
              refine kJ_icmp_ge 163 174 d_P_ofItem_160 rfl rfl (fun hc => ?_) (fun hc => ?_)
              · have hf := kIf_t hf hc
                refine kJ_bipush 176 (-2) d_P_ofItem_174 kb_m2 rfl ?_
                cases hf
                exact kJ_iret d_P_ofItem_176 rfl rfl (Nat.zero_le _) (Nat.zero_le _)
              · have hf := kIf_f hf hc
                refine kJ_aload_n 164 1 d_P_ofItem_163 rfl rfl rfl rfl ?_
                refine kJ_aload_n 165 0 d_P_ofItem_164 rfl rfl rfl rfl ?_
                refine kJ_iload_n 166 3 d_P_ofItem_165 rfl rfl rfl ?_
                refine kJ_iconst 167 3 d_P_ofItem_166 ki_3 rfl ?_
                refine kJ_isub 168 d_P_ofItem_167 rfl ?_
                obtain ⟨v4, h3, ev4, hf⟩ := kBd_some hf
                refine kM_callv 171 m_P_sumOf [.ref (1 + 10 + 5 * kx x1), .int (x2 - 3)] [] d_P_ofItem_168 cl_P_170 ⟨w_468, w_26⟩ (kp_0).x ⟨rfl, by decide⟩ ⟨_, _, rfl⟩ rfl rfl (Nat.le_of_ble_eq_true rfl) ⟨Nat.le_of_ble_eq_true rfl, Nat.le_of_ble_eq_true rfl⟩ ⟨rfl, rfl⟩ ⟨Nat.zero_le _, Nat.zero_le _⟩ (j_P_sumOf hro (kC_item kp_1 (kIn_lt hg1)) ev4) rfl ?_
                refine kJ_goto 176 d_P_ofItem_171 rfl ?_
                cases hf
                exact kJ_iret d_P_ofItem_176 rfl rfl (Nat.zero_le _) (Nat.zero_le _)
          · have hf := kIf_f hf c3
            by_cases c4 : x2 = 4
            · have hf := kIf_t hf c4
              refine kJ_tabIn 152 d_P_ofItem_24 (by rw [c4]; try decide) (by rw [c4]; try decide) (by rw [c4]; try rfl) rfl ?_
              refine kJ_iload_n 153 3 d_P_ofItem_152 rfl rfl rfl ?_
              refine kJ_iconst 154 3 d_P_ofItem_153 ki_3 rfl ?_
              refine kJ_icmp_lt 157 174 d_P_ofItem_154 rfl rfl (fun hc => ?_) (fun hc => ?_)
              · have hf := kIf_t hf hc
                refine kJ_bipush 176 (-2) d_P_ofItem_174 kb_m2 rfl ?_
                cases hf
                exact kJ_iret d_P_ofItem_176 rfl rfl (Nat.zero_le _) (Nat.zero_le _)
              · have hf := kIf_f hf hc
                refine kJ_iload_n 158 3 d_P_ofItem_157 rfl rfl rfl ?_
                refine kJ_bipush 160 9 d_P_ofItem_158 kb_9 rfl ?_
                refine kJ_icmp_ge 163 174 d_P_ofItem_160 rfl rfl (fun hc => ?_) (fun hc => ?_)
                · have hf := kIf_t hf hc
                  refine kJ_bipush 176 (-2) d_P_ofItem_174 kb_m2 rfl ?_
                  cases hf
                  exact kJ_iret d_P_ofItem_176 rfl rfl (Nat.zero_le _) (Nat.zero_le _)
                · have hf := kIf_f hf hc
                  refine kJ_aload_n 164 1 d_P_ofItem_163 rfl rfl rfl rfl ?_
                  refine kJ_aload_n 165 0 d_P_ofItem_164 rfl rfl rfl rfl ?_
                  refine kJ_iload_n 166 3 d_P_ofItem_165 rfl rfl rfl ?_
                  refine kJ_iconst 167 3 d_P_ofItem_166 ki_3 rfl ?_
                  refine kJ_isub 168 d_P_ofItem_167 rfl ?_
                  obtain ⟨v6, h5, ev6, hf⟩ := kBd_some hf
                  refine kM_callv 171 m_P_sumOf [.ref (1 + 10 + 5 * kx x1), .int (x2 - 3)] [] d_P_ofItem_168 cl_P_170 ⟨w_468, w_26⟩ (kp_0).x ⟨rfl, by decide⟩ ⟨_, _, rfl⟩ rfl rfl (Nat.le_of_ble_eq_true rfl) ⟨Nat.le_of_ble_eq_true rfl, Nat.le_of_ble_eq_true rfl⟩ ⟨rfl, rfl⟩ ⟨Nat.zero_le _, Nat.zero_le _⟩ (j_P_sumOf hro (kC_item kp_1 (kIn_lt hg1)) ev6) rfl ?_
                  refine kJ_goto 176 d_P_ofItem_171 rfl ?_
                  cases hf
                  exact kJ_iret d_P_ofItem_176 rfl rfl (Nat.zero_le _) (Nat.zero_le _)
            · have hf := kIf_f hf c4
              by_cases c5 : x2 = 5
              · have hf := kIf_t hf c5
                refine kJ_tabIn 152 d_P_ofItem_24 (by rw [c5]; try decide) (by rw [c5]; try decide) (by rw [c5]; try rfl) rfl ?_
                refine kJ_iload_n 153 3 d_P_ofItem_152 rfl rfl rfl ?_
                refine kJ_iconst 154 3 d_P_ofItem_153 ki_3 rfl ?_
                refine kJ_icmp_lt 157 174 d_P_ofItem_154 rfl rfl (fun hc => ?_) (fun hc => ?_)
                · have hf := kIf_t hf hc
                  refine kJ_bipush 176 (-2) d_P_ofItem_174 kb_m2 rfl ?_
                  cases hf
                  exact kJ_iret d_P_ofItem_176 rfl rfl (Nat.zero_le _) (Nat.zero_le _)
                · have hf := kIf_f hf hc
                  refine kJ_iload_n 158 3 d_P_ofItem_157 rfl rfl rfl ?_
                  refine kJ_bipush 160 9 d_P_ofItem_158 kb_9 rfl ?_
                  refine kJ_icmp_ge 163 174 d_P_ofItem_160 rfl rfl (fun hc => ?_) (fun hc => ?_)
                  · have hf := kIf_t hf hc
                    refine kJ_bipush 176 (-2) d_P_ofItem_174 kb_m2 rfl ?_
                    cases hf
                    exact kJ_iret d_P_ofItem_176 rfl rfl (Nat.zero_le _) (Nat.zero_le _)
                  · have hf := kIf_f hf hc
                    refine kJ_aload_n 164 1 d_P_ofItem_163 rfl rfl rfl rfl ?_
                    refine kJ_aload_n 165 0 d_P_ofItem_164 rfl rfl rfl rfl ?_
                    refine kJ_iload_n 166 3 d_P_ofItem_165 rfl rfl rfl ?_
                    refine kJ_iconst 167 3 d_P_ofItem_166 ki_3 rfl ?_
                    refine kJ_isub 168 d_P_ofItem_167 rfl ?_
                    obtain ⟨v8, h7, ev8, hf⟩ := kBd_some hf
                    refine kM_callv 171 m_P_sumOf [.ref (1 + 10 + 5 * kx x1), .int (x2 - 3)] [] d_P_ofItem_168 cl_P_170 ⟨w_468, w_26⟩ (kp_0).x ⟨rfl, by decide⟩ ⟨_, _, rfl⟩ rfl rfl (Nat.le_of_ble_eq_true rfl) ⟨Nat.le_of_ble_eq_true rfl, Nat.le_of_ble_eq_true rfl⟩ ⟨rfl, rfl⟩ ⟨Nat.zero_le _, Nat.zero_le _⟩ (j_P_sumOf hro (kC_item kp_1 (kIn_lt hg1)) ev8) rfl ?_
                    refine kJ_goto 176 d_P_ofItem_171 rfl ?_
                    cases hf
                    exact kJ_iret d_P_ofItem_176 rfl rfl (Nat.zero_le _) (Nat.zero_le _)
              · have hf := kIf_f hf c5
                by_cases c6 : x2 = 6
                · have hf := kIf_t hf c6
                  refine kJ_tabIn 152 d_P_ofItem_24 (by rw [c6]; try decide) (by rw [c6]; try decide) (by rw [c6]; try rfl) rfl ?_
                  refine kJ_iload_n 153 3 d_P_ofItem_152 rfl rfl rfl ?_
                  refine kJ_iconst 154 3 d_P_ofItem_153 ki_3 rfl ?_
                  refine kJ_icmp_lt 157 174 d_P_ofItem_154 rfl rfl (fun hc => ?_) (fun hc => ?_)
                  · have hf := kIf_t hf hc
                    refine kJ_bipush 176 (-2) d_P_ofItem_174 kb_m2 rfl ?_
                    cases hf
                    exact kJ_iret d_P_ofItem_176 rfl rfl (Nat.zero_le _) (Nat.zero_le _)
                  · have hf := kIf_f hf hc
                    refine kJ_iload_n 158 3 d_P_ofItem_157 rfl rfl rfl ?_
                    refine kJ_bipush 160 9 d_P_ofItem_158 kb_9 rfl ?_
                    refine kJ_icmp_ge 163 174 d_P_ofItem_160 rfl rfl (fun hc => ?_) (fun hc => ?_)
                    · have hf := kIf_t hf hc
                      refine kJ_bipush 176 (-2) d_P_ofItem_174 kb_m2 rfl ?_
                      cases hf
                      exact kJ_iret d_P_ofItem_176 rfl rfl (Nat.zero_le _) (Nat.zero_le _)
                    · have hf := kIf_f hf hc
                      refine kJ_aload_n 164 1 d_P_ofItem_163 rfl rfl rfl rfl ?_
                      refine kJ_aload_n 165 0 d_P_ofItem_164 rfl rfl rfl rfl ?_
                      refine kJ_iload_n 166 3 d_P_ofItem_165 rfl rfl rfl ?_
                      refine kJ_iconst 167 3 d_P_ofItem_166 ki_3 rfl ?_
                      refine kJ_isub 168 d_P_ofItem_167 rfl ?_
                      obtain ⟨v10, h9, ev10, hf⟩ := kBd_some hf
                      refine kM_callv 171 m_P_sumOf [.ref (1 + 10 + 5 * kx x1), .int (x2 - 3)] [] d_P_ofItem_168 cl_P_170 ⟨w_468, w_26⟩ (kp_0).x ⟨rfl, by decide⟩ ⟨_, _, rfl⟩ rfl rfl (Nat.le_of_ble_eq_true rfl) ⟨Nat.le_of_ble_eq_true rfl, Nat.le_of_ble_eq_true rfl⟩ ⟨rfl, rfl⟩ ⟨Nat.zero_le _, Nat.zero_le _⟩ (j_P_sumOf hro (kC_item kp_1 (kIn_lt hg1)) ev10) rfl ?_
                      refine kJ_goto 176 d_P_ofItem_171 rfl ?_
                      cases hf
                      exact kJ_iret d_P_ofItem_176 rfl rfl (Nat.zero_le _) (Nat.zero_le _)
                · have hf := kIf_f hf c6
                  by_cases c7 : x2 = 7
                  · have hf := kIf_t hf c7
                    refine kJ_tabIn 152 d_P_ofItem_24 (by rw [c7]; try decide) (by rw [c7]; try decide) (by rw [c7]; try rfl) rfl ?_
                    refine kJ_iload_n 153 3 d_P_ofItem_152 rfl rfl rfl ?_
                    refine kJ_iconst 154 3 d_P_ofItem_153 ki_3 rfl ?_
                    refine kJ_icmp_lt 157 174 d_P_ofItem_154 rfl rfl (fun hc => ?_) (fun hc => ?_)
                    · have hf := kIf_t hf hc
                      refine kJ_bipush 176 (-2) d_P_ofItem_174 kb_m2 rfl ?_
                      cases hf
                      exact kJ_iret d_P_ofItem_176 rfl rfl (Nat.zero_le _) (Nat.zero_le _)
                    · have hf := kIf_f hf hc
                      refine kJ_iload_n 158 3 d_P_ofItem_157 rfl rfl rfl ?_
                      refine kJ_bipush 160 9 d_P_ofItem_158 kb_9 rfl ?_
                      refine kJ_icmp_ge 163 174 d_P_ofItem_160 rfl rfl (fun hc => ?_) (fun hc => ?_)
                      · have hf := kIf_t hf hc
                        refine kJ_bipush 176 (-2) d_P_ofItem_174 kb_m2 rfl ?_
                        cases hf
                        exact kJ_iret d_P_ofItem_176 rfl rfl (Nat.zero_le _) (Nat.zero_le _)
                      · have hf := kIf_f hf hc
                        refine kJ_aload_n 164 1 d_P_ofItem_163 rfl rfl rfl rfl ?_
                        refine kJ_aload_n 165 0 d_P_ofItem_164 rfl rfl rfl rfl ?_
                        refine kJ_iload_n 166 3 d_P_ofItem_165 rfl rfl rfl ?_
                        refine kJ_iconst 167 3 d_P_ofItem_166 ki_3 rfl ?_
                        refine kJ_isub 168 d_P_ofItem_167 rfl ?_
                        obtain ⟨v12, h11, ev12, hf⟩ := kBd_some hf
                        refine kM_callv 171 m_P_sumOf [.ref (1 + 10 + 5 * kx x1), .int (x2 - 3)] [] d_P_ofItem_168 cl_P_170 ⟨w_468, w_26⟩ (kp_0).x ⟨rfl, by decide⟩ ⟨_, _, rfl⟩ rfl rfl (Nat.le_of_ble_eq_true rfl) ⟨Nat.le_of_ble_eq_true rfl, Nat.le_of_ble_eq_true rfl⟩ ⟨rfl, rfl⟩ ⟨Nat.zero_le _, Nat.zero_le _⟩ (j_P_sumOf hro (kC_item kp_1 (kIn_lt hg1)) ev12) rfl ?_
                        refine kJ_goto 176 d_P_ofItem_171 rfl ?_
                        cases hf
                        exact kJ_iret d_P_ofItem_176 rfl rfl (Nat.zero_le _) (Nat.zero_le _)
                  · have hf := kIf_f hf c7
                    by_cases c8 : x2 = 8
                    · have hf := kIf_t hf c8
                      refine kJ_tabIn 152 d_P_ofItem_24 (by rw [c8]; try decide) (by rw [c8]; try decide) (by rw [c8]; try rfl) rfl ?_
                      refine kJ_iload_n 153 3 d_P_ofItem_152 rfl rfl rfl ?_
                      refine kJ_iconst 154 3 d_P_ofItem_153 ki_3 rfl ?_
                      refine kJ_icmp_lt 157 174 d_P_ofItem_154 rfl rfl (fun hc => ?_) (fun hc => ?_)
                      · have hf := kIf_t hf hc
                        refine kJ_bipush 176 (-2) d_P_ofItem_174 kb_m2 rfl ?_
                        cases hf
                        exact kJ_iret d_P_ofItem_176 rfl rfl (Nat.zero_le _) (Nat.zero_le _)
                      · have hf := kIf_f hf hc
                        refine kJ_iload_n 158 3 d_P_ofItem_157 rfl rfl rfl ?_
                        refine kJ_bipush 160 9 d_P_ofItem_158 kb_9 rfl ?_
                        refine kJ_icmp_ge 163 174 d_P_ofItem_160 rfl rfl (fun hc => ?_) (fun hc => ?_)
                        · have hf := kIf_t hf hc
                          refine kJ_bipush 176 (-2) d_P_ofItem_174 kb_m2 rfl ?_
                          cases hf
                          exact kJ_iret d_P_ofItem_176 rfl rfl (Nat.zero_le _) (Nat.zero_le _)
                        · have hf := kIf_f hf hc
                          refine kJ_aload_n 164 1 d_P_ofItem_163 rfl rfl rfl rfl ?_
                          refine kJ_aload_n 165 0 d_P_ofItem_164 rfl rfl rfl rfl ?_
                          refine kJ_iload_n 166 3 d_P_ofItem_165 rfl rfl rfl ?_
                          refine kJ_iconst 167 3 d_P_ofItem_166 ki_3 rfl ?_
                          refine kJ_isub 168 d_P_ofItem_167 rfl ?_
                          obtain ⟨v14, h13, ev14, hf⟩ := kBd_some hf
                          refine kM_callv 171 m_P_sumOf [.ref (1 + 10 + 5 * kx x1), .int (x2 - 3)] [] d_P_ofItem_168 cl_P_170 ⟨w_468, w_26⟩ (kp_0).x ⟨rfl, by decide⟩ ⟨_, _, rfl⟩ rfl rfl (Nat.le_of_ble_eq_true rfl) ⟨Nat.le_of_ble_eq_true rfl, Nat.le_of_ble_eq_true rfl⟩ ⟨rfl, rfl⟩ ⟨Nat.zero_le _, Nat.zero_le _⟩ (j_P_sumOf hro (kC_item kp_1 (kIn_lt hg1)) ev14) rfl ?_
                          refine kJ_goto 176 d_P_ofItem_171 rfl ?_
                          cases hf
                          exact kJ_iret d_P_ofItem_176 rfl rfl (Nat.zero_le _) (Nat.zero_le _)
                    · have hf := kIf_f hf c8
                      by_cases c9 : x2 = 9
                      · have hf := kIf_t hf c9
                        refine kJ_tabIn 103 d_P_ofItem_24 (by rw [c9]; try decide) (by rw [c9]; try decide) (by rw [c9]; try rfl) rfl ?_
                        refine kJ_aload_n 104 0 d_P_ofItem_103 rfl rfl rfl rfl ?_
                        refine kM_getI 107 d_P_ofItem_104 l_P_153 ((kC_item kp_1 (kIn_lt hg1))).x rfl rfl rfl ?_
                        cases hf
                        exact kJ_iret d_P_ofItem_107 rfl rfl (Nat.zero_le _) (Nat.zero_le _)
                      · have hf := kIf_f hf c9
                        by_cases c10 : x2 = 10
                        · have hf := kIf_t hf c10
                          refine kJ_tabIn 108 d_P_ofItem_24 (by rw [c10]; try decide) (by rw [c10]; try decide) (by rw [c10]; try rfl) rfl ?_
                          refine kJ_aload_n 109 0 d_P_ofItem_108 rfl rfl rfl rfl ?_
                          refine kM_getI 112 d_P_ofItem_109 l_P_156 ((kC_item kp_1 (kIn_lt hg1))).x rfl rfl rfl ?_
                          cases hf
                          exact kJ_iret d_P_ofItem_112 rfl rfl (Nat.zero_le _) (Nat.zero_le _)
                        · have hf := kIf_f hf c10
                          by_cases c11 : x2 = 11
                          · have hf := kIf_t hf c11
                            refine kJ_tabIn 113 d_P_ofItem_24 (by rw [c11]; try decide) (by rw [c11]; try decide) (by rw [c11]; try rfl) rfl ?_
                            refine kJ_aload_n 114 1 d_P_ofItem_113 rfl rfl rfl rfl ?_
                            refine kM_getR 117 140 141 d_P_ofItem_114 l_P_22 (kp_0).x rfl rfl rfl rfl ?_
                            refine kJ_aload_n 118 1 d_P_ofItem_117 rfl rfl rfl rfl ?_
                            refine kM_getR 121 0 1 d_P_ofItem_118 l_P_10 (kp_0).x rfl rfl rfl rfl ?_
                            refine kJ_aload_n 122 0 d_P_ofItem_121 rfl rfl rfl rfl ?_
                            obtain ⟨h15, eh15, hf⟩ := kBi_some hf
                            refine kM_callv 125 m_H_listen [.ref 1, .ref (1 + 10 + 5 * kx x1)] [] d_P_ofItem_122 cl_P_159 ⟨w_437, w_19⟩ (kp_141).x ⟨rfl, by decide⟩ ⟨_, _, rfl⟩ rfl rfl (Nat.le_of_ble_eq_true rfl) ⟨Nat.le_of_ble_eq_true rfl, Nat.le_of_ble_eq_true rfl⟩ ⟨rfl, rfl⟩ ⟨Nat.zero_le _, Nat.zero_le _⟩ (j_H_listen hro kp_141 kp_1 (kC_item kp_1 (kIn_lt hg1)) eh15) rfl ?_
                            refine kJ_aload_n 126 1 d_P_ofItem_125 rfl rfl rfl rfl ?_
                            refine kM_getR 129 0 1 d_P_ofItem_126 l_P_10 (kp_0).x rfl rfl rfl rfl ?_
                            refine kJ_aload_n 130 1 d_P_ofItem_129 rfl rfl rfl rfl ?_
                            refine kM_getR 133 140 141 d_P_ofItem_130 l_P_22 (kp_0).x rfl rfl rfl rfl ?_
                            refine kJ_aload_n 134 1 d_P_ofItem_133 rfl rfl rfl rfl ?_
                            refine kM_getR 137 0 1 d_P_ofItem_134 l_P_10 (kp_0).x rfl rfl rfl rfl ?_
                            obtain ⟨v16, ev16, hf⟩ := kBi_some hf
                            refine kM_callv 140 m_H_weightThere [.ref 1] [.ref 1] d_P_ofItem_137 cl_P_163 ⟨w_459, w_24⟩ (kp_141).x ⟨rfl, by decide⟩ ⟨_, _, rfl⟩ rfl rfl (Nat.le_of_ble_eq_true rfl) ⟨Nat.le_of_ble_eq_true rfl, Nat.le_of_ble_eq_true rfl⟩ ⟨rfl, rfl⟩ ⟨Nat.zero_le _, Nat.zero_le _⟩ (j_H_weightThere hro kp_141 kp_1 ev16) rfl ?_
                            obtain ⟨v17, ev17, hf⟩ := kBi_some hf
                            refine kM_callv 143 m_C_isQuorum [.int v16] [] d_P_ofItem_140 cl_P_167 ⟨w_463, w_25⟩ (kp_1).x ⟨rfl, by decide⟩ ⟨_, _, rfl⟩ rfl rfl (Nat.le_of_ble_eq_true rfl) ⟨Nat.le_of_ble_eq_true rfl, Nat.le_of_ble_eq_true rfl⟩ ⟨rfl, rfl⟩ ⟨Nat.zero_le _, Nat.zero_le _⟩ (j_C_isQuorum hro kp_1 ev17) rfl ?_
                            refine kJ_if_eq 146 150 d_P_ofItem_143 rfl rfl (fun hc => ?_) (fun hc => ?_)
                            · have hf := kIf_f hf (kB2_0 hc)
                              refine kJ_iconst 151 0 d_P_ofItem_150 ki_0 rfl ?_
                              cases hf
                              exact kJ_iret d_P_ofItem_151 rfl rfl (Nat.zero_le _) (Nat.zero_le _)
                            · have hf := kIf_t hf (kB2_1 hc)
                              refine kJ_iconst 147 1 d_P_ofItem_146 ki_1 rfl ?_
                              refine kJ_goto 151 d_P_ofItem_147 rfl ?_
                              cases hf
                              exact kJ_iret d_P_ofItem_151 rfl rfl (Nat.zero_le _) (Nat.zero_le _)
                          · have hf := kIf_f hf c11
                            refine kJ_tabOut 152 d_P_ofItem_24 (by have t0 := kne 0 c0 rfl; have t1 := kne 1 c1 rfl; have t2 := kne 2 c2 rfl; have t3 := kne 3 c3 rfl; have t4 := kne 4 c4 rfl; have t5 := kne 5 c5 rfl; have t6 := kne 6 c6 rfl; have t7 := kne 7 c7 rfl; have t8 := kne 8 c8 rfl; have t9 := kne 9 c9 rfl; have t10 := kne 10 c10 rfl; have t11 := kne 11 c11 rfl; omega) rfl ?_
                            refine kJ_iload_n 153 3 d_P_ofItem_152 rfl rfl rfl ?_
                            refine kJ_iconst 154 3 d_P_ofItem_153 ki_3 rfl ?_
                            refine kJ_icmp_lt 157 174 d_P_ofItem_154 rfl rfl (fun hc => ?_) (fun hc => ?_)
                            · have hf := kIf_t hf hc
                              refine kJ_bipush 176 (-2) d_P_ofItem_174 kb_m2 rfl ?_
                              cases hf
                              exact kJ_iret d_P_ofItem_176 rfl rfl (Nat.zero_le _) (Nat.zero_le _)
                            · have hf := kIf_f hf hc
                              refine kJ_iload_n 158 3 d_P_ofItem_157 rfl rfl rfl ?_
                              refine kJ_bipush 160 9 d_P_ofItem_158 kb_9 rfl ?_
                              refine kJ_icmp_ge 163 174 d_P_ofItem_160 rfl rfl (fun hc => ?_) (fun hc => ?_)
                              · have hf := kIf_t hf hc
                                refine kJ_bipush 176 (-2) d_P_ofItem_174 kb_m2 rfl ?_
                                cases hf
                                exact kJ_iret d_P_ofItem_176 rfl rfl (Nat.zero_le _) (Nat.zero_le _)
                              · have hf := kIf_f hf hc
                                refine kJ_aload_n 164 1 d_P_ofItem_163 rfl rfl rfl rfl ?_
                                refine kJ_aload_n 165 0 d_P_ofItem_164 rfl rfl rfl rfl ?_
                                refine kJ_iload_n 166 3 d_P_ofItem_165 rfl rfl rfl ?_
                                refine kJ_iconst 167 3 d_P_ofItem_166 ki_3 rfl ?_
                                refine kJ_isub 168 d_P_ofItem_167 rfl ?_
                                obtain ⟨v19, h18, ev19, hf⟩ := kBd_some hf
                                refine kM_callv 171 m_P_sumOf [.ref (1 + 10 + 5 * kx x1), .int (x2 - 3)] [] d_P_ofItem_168 cl_P_170 ⟨w_468, w_26⟩ (kp_0).x ⟨rfl, by decide⟩ ⟨_, _, rfl⟩ rfl rfl (Nat.le_of_ble_eq_true rfl) ⟨Nat.le_of_ble_eq_true rfl, Nat.le_of_ble_eq_true rfl⟩ ⟨rfl, rfl⟩ ⟨Nat.zero_le _, Nat.zero_le _⟩ (j_P_sumOf hro (kC_item kp_1 (kIn_lt hg1)) ev19) rfl ?_
                                refine kJ_goto 176 d_P_ofItem_171 rfl ?_
                                cases hf
                                exact kJ_iret d_P_ofItem_176 rfl rfl (Nat.zero_le _) (Nat.zero_le _)
  · have hf := kIf_f hf (kB2_0 hc)
    refine kJ_iconst 12 (-1) d_P_ofItem_11 ki_m1 rfl ?_
    cases hf
    exact kJ_iret d_P_ofItem_12 rfl rfl (Nat.zero_le _) (Nat.zero_le _)
def b_H_spokenForBy_5 (h : kH) (x0 : Nat) (x1 : Nat) (x2 : Int32) : Nat → Int32 → Int32 → Option Int32
  | 0, _, _ => none
  | n + 1, x3, x4 => (fun rec5 => if (h x1 1) ≤ x4 then (some x3) else (kG x4 12 (if (h (x0 + 1) (kx x4)) = x2 then (if (f_C_isPresent h x1 x4) = true then (rec5 x3 (x4 + 1)) else (kLet (x3 ||| (1 <<< (x4 &&& 31))) fun v1 => rec5 v1 (x4 + 1))) else (rec5 x3 (x4 + 1))))) (fun x3' x4' => b_H_spokenForBy_5 h x0 x1 x2 n x3' x4')
theorem c_H_spokenForBy_5 {E : kE} {L : Nat} {xs : Nat → Int32} (hro : kRo E L xs) {K : List Nat} {h : kH} {x0 : Nat} {x1 : Nat} {x2 : Int32} (k0 : kIs x0 1) (k1 : kIs x1 0) {r : Int32} : ∀ (n : Nat) (x3 : Int32) (x4 : Int32), b_H_spokenForBy_5 h x0 x1 x2 n x3 x4 = some r → kJ E m_H_spokenForBy (some r) (mk K h) 0 0 5 [(0, .ref x0), (1, .ref x1), (2, .int x2), (3, .int x3), (4, .int x4)] [] (mk K h) := by
  intro n
  induction n with
  | zero =>
    intro x3 x4 hf
    have hf : (none : Option Int32) = some r := hf
    cases hf
  | succ n hrec5 =>
    intro x3 x4 hf
    rw [b_H_spokenForBy_5] at hf
    dsimp only at hf
    refine kJ_iload 7 4 d_H_spokenForBy_5 rfl rfl ?_
    refine kJ_aload_n 8 1 d_H_spokenForBy_7 rfl rfl rfl rfl ?_
    refine kM_getI 11 d_H_spokenForBy_8 l_H_27 (k1).x rfl rfl rfl ?_
    refine kJ_icmp_ge 14 47 d_H_spokenForBy_11 rfl rfl (fun hc => ?_) (fun hc => ?_)
    · have hf := kIf_t hf hc
      refine kJ_iload_n 48 3 d_H_spokenForBy_47 rfl rfl rfl ?_
      cases hf
      exact kJ_iret d_H_spokenForBy_48 rfl rfl (Nat.zero_le _) (Nat.zero_le _)
    · have hf := kIf_f hf hc
      refine kJ_aload_n 15 0 d_H_spokenForBy_14 rfl rfl rfl rfl ?_
      refine kM_getR 18 0 (x0 + 1) d_H_spokenForBy_15 l_H_9 (k0).x rfl rfl rfl rfl ?_
      refine kJ_iload 20 4 d_H_spokenForBy_18 rfl rfl ?_
      obtain ⟨hg, hf⟩ := kG_some hf
      refine kM_iald 21 12 d_H_spokenForBy_20 ((kk_1_0 k0)).x rfl hg rfl ?_
      refine kJ_iload_n 22 2 d_H_spokenForBy_21 rfl rfl rfl ?_
      refine kJ_icmp_ne 25 41 d_H_spokenForBy_22 rfl rfl (fun hc => ?_) (fun hc => ?_)
      · have hf := kIf_f hf hc
        refine kJ_iinc 44 4 [(4, .int (x4 + 1)), (0, .ref x0), (1, .ref x1), (2, .int x2), (3, .int x3)] d_H_spokenForBy_41 rfl ki_1 (Nat.le_of_ble_eq_true rfl) rfl rfl ?_
        refine kJ_goto 5 d_H_spokenForBy_44 rfl ?_
        refine kJ_sub [1, 2, 3, 4, 0] rfl ?_
        exact hrec5 x3 (x4 + 1) hf
      · have hf := kIf_t hf hc
        refine kJ_aload_n 26 1 d_H_spokenForBy_25 rfl rfl rfl rfl ?_
        refine kJ_iload 28 4 d_H_spokenForBy_26 rfl rfl ?_
        refine kM_callv 31 m_C_isPresent [.int x4] [] d_H_spokenForBy_28 cl_H_37 ⟨w_386, w_11⟩ (k1).x ⟨rfl, by decide⟩ ⟨_, _, rfl⟩ rfl rfl (Nat.le_of_ble_eq_true rfl) ⟨Nat.le_of_ble_eq_true rfl, Nat.le_of_ble_eq_true rfl⟩ ⟨rfl, rfl⟩ ⟨Nat.zero_le _, Nat.zero_le _⟩ (j_C_isPresent hro k1 rfl) rfl ?_
        refine kJ_if_ne 34 41 d_H_spokenForBy_31 rfl rfl (fun hc => ?_) (fun hc => ?_)
        · have hf := kIf_t hf (kB2_1 hc)
          refine kJ_iinc 44 4 [(4, .int (x4 + 1)), (0, .ref x0), (1, .ref x1), (2, .int x2), (3, .int x3)] d_H_spokenForBy_41 rfl ki_1 (Nat.le_of_ble_eq_true rfl) rfl rfl ?_
          refine kJ_goto 5 d_H_spokenForBy_44 rfl ?_
          refine kJ_sub [1, 2, 3, 4, 0] rfl ?_
          exact hrec5 x3 (x4 + 1) hf
        · have hf := kIf_f hf (kB2_0 hc)
          refine kJ_iload_n 35 3 d_H_spokenForBy_34 rfl rfl rfl ?_
          refine kJ_iconst 36 1 d_H_spokenForBy_35 ki_1 rfl ?_
          refine kJ_iload 38 4 d_H_spokenForBy_36 rfl rfl ?_
          refine kJ_ishl 39 d_H_spokenForBy_38 rfl ?_
          refine kJ_ior 40 d_H_spokenForBy_39 rfl ?_
          obtain ⟨v1, ev1, hf⟩ := kLet_e hf
          rw [← ev1]
          refine kJ_istore_n 41 [(3, .int v1), (0, .ref x0), (1, .ref x1), (2, .int x2), (4, .int x4)] d_H_spokenForBy_40 rfl (Nat.le_of_ble_eq_true rfl) rfl rfl ?_
          refine kJ_iinc 44 4 [(4, .int (x4 + 1)), (3, .int v1), (0, .ref x0), (1, .ref x1), (2, .int x2)] d_H_spokenForBy_41 rfl ki_1 (Nat.le_of_ble_eq_true rfl) rfl rfl ?_
          refine kJ_goto 5 d_H_spokenForBy_44 rfl ?_
          refine kJ_sub [2, 3, 4, 1, 0] rfl ?_
          exact hrec5 v1 (x4 + 1) hf
def f_H_spokenForBy (h : kH) (x0 : Nat) (x1 : Nat) (x2 : Int32) : Option Int32 := b_H_spokenForBy_5 h x0 x1 x2 kFuel 0 0
theorem j_H_spokenForBy {E : kE} {L : Nat} {xs : Nat → Int32} (hro : kRo E L xs) {K : List Nat} {h : kH} {x0 : Nat} {x1 : Nat} {x2 : Int32} (k0 : kIs x0 1) (k1 : kIs x1 0) {r : Int32} (hf : f_H_spokenForBy h x0 x1 x2 = some r) : JM E m_H_spokenForBy [.ref x0, .ref x1, .int x2] (mk K h) (some r) (mk K h) := by
  unfold f_H_spokenForBy at hf
  refine JM.of pn_H (Nat.le_of_ble_eq_true rfl) ?_
  show kJ E m_H_spokenForBy (some r) (mk K h) 0 0 0 [(0, .ref x0), (1, .ref x1), (2, .int x2)] [] (mk K h)
  refine kJ_iconst 1 0 d_H_spokenForBy_0 ki_0 rfl ?_
  refine kJ_istore_n 2 [(3, .int 0), (0, .ref x0), (1, .ref x1), (2, .int x2)] d_H_spokenForBy_1 rfl (Nat.le_of_ble_eq_true rfl) rfl rfl ?_
  refine kJ_iconst 3 0 d_H_spokenForBy_2 ki_0 rfl ?_
  refine kJ_istore 5 [(4, .int 0), (3, .int 0), (0, .ref x0), (1, .ref x1), (2, .int x2)] d_H_spokenForBy_3 (Nat.le_of_ble_eq_true rfl) rfl rfl ?_
  refine kJ_sub [2, 3, 4, 1, 0] rfl ?_
  exact c_H_spokenForBy_5 hro k0 k1 kFuel 0 0 hf
def f_P_at (h : kH) (x1 : Int32) (x2 : Int32) (x3 : Int32) : Option (Int32 × kH) := if (f_C_hasMember h 1 x1) = true then (if (f_C_hasItem h 1 x2) = true then (kG x2 12 (kBi (f_H_listen h 141 1 (1 + 10 + 5 * kx x2)) fun h2 => if x3 = 0 then (kG x1 12 (some ((h2 142 (kx x1)), h2))) else (if x3 = 1 then (kG x1 12 (some ((h2 ((1 + 10 + 5 * kx x2) + 2) (kx x1)), h2))) else (if x3 = 2 then (kG x1 12 (some ((h2 ((1 + 10 + 5 * kx x2) + 3) (kx x1)), h2))) else (if x3 = 3 then (kBi (f_H_wayOf h2 141 1 (1 + 10 + 5 * kx x2) x1) fun v4 => some (v4, h2)) else (if x3 = 4 then (kG x1 12 (some ((h2 ((1 + 10 + 5 * kx x2) + 4) (kx x1)), h2))) else (if x3 = 5 then (kBi (f_C_isRecused h2 1 x1 (1 + 10 + 5 * kx x2)) fun v5 => if v5 = true then (some (1, h2)) else (some (0, h2))) else (if x3 = 6 then (kBi (f_H_spokenForBy h2 141 1 x1) fun v6 => some (v6, h2)) else (some ((-2), h2)))))))))) else (some ((-1), h))) else (some ((-1), h))
theorem j_P_at {E : kE} {L : Nat} {xs : Nat → Int32} (hro : kRo E L xs) {K : List Nat} {h : kH} {x1 : Int32} {x2 : Int32} {x3 : Int32} {r : Int32} {h' : kH} (hf : f_P_at h x1 x2 x3 = some (r, h')) : JM E m_P_at [.ref 0, .int x1, .int x2, .int x3] (mk K h) (some r) (mk K h') := by
  unfold f_P_at at hf
  refine JM.of pn_P (Nat.le_of_ble_eq_true rfl) ?_
  show kJ E m_P_at (some r) (mk K h') 0 0 0 [(0, .ref 0), (1, .int x1), (2, .int x2), (3, .int x3)] [] (mk K h)
  refine kJ_aload_n 1 0 d_P_at_0 rfl rfl rfl rfl ?_
  refine kM_getR 4 0 1 d_P_at_1 l_P_10 (kp_0).x rfl rfl rfl rfl ?_
  refine kJ_iload_n 5 1 d_P_at_4 rfl rfl rfl ?_
  refine kM_callv 8 m_C_hasMember [.int x1] [] d_P_at_5 cl_P_112 ⟨w_377, w_10⟩ (kp_1).x ⟨rfl, by decide⟩ ⟨_, _, rfl⟩ rfl rfl (Nat.le_of_ble_eq_true rfl) ⟨Nat.le_of_ble_eq_true rfl, Nat.le_of_ble_eq_true rfl⟩ ⟨rfl, rfl⟩ ⟨Nat.zero_le _, Nat.zero_le _⟩ (j_C_hasMember hro kp_1 rfl) rfl ?_
  refine kJ_if_eq 11 22 d_P_at_8 rfl rfl (fun hc => ?_) (fun hc => ?_)
  · have hf := kIf_f hf (kB2_0 hc)
    refine kJ_iconst 23 (-1) d_P_at_22 ki_m1 rfl ?_
    cases hf
    exact kJ_iret d_P_at_23 rfl rfl (Nat.zero_le _) (Nat.zero_le _)
  · have hf := kIf_t hf (kB2_1 hc)
    refine kJ_aload_n 12 0 d_P_at_11 rfl rfl rfl rfl ?_
    refine kM_getR 15 0 1 d_P_at_12 l_P_10 (kp_0).x rfl rfl rfl rfl ?_
    refine kJ_iload_n 16 2 d_P_at_15 rfl rfl rfl ?_
    refine kM_callv 19 m_C_hasItem [.int x2] [] d_P_at_16 cl_P_134 ⟨w_433, w_18⟩ (kp_1).x ⟨rfl, by decide⟩ ⟨_, _, rfl⟩ rfl rfl (Nat.le_of_ble_eq_true rfl) ⟨Nat.le_of_ble_eq_true rfl, Nat.le_of_ble_eq_true rfl⟩ ⟨rfl, rfl⟩ ⟨Nat.zero_le _, Nat.zero_le _⟩ (j_C_hasItem hro kp_1 rfl) rfl ?_
    refine kJ_if_ne 22 24 d_P_at_19 rfl rfl (fun hc => ?_) (fun hc => ?_)
    · have hf := kIf_t hf (kB2_1 hc)
      refine kJ_aload_n 25 0 d_P_at_24 rfl rfl rfl rfl ?_
      refine kM_getR 28 0 1 d_P_at_25 l_P_10 (kp_0).x rfl rfl rfl rfl ?_
      refine kM_getR 31 4 6 d_P_at_28 l_P_137 (kp_1).x rfl rfl rfl rfl ?_
      refine kJ_iload_n 32 2 d_P_at_31 rfl rfl rfl ?_
      obtain ⟨hg1, hf⟩ := kG_some hf
      refine kM_aald 33 12 5 5 (1 + 10 + 5 * kx x2) d_P_at_32 ((kk_0_9 kp_1)).x rfl (by decide) (Or.inl rfl) hg1 (by simp only [Nat.add_assoc, kx]; try omega) rfl ?_
      refine kJ_astore 35 [(4, .ref (1 + 10 + 5 * kx x2)), (0, .ref 0), (1, .int x1), (2, .int x2), (3, .int x3)] d_P_at_33 (Nat.le_of_ble_eq_true rfl) rfl rfl rfl ?_
      refine kJ_aload_n 36 1 d_P_at_35 rfl rfl rfl rfl ?_
      refine kM_getR 39 140 141 d_P_at_36 l_P_22 (kp_0).x rfl rfl rfl rfl ?_
      refine kJ_aload_n 40 1 d_P_at_39 rfl rfl rfl rfl ?_
      refine kM_getR 43 0 1 d_P_at_40 l_P_10 (kp_0).x rfl rfl rfl rfl ?_
      refine kJ_aload 45 0 d_P_at_43 rfl rfl rfl ?_
      obtain ⟨h2, eh2, hf⟩ := kBi_some hf
      refine kM_callv 48 m_H_listen [.ref 1, .ref (1 + 10 + 5 * kx x2)] [] d_P_at_45 cl_P_159 ⟨w_437, w_19⟩ (kp_141).x ⟨rfl, by decide⟩ ⟨_, _, rfl⟩ rfl rfl (Nat.le_of_ble_eq_true rfl) ⟨Nat.le_of_ble_eq_true rfl, Nat.le_of_ble_eq_true rfl⟩ ⟨rfl, rfl⟩ ⟨Nat.zero_le _, Nat.zero_le _⟩ (j_H_listen hro kp_141 kp_1 (kC_item kp_1 (kIn_lt hg1)) eh2) rfl ?_
      refine kJ_iload_n 49 4 d_P_at_48 rfl rfl rfl ?_
      by_cases c0 : x3 = 0
      · have hf := kIf_t hf c0
        refine kJ_tabIn 92 d_P_at_49 (by rw [c0]; try decide) (by rw [c0]; try decide) (by rw [c0]; try rfl) rfl ?_
        refine kJ_aload_n 93 1 d_P_at_92 rfl rfl rfl rfl ?_
        refine kM_getR 96 140 141 d_P_at_93 l_P_22 (kp_0).x rfl rfl rfl rfl ?_
        refine kM_getR 99 0 142 d_P_at_96 l_P_174 (kp_141).x rfl rfl rfl rfl ?_
        refine kJ_iload_n 100 2 d_P_at_99 rfl rfl rfl ?_
        obtain ⟨hg, hf⟩ := kG_some hf
        refine kM_iald 101 12 d_P_at_100 ((kk_1_0 kp_141)).x rfl hg rfl ?_
        cases hf
        exact kJ_iret d_P_at_101 rfl rfl (Nat.zero_le _) (Nat.zero_le _)
      · have hf := kIf_f hf c0
        by_cases c1 : x3 = 1
        · have hf := kIf_t hf c1
          refine kJ_tabIn 102 d_P_at_49 (by rw [c1]; try decide) (by rw [c1]; try decide) (by rw [c1]; try rfl) rfl ?_
          refine kJ_aload 104 0 d_P_at_102 rfl rfl rfl ?_
          refine kM_getR 107 1 ((1 + 10 + 5 * kx x2) + 2) d_P_at_104 l_P_177 ((kC_item kp_1 (kIn_lt hg1))).x rfl rfl rfl rfl ?_
          refine kJ_iload_n 108 2 d_P_at_107 rfl rfl rfl ?_
          obtain ⟨hg, hf⟩ := kG_some hf
          refine kM_iald 109 12 d_P_at_108 ((kk_3_7 (kC_item kp_1 (kIn_lt hg1)))).x rfl hg rfl ?_
          cases hf
          exact kJ_iret d_P_at_109 rfl rfl (Nat.zero_le _) (Nat.zero_le _)
        · have hf := kIf_f hf c1
          by_cases c2 : x3 = 2
          · have hf := kIf_t hf c2
            refine kJ_tabIn 110 d_P_at_49 (by rw [c2]; try decide) (by rw [c2]; try decide) (by rw [c2]; try rfl) rfl ?_
            refine kJ_aload 112 0 d_P_at_110 rfl rfl rfl ?_
            refine kM_getR 115 2 ((1 + 10 + 5 * kx x2) + 3) d_P_at_112 l_P_180 ((kC_item kp_1 (kIn_lt hg1))).x rfl rfl rfl rfl ?_
            refine kJ_iload_n 116 2 d_P_at_115 rfl rfl rfl ?_
            obtain ⟨hg, hf⟩ := kG_some hf
            refine kM_iald 117 12 d_P_at_116 ((kk_3_8 (kC_item kp_1 (kIn_lt hg1)))).x rfl hg rfl ?_
            cases hf
            exact kJ_iret d_P_at_117 rfl rfl (Nat.zero_le _) (Nat.zero_le _)
          · have hf := kIf_f hf c2
            by_cases c3 : x3 = 3
            · have hf := kIf_t hf c3
              refine kJ_tabIn 118 d_P_at_49 (by rw [c3]; try decide) (by rw [c3]; try decide) (by rw [c3]; try rfl) rfl ?_
              refine kJ_aload_n 119 1 d_P_at_118 rfl rfl rfl rfl ?_
              refine kM_getR 122 140 141 d_P_at_119 l_P_22 (kp_0).x rfl rfl rfl rfl ?_
              refine kJ_aload_n 123 1 d_P_at_122 rfl rfl rfl rfl ?_
              refine kM_getR 126 0 1 d_P_at_123 l_P_10 (kp_0).x rfl rfl rfl rfl ?_
              refine kJ_aload 128 0 d_P_at_126 rfl rfl rfl ?_
              refine kJ_iload_n 129 2 d_P_at_128 rfl rfl rfl ?_
              obtain ⟨v4, ev4, hf⟩ := kBi_some hf
              refine kM_callv 132 m_H_wayOf [.ref 1, .ref (1 + 10 + 5 * kx x2), .int x1] [] d_P_at_129 cl_P_183 ⟨w_480, w_29⟩ (kp_141).x ⟨rfl, by decide⟩ ⟨_, _, rfl⟩ rfl rfl (Nat.le_of_ble_eq_true rfl) ⟨Nat.le_of_ble_eq_true rfl, Nat.le_of_ble_eq_true rfl⟩ ⟨rfl, rfl⟩ ⟨Nat.zero_le _, Nat.zero_le _⟩ (j_H_wayOf hro kp_141 kp_1 (kC_item kp_1 (kIn_lt hg1)) ev4) rfl ?_
              cases hf
              exact kJ_iret d_P_at_132 rfl rfl (Nat.zero_le _) (Nat.zero_le _)
            · have hf := kIf_f hf c3
              by_cases c4 : x3 = 4
              · have hf := kIf_t hf c4
                refine kJ_tabIn 133 d_P_at_49 (by rw [c4]; try decide) (by rw [c4]; try decide) (by rw [c4]; try rfl) rfl ?_
                refine kJ_aload 135 0 d_P_at_133 rfl rfl rfl ?_
                refine kM_getR 138 3 ((1 + 10 + 5 * kx x2) + 4) d_P_at_135 l_P_187 ((kC_item kp_1 (kIn_lt hg1))).x rfl rfl rfl rfl ?_
                refine kJ_iload_n 139 2 d_P_at_138 rfl rfl rfl ?_
                obtain ⟨hg, hf⟩ := kG_some hf
                refine kM_iald 140 12 d_P_at_139 ((kk_3_9 (kC_item kp_1 (kIn_lt hg1)))).x rfl hg rfl ?_
                cases hf
                exact kJ_iret d_P_at_140 rfl rfl (Nat.zero_le _) (Nat.zero_le _)
              · have hf := kIf_f hf c4
                by_cases c5 : x3 = 5
                · have hf := kIf_t hf c5
                  refine kJ_tabIn 141 d_P_at_49 (by rw [c5]; try decide) (by rw [c5]; try decide) (by rw [c5]; try rfl) rfl ?_
                  refine kJ_aload_n 142 1 d_P_at_141 rfl rfl rfl rfl ?_
                  refine kM_getR 145 0 1 d_P_at_142 l_P_10 (kp_0).x rfl rfl rfl rfl ?_
                  refine kJ_iload_n 146 2 d_P_at_145 rfl rfl rfl ?_
                  refine kJ_aload 148 0 d_P_at_146 rfl rfl rfl ?_
                  obtain ⟨v5, ev5, hf⟩ := kBi_some hf
                  refine kM_callv 151 m_C_isRecused [.int x1, .ref (1 + 10 + 5 * kx x2)] [] d_P_at_148 cl_P_188 ⟨w_442, w_20⟩ (kp_1).x ⟨rfl, by decide⟩ ⟨_, _, rfl⟩ rfl rfl (Nat.le_of_ble_eq_true rfl) ⟨Nat.le_of_ble_eq_true rfl, Nat.le_of_ble_eq_true rfl⟩ ⟨rfl, rfl⟩ ⟨Nat.zero_le _, Nat.zero_le _⟩ (j_C_isRecused hro kp_1 (kC_item kp_1 (kIn_lt hg1)) ev5) rfl ?_
                  refine kJ_if_eq 154 158 d_P_at_151 rfl rfl (fun hc => ?_) (fun hc => ?_)
                  · have hf := kIf_f hf (kB2_0 hc)
                    refine kJ_iconst 159 0 d_P_at_158 ki_0 rfl ?_
                    cases hf
                    exact kJ_iret d_P_at_159 rfl rfl (Nat.zero_le _) (Nat.zero_le _)
                  · have hf := kIf_t hf (kB2_1 hc)
                    refine kJ_iconst 155 1 d_P_at_154 ki_1 rfl ?_
                    refine kJ_goto 159 d_P_at_155 rfl ?_
                    cases hf
                    exact kJ_iret d_P_at_159 rfl rfl (Nat.zero_le _) (Nat.zero_le _)
                · have hf := kIf_f hf c5
                  by_cases c6 : x3 = 6
                  · have hf := kIf_t hf c6
                    refine kJ_tabIn 160 d_P_at_49 (by rw [c6]; try decide) (by rw [c6]; try decide) (by rw [c6]; try rfl) rfl ?_
                    refine kJ_aload_n 161 1 d_P_at_160 rfl rfl rfl rfl ?_
                    refine kM_getR 164 140 141 d_P_at_161 l_P_22 (kp_0).x rfl rfl rfl rfl ?_
                    refine kJ_aload_n 165 1 d_P_at_164 rfl rfl rfl rfl ?_
                    refine kM_getR 168 0 1 d_P_at_165 l_P_10 (kp_0).x rfl rfl rfl rfl ?_
                    refine kJ_iload_n 169 2 d_P_at_168 rfl rfl rfl ?_
                    obtain ⟨v6, ev6, hf⟩ := kBi_some hf
                    refine kM_callv 172 m_H_spokenForBy [.ref 1, .int x1] [] d_P_at_169 cl_P_192 ⟨w_493, w_30⟩ (kp_141).x ⟨rfl, by decide⟩ ⟨_, _, rfl⟩ rfl rfl (Nat.le_of_ble_eq_true rfl) ⟨Nat.le_of_ble_eq_true rfl, Nat.le_of_ble_eq_true rfl⟩ ⟨rfl, rfl⟩ ⟨Nat.zero_le _, Nat.zero_le _⟩ (j_H_spokenForBy hro kp_141 kp_1 ev6) rfl ?_
                    cases hf
                    exact kJ_iret d_P_at_172 rfl rfl (Nat.zero_le _) (Nat.zero_le _)
                  · have hf := kIf_f hf c6
                    refine kJ_tabOut 173 d_P_at_49 (by have t0 := kne 0 c0 rfl; have t1 := kne 1 c1 rfl; have t2 := kne 2 c2 rfl; have t3 := kne 3 c3 rfl; have t4 := kne 4 c4 rfl; have t5 := kne 5 c5 rfl; have t6 := kne 6 c6 rfl; omega) rfl ?_
                    refine kJ_bipush 175 (-2) d_P_at_173 kb_m2 rfl ?_
                    cases hf
                    exact kJ_iret d_P_at_175 rfl rfl (Nat.zero_le _) (Nat.zero_le _)
    · have hf := kIf_f hf (kB2_0 hc)
      refine kJ_iconst 23 (-1) d_P_at_22 ki_m1 rfl ?_
      cases hf
      exact kJ_iret d_P_at_23 rfl rfl (Nat.zero_le _) (Nat.zero_le _)
def b_H_outcome_67 (h : kH) (x4 : Int32) (x5 : Int32) : Option Int32 := if x4 ≤ x5 then (some 4) else (some 3)
theorem c_H_outcome_67 {E : kE} {L : Nat} {xs : Nat → Int32} (hro : kRo E L xs) {K : List Nat} {h : kH} {x4 : Int32} {x5 : Int32} {r : Int32} (hf : b_H_outcome_67 h x4 x5 = some r) : kJ E m_H_outcome (some r) (mk K h) 0 0 67 [(4, .int x4), (5, .int x5)] [] (mk K h) := by
  unfold b_H_outcome_67 at hf
  refine kJ_iload 69 0 d_H_outcome_67 rfl rfl ?_
  refine kJ_iload 71 1 d_H_outcome_69 rfl rfl ?_
  refine kJ_icmp_le 74 78 d_H_outcome_71 rfl rfl (fun hc => ?_) (fun hc => ?_)
  · have hf := kIf_t hf hc
    refine kJ_iconst 79 4 d_H_outcome_78 ki_4 rfl ?_
    cases hf
    exact kJ_iret d_H_outcome_79 rfl rfl (Nat.zero_le _) (Nat.zero_le _)
  · have hf := kIf_f hf hc
    refine kJ_iconst 75 3 d_H_outcome_74 ki_3 rfl ?_
    refine kJ_goto 79 d_H_outcome_75 rfl ?_
    cases hf
    exact kJ_iret d_H_outcome_79 rfl rfl (Nat.zero_le _) (Nat.zero_le _)
def f_H_outcome (h : kH) (x0 : Nat) (x1 : Nat) (x2 : Nat) (x3 : Int32) : Option Int32 := kG 1 6 (kLet ((h (x0 + 3) (kx 1)) + x3) fun v1 => kG 2 6 (kLet (h x2 0) fun v2 => (if v2 = 0 then (if v1 = (h (x0 + 3) (kx 2)) then (kG 5 6 (if (h (x1 + 1) (kx 5)) = 1 then (some 2) else (b_H_outcome_67 h v1 (h (x0 + 3) (kx 2))))) else (b_H_outcome_67 h v1 (h (x0 + 3) (kx 2)))) else (if v2 = 1 then (if v1 ≤ 0 then (some 4) else (if (3 * v1) < (2 * (v1 + (h (x0 + 3) (kx 2)))) then (some 4) else (some 3))) else (if v1 ≤ 0 then (some 4) else (kG 0 6 (if (h (x0 + 3) (kx 0)) = 0 then (if (h (x0 + 3) (kx 2)) = 0 then (some 3) else (some 4)) else (some 4))))))))
theorem j_H_outcome {E : kE} {L : Nat} {xs : Nat → Int32} (hro : kRo E L xs) {K : List Nat} {h : kH} {x0 : Nat} {x1 : Nat} {x2 : Nat} {x3 : Int32} (k0 : kIs x0 1) (k1 : kIs x1 0) (k2 : kIs x2 3) {r : Int32} (hf : f_H_outcome h x0 x1 x2 x3 = some r) : JM E m_H_outcome [.ref x0, .ref x1, .ref x2, .int x3] (mk K h) (some r) (mk K h) := by
  unfold f_H_outcome at hf
  refine JM.of pn_H (Nat.le_of_ble_eq_true rfl) ?_
  show kJ E m_H_outcome (some r) (mk K h) 0 0 0 [(0, .ref x0), (1, .ref x1), (2, .ref x2), (3, .int x3)] [] (mk K h)
  refine kJ_aload_n 1 0 d_H_outcome_0 rfl rfl rfl rfl ?_
  refine kM_getR 4 2 (x0 + 3) d_H_outcome_1 l_H_18 (k0).x rfl rfl rfl rfl ?_
  refine kJ_iconst 5 1 d_H_outcome_4 ki_1 rfl ?_
  obtain ⟨hg, hf⟩ := kG_some hf
  refine kM_iald 6 6 d_H_outcome_5 ((kk_1_2 k0)).x rfl hg rfl ?_
  refine kJ_iload_n 7 3 d_H_outcome_6 rfl rfl rfl ?_
  refine kJ_iadd 8 d_H_outcome_7 rfl ?_
  obtain ⟨v1, ev1, hf⟩ := kLet_e hf
  rw [← ev1]
  refine kJ_istore 10 [(4, .int v1), (0, .ref x0), (1, .ref x1), (2, .ref x2), (3, .int x3)] d_H_outcome_8 (Nat.le_of_ble_eq_true rfl) rfl rfl ?_
  refine kJ_aload_n 11 1 d_H_outcome_10 rfl rfl rfl rfl ?_
  refine kM_getR 14 2 (x0 + 3) d_H_outcome_11 l_H_18 (k0).x rfl rfl rfl rfl ?_
  refine kJ_iconst 15 2 d_H_outcome_14 ki_2 rfl ?_
  obtain ⟨hg, hf⟩ := kG_some hf
  refine kM_iald 16 6 d_H_outcome_15 ((kk_1_2 k0)).x rfl hg rfl ?_
  refine kJ_istore 18 [(5, .int (h (x0 + 3) (kx 2))), (4, .int v1), (0, .ref x0), (1, .ref x1), (2, .ref x2), (3, .int x3)] d_H_outcome_16 (Nat.le_of_ble_eq_true rfl) rfl rfl ?_
  refine kJ_aload_n 19 4 d_H_outcome_18 rfl rfl rfl rfl ?_
  refine kM_getI 22 d_H_outcome_19 l_H_69 (k2).x rfl rfl rfl ?_
  obtain ⟨v2, ev2, hf⟩ := kLet_e hf
  rw [← ev2]
  by_cases c0 : v2 = 0
  · have hf := kIf_t hf c0
    refine kJ_lookup 48 d_H_outcome_22 (by decide) (by rw [c0]; try rfl) rfl ?_
    refine kJ_iload 50 1 d_H_outcome_48 rfl rfl ?_
    refine kJ_iload 52 0 d_H_outcome_50 rfl rfl ?_
    refine kJ_icmp_ne 55 67 d_H_outcome_52 rfl rfl (fun hc => ?_) (fun hc => ?_)
    · have hf := kIf_f hf hc
      refine kJ_sub [1, 0] rfl ?_
      exact c_H_outcome_67 hro hf
    · have hf := kIf_t hf hc
      refine kJ_aload_n 56 3 d_H_outcome_55 rfl rfl rfl rfl ?_
      refine kM_getR 59 0 (x1 + 1) d_H_outcome_56 l_H_48 (k1).x rfl rfl rfl rfl ?_
      refine kJ_iconst 60 5 d_H_outcome_59 ki_5 rfl ?_
      obtain ⟨hg, hf⟩ := kG_some hf
      refine kM_iald 61 6 d_H_outcome_60 ((kk_0_5 k1)).x rfl hg rfl ?_
      refine kJ_iconst 62 1 d_H_outcome_61 ki_1 rfl ?_
      refine kJ_icmp_ne 65 67 d_H_outcome_62 rfl rfl (fun hc => ?_) (fun hc => ?_)
      · have hf := kIf_f hf hc
        refine kJ_sub [1, 0] rfl ?_
        exact c_H_outcome_67 hro hf
      · have hf := kIf_t hf hc
        refine kJ_iconst 66 2 d_H_outcome_65 ki_2 rfl ?_
        cases hf
        exact kJ_iret d_H_outcome_66 rfl rfl (Nat.zero_le _) (Nat.zero_le _)
  · have hf := kIf_f hf c0
    by_cases c1 : v2 = 1
    · have hf := kIf_t hf c1
      refine kJ_lookup 80 d_H_outcome_22 (by decide) (by rw [c1]; try rfl) rfl ?_
      refine kJ_iload 82 1 d_H_outcome_80 rfl rfl ?_
      refine kJ_if_le 85 103 d_H_outcome_82 rfl rfl (fun hc => ?_) (fun hc => ?_)
      · have hf := kIf_t hf hc
        refine kJ_iconst 104 4 d_H_outcome_103 ki_4 rfl ?_
        cases hf
        exact kJ_iret d_H_outcome_104 rfl rfl (Nat.zero_le _) (Nat.zero_le _)
      · have hf := kIf_f hf hc
        refine kJ_iconst 86 3 d_H_outcome_85 ki_3 rfl ?_
        refine kJ_iload 88 1 d_H_outcome_86 rfl rfl ?_
        refine kJ_imul 89 d_H_outcome_88 rfl ?_
        refine kJ_iconst 90 2 d_H_outcome_89 ki_2 rfl ?_
        refine kJ_iload 92 1 d_H_outcome_90 rfl rfl ?_
        refine kJ_iload 94 0 d_H_outcome_92 rfl rfl ?_
        refine kJ_iadd 95 d_H_outcome_94 rfl ?_
        refine kJ_imul 96 d_H_outcome_95 rfl ?_
        refine kJ_icmp_lt 99 103 d_H_outcome_96 rfl rfl (fun hc => ?_) (fun hc => ?_)
        · have hf := kIf_t hf hc
          refine kJ_iconst 104 4 d_H_outcome_103 ki_4 rfl ?_
          cases hf
          exact kJ_iret d_H_outcome_104 rfl rfl (Nat.zero_le _) (Nat.zero_le _)
        · have hf := kIf_f hf hc
          refine kJ_iconst 100 3 d_H_outcome_99 ki_3 rfl ?_
          refine kJ_goto 104 d_H_outcome_100 rfl ?_
          cases hf
          exact kJ_iret d_H_outcome_104 rfl rfl (Nat.zero_le _) (Nat.zero_le _)
    · have hf := kIf_f hf c1
      refine kJ_lookup 105 d_H_outcome_22 (by decide) ((lv_osw c0 rfl).trans ((lv_osw c1 rfl).trans rfl)) rfl ?_
      refine kJ_iload 107 1 d_H_outcome_105 rfl rfl ?_
      refine kJ_if_le 110 128 d_H_outcome_107 rfl rfl (fun hc => ?_) (fun hc => ?_)
      · have hf := kIf_t hf hc
        refine kJ_iconst 129 4 d_H_outcome_128 ki_4 rfl ?_
        cases hf
        exact kJ_iret d_H_outcome_129 rfl rfl (Nat.zero_le _) (Nat.zero_le _)
      · have hf := kIf_f hf hc
        refine kJ_aload_n 111 2 d_H_outcome_110 rfl rfl rfl rfl ?_
        refine kM_getR 114 2 (x0 + 3) d_H_outcome_111 l_H_18 (k0).x rfl rfl rfl rfl ?_
        refine kJ_iconst 115 0 d_H_outcome_114 ki_0 rfl ?_
        obtain ⟨hg, hf⟩ := kG_some hf
        refine kM_iald 116 6 d_H_outcome_115 ((kk_1_2 k0)).x rfl hg rfl ?_
        refine kJ_if_ne 119 128 d_H_outcome_116 rfl rfl (fun hc => ?_) (fun hc => ?_)
        · have hf := kIf_f hf hc
          refine kJ_iconst 129 4 d_H_outcome_128 ki_4 rfl ?_
          cases hf
          exact kJ_iret d_H_outcome_129 rfl rfl (Nat.zero_le _) (Nat.zero_le _)
        · have hf := kIf_t hf hc
          refine kJ_iload 121 0 d_H_outcome_119 rfl rfl ?_
          refine kJ_if_ne 124 128 d_H_outcome_121 rfl rfl (fun hc => ?_) (fun hc => ?_)
          · have hf := kIf_f hf hc
            refine kJ_iconst 129 4 d_H_outcome_128 ki_4 rfl ?_
            cases hf
            exact kJ_iret d_H_outcome_129 rfl rfl (Nat.zero_le _) (Nat.zero_le _)
          · have hf := kIf_t hf hc
            refine kJ_iconst 125 3 d_H_outcome_124 ki_3 rfl ?_
            refine kJ_goto 129 d_H_outcome_125 rfl ?_
            cases hf
            exact kJ_iret d_H_outcome_129 rfl rfl (Nat.zero_le _) (Nat.zero_le _)
def f_P_wouldBe (h : kH) (x1 : Int32) : Option (Int32 × kH) := if (f_C_hasItem h 1 x1) = true then (kG x1 12 (if (f_I_isPending h (1 + 10 + 5 * kx x1)) = true then (kBi (f_H_listen h 141 1 (1 + 10 + 5 * kx x1)) fun h2 => kBi (f_H_tally h2 141 1 (1 + 10 + 5 * kx x1)) fun h3 => kBi (f_H_outcome h3 141 1 (1 + 10 + 5 * kx x1) 0) fun v4 => some (v4, h3)) else (some ((-5), h)))) else (some ((-1), h))
theorem j_P_wouldBe {E : kE} {L : Nat} {xs : Nat → Int32} (hro : kRo E L xs) {K : List Nat} {h : kH} {x1 : Int32} {r : Int32} {h' : kH} (hf : f_P_wouldBe h x1 = some (r, h')) : JM E m_P_wouldBe [.ref 0, .int x1] (mk K h) (some r) (mk K h') := by
  unfold f_P_wouldBe at hf
  refine JM.of pn_P (Nat.le_of_ble_eq_true rfl) ?_
  show kJ E m_P_wouldBe (some r) (mk K h') 0 0 0 [(0, .ref 0), (1, .int x1)] [] (mk K h)
  refine kJ_aload_n 1 0 d_P_wouldBe_0 rfl rfl rfl rfl ?_
  refine kM_getR 4 0 1 d_P_wouldBe_1 l_P_10 (kp_0).x rfl rfl rfl rfl ?_
  refine kJ_iload_n 5 1 d_P_wouldBe_4 rfl rfl rfl ?_
  refine kM_callv 8 m_C_hasItem [.int x1] [] d_P_wouldBe_5 cl_P_134 ⟨w_433, w_18⟩ (kp_1).x ⟨rfl, by decide⟩ ⟨_, _, rfl⟩ rfl rfl (Nat.le_of_ble_eq_true rfl) ⟨Nat.le_of_ble_eq_true rfl, Nat.le_of_ble_eq_true rfl⟩ ⟨rfl, rfl⟩ ⟨Nat.zero_le _, Nat.zero_le _⟩ (j_C_hasItem hro kp_1 rfl) rfl ?_
  refine kJ_if_ne 11 13 d_P_wouldBe_8 rfl rfl (fun hc => ?_) (fun hc => ?_)
  · have hf := kIf_t hf (kB2_1 hc)
    refine kJ_aload_n 14 0 d_P_wouldBe_13 rfl rfl rfl rfl ?_
    refine kM_getR 17 0 1 d_P_wouldBe_14 l_P_10 (kp_0).x rfl rfl rfl rfl ?_
    refine kM_getR 20 4 6 d_P_wouldBe_17 l_P_137 (kp_1).x rfl rfl rfl rfl ?_
    refine kJ_iload_n 21 1 d_P_wouldBe_20 rfl rfl rfl ?_
    obtain ⟨hg1, hf⟩ := kG_some hf
    refine kM_aald 22 12 5 5 (1 + 10 + 5 * kx x1) d_P_wouldBe_21 ((kk_0_9 kp_1)).x rfl (by decide) (Or.inl rfl) hg1 (by simp only [Nat.add_assoc, kx]; try omega) rfl ?_
    refine kJ_astore_n 23 [(2, .ref (1 + 10 + 5 * kx x1)), (0, .ref 0), (1, .int x1)] d_P_wouldBe_22 rfl (Nat.le_of_ble_eq_true rfl) rfl rfl rfl ?_
    refine kJ_aload_n 24 0 d_P_wouldBe_23 rfl rfl rfl rfl ?_
    refine kM_callv 27 m_I_isPending [] [] d_P_wouldBe_24 cl_P_242 ⟨w_472, w_27⟩ ((kC_item kp_1 (kIn_lt hg1))).x ⟨rfl, by decide⟩ ⟨_, _, rfl⟩ rfl rfl (Nat.le_of_ble_eq_true rfl) ⟨Nat.le_of_ble_eq_true rfl, Nat.le_of_ble_eq_true rfl⟩ ⟨rfl, rfl⟩ ⟨Nat.zero_le _, Nat.zero_le _⟩ (j_I_isPending hro (kC_item kp_1 (kIn_lt hg1)) rfl) rfl ?_
    refine kJ_if_ne 30 33 d_P_wouldBe_27 rfl rfl (fun hc => ?_) (fun hc => ?_)
    · have hf := kIf_t hf (kB2_1 hc)
      refine kJ_aload_n 34 1 d_P_wouldBe_33 rfl rfl rfl rfl ?_
      refine kM_getR 37 140 141 d_P_wouldBe_34 l_P_22 (kp_0).x rfl rfl rfl rfl ?_
      refine kJ_aload_n 38 1 d_P_wouldBe_37 rfl rfl rfl rfl ?_
      refine kM_getR 41 0 1 d_P_wouldBe_38 l_P_10 (kp_0).x rfl rfl rfl rfl ?_
      refine kJ_aload_n 42 0 d_P_wouldBe_41 rfl rfl rfl rfl ?_
      obtain ⟨h2, eh2, hf⟩ := kBi_some hf
      refine kM_callv 45 m_H_listen [.ref 1, .ref (1 + 10 + 5 * kx x1)] [] d_P_wouldBe_42 cl_P_159 ⟨w_437, w_19⟩ (kp_141).x ⟨rfl, by decide⟩ ⟨_, _, rfl⟩ rfl rfl (Nat.le_of_ble_eq_true rfl) ⟨Nat.le_of_ble_eq_true rfl, Nat.le_of_ble_eq_true rfl⟩ ⟨rfl, rfl⟩ ⟨Nat.zero_le _, Nat.zero_le _⟩ (j_H_listen hro kp_141 kp_1 (kC_item kp_1 (kIn_lt hg1)) eh2) rfl ?_
      refine kJ_aload_n 46 1 d_P_wouldBe_45 rfl rfl rfl rfl ?_
      refine kM_getR 49 140 141 d_P_wouldBe_46 l_P_22 (kp_0).x rfl rfl rfl rfl ?_
      refine kJ_aload_n 50 1 d_P_wouldBe_49 rfl rfl rfl rfl ?_
      refine kM_getR 53 0 1 d_P_wouldBe_50 l_P_10 (kp_0).x rfl rfl rfl rfl ?_
      refine kJ_aload_n 54 0 d_P_wouldBe_53 rfl rfl rfl rfl ?_
      obtain ⟨h3, eh3, hf⟩ := kBi_some hf
      refine kM_callv 57 m_H_tally [.ref 1, .ref (1 + 10 + 5 * kx x1)] [] d_P_wouldBe_54 cl_P_249 ⟨w_476, w_28⟩ (kp_141).x ⟨rfl, by decide⟩ ⟨_, _, rfl⟩ rfl rfl (Nat.le_of_ble_eq_true rfl) ⟨Nat.le_of_ble_eq_true rfl, Nat.le_of_ble_eq_true rfl⟩ ⟨rfl, rfl⟩ ⟨Nat.zero_le _, Nat.zero_le _⟩ (j_H_tally hro kp_141 kp_1 (kC_item kp_1 (kIn_lt hg1)) eh3) rfl ?_
      refine kJ_aload_n 58 1 d_P_wouldBe_57 rfl rfl rfl rfl ?_
      refine kM_getR 61 140 141 d_P_wouldBe_58 l_P_22 (kp_0).x rfl rfl rfl rfl ?_
      refine kJ_aload_n 62 1 d_P_wouldBe_61 rfl rfl rfl rfl ?_
      refine kM_getR 65 0 1 d_P_wouldBe_62 l_P_10 (kp_0).x rfl rfl rfl rfl ?_
      refine kJ_aload_n 66 0 d_P_wouldBe_65 rfl rfl rfl rfl ?_
      refine kJ_iconst 67 0 d_P_wouldBe_66 ki_0 rfl ?_
      obtain ⟨v4, ev4, hf⟩ := kBi_some hf
      refine kM_callv 70 m_H_outcome [.ref 1, .ref (1 + 10 + 5 * kx x1), .int 0] [] d_P_wouldBe_67 cl_P_253 ⟨w_517, w_31⟩ (kp_141).x ⟨rfl, by decide⟩ ⟨_, _, rfl⟩ rfl rfl (Nat.le_of_ble_eq_true rfl) ⟨Nat.le_of_ble_eq_true rfl, Nat.le_of_ble_eq_true rfl⟩ ⟨rfl, rfl⟩ ⟨Nat.zero_le _, Nat.zero_le _⟩ (j_H_outcome hro kp_141 kp_1 (kC_item kp_1 (kIn_lt hg1)) ev4) rfl ?_
      cases hf
      exact kJ_iret d_P_wouldBe_70 rfl rfl (Nat.zero_le _) (Nat.zero_le _)
    · have hf := kIf_f hf (kB2_0 hc)
      refine kJ_bipush 32 (-5) d_P_wouldBe_30 kb_m5 rfl ?_
      cases hf
      exact kJ_iret d_P_wouldBe_32 rfl rfl (Nat.zero_le _) (Nat.zero_le _)
  · have hf := kIf_f hf (kB2_0 hc)
    refine kJ_iconst 12 (-1) d_P_wouldBe_11 ki_m1 rfl ?_
    cases hf
    exact kJ_iret d_P_wouldBe_12 rfl rfl (Nat.zero_le _) (Nat.zero_le _)
def f_JI_bitCount (x0 : Int32) : Int32 := kLet (x0 - ((kUshr x0 1) &&& 1431655765)) fun v1 => kLet ((v1 &&& 858993459) + ((kUshr v1 2) &&& 858993459)) fun v2 => kLet ((v2 + (kUshr v2 4)) &&& 252645135) fun v3 => kLet ((v3 + (kUshr v3 8)) + (kUshr (v3 + (kUshr v3 8)) 16)) fun v4 => (v4 &&& 63)
theorem j_JI_bitCount {E : kE} {L : Nat} {xs : Nat → Int32} (hro : kRo E L xs) {K : List Nat} {h0 : kH} {x0 : Int32} {r : Int32} (hf : f_JI_bitCount x0 = r) : JM E m_JI_bitCount [.int x0] (mk K h0) (some r) (mk K h0) := by
  unfold f_JI_bitCount at hf
  refine JM.of pn_JI (Nat.le_of_ble_eq_true rfl) ?_
  show kJ E m_JI_bitCount (some r) (mk K h0) 0 0 0 [(0, .int x0)] [] (mk K h0)
  refine kJ_iload_n 1 0 d_JI_bitCount_0 rfl rfl rfl ?_
  refine kJ_iload_n 2 0 d_JI_bitCount_1 rfl rfl rfl ?_
  refine kJ_iconst 3 1 d_JI_bitCount_2 ki_1 rfl ?_
  refine kJ_iushr 4 d_JI_bitCount_3 rfl ?_
  refine kJ_ldcw 7 1431655765 d_JI_bitCount_4 w_539 rfl ?_
  refine kJ_iand 8 d_JI_bitCount_7 rfl ?_
  refine kJ_isub 9 d_JI_bitCount_8 rfl ?_
  obtain ⟨v1, ev1, hf⟩ := kLet_e hf
  rw [← ev1]
  refine kJ_istore_n 10 [(0, .int v1)] d_JI_bitCount_9 rfl (Nat.le_of_ble_eq_true rfl) rfl rfl ?_
  refine kJ_iload_n 11 0 d_JI_bitCount_10 rfl rfl rfl ?_
  refine kJ_ldcw 14 858993459 d_JI_bitCount_11 w_540 rfl ?_
  refine kJ_iand 15 d_JI_bitCount_14 rfl ?_
  refine kJ_iload_n 16 0 d_JI_bitCount_15 rfl rfl rfl ?_
  refine kJ_iconst 17 2 d_JI_bitCount_16 ki_2 rfl ?_
  refine kJ_iushr 18 d_JI_bitCount_17 rfl ?_
  refine kJ_ldcw 21 858993459 d_JI_bitCount_18 w_540 rfl ?_
  refine kJ_iand 22 d_JI_bitCount_21 rfl ?_
  refine kJ_iadd 23 d_JI_bitCount_22 rfl ?_
  obtain ⟨v2, ev2, hf⟩ := kLet_e hf
  rw [← ev2]
  refine kJ_istore_n 24 [(0, .int v2)] d_JI_bitCount_23 rfl (Nat.le_of_ble_eq_true rfl) rfl rfl ?_
  refine kJ_iload_n 25 0 d_JI_bitCount_24 rfl rfl rfl ?_
  refine kJ_iload_n 26 0 d_JI_bitCount_25 rfl rfl rfl ?_
  refine kJ_iconst 27 4 d_JI_bitCount_26 ki_4 rfl ?_
  refine kJ_iushr 28 d_JI_bitCount_27 rfl ?_
  refine kJ_iadd 29 d_JI_bitCount_28 rfl ?_
  refine kJ_ldcw 32 252645135 d_JI_bitCount_29 w_541 rfl ?_
  refine kJ_iand 33 d_JI_bitCount_32 rfl ?_
  obtain ⟨v3, ev3, hf⟩ := kLet_e hf
  rw [← ev3]
  refine kJ_istore_n 34 [(0, .int v3)] d_JI_bitCount_33 rfl (Nat.le_of_ble_eq_true rfl) rfl rfl ?_
  refine kJ_iload_n 35 0 d_JI_bitCount_34 rfl rfl rfl ?_
  refine kJ_iload_n 36 0 d_JI_bitCount_35 rfl rfl rfl ?_
  refine kJ_bipush 38 8 d_JI_bitCount_36 kb_8 rfl ?_
  refine kJ_iushr 39 d_JI_bitCount_38 rfl ?_
  refine kJ_iadd 40 d_JI_bitCount_39 rfl ?_
  refine kJ_istore_n 41 [(0, .int (v3 + (kUshr v3 8)))] d_JI_bitCount_40 rfl (Nat.le_of_ble_eq_true rfl) rfl rfl ?_
  refine kJ_iload_n 42 0 d_JI_bitCount_41 rfl rfl rfl ?_
  refine kJ_iload_n 43 0 d_JI_bitCount_42 rfl rfl rfl ?_
  refine kJ_bipush 45 16 d_JI_bitCount_43 kb_16 rfl ?_
  refine kJ_iushr 46 d_JI_bitCount_45 rfl ?_
  refine kJ_iadd 47 d_JI_bitCount_46 rfl ?_
  obtain ⟨v4, ev4, hf⟩ := kLet_e hf
  rw [← ev4]
  refine kJ_istore_n 48 [(0, .int v4)] d_JI_bitCount_47 rfl (Nat.le_of_ble_eq_true rfl) rfl rfl ?_
  refine kJ_iload_n 49 0 d_JI_bitCount_48 rfl rfl rfl ?_
  refine kJ_bipush 51 63 d_JI_bitCount_49 kb_63 rfl ?_
  refine kJ_iand 52 d_JI_bitCount_51 rfl ?_
  subst hf
  exact kJ_iret d_JI_bitCount_52 rfl rfl (Nat.zero_le _) (Nat.zero_le _)
def f_C_bringIn (h : kH) (x0 : Nat) (x1 : Int32) : Option (Int32 × kH) := if (f_C_hasMember h x0 x1) = true then (if (f_C_isPresent h x0 x1) = true then (some ((-5), h)) else (kLet (hset h x0 3 ((h x0 3) ||| (1 <<< (x1 &&& 31)))) fun h1 => some ((f_JI_bitCount (h1 x0 3)), h1))) else (some ((-1), h))
theorem j_C_bringIn {E : kE} {L : Nat} {xs : Nat → Int32} (hro : kRo E L xs) {K : List Nat} {h : kH} {x0 : Nat} {x1 : Int32} (k0 : kIs x0 0) {r : Int32} {h' : kH} (hf : f_C_bringIn h x0 x1 = some (r, h')) : JM E m_C_bringIn [.ref x0, .int x1] (mk K h) (some r) (mk K h') := by
  unfold f_C_bringIn at hf
  refine JM.of pn_C (Nat.le_of_ble_eq_true rfl) ?_
  show kJ E m_C_bringIn (some r) (mk K h') 0 0 0 [(0, .ref x0), (1, .int x1)] [] (mk K h)
  refine kJ_aload_n 1 0 d_C_bringIn_0 rfl rfl rfl rfl ?_
  refine kJ_iload_n 2 1 d_C_bringIn_1 rfl rfl rfl ?_
  refine kM_callv 5 m_C_hasMember [.int x1] [] d_C_bringIn_2 cl_C_105 ⟨w_377, w_10⟩ (k0).x ⟨rfl, by decide⟩ ⟨_, _, rfl⟩ rfl rfl (Nat.le_of_ble_eq_true rfl) ⟨Nat.le_of_ble_eq_true rfl, Nat.le_of_ble_eq_true rfl⟩ ⟨rfl, rfl⟩ ⟨Nat.zero_le _, Nat.zero_le _⟩ (j_C_hasMember hro k0 rfl) rfl ?_
  refine kJ_if_ne 8 10 d_C_bringIn_5 rfl rfl (fun hc => ?_) (fun hc => ?_)
  · have hf := kIf_t hf (kB2_1 hc)
    refine kJ_aload_n 11 0 d_C_bringIn_10 rfl rfl rfl rfl ?_
    refine kJ_iload_n 12 1 d_C_bringIn_11 rfl rfl rfl ?_
    refine kM_callv 15 m_C_isPresent [.int x1] [] d_C_bringIn_12 cl_C_76 ⟨w_386, w_11⟩ (k0).x ⟨rfl, by decide⟩ ⟨_, _, rfl⟩ rfl rfl (Nat.le_of_ble_eq_true rfl) ⟨Nat.le_of_ble_eq_true rfl, Nat.le_of_ble_eq_true rfl⟩ ⟨rfl, rfl⟩ ⟨Nat.zero_le _, Nat.zero_le _⟩ (j_C_isPresent hro k0 rfl) rfl ?_
    refine kJ_if_eq 18 21 d_C_bringIn_15 rfl rfl (fun hc => ?_) (fun hc => ?_)
    · have hf := kIf_f hf (kB2_0 hc)
      refine kJ_aload_n 22 0 d_C_bringIn_21 rfl rfl rfl rfl ?_
      refine kJ_dup 23 d_C_bringIn_22 rfl rfl ?_
      refine kM_getI 26 d_C_bringIn_23 l_C_60 (k0).x rfl rfl rfl ?_
      refine kJ_iconst 27 1 d_C_bringIn_26 ki_1 rfl ?_
      refine kJ_iload_n 28 1 d_C_bringIn_27 rfl rfl rfl ?_
      refine kJ_ishl 29 d_C_bringIn_28 rfl ?_
      refine kJ_ior 30 d_C_bringIn_29 rfl ?_
      refine kM_put 33 d_C_bringIn_30 l_C_60 (k0).x rfl rfl (kFit_int _) rfl ?_
      obtain ⟨h1, eh1, hf⟩ := kLet_e hf
      rw [← eh1]
      refine kJ_aload_n 34 0 d_C_bringIn_33 rfl rfl rfl rfl ?_
      refine kM_getI 37 d_C_bringIn_34 l_C_60 (k0).x rfl rfl rfl ?_
      refine kM_calls 40 m_JI_bitCount [.int (h1 x0 3)] [] d_C_bringIn_37 cl_C_108 w_537 rfl rfl (Nat.le_of_ble_eq_true rfl) ⟨Nat.le_of_ble_eq_true rfl, Nat.le_of_ble_eq_true rfl⟩ ⟨rfl, rfl⟩ ⟨Nat.zero_le _, Nat.zero_le _⟩ (j_JI_bitCount hro rfl) rfl ?_
      cases hf
      exact kJ_iret d_C_bringIn_40 rfl rfl (Nat.zero_le _) (Nat.zero_le _)
    · have hf := kIf_t hf (kB2_1 hc)
      refine kJ_bipush 20 (-5) d_C_bringIn_18 kb_m5 rfl ?_
      cases hf
      exact kJ_iret d_C_bringIn_20 rfl rfl (Nat.zero_le _) (Nat.zero_le _)
  · have hf := kIf_f hf (kB2_0 hc)
    refine kJ_iconst 9 (-1) d_C_bringIn_8 ki_m1 rfl ?_
    cases hf
    exact kJ_iret d_C_bringIn_9 rfl rfl (Nat.zero_le _) (Nat.zero_le _)
def f_P_come (h : kH) (x1 : Int32) : Option (Int32 × kH) := kBi (f_Y_note h 145 1) fun h1 => kBd (f_C_bringIn h1 1 x1) fun v3 h2 => kBd (f_Y_settle h2 145 v3) fun v5 h4 => some (v5, h4)
theorem j_P_come {E : kE} {L : Nat} {xs : Nat → Int32} (hro : kRo E L xs) {K : List Nat} {h : kH} {x1 : Int32} {r : Int32} {h' : kH} (hf : f_P_come h x1 = some (r, h')) : JM E m_P_come [.ref 0, .int x1] (mk K h) (some r) (mk K h') := by
  unfold f_P_come at hf
  refine JM.of pn_P (Nat.le_of_ble_eq_true rfl) ?_
  show kJ E m_P_come (some r) (mk K h') 0 0 0 [(0, .ref 0), (1, .int x1)] [] (mk K h)
  refine kJ_aload_n 1 0 d_P_come_0 rfl rfl rfl rfl ?_
  refine kM_getR 4 144 145 d_P_come_1 l_P_29 (kp_0).x rfl rfl rfl rfl ?_
  refine kJ_aload_n 5 0 d_P_come_4 rfl rfl rfl rfl ?_
  refine kM_getR 8 0 1 d_P_come_5 l_P_10 (kp_0).x rfl rfl rfl rfl ?_
  obtain ⟨h1, eh1, hf⟩ := kBi_some hf
  refine kM_callv 11 m_Y_note [.ref 1] [] d_P_come_8 cl_P_55 ⟨w_312, w_0⟩ (kp_145).x ⟨rfl, by decide⟩ ⟨_, _, rfl⟩ rfl rfl (Nat.le_of_ble_eq_true rfl) ⟨Nat.le_of_ble_eq_true rfl, Nat.le_of_ble_eq_true rfl⟩ ⟨rfl, rfl⟩ ⟨Nat.zero_le _, Nat.zero_le _⟩ (j_Y_note hro kp_145 kp_1 eh1) rfl ?_
  refine kJ_aload_n 12 0 d_P_come_11 rfl rfl rfl rfl ?_
  refine kM_getR 15 144 145 d_P_come_12 l_P_29 (kp_0).x rfl rfl rfl rfl ?_
  refine kJ_aload_n 16 0 d_P_come_15 rfl rfl rfl rfl ?_
  refine kM_getR 19 0 1 d_P_come_16 l_P_10 (kp_0).x rfl rfl rfl rfl ?_
  refine kJ_iload_n 20 1 d_P_come_19 rfl rfl rfl ?_
  obtain ⟨v3, h2, ev3, hf⟩ := kBd_some hf
  refine kM_callv 23 m_C_bringIn [.int x1] [.ref 145] d_P_come_20 cl_P_76 ⟨w_534, w_32⟩ (kp_1).x ⟨rfl, by decide⟩ ⟨_, _, rfl⟩ rfl rfl (Nat.le_of_ble_eq_true rfl) ⟨Nat.le_of_ble_eq_true rfl, Nat.le_of_ble_eq_true rfl⟩ ⟨rfl, rfl⟩ ⟨Nat.zero_le _, Nat.zero_le _⟩ (j_C_bringIn hro kp_1 ev3) rfl ?_
  obtain ⟨v5, h4, ev5, hf⟩ := kBd_some hf
  refine kM_callv 26 m_Y_settle [.int v3] [] d_P_come_23 cl_P_63 ⟨w_336, w_5⟩ (kp_145).x ⟨rfl, by decide⟩ ⟨_, _, rfl⟩ rfl rfl (Nat.le_of_ble_eq_true rfl) ⟨Nat.le_of_ble_eq_true rfl, Nat.le_of_ble_eq_true rfl⟩ ⟨rfl, rfl⟩ ⟨Nat.zero_le _, Nat.zero_le _⟩ (j_Y_settle hro kp_145 ev5) rfl ?_
  cases hf
  exact kJ_iret d_P_come_26 rfl rfl (Nat.zero_le _) (Nat.zero_le _)
def f_C_sendAway (h : kH) (x0 : Nat) (x1 : Int32) : Option (Int32 × kH) := if (f_C_hasMember h x0 x1) = true then (if (f_C_isPresent h x0 x1) = true then (kLet (hset h x0 3 ((h x0 3) &&& ((1 <<< (x1 &&& 31)) ^^^ (-1)))) fun h1 => some ((f_JI_bitCount (h1 x0 3)), h1)) else (some ((-5), h))) else (some ((-1), h))
theorem j_C_sendAway {E : kE} {L : Nat} {xs : Nat → Int32} (hro : kRo E L xs) {K : List Nat} {h : kH} {x0 : Nat} {x1 : Int32} (k0 : kIs x0 0) {r : Int32} {h' : kH} (hf : f_C_sendAway h x0 x1 = some (r, h')) : JM E m_C_sendAway [.ref x0, .int x1] (mk K h) (some r) (mk K h') := by
  unfold f_C_sendAway at hf
  refine JM.of pn_C (Nat.le_of_ble_eq_true rfl) ?_
  show kJ E m_C_sendAway (some r) (mk K h') 0 0 0 [(0, .ref x0), (1, .int x1)] [] (mk K h)
  refine kJ_aload_n 1 0 d_C_sendAway_0 rfl rfl rfl rfl ?_
  refine kJ_iload_n 2 1 d_C_sendAway_1 rfl rfl rfl ?_
  refine kM_callv 5 m_C_hasMember [.int x1] [] d_C_sendAway_2 cl_C_105 ⟨w_377, w_10⟩ (k0).x ⟨rfl, by decide⟩ ⟨_, _, rfl⟩ rfl rfl (Nat.le_of_ble_eq_true rfl) ⟨Nat.le_of_ble_eq_true rfl, Nat.le_of_ble_eq_true rfl⟩ ⟨rfl, rfl⟩ ⟨Nat.zero_le _, Nat.zero_le _⟩ (j_C_hasMember hro k0 rfl) rfl ?_
  refine kJ_if_ne 8 10 d_C_sendAway_5 rfl rfl (fun hc => ?_) (fun hc => ?_)
  · have hf := kIf_t hf (kB2_1 hc)
    refine kJ_aload_n 11 0 d_C_sendAway_10 rfl rfl rfl rfl ?_
    refine kJ_iload_n 12 1 d_C_sendAway_11 rfl rfl rfl ?_
    refine kM_callv 15 m_C_isPresent [.int x1] [] d_C_sendAway_12 cl_C_76 ⟨w_386, w_11⟩ (k0).x ⟨rfl, by decide⟩ ⟨_, _, rfl⟩ rfl rfl (Nat.le_of_ble_eq_true rfl) ⟨Nat.le_of_ble_eq_true rfl, Nat.le_of_ble_eq_true rfl⟩ ⟨rfl, rfl⟩ ⟨Nat.zero_le _, Nat.zero_le _⟩ (j_C_isPresent hro k0 rfl) rfl ?_
    refine kJ_if_ne 18 21 d_C_sendAway_15 rfl rfl (fun hc => ?_) (fun hc => ?_)
    · have hf := kIf_t hf (kB2_1 hc)
      refine kJ_aload_n 22 0 d_C_sendAway_21 rfl rfl rfl rfl ?_
      refine kJ_dup 23 d_C_sendAway_22 rfl rfl ?_
      refine kM_getI 26 d_C_sendAway_23 l_C_60 (k0).x rfl rfl rfl ?_
      refine kJ_iconst 27 1 d_C_sendAway_26 ki_1 rfl ?_
      refine kJ_iload_n 28 1 d_C_sendAway_27 rfl rfl rfl ?_
      refine kJ_ishl 29 d_C_sendAway_28 rfl ?_
      refine kJ_iconst 30 (-1) d_C_sendAway_29 ki_m1 rfl ?_
      refine kJ_ixor 31 d_C_sendAway_30 rfl ?_
      refine kJ_iand 32 d_C_sendAway_31 rfl ?_
      refine kM_put 35 d_C_sendAway_32 l_C_60 (k0).x rfl rfl (kFit_int _) rfl ?_
      obtain ⟨h1, eh1, hf⟩ := kLet_e hf
      rw [← eh1]
      refine kJ_aload_n 36 0 d_C_sendAway_35 rfl rfl rfl rfl ?_
      refine kM_getI 39 d_C_sendAway_36 l_C_60 (k0).x rfl rfl rfl ?_
      refine kM_calls 42 m_JI_bitCount [.int (h1 x0 3)] [] d_C_sendAway_39 cl_C_108 w_537 rfl rfl (Nat.le_of_ble_eq_true rfl) ⟨Nat.le_of_ble_eq_true rfl, Nat.le_of_ble_eq_true rfl⟩ ⟨rfl, rfl⟩ ⟨Nat.zero_le _, Nat.zero_le _⟩ (j_JI_bitCount hro rfl) rfl ?_
      cases hf
      exact kJ_iret d_C_sendAway_42 rfl rfl (Nat.zero_le _) (Nat.zero_le _)
    · have hf := kIf_f hf (kB2_0 hc)
      refine kJ_bipush 20 (-5) d_C_sendAway_18 kb_m5 rfl ?_
      cases hf
      exact kJ_iret d_C_sendAway_20 rfl rfl (Nat.zero_le _) (Nat.zero_le _)
  · have hf := kIf_f hf (kB2_0 hc)
    refine kJ_iconst 9 (-1) d_C_sendAway_8 ki_m1 rfl ?_
    cases hf
    exact kJ_iret d_C_sendAway_9 rfl rfl (Nat.zero_le _) (Nat.zero_le _)
def f_P_go (h : kH) (x1 : Int32) : Option (Int32 × kH) := kBi (f_Y_note h 145 1) fun h1 => kBd (f_C_sendAway h1 1 x1) fun v3 h2 => kBd (f_Y_settle h2 145 v3) fun v5 h4 => some (v5, h4)
theorem j_P_go {E : kE} {L : Nat} {xs : Nat → Int32} (hro : kRo E L xs) {K : List Nat} {h : kH} {x1 : Int32} {r : Int32} {h' : kH} (hf : f_P_go h x1 = some (r, h')) : JM E m_P_go [.ref 0, .int x1] (mk K h) (some r) (mk K h') := by
  unfold f_P_go at hf
  refine JM.of pn_P (Nat.le_of_ble_eq_true rfl) ?_
  show kJ E m_P_go (some r) (mk K h') 0 0 0 [(0, .ref 0), (1, .int x1)] [] (mk K h)
  refine kJ_aload_n 1 0 d_P_go_0 rfl rfl rfl rfl ?_
  refine kM_getR 4 144 145 d_P_go_1 l_P_29 (kp_0).x rfl rfl rfl rfl ?_
  refine kJ_aload_n 5 0 d_P_go_4 rfl rfl rfl rfl ?_
  refine kM_getR 8 0 1 d_P_go_5 l_P_10 (kp_0).x rfl rfl rfl rfl ?_
  obtain ⟨h1, eh1, hf⟩ := kBi_some hf
  refine kM_callv 11 m_Y_note [.ref 1] [] d_P_go_8 cl_P_55 ⟨w_312, w_0⟩ (kp_145).x ⟨rfl, by decide⟩ ⟨_, _, rfl⟩ rfl rfl (Nat.le_of_ble_eq_true rfl) ⟨Nat.le_of_ble_eq_true rfl, Nat.le_of_ble_eq_true rfl⟩ ⟨rfl, rfl⟩ ⟨Nat.zero_le _, Nat.zero_le _⟩ (j_Y_note hro kp_145 kp_1 eh1) rfl ?_
  refine kJ_aload_n 12 0 d_P_go_11 rfl rfl rfl rfl ?_
  refine kM_getR 15 144 145 d_P_go_12 l_P_29 (kp_0).x rfl rfl rfl rfl ?_
  refine kJ_aload_n 16 0 d_P_go_15 rfl rfl rfl rfl ?_
  refine kM_getR 19 0 1 d_P_go_16 l_P_10 (kp_0).x rfl rfl rfl rfl ?_
  refine kJ_iload_n 20 1 d_P_go_19 rfl rfl rfl ?_
  obtain ⟨v3, h2, ev3, hf⟩ := kBd_some hf
  refine kM_callv 23 m_C_sendAway [.int x1] [.ref 145] d_P_go_20 cl_P_79 ⟨w_548, w_33⟩ (kp_1).x ⟨rfl, by decide⟩ ⟨_, _, rfl⟩ rfl rfl (Nat.le_of_ble_eq_true rfl) ⟨Nat.le_of_ble_eq_true rfl, Nat.le_of_ble_eq_true rfl⟩ ⟨rfl, rfl⟩ ⟨Nat.zero_le _, Nat.zero_le _⟩ (j_C_sendAway hro kp_1 ev3) rfl ?_
  obtain ⟨v5, h4, ev5, hf⟩ := kBd_some hf
  refine kM_callv 26 m_Y_settle [.int v3] [] d_P_go_23 cl_P_63 ⟨w_336, w_5⟩ (kp_145).x ⟨rfl, by decide⟩ ⟨_, _, rfl⟩ rfl rfl (Nat.le_of_ble_eq_true rfl) ⟨Nat.le_of_ble_eq_true rfl, Nat.le_of_ble_eq_true rfl⟩ ⟨rfl, rfl⟩ ⟨Nat.zero_le _, Nat.zero_le _⟩ (j_Y_settle hro kp_145 ev5) rfl ?_
  cases hf
  exact kJ_iret d_P_go_26 rfl rfl (Nat.zero_le _) (Nat.zero_le _)
def b_C_nameHolder_100 (h : kH) (x1 : Int32) (x3 : Int32) (s0 : Nat) : Option (Int32 × kH) := kG x1 12 (kG x1 12 (kLet (hset h s0 (kx x1) x3) fun h2 => some ((h s0 (kx x1)), h2)))
theorem c_C_nameHolder_100 {E : kE} {L : Nat} {xs : Nat → Int32} (hro : kRo E L xs) {K : List Nat} {h : kH} {x1 : Int32} {x3 : Int32} {s0 : Nat} (ks0 : kIs s0 9) {r : Int32} {h' : kH} (hf : b_C_nameHolder_100 h x1 x3 s0 = some (r, h')) : kJ E m_C_nameHolder (some r) (mk K h') 0 0 100 [(1, .int x1), (3, .int x3)] [.ref s0] (mk K h) := by
  unfold b_C_nameHolder_100 at hf
  refine kJ_astore 102 [(7, .ref s0), (1, .int x1), (3, .int x3)] d_C_nameHolder_100 (Nat.le_of_ble_eq_true rfl) rfl rfl rfl ?_
  refine kJ_aload 104 0 d_C_nameHolder_102 rfl rfl rfl ?_
  refine kJ_iload_n 105 1 d_C_nameHolder_104 rfl rfl rfl ?_
  obtain ⟨hg, hf⟩ := kG_some hf
  refine kM_iald 106 12 d_C_nameHolder_105 (ks0).x rfl hg rfl ?_
  refine kJ_istore 108 [(8, .int (h s0 (kx x1))), (7, .ref s0), (1, .int x1), (3, .int x3)] d_C_nameHolder_106 (Nat.le_of_ble_eq_true rfl) rfl rfl ?_
  refine kJ_aload 110 1 d_C_nameHolder_108 rfl rfl rfl ?_
  refine kJ_iload_n 111 2 d_C_nameHolder_110 rfl rfl rfl ?_
  refine kJ_iload_n 112 3 d_C_nameHolder_111 rfl rfl rfl ?_
  obtain ⟨hg, hf⟩ := kG_some hf
  refine kM_iast 113 12 d_C_nameHolder_112 (ks0).x rfl hg rfl ?_
  obtain ⟨h2, eh2, hf⟩ := kLet_e hf
  rw [← eh2]
  refine kJ_iload 115 0 d_C_nameHolder_113 rfl rfl ?_
  cases hf
  exact kJ_iret d_C_nameHolder_115 rfl rfl (Nat.zero_le _) (Nat.zero_le _)
def b_C_nameHolder_57 (h : kH) (x0 : Nat) (x1 : Int32) (x2 : Int32) (x3 : Int32) (x4 : Int32) (x5 : Int32) (s0 : Bool) : Option (Int32 × kH) := if (f_C_hasMember h x0 x1) = true then (if x5 = 0 then (some ((-1), h)) else (if s0 = true then (if x4 = 0 then (kG x2 12 (b_C_nameHolder_100 h x1 x3 ((x0 + 10 + 5 * kx x2) + 4))) else (b_C_nameHolder_100 h x1 x3 (x0 + 4))) else (some ((-1), h)))) else (some ((-1), h))
theorem c_C_nameHolder_57 {E : kE} {L : Nat} {xs : Nat → Int32} (hro : kRo E L xs) {K : List Nat} {h : kH} {x0 : Nat} {x1 : Int32} {x2 : Int32} {x3 : Int32} {x4 : Int32} {x5 : Int32} {s0 : Bool} (k0 : kIs x0 0) {r : Int32} {h' : kH} (hf : b_C_nameHolder_57 h x0 x1 x2 x3 x4 x5 s0 = some (r, h')) : kJ E m_C_nameHolder (some r) (mk K h') 0 0 57 [(0, .ref x0), (1, .int x1), (2, .int x2), (3, .int x3), (4, .int x4), (5, .int x5)] [.int (kB2 s0)] (mk K h) := by
  unfold b_C_nameHolder_57 at hf
  refine kJ_istore 59 [(6, .int (kB2 s0)), (0, .ref x0), (1, .int x1), (2, .int x2), (3, .int x3), (4, .int x4), (5, .int x5)] d_C_nameHolder_57 (Nat.le_of_ble_eq_true rfl) rfl rfl ?_
  refine kJ_aload_n 60 1 d_C_nameHolder_59 rfl rfl rfl rfl ?_
  refine kJ_iload_n 61 2 d_C_nameHolder_60 rfl rfl rfl ?_
  refine kM_callv 64 m_C_hasMember [.int x1] [] d_C_nameHolder_61 cl_C_105 ⟨w_377, w_10⟩ (k0).x ⟨rfl, by decide⟩ ⟨_, _, rfl⟩ rfl rfl (Nat.le_of_ble_eq_true rfl) ⟨Nat.le_of_ble_eq_true rfl, Nat.le_of_ble_eq_true rfl⟩ ⟨rfl, rfl⟩ ⟨Nat.zero_le _, Nat.zero_le _⟩ (j_C_hasMember hro k0 rfl) rfl ?_
  refine kJ_if_eq 67 77 d_C_nameHolder_64 rfl rfl (fun hc => ?_) (fun hc => ?_)
  · have hf := kIf_f hf (kB2_0 hc)
    refine kJ_iconst 78 (-1) d_C_nameHolder_77 ki_m1 rfl ?_
    cases hf
    exact kJ_iret d_C_nameHolder_78 rfl rfl (Nat.zero_le _) (Nat.zero_le _)
  · have hf := kIf_t hf (kB2_1 hc)
    refine kJ_iload 69 6 d_C_nameHolder_67 rfl rfl ?_
    refine kJ_if_eq 72 77 d_C_nameHolder_69 rfl rfl (fun hc => ?_) (fun hc => ?_)
    · have hf := kIf_t hf hc
      refine kJ_iconst 78 (-1) d_C_nameHolder_77 ki_m1 rfl ?_
      cases hf
      exact kJ_iret d_C_nameHolder_78 rfl rfl (Nat.zero_le _) (Nat.zero_le _)
    · have hf := kIf_f hf hc
      refine kJ_iload 74 0 d_C_nameHolder_72 rfl rfl ?_
      refine kJ_if_ne 77 79 d_C_nameHolder_74 rfl rfl (fun hc => ?_) (fun hc => ?_)
      · have hf := kIf_t hf (kB2_1 hc)
        refine kJ_iload 81 5 d_C_nameHolder_79 rfl rfl ?_
        refine kJ_if_eq 84 91 d_C_nameHolder_81 rfl rfl (fun hc => ?_) (fun hc => ?_)
        · have hf := kIf_t hf hc
          refine kJ_aload_n 92 1 d_C_nameHolder_91 rfl rfl rfl rfl ?_
          refine kM_getR 95 4 (x0 + 5) d_C_nameHolder_92 l_C_30 (k0).x rfl rfl rfl rfl ?_
          refine kJ_iload_n 96 3 d_C_nameHolder_95 rfl rfl rfl ?_
          obtain ⟨hg1, hf⟩ := kG_some hf
          refine kM_aald 97 12 5 5 (x0 + 10 + 5 * kx x2) d_C_nameHolder_96 ((kk_0_9 k0)).x rfl (by decide) (Or.inl rfl) hg1 (by simp only [Nat.add_assoc, kx]; try omega) rfl ?_
          refine kM_getR 100 3 ((x0 + 10 + 5 * kx x2) + 4) d_C_nameHolder_97 l_C_84 ((kC_item k0 (kIn_lt hg1))).x rfl rfl rfl rfl ?_
          refine kJ_sub [2, 4] rfl ?_
          exact c_C_nameHolder_100 hro (kk_3_9 (kC_item k0 (kIn_lt hg1))) hf
        · have hf := kIf_f hf hc
          refine kJ_aload_n 85 1 d_C_nameHolder_84 rfl rfl rfl rfl ?_
          refine kM_getR 88 3 (x0 + 4) d_C_nameHolder_85 l_C_25 (k0).x rfl rfl rfl rfl ?_
          refine kJ_goto 100 d_C_nameHolder_88 rfl ?_
          refine kJ_sub [2, 4] rfl ?_
          exact c_C_nameHolder_100 hro (kk_0_8 k0) hf
      · have hf := kIf_f hf (kB2_0 hc)
        refine kJ_iconst 78 (-1) d_C_nameHolder_77 ki_m1 rfl ?_
        cases hf
        exact kJ_iret d_C_nameHolder_78 rfl rfl (Nat.zero_le _) (Nat.zero_le _)
def b_C_nameHolder_52 (h : kH) (x0 : Nat) (x1 : Int32) (x2 : Int32) (x3 : Int32) (x4 : Int32) (x5 : Int32) : Option (Int32 × kH) := b_C_nameHolder_57 h x0 x1 x2 x3 x4 x5 true
theorem c_C_nameHolder_52 {E : kE} {L : Nat} {xs : Nat → Int32} (hro : kRo E L xs) {K : List Nat} {h : kH} {x0 : Nat} {x1 : Int32} {x2 : Int32} {x3 : Int32} {x4 : Int32} {x5 : Int32} (k0 : kIs x0 0) {r : Int32} {h' : kH} (hf : b_C_nameHolder_52 h x0 x1 x2 x3 x4 x5 = some (r, h')) : kJ E m_C_nameHolder (some r) (mk K h') 0 0 52 [(0, .ref x0), (1, .int x1), (2, .int x2), (3, .int x3), (4, .int x4), (5, .int x5)] [] (mk K h) := by
  unfold b_C_nameHolder_52 at hf
  refine kJ_iconst 53 1 d_C_nameHolder_52 ki_1 rfl ?_
  refine kJ_goto 57 d_C_nameHolder_53 rfl ?_
  refine kJ_sub [0, 1, 2, 3, 4, 5] rfl ?_
  exact c_C_nameHolder_57 hro k0 hf
def b_C_nameHolder_56 (h : kH) (x0 : Nat) (x1 : Int32) (x2 : Int32) (x3 : Int32) (x4 : Int32) (x5 : Int32) : Option (Int32 × kH) := b_C_nameHolder_57 h x0 x1 x2 x3 x4 x5 false
theorem c_C_nameHolder_56 {E : kE} {L : Nat} {xs : Nat → Int32} (hro : kRo E L xs) {K : List Nat} {h : kH} {x0 : Nat} {x1 : Int32} {x2 : Int32} {x3 : Int32} {x4 : Int32} {x5 : Int32} (k0 : kIs x0 0) {r : Int32} {h' : kH} (hf : b_C_nameHolder_56 h x0 x1 x2 x3 x4 x5 = some (r, h')) : kJ E m_C_nameHolder (some r) (mk K h') 0 0 56 [(0, .ref x0), (1, .int x1), (2, .int x2), (3, .int x3), (4, .int x4), (5, .int x5)] [] (mk K h) := by
  unfold b_C_nameHolder_56 at hf
  refine kJ_iconst 57 0 d_C_nameHolder_56 ki_0 rfl ?_
  refine kJ_sub [0, 1, 2, 3, 4, 5] rfl ?_
  exact c_C_nameHolder_57 hro k0 hf
def b_C_nameHolder_31 (h : kH) (x0 : Nat) (x1 : Int32) (x2 : Int32) (x3 : Int32) (x4 : Int32) (s0 : Bool) : Option (Int32 × kH) := if x3 = (-6) then (b_C_nameHolder_52 h x0 x1 x2 x3 x4 (kB2 s0)) else (if (f_C_hasMember h x0 x3) = true then (if x3 = x1 then (b_C_nameHolder_56 h x0 x1 x2 x3 x4 (kB2 s0)) else (b_C_nameHolder_52 h x0 x1 x2 x3 x4 (kB2 s0))) else (b_C_nameHolder_56 h x0 x1 x2 x3 x4 (kB2 s0)))
theorem c_C_nameHolder_31 {E : kE} {L : Nat} {xs : Nat → Int32} (hro : kRo E L xs) {K : List Nat} {h : kH} {x0 : Nat} {x1 : Int32} {x2 : Int32} {x3 : Int32} {x4 : Int32} {s0 : Bool} (k0 : kIs x0 0) {r : Int32} {h' : kH} (hf : b_C_nameHolder_31 h x0 x1 x2 x3 x4 s0 = some (r, h')) : kJ E m_C_nameHolder (some r) (mk K h') 0 0 31 [(0, .ref x0), (1, .int x1), (2, .int x2), (3, .int x3), (4, .int x4)] [.int (kB2 s0)] (mk K h) := by
  unfold b_C_nameHolder_31 at hf
  refine kJ_istore 33 [(5, .int (kB2 s0)), (0, .ref x0), (1, .int x1), (2, .int x2), (3, .int x3), (4, .int x4)] d_C_nameHolder_31 (Nat.le_of_ble_eq_true rfl) rfl rfl ?_
  refine kJ_iload_n 34 4 d_C_nameHolder_33 rfl rfl rfl ?_
  refine kJ_bipush 36 (-6) d_C_nameHolder_34 kb_m6 rfl ?_
  refine kJ_icmp_eq 39 52 d_C_nameHolder_36 rfl rfl (fun hc => ?_) (fun hc => ?_)
  · have hf := kIf_t hf hc
    refine kJ_sub [1, 2, 3, 4, 5, 0] rfl ?_
    exact c_C_nameHolder_52 hro k0 hf
  · have hf := kIf_f hf hc
    refine kJ_aload_n 40 1 d_C_nameHolder_39 rfl rfl rfl rfl ?_
    refine kJ_iload_n 41 4 d_C_nameHolder_40 rfl rfl rfl ?_
    refine kM_callv 44 m_C_hasMember [.int x3] [] d_C_nameHolder_41 cl_C_105 ⟨w_377, w_10⟩ (k0).x ⟨rfl, by decide⟩ ⟨_, _, rfl⟩ rfl rfl (Nat.le_of_ble_eq_true rfl) ⟨Nat.le_of_ble_eq_true rfl, Nat.le_of_ble_eq_true rfl⟩ ⟨rfl, rfl⟩ ⟨Nat.zero_le _, Nat.zero_le _⟩ (j_C_hasMember hro k0 rfl) rfl ?_
    refine kJ_if_eq 47 56 d_C_nameHolder_44 rfl rfl (fun hc => ?_) (fun hc => ?_)
    · have hf := kIf_f hf (kB2_0 hc)
      refine kJ_sub [1, 2, 3, 4, 5, 0] rfl ?_
      exact c_C_nameHolder_56 hro k0 hf
    · have hf := kIf_t hf (kB2_1 hc)
      refine kJ_iload_n 48 4 d_C_nameHolder_47 rfl rfl rfl ?_
      refine kJ_iload_n 49 2 d_C_nameHolder_48 rfl rfl rfl ?_
      refine kJ_icmp_eq 52 56 d_C_nameHolder_49 rfl rfl (fun hc => ?_) (fun hc => ?_)
      · have hf := kIf_t hf hc
        refine kJ_sub [1, 2, 3, 4, 5, 0] rfl ?_
        exact c_C_nameHolder_56 hro k0 hf
      · have hf := kIf_f hf hc
        refine kJ_sub [1, 2, 3, 4, 5, 0] rfl ?_
        exact c_C_nameHolder_52 hro k0 hf
def b_C_nameHolder_26 (h : kH) (x0 : Nat) (x1 : Int32) (x2 : Int32) (x3 : Int32) (x4 : Int32) : Option (Int32 × kH) := b_C_nameHolder_31 h x0 x1 x2 x3 x4 true
theorem c_C_nameHolder_26 {E : kE} {L : Nat} {xs : Nat → Int32} (hro : kRo E L xs) {K : List Nat} {h : kH} {x0 : Nat} {x1 : Int32} {x2 : Int32} {x3 : Int32} {x4 : Int32} (k0 : kIs x0 0) {r : Int32} {h' : kH} (hf : b_C_nameHolder_26 h x0 x1 x2 x3 x4 = some (r, h')) : kJ E m_C_nameHolder (some r) (mk K h') 0 0 26 [(0, .ref x0), (1, .int x1), (2, .int x2), (3, .int x3), (4, .int x4)] [] (mk K h) := by
  unfold b_C_nameHolder_26 at hf
  refine kJ_iconst 27 1 d_C_nameHolder_26 ki_1 rfl ?_
  refine kJ_goto 31 d_C_nameHolder_27 rfl ?_
  refine kJ_sub [0, 1, 2, 3, 4] rfl ?_
  exact c_C_nameHolder_31 hro k0 hf
def b_C_nameHolder_11 (h : kH) (x0 : Nat) (x1 : Int32) (x2 : Int32) (x3 : Int32) (s0 : Bool) : Option (Int32 × kH) := if s0 = true then (b_C_nameHolder_26 h x0 x1 x2 x3 (kB2 s0)) else (if (f_C_hasItem h x0 x2) = true then (b_C_nameHolder_26 h x0 x1 x2 x3 (kB2 s0)) else (b_C_nameHolder_31 h x0 x1 x2 x3 (kB2 s0) false))
theorem c_C_nameHolder_11 {E : kE} {L : Nat} {xs : Nat → Int32} (hro : kRo E L xs) {K : List Nat} {h : kH} {x0 : Nat} {x1 : Int32} {x2 : Int32} {x3 : Int32} {s0 : Bool} (k0 : kIs x0 0) {r : Int32} {h' : kH} (hf : b_C_nameHolder_11 h x0 x1 x2 x3 s0 = some (r, h')) : kJ E m_C_nameHolder (some r) (mk K h') 0 0 11 [(0, .ref x0), (1, .int x1), (2, .int x2), (3, .int x3)] [.int (kB2 s0)] (mk K h) := by
  unfold b_C_nameHolder_11 at hf
  refine kJ_istore 13 [(4, .int (kB2 s0)), (0, .ref x0), (1, .int x1), (2, .int x2), (3, .int x3)] d_C_nameHolder_11 (Nat.le_of_ble_eq_true rfl) rfl rfl ?_
  refine kJ_iload 15 0 d_C_nameHolder_13 rfl rfl ?_
  refine kJ_if_ne 18 26 d_C_nameHolder_15 rfl rfl (fun hc => ?_) (fun hc => ?_)
  · have hf := kIf_t hf (kB2_1 hc)
    refine kJ_sub [1, 2, 3, 4, 0] rfl ?_
    exact c_C_nameHolder_26 hro k0 hf
  · have hf := kIf_f hf (kB2_0 hc)
    refine kJ_aload_n 19 1 d_C_nameHolder_18 rfl rfl rfl rfl ?_
    refine kJ_iload_n 20 3 d_C_nameHolder_19 rfl rfl rfl ?_
    refine kM_callv 23 m_C_hasItem [.int x2] [] d_C_nameHolder_20 cl_C_121 ⟨w_433, w_18⟩ (k0).x ⟨rfl, by decide⟩ ⟨_, _, rfl⟩ rfl rfl (Nat.le_of_ble_eq_true rfl) ⟨Nat.le_of_ble_eq_true rfl, Nat.le_of_ble_eq_true rfl⟩ ⟨rfl, rfl⟩ ⟨Nat.zero_le _, Nat.zero_le _⟩ (j_C_hasItem hro k0 rfl) rfl ?_
    refine kJ_if_eq 26 30 d_C_nameHolder_23 rfl rfl (fun hc => ?_) (fun hc => ?_)
    · have hf := kIf_f hf (kB2_0 hc)
      refine kJ_iconst 31 0 d_C_nameHolder_30 ki_0 rfl ?_
      refine kJ_sub [1, 2, 3, 4, 0] rfl ?_
      exact c_C_nameHolder_31 hro k0 hf
    · have hf := kIf_t hf (kB2_1 hc)
      refine kJ_sub [1, 2, 3, 4, 0] rfl ?_
      exact c_C_nameHolder_26 hro k0 hf
def f_C_nameHolder (h : kH) (x0 : Nat) (x1 : Int32) (x2 : Int32) (x3 : Int32) : Option (Int32 × kH) := if x2 = (-6) then (b_C_nameHolder_11 h x0 x1 x2 x3 true) else (b_C_nameHolder_11 h x0 x1 x2 x3 false)
theorem j_C_nameHolder {E : kE} {L : Nat} {xs : Nat → Int32} (hro : kRo E L xs) {K : List Nat} {h : kH} {x0 : Nat} {x1 : Int32} {x2 : Int32} {x3 : Int32} (k0 : kIs x0 0) {r : Int32} {h' : kH} (hf : f_C_nameHolder h x0 x1 x2 x3 = some (r, h')) : JM E m_C_nameHolder [.ref x0, .int x1, .int x2, .int x3] (mk K h) (some r) (mk K h') := by
  unfold f_C_nameHolder at hf
  refine JM.of pn_C (Nat.le_of_ble_eq_true rfl) ?_
  show kJ E m_C_nameHolder (some r) (mk K h') 0 0 0 [(0, .ref x0), (1, .int x1), (2, .int x2), (3, .int x3)] [] (mk K h)
  refine kJ_iload_n 1 2 d_C_nameHolder_0 rfl rfl rfl ?_
  refine kJ_bipush 3 (-6) d_C_nameHolder_1 kb_m6 rfl ?_
  refine kJ_icmp_ne 6 10 d_C_nameHolder_3 rfl rfl (fun hc => ?_) (fun hc => ?_)
  · have hf := kIf_f hf hc
    refine kJ_iconst 11 0 d_C_nameHolder_10 ki_0 rfl ?_
    refine kJ_sub [0, 1, 2, 3] rfl ?_
    exact c_C_nameHolder_11 hro k0 hf
  · have hf := kIf_t hf hc
    refine kJ_iconst 7 1 d_C_nameHolder_6 ki_1 rfl ?_
    refine kJ_goto 11 d_C_nameHolder_7 rfl ?_
    refine kJ_sub [0, 1, 2, 3] rfl ?_
    exact c_C_nameHolder_11 hro k0 hf
def f_P_proxy (h : kH) (x1 : Int32) (x2 : Int32) (x3 : Int32) : Option (Int32 × kH) := kBi (f_Y_note h 145 1) fun h1 => kBd (f_C_nameHolder h1 1 x1 x2 x3) fun v3 h2 => kBd (f_Y_settle h2 145 v3) fun v5 h4 => some (v5, h4)
theorem j_P_proxy {E : kE} {L : Nat} {xs : Nat → Int32} (hro : kRo E L xs) {K : List Nat} {h : kH} {x1 : Int32} {x2 : Int32} {x3 : Int32} {r : Int32} {h' : kH} (hf : f_P_proxy h x1 x2 x3 = some (r, h')) : JM E m_P_proxy [.ref 0, .int x1, .int x2, .int x3] (mk K h) (some r) (mk K h') := by
  unfold f_P_proxy at hf
  refine JM.of pn_P (Nat.le_of_ble_eq_true rfl) ?_
  show kJ E m_P_proxy (some r) (mk K h') 0 0 0 [(0, .ref 0), (1, .int x1), (2, .int x2), (3, .int x3)] [] (mk K h)
  refine kJ_aload_n 1 0 d_P_proxy_0 rfl rfl rfl rfl ?_
  refine kM_getR 4 144 145 d_P_proxy_1 l_P_29 (kp_0).x rfl rfl rfl rfl ?_
  refine kJ_aload_n 5 0 d_P_proxy_4 rfl rfl rfl rfl ?_
  refine kM_getR 8 0 1 d_P_proxy_5 l_P_10 (kp_0).x rfl rfl rfl rfl ?_
  obtain ⟨h1, eh1, hf⟩ := kBi_some hf
  refine kM_callv 11 m_Y_note [.ref 1] [] d_P_proxy_8 cl_P_55 ⟨w_312, w_0⟩ (kp_145).x ⟨rfl, by decide⟩ ⟨_, _, rfl⟩ rfl rfl (Nat.le_of_ble_eq_true rfl) ⟨Nat.le_of_ble_eq_true rfl, Nat.le_of_ble_eq_true rfl⟩ ⟨rfl, rfl⟩ ⟨Nat.zero_le _, Nat.zero_le _⟩ (j_Y_note hro kp_145 kp_1 eh1) rfl ?_
  refine kJ_aload_n 12 0 d_P_proxy_11 rfl rfl rfl rfl ?_
  refine kM_getR 15 144 145 d_P_proxy_12 l_P_29 (kp_0).x rfl rfl rfl rfl ?_
  refine kJ_aload_n 16 0 d_P_proxy_15 rfl rfl rfl rfl ?_
  refine kM_getR 19 0 1 d_P_proxy_16 l_P_10 (kp_0).x rfl rfl rfl rfl ?_
  refine kJ_iload_n 20 1 d_P_proxy_19 rfl rfl rfl ?_
  refine kJ_iload_n 21 2 d_P_proxy_20 rfl rfl rfl ?_
  refine kJ_iload_n 22 3 d_P_proxy_21 rfl rfl rfl ?_
  obtain ⟨v3, h2, ev3, hf⟩ := kBd_some hf
  refine kM_callv 25 m_C_nameHolder [.int x1, .int x2, .int x3] [.ref 145] d_P_proxy_22 cl_P_86 ⟨w_562, w_34⟩ (kp_1).x ⟨rfl, by decide⟩ ⟨_, _, rfl⟩ rfl rfl (Nat.le_of_ble_eq_true rfl) ⟨Nat.le_of_ble_eq_true rfl, Nat.le_of_ble_eq_true rfl⟩ ⟨rfl, rfl⟩ ⟨Nat.zero_le _, Nat.zero_le _⟩ (j_C_nameHolder hro kp_1 ev3) rfl ?_
  obtain ⟨v5, h4, ev5, hf⟩ := kBd_some hf
  refine kM_callv 28 m_Y_settle [.int v3] [] d_P_proxy_25 cl_P_63 ⟨w_336, w_5⟩ (kp_145).x ⟨rfl, by decide⟩ ⟨_, _, rfl⟩ rfl rfl (Nat.le_of_ble_eq_true rfl) ⟨Nat.le_of_ble_eq_true rfl, Nat.le_of_ble_eq_true rfl⟩ ⟨rfl, rfl⟩ ⟨Nat.zero_le _, Nat.zero_le _⟩ (j_Y_settle hro kp_145 ev5) rfl ?_
  cases hf
  exact kJ_iret d_P_proxy_28 rfl rfl (Nat.zero_le _) (Nat.zero_le _)
def f_P_isChoice (x0 : Int32) : Bool := if x0 < 0 then false else (if 2 < x0 then false else true)
theorem j_P_isChoice {E : kE} {L : Nat} {xs : Nat → Int32} (hro : kRo E L xs) {K : List Nat} {h0 : kH} {x0 : Int32} {r : Bool} (hf : f_P_isChoice x0 = r) : JM E m_P_isChoice [.int x0] (mk K h0) (some (kB2 r)) (mk K h0) := by
  unfold f_P_isChoice at hf
  refine JM.of pn_P (Nat.le_of_ble_eq_true rfl) ?_
  show kJ E m_P_isChoice (some (kB2 r)) (mk K h0) 0 0 0 [(0, .int x0)] [] (mk K h0)
  refine kJ_iload_n 1 0 d_P_isChoice_0 rfl rfl rfl ?_
  refine kJ_if_lt 4 13 d_P_isChoice_1 rfl rfl (fun hc => ?_) (fun hc => ?_)
  · have hf := kIf_t hf hc
    refine kJ_iconst 14 0 d_P_isChoice_13 ki_0 rfl ?_
    subst hf
    exact kJ_iret d_P_isChoice_14 rfl (kB2_z _) (Nat.zero_le _) (Nat.zero_le _)
  · have hf := kIf_f hf hc
    refine kJ_iload_n 5 0 d_P_isChoice_4 rfl rfl rfl ?_
    refine kJ_iconst 6 2 d_P_isChoice_5 ki_2 rfl ?_
    refine kJ_icmp_gt 9 13 d_P_isChoice_6 rfl rfl (fun hc => ?_) (fun hc => ?_)
    · have hf := kIf_t hf hc
      refine kJ_iconst 14 0 d_P_isChoice_13 ki_0 rfl ?_
      subst hf
      exact kJ_iret d_P_isChoice_14 rfl (kB2_z _) (Nat.zero_le _) (Nat.zero_le _)
    · have hf := kIf_f hf hc
      refine kJ_iconst 10 1 d_P_isChoice_9 ki_1 rfl ?_
      refine kJ_goto 14 d_P_isChoice_10 rfl ?_
      subst hf
      exact kJ_iret d_P_isChoice_14 rfl (kB2_z _) (Nat.zero_le _) (Nat.zero_le _)
