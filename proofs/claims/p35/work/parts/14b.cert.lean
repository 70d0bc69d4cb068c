/-! CODE of the methods as functions, with certificates: printed by wip/p35/emit.py. -/
def b_C_weightOfAll_4 (h : kH) (x0 : Nat) : Nat → Int32 → Int32 → Option Int32
  | 0, _, _ => none
  | n + 1, x1, x2 => (fun rec4 => if (h x0 1) ≤ x2 then (some x1) else (kG x2 12 (kLet (x1 + (h (x0 + 2) (kx x2))) fun v1 => rec4 v1 (x2 + 1)))) (fun x1' x2' => b_C_weightOfAll_4 h x0 n x1' x2')
theorem c_C_weightOfAll_4 {E : kE} {L : Nat} {xs : Nat → Int32} (hro : kRo E L xs) {K : List Nat} {h : kH} {x0 : Nat} (k0 : kIs x0 0) {r : Int32} : ∀ (n : Nat) (x1 : Int32) (x2 : Int32), b_C_weightOfAll_4 h x0 n x1 x2 = some r → kJ E m_C_weightOfAll (some r) (mk K h) 0 0 4 [(0, .ref x0), (1, .int x1), (2, .int x2)] [] (mk K h) := by
  intro n
  induction n with
  | zero =>
    intro x1 x2 hf
    have hf : (none : Option Int32) = some r := hf
    cases hf
  | succ n hrec4 =>
    intro x1 x2 hf
    rw [b_C_weightOfAll_4] at hf
    dsimp only at hf
    refine kJ_iload_n 5 2 d_C_weightOfAll_4 rfl rfl rfl ?_
    refine kJ_aload_n 6 0 d_C_weightOfAll_5 rfl rfl rfl rfl ?_
    refine kM_getI 9 d_C_weightOfAll_6 l_C_54 (k0).x rfl rfl rfl ?_
    refine kJ_icmp_ge 12 27 d_C_weightOfAll_9 rfl rfl (fun hc => ?_) (fun hc => ?_)
    · have hf := kIf_t hf hc
      refine kJ_iload_n 28 1 d_C_weightOfAll_27 rfl rfl rfl ?_
      cases hf
      exact kJ_iret d_C_weightOfAll_28 rfl rfl (Nat.zero_le _) (Nat.zero_le _)
    · have hf := kIf_f hf hc
      refine kJ_iload_n 13 1 d_C_weightOfAll_12 rfl rfl rfl ?_
      refine kJ_aload_n 14 0 d_C_weightOfAll_13 rfl rfl rfl rfl ?_
      refine kM_getR 17 1 (x0 + 2) d_C_weightOfAll_14 l_C_19 (k0).x rfl rfl rfl rfl ?_
      refine kJ_iload_n 18 2 d_C_weightOfAll_17 rfl rfl rfl ?_
      obtain ⟨hg, hf⟩ := kG_some hf
      refine kM_iald 19 12 d_C_weightOfAll_18 ((kk_0_6 k0)).x rfl hg rfl ?_
      refine kJ_iadd 20 d_C_weightOfAll_19 rfl ?_
      obtain ⟨v1, ev1, hf⟩ := kLet_e hf
      rw [← ev1]
      refine kJ_istore_n 21 [(1, .int v1), (0, .ref x0), (2, .int x2)] d_C_weightOfAll_20 rfl (Nat.le_of_ble_eq_true rfl) rfl rfl ?_
      refine kJ_iinc 24 2 [(2, .int (x2 + 1)), (1, .int v1), (0, .ref x0)] d_C_weightOfAll_21 rfl ki_1 (Nat.le_of_ble_eq_true rfl) rfl rfl ?_
      refine kJ_goto 4 d_C_weightOfAll_24 rfl ?_
      refine kJ_sub [2, 1, 0] rfl ?_
      exact hrec4 v1 (x2 + 1) hf
def f_C_weightOfAll (h : kH) (x0 : Nat) : Option Int32 := b_C_weightOfAll_4 h x0 kFuel 0 0
theorem j_C_weightOfAll {E : kE} {L : Nat} {xs : Nat → Int32} (hro : kRo E L xs) {K : List Nat} {h : kH} {x0 : Nat} (k0 : kIs x0 0) {r : Int32} (hf : f_C_weightOfAll h x0 = some r) : JM E m_C_weightOfAll [.ref x0] (mk K h) (some r) (mk K h) := by
  unfold f_C_weightOfAll at hf
  refine JM.of pn_C (Nat.le_of_ble_eq_true rfl) ?_
  show kJ E m_C_weightOfAll (some r) (mk K h) 0 0 0 [(0, .ref x0)] [] (mk K h)
  refine kJ_iconst 1 0 d_C_weightOfAll_0 ki_0 rfl ?_
  refine kJ_istore_n 2 [(1, .int 0), (0, .ref x0)] d_C_weightOfAll_1 rfl (Nat.le_of_ble_eq_true rfl) rfl rfl ?_
  refine kJ_iconst 3 0 d_C_weightOfAll_2 ki_0 rfl ?_
  refine kJ_istore_n 4 [(2, .int 0), (1, .int 0), (0, .ref x0)] d_C_weightOfAll_3 rfl (Nat.le_of_ble_eq_true rfl) rfl rfl ?_
  refine kJ_sub [2, 1, 0] rfl ?_
  exact c_C_weightOfAll_4 hro k0 kFuel 0 0 hf
def b_P_count_49 (h : kH) (x1 : Int32) : Option Int32 := if x1 = 0 then (some (h 1 0)) else (if x1 = 1 then (some (h 1 1)) else (if x1 = 2 then (some (h 1 2)) else (if x1 = 3 then (some (h 1 3)) else (if x1 = 4 then (kBi (f_C_firstIn h 1 1) fun v2 => some v2) else (if x1 = 5 then (some (h 1 4)) else (if x1 = 6 then (kBi (f_C_chairOfTheMoment h 1) fun v3 => some v3) else (if x1 = 7 then (kBi (f_C_weightOfAll h 1) fun v4 => some v4) else (if x1 = 8 then (some (-2)) else (if x1 = 9 then (some (-2)) else (if x1 = 10 then (some (-2)) else (if x1 = 11 then (some (-2)) else (if x1 = 12 then (some (-2)) else (if x1 = 13 then (some (h 7 0)) else (if x1 = 14 then (some (h 637 1)) else (if x1 = 15 then (some (h 145 2)) else (some (-2)))))))))))))))))
theorem c_P_count_49 {E : kE} {L : Nat} {xs : Nat → Int32} (hro : kRo E L xs) {K : List Nat} {h : kH} {x1 : Int32} {r : Int32} (hf : b_P_count_49 h x1 = some r) : kJ E m_P_count (some r) (mk K h) 0 0 49 [(0, .ref 0), (1, .int x1)] [] (mk K h) := by
  unfold b_P_count_49 at hf
  refine kJ_iload_n 50 1 d_P_count_49 rfl rfl rfl ?_
  by_cases c0 : x1 = 0
  · have hf := kIf_t hf c0
    refine kJ_tabIn 128 d_P_count_50 (by rw [c0]; try decide) (by rw [c0]; try decide) (by rw [c0]; try rfl) rfl ?_
    refine kJ_aload_n 129 0 d_P_count_128 rfl rfl rfl rfl ?_
    refine kM_getR 132 0 1 d_P_count_129 l_P_10 (kp_0).x rfl rfl rfl rfl ?_
    refine kM_getI 135 d_P_count_132 l_P_202 (kp_1).x rfl rfl rfl ?_
    cases hf
    exact kJ_iret d_P_count_135 rfl rfl (Nat.zero_le _) (Nat.zero_le _)
  · have hf := kIf_f hf c0
    by_cases c1 : x1 = 1
    · have hf := kIf_t hf c1
      refine kJ_tabIn 136 d_P_count_50 (by rw [c1]; try decide) (by rw [c1]; try decide) (by rw [c1]; try rfl) rfl ?_
      refine kJ_aload_n 137 0 d_P_count_136 rfl rfl rfl rfl ?_
      refine kM_getR 140 0 1 d_P_count_137 l_P_10 (kp_0).x rfl rfl rfl rfl ?_
      refine kM_getI 143 d_P_count_140 l_P_205 (kp_1).x rfl rfl rfl ?_
      cases hf
      exact kJ_iret d_P_count_143 rfl rfl (Nat.zero_le _) (Nat.zero_le _)
    · have hf := kIf_f hf c1
      by_cases c2 : x1 = 2
      · have hf := kIf_t hf c2
        refine kJ_tabIn 144 d_P_count_50 (by rw [c2]; try decide) (by rw [c2]; try decide) (by rw [c2]; try rfl) rfl ?_
        refine kJ_aload_n 145 0 d_P_count_144 rfl rfl rfl rfl ?_
        refine kM_getR 148 0 1 d_P_count_145 l_P_10 (kp_0).x rfl rfl rfl rfl ?_
        refine kM_getI 151 d_P_count_148 l_P_208 (kp_1).x rfl rfl rfl ?_
        cases hf
        exact kJ_iret d_P_count_151 rfl rfl (Nat.zero_le _) (Nat.zero_le _)
      · have hf := kIf_f hf c2
        by_cases c3 : x1 = 3
        · have hf := kIf_t hf c3
          refine kJ_tabIn 152 d_P_count_50 (by rw [c3]; try decide) (by rw [c3]; try decide) (by rw [c3]; try rfl) rfl ?_
          refine kJ_aload_n 153 0 d_P_count_152 rfl rfl rfl rfl ?_
          refine kM_getR 156 0 1 d_P_count_153 l_P_10 (kp_0).x rfl rfl rfl rfl ?_
          refine kM_getI 159 d_P_count_156 l_P_211 (kp_1).x rfl rfl rfl ?_
          cases hf
          exact kJ_iret d_P_count_159 rfl rfl (Nat.zero_le _) (Nat.zero_le _)
        · have hf := kIf_f hf c3
          by_cases c4 : x1 = 4
          · have hf := kIf_t hf c4
            refine kJ_tabIn 160 d_P_count_50 (by rw [c4]; try decide) (by rw [c4]; try decide) (by rw [c4]; try rfl) rfl ?_
            refine kJ_aload_n 161 0 d_P_count_160 rfl rfl rfl rfl ?_
            refine kM_getR 164 0 1 d_P_count_161 l_P_10 (kp_0).x rfl rfl rfl rfl ?_
            refine kJ_iconst 165 1 d_P_count_164 ki_1 rfl ?_
            obtain ⟨v2, ev2, hf⟩ := kBi_some hf
            refine kM_callv 168 m_C_firstIn [.int 1] [] d_P_count_165 cl_P_214 ⟨w_406, w_15⟩ (kp_1).x ⟨rfl, by decide⟩ ⟨_, _, rfl⟩ rfl rfl (Nat.le_of_ble_eq_true rfl) ⟨Nat.le_of_ble_eq_true rfl, Nat.le_of_ble_eq_true rfl⟩ ⟨rfl, rfl⟩ ⟨Nat.zero_le _, Nat.zero_le _⟩ (j_C_firstIn hro kp_1 ev2) rfl ?_
            cases hf
            exact kJ_iret d_P_count_168 rfl rfl (Nat.zero_le _) (Nat.zero_le _)
          · have hf := kIf_f hf c4
            by_cases c5 : x1 = 5
            · have hf := kIf_t hf c5
              refine kJ_tabIn 169 d_P_count_50 (by rw [c5]; try decide) (by rw [c5]; try decide) (by rw [c5]; try rfl) rfl ?_
              refine kJ_aload_n 170 0 d_P_count_169 rfl rfl rfl rfl ?_
              refine kM_getR 173 0 1 d_P_count_170 l_P_10 (kp_0).x rfl rfl rfl rfl ?_
              refine kM_getI 176 d_P_count_173 l_P_217 (kp_1).x rfl rfl rfl ?_
              cases hf
              exact kJ_iret d_P_count_176 rfl rfl (Nat.zero_le _) (Nat.zero_le _)
            · have hf := kIf_f hf c5
              by_cases c6 : x1 = 6
              · have hf := kIf_t hf c6
                refine kJ_tabIn 177 d_P_count_50 (by rw [c6]; try decide) (by rw [c6]; try decide) (by rw [c6]; try rfl) rfl ?_
                refine kJ_aload_n 178 0 d_P_count_177 rfl rfl rfl rfl ?_
                refine kM_getR 181 0 1 d_P_count_178 l_P_10 (kp_0).x rfl rfl rfl rfl ?_
                obtain ⟨v3, ev3, hf⟩ := kBi_some hf
                refine kM_callv 184 m_C_chairOfTheMoment [] [] d_P_count_181 cl_P_220 ⟨w_410, w_16⟩ (kp_1).x ⟨rfl, by decide⟩ ⟨_, _, rfl⟩ rfl rfl (Nat.le_of_ble_eq_true rfl) ⟨Nat.le_of_ble_eq_true rfl, Nat.le_of_ble_eq_true rfl⟩ ⟨rfl, rfl⟩ ⟨Nat.zero_le _, Nat.zero_le _⟩ (j_C_chairOfTheMoment hro kp_1 ev3) rfl ?_
                cases hf
                exact kJ_iret d_P_count_184 rfl rfl (Nat.zero_le _) (Nat.zero_le _)
              · have hf := kIf_f hf c6
                by_cases c7 : x1 = 7
                · have hf := kIf_t hf c7
                  refine kJ_tabIn 185 d_P_count_50 (by rw [c7]; try decide) (by rw [c7]; try decide) (by rw [c7]; try rfl) rfl ?_
                  refine kJ_aload_n 186 0 d_P_count_185 rfl rfl rfl rfl ?_
                  refine kM_getR 189 0 1 d_P_count_186 l_P_10 (kp_0).x rfl rfl rfl rfl ?_
                  obtain ⟨v4, ev4, hf⟩ := kBi_some hf
                  refine kM_callv 192 m_C_weightOfAll [] [] d_P_count_189 cl_P_224 ⟨w_415, w_17⟩ (kp_1).x ⟨rfl, by decide⟩ ⟨_, _, rfl⟩ rfl rfl (Nat.le_of_ble_eq_true rfl) ⟨Nat.le_of_ble_eq_true rfl, Nat.le_of_ble_eq_true rfl⟩ ⟨rfl, rfl⟩ ⟨Nat.zero_le _, Nat.zero_le _⟩ (j_C_weightOfAll hro kp_1 ev4) rfl ?_
                  cases hf
                  exact kJ_iret d_P_count_192 rfl rfl (Nat.zero_le _) (Nat.zero_le _)
                · have hf := kIf_f hf c7
                  by_cases c8 : x1 = 8
                  · have hf := kIf_t hf c8
                    refine kJ_tabIn 220 d_P_count_50 (by rw [c8]; try decide) (by rw [c8]; try decide) (by rw [c8]; try rfl) rfl ?_
                    refine kJ_bipush 222 (-2) d_P_count_220 kb_m2 rfl ?_
                    cases hf
                    exact kJ_iret d_P_count_222 rfl rfl (Nat.zero_le _) (Nat.zero_le _)
                  · have hf := kIf_f hf c8
                    by_cases c9 : x1 = 9
                    · have hf := kIf_t hf c9
                      refine kJ_tabIn 220 d_P_count_50 (by rw [c9]; try decide) (by rw [c9]; try decide) (by rw [c9]; try rfl) rfl ?_
                      refine kJ_bipush 222 (-2) d_P_count_220 kb_m2 rfl ?_
                      cases hf
                      exact kJ_iret d_P_count_222 rfl rfl (Nat.zero_le _) (Nat.zero_le _)
                    · have hf := kIf_f hf c9
                      by_cases c10 : x1 = 10
                      · have hf := kIf_t hf c10
                        refine kJ_tabIn 220 d_P_count_50 (by rw [c10]; try decide) (by rw [c10]; try decide) (by rw [c10]; try rfl) rfl ?_
                        refine kJ_bipush 222 (-2) d_P_count_220 kb_m2 rfl ?_
                        cases hf
                        exact kJ_iret d_P_count_222 rfl rfl (Nat.zero_le _) (Nat.zero_le _)
                      · have hf := kIf_f hf c10
                        by_cases c11 : x1 = 11
                        · have hf := kIf_t hf c11
                          refine kJ_tabIn 220 d_P_count_50 (by rw [c11]; try decide) (by rw [c11]; try decide) (by rw [c11]; try rfl) rfl ?_
                          refine kJ_bipush 222 (-2) d_P_count_220 kb_m2 rfl ?_
                          cases hf
                          exact kJ_iret d_P_count_222 rfl rfl (Nat.zero_le _) (Nat.zero_le _)
                        · have hf := kIf_f hf c11
                          by_cases c12 : x1 = 12
                          · have hf := kIf_t hf c12
                            refine kJ_tabIn 220 d_P_count_50 (by rw [c12]; try decide) (by rw [c12]; try decide) (by rw [c12]; try rfl) rfl ?_
                            refine kJ_bipush 222 (-2) d_P_count_220 kb_m2 rfl ?_
                            cases hf
                            exact kJ_iret d_P_count_222 rfl rfl (Nat.zero_le _) (Nat.zero_le _)
                          · have hf := kIf_f hf c12
                            by_cases c13 : x1 = 13
                            · have hf := kIf_t hf c13
                              refine kJ_tabIn 193 d_P_count_50 (by rw [c13]; try decide) (by rw [c13]; try decide) (by rw [c13]; try rfl) rfl ?_
                              refine kJ_aload_n 194 0 d_P_count_193 rfl rfl rfl rfl ?_
                              refine kM_getR 197 0 1 d_P_count_194 l_P_10 (kp_0).x rfl rfl rfl rfl ?_
                              refine kM_getR 200 5 7 d_P_count_197 l_P_227 (kp_1).x rfl rfl rfl rfl ?_
                              refine kM_getI 203 d_P_count_200 l_P_231 ((kk_0_10 kp_1)).x rfl rfl rfl ?_
                              cases hf
                              exact kJ_iret d_P_count_203 rfl rfl (Nat.zero_le _) (Nat.zero_le _)
                            · have hf := kIf_f hf c13
                              by_cases c14 : x1 = 14
                              · have hf := kIf_t hf c14
                                refine kJ_tabIn 204 d_P_count_50 (by rw [c14]; try decide) (by rw [c14]; try decide) (by rw [c14]; try rfl) rfl ?_
                                refine kJ_aload_n 205 0 d_P_count_204 rfl rfl rfl rfl ?_
                                refine kM_getR 208 636 637 d_P_count_205 l_P_36 (kp_0).x rfl rfl rfl rfl ?_
                                refine kM_getI 211 d_P_count_208 l_P_236 (kp_637).x rfl rfl rfl ?_
                                cases hf
                                exact kJ_iret d_P_count_211 rfl rfl (Nat.zero_le _) (Nat.zero_le _)
                              · have hf := kIf_f hf c14
                                by_cases c15 : x1 = 15
                                · have hf := kIf_t hf c15
                                  refine kJ_tabIn 212 d_P_count_50 (by rw [c15]; try decide) (by rw [c15]; try decide) (by rw [c15]; try rfl) rfl ?_
                                  refine kJ_aload_n 213 0 d_P_count_212 rfl rfl rfl rfl ?_
                                  refine kM_getR 216 144 145 d_P_count_213 l_P_29 (kp_0).x rfl rfl rfl rfl ?_
                                  refine kM_getI 219 d_P_count_216 l_P_239 (kp_145).x rfl rfl rfl ?_
                                  cases hf
                                  exact kJ_iret d_P_count_219 rfl rfl (Nat.zero_le _) (Nat.zero_le _)
                                · have hf := kIf_f hf c15
                                  refine kJ_tabOut 220 d_P_count_50 (by have t0 := kne 0 c0 rfl; have t1 := kne 1 c1 rfl; have t2 := kne 2 c2 rfl; have t3 := kne 3 c3 rfl; have t4 := kne 4 c4 rfl; have t5 := kne 5 c5 rfl; have t6 := kne 6 c6 rfl; have t7 := kne 7 c7 rfl; have t8 := kne 8 c8 rfl; have t9 := kne 9 c9 rfl; have t10 := kne 10 c10 rfl; have t11 := kne 11 c11 rfl; have t12 := kne 12 c12 rfl; have t13 := kne 13 c13 rfl; have t14 := kne 14 c14 rfl; have t15 := kne 15 c15 rfl; omega) rfl ?_
                                  refine kJ_bipush 222 (-2) d_P_count_220 kb_m2 rfl ?_
                                  cases hf
                                  exact kJ_iret d_P_count_222 rfl rfl (Nat.zero_le _) (Nat.zero_le _)
def b_P_count_24 (h : kH) (x1 : Int32) : Option Int32 := if x1 < 16 then (b_P_count_49 h x1) else (if 22 ≤ x1 then (b_P_count_49 h x1) else (kG (x1 - 16) 6 (some (h 2 (kx (x1 - 16))))))
theorem c_P_count_24 {E : kE} {L : Nat} {xs : Nat → Int32} (hro : kRo E L xs) {K : List Nat} {h : kH} {x1 : Int32} {r : Int32} (hf : b_P_count_24 h x1 = some r) : kJ E m_P_count (some r) (mk K h) 0 0 24 [(0, .ref 0), (1, .int x1)] [] (mk K h) := by
  unfold b_P_count_24 at hf
  refine kJ_iload_n 25 1 d_P_count_24 rfl rfl rfl ?_
  refine kJ_bipush 27 16 d_P_count_25 kb_16 rfl ?_
  refine kJ_icmp_lt 30 49 d_P_count_27 rfl rfl (fun hc => ?_) (fun hc => ?_)
  · have hf := kIf_t hf hc
    refine kJ_sub [0, 1] rfl ?_
    exact c_P_count_49 hro hf
  · have hf := kIf_f hf hc
    refine kJ_iload_n 31 1 d_P_count_30 rfl rfl rfl ?_
    refine kJ_bipush 33 22 d_P_count_31 kb_22 rfl ?_
    refine kJ_icmp_ge 36 49 d_P_count_33 rfl rfl (fun hc => ?_) (fun hc => ?_)
    · have hf := kIf_t hf hc
      refine kJ_sub [0, 1] rfl ?_
      exact c_P_count_49 hro hf
    · have hf := kIf_f hf hc
      refine kJ_aload_n 37 0 d_P_count_36 rfl rfl rfl rfl ?_
      refine kM_getR 40 0 1 d_P_count_37 l_P_10 (kp_0).x rfl rfl rfl rfl ?_
      refine kM_getR 43 0 2 d_P_count_40 l_P_199 (kp_1).x rfl rfl rfl rfl ?_
      refine kJ_iload_n 44 1 d_P_count_43 rfl rfl rfl ?_
      refine kJ_bipush 46 16 d_P_count_44 kb_16 rfl ?_
      refine kJ_isub 47 d_P_count_46 rfl ?_
      obtain ⟨hg, hf⟩ := kG_some hf
      refine kM_iald 48 6 d_P_count_47 ((kk_0_5 kp_1)).x rfl hg rfl ?_
      cases hf
      exact kJ_iret d_P_count_48 rfl rfl (Nat.zero_le _) (Nat.zero_le _)
def f_P_count (h : kH) (x1 : Int32) : Option Int32 := if x1 < 8 then (b_P_count_24 h x1) else (if 12 < x1 then (b_P_count_24 h x1) else (kBi (f_C_itemsIn h 1 (x1 - 8)) fun v5 => some v5))
theorem j_P_count {E : kE} {L : Nat} {xs : Nat → Int32} (hro : kRo E L xs) {K : List Nat} {h : kH} {x1 : Int32} {r : Int32} (hf : f_P_count h x1 = some r) : JM E m_P_count [.ref 0, .int x1] (mk K h) (some r) (mk K h) := by
  unfold f_P_count at hf
  refine JM.of pn_P (Nat.le_of_ble_eq_true rfl) ?_
  show kJ E m_P_count (some r) (mk K h) 0 0 0 [(0, .ref 0), (1, .int x1)] [] (mk K h)
  refine kJ_iload_n 1 1 d_P_count_0 rfl rfl rfl ?_
  refine kJ_bipush 3 8 d_P_count_1 kb_8 rfl ?_
  refine kJ_icmp_lt 6 24 d_P_count_3 rfl rfl (fun hc => ?_) (fun hc => ?_)
  · have hf := kIf_t hf hc
    refine kJ_sub [0, 1] rfl ?_
    exact c_P_count_24 hro hf
  · have hf := kIf_f hf hc
    refine kJ_iload_n 7 1 d_P_count_6 rfl rfl rfl ?_
    refine kJ_bipush 9 12 d_P_count_7 kb_12 rfl ?_
    refine kJ_icmp_gt 12 24 d_P_count_9 rfl rfl (fun hc => ?_) (fun hc => ?_)
    · have hf := kIf_t hf hc
      refine kJ_sub [0, 1] rfl ?_
      exact c_P_count_24 hro hf
    · have hf := kIf_f hf hc
      refine kJ_aload_n 13 0 d_P_count_12 rfl rfl rfl rfl ?_
      refine kM_getR 16 0 1 d_P_count_13 l_P_10 (kp_0).x rfl rfl rfl rfl ?_
      refine kJ_iload_n 17 1 d_P_count_16 rfl rfl rfl ?_
      refine kJ_bipush 19 8 d_P_count_17 kb_8 rfl ?_
      refine kJ_isub 20 d_P_count_19 rfl ?_
      obtain ⟨v5, ev5, hf⟩ := kBi_some hf
      refine kM_callv 23 m_C_itemsIn [.int (x1 - 8)] [] d_P_count_20 cl_P_196 ⟨w_402, w_14⟩ (kp_1).x ⟨rfl, by decide⟩ ⟨_, _, rfl⟩ rfl rfl (Nat.le_of_ble_eq_true rfl) ⟨Nat.le_of_ble_eq_true rfl, Nat.le_of_ble_eq_true rfl⟩ ⟨rfl, rfl⟩ ⟨Nat.zero_le _, Nat.zero_le _⟩ (j_C_itemsIn hro kp_1 ev5) rfl ?_
      cases hf
      exact kJ_iret d_P_count_23 rfl rfl (Nat.zero_le _) (Nat.zero_le _)
def f_C_hasItem (h : kH) (x0 : Nat) (x1 : Int32) : Bool := if x1 < 0 then false else (if (h x0 2) ≤ x1 then false else true)
theorem j_C_hasItem {E : kE} {L : Nat} {xs : Nat → Int32} (hro : kRo E L xs) {K : List Nat} {h : kH} {x0 : Nat} {x1 : Int32} (k0 : kIs x0 0) {r : Bool} (hf : f_C_hasItem h x0 x1 = r) : JM E m_C_hasItem [.ref x0, .int x1] (mk K h) (some (kB2 r)) (mk K h) := by
  unfold f_C_hasItem at hf
  refine JM.of pn_C (Nat.le_of_ble_eq_true rfl) ?_
  show kJ E m_C_hasItem (some (kB2 r)) (mk K h) 0 0 0 [(0, .ref x0), (1, .int x1)] [] (mk K h)
  refine kJ_iload_n 1 1 d_C_hasItem_0 rfl rfl rfl ?_
  refine kJ_if_lt 4 16 d_C_hasItem_1 rfl rfl (fun hc => ?_) (fun hc => ?_)
  · have hf := kIf_t hf hc
    refine kJ_iconst 17 0 d_C_hasItem_16 ki_0 rfl ?_
    subst hf
    exact kJ_iret d_C_hasItem_17 rfl (kB2_z _) (Nat.zero_le _) (Nat.zero_le _)
  · have hf := kIf_f hf hc
    refine kJ_iload_n 5 1 d_C_hasItem_4 rfl rfl rfl ?_
    refine kJ_aload_n 6 0 d_C_hasItem_5 rfl rfl rfl rfl ?_
    refine kM_getI 9 d_C_hasItem_6 l_C_57 (k0).x rfl rfl rfl ?_
    refine kJ_icmp_ge 12 16 d_C_hasItem_9 rfl rfl (fun hc => ?_) (fun hc => ?_)
    · have hf := kIf_t hf hc
      refine kJ_iconst 17 0 d_C_hasItem_16 ki_0 rfl ?_
      subst hf
      exact kJ_iret d_C_hasItem_17 rfl (kB2_z _) (Nat.zero_le _) (Nat.zero_le _)
    · have hf := kIf_f hf hc
      refine kJ_iconst 13 1 d_C_hasItem_12 ki_1 rfl ?_
      refine kJ_goto 17 d_C_hasItem_13 rfl ?_
      subst hf
      exact kJ_iret d_C_hasItem_17 rfl (kB2_z _) (Nat.zero_le _) (Nat.zero_le _)
def f_C_isRecused (h : kH) (x0 : Nat) (x1 : Int32) (x2 : Nat) : Option Bool := kG x1 12 (if (((h x2 1) >>> ((h (x0 + 3) (kx x1)) &&& 31)) &&& 1) = 1 then (some true) else (if (((h x2 3) >>> (x1 &&& 31)) &&& 1) = 1 then (some true) else (some false)))
theorem j_C_isRecused {E : kE} {L : Nat} {xs : Nat → Int32} (hro : kRo E L xs) {K : List Nat} {h : kH} {x0 : Nat} {x1 : Int32} {x2 : Nat} (k0 : kIs x0 0) (k2 : kIs x2 3) {r : Bool} (hf : f_C_isRecused h x0 x1 x2 = some r) : JM E m_C_isRecused [.ref x0, .int x1, .ref x2] (mk K h) (some (kB2 r)) (mk K h) := by
  unfold f_C_isRecused at hf
  refine JM.of pn_C (Nat.le_of_ble_eq_true rfl) ?_
  show kJ E m_C_isRecused (some (kB2 r)) (mk K h) 0 0 0 [(0, .ref x0), (1, .int x1), (2, .ref x2)] [] (mk K h)
  refine kJ_aload_n 1 2 d_C_isRecused_0 rfl rfl rfl rfl ?_
  refine kM_getI 4 d_C_isRecused_1 l_C_70 (k2).x rfl rfl rfl ?_
  refine kJ_aload_n 5 0 d_C_isRecused_4 rfl rfl rfl rfl ?_
  refine kM_getR 8 2 (x0 + 3) d_C_isRecused_5 l_C_22 (k0).x rfl rfl rfl rfl ?_
  refine kJ_iload_n 9 1 d_C_isRecused_8 rfl rfl rfl ?_
  obtain ⟨hg, hf⟩ := kG_some hf
  refine kM_iald 10 12 d_C_isRecused_9 ((kk_0_7 k0)).x rfl hg rfl ?_
  refine kJ_ishr 11 d_C_isRecused_10 rfl ?_
  refine kJ_iconst 12 1 d_C_isRecused_11 ki_1 rfl ?_
  refine kJ_iand 13 d_C_isRecused_12 rfl ?_
  refine kJ_iconst 14 1 d_C_isRecused_13 ki_1 rfl ?_
  refine kJ_icmp_eq 17 29 d_C_isRecused_14 rfl rfl (fun hc => ?_) (fun hc => ?_)
  · have hf := kIf_t hf hc
    refine kJ_iconst 30 1 d_C_isRecused_29 ki_1 rfl ?_
    refine kJ_goto 34 d_C_isRecused_30 rfl ?_
    cases hf
    exact kJ_iret d_C_isRecused_34 rfl (kB2_z _) (Nat.zero_le _) (Nat.zero_le _)
  · have hf := kIf_f hf hc
    refine kJ_aload_n 18 2 d_C_isRecused_17 rfl rfl rfl rfl ?_
    refine kM_getI 21 d_C_isRecused_18 l_C_73 (k2).x rfl rfl rfl ?_
    refine kJ_iload_n 22 1 d_C_isRecused_21 rfl rfl rfl ?_
    refine kJ_ishr 23 d_C_isRecused_22 rfl ?_
    refine kJ_iconst 24 1 d_C_isRecused_23 ki_1 rfl ?_
    refine kJ_iand 25 d_C_isRecused_24 rfl ?_
    refine kJ_iconst 26 1 d_C_isRecused_25 ki_1 rfl ?_
    refine kJ_icmp_ne 29 33 d_C_isRecused_26 rfl rfl (fun hc => ?_) (fun hc => ?_)
    · have hf := kIf_f hf hc
      refine kJ_iconst 34 0 d_C_isRecused_33 ki_0 rfl ?_
      cases hf
      exact kJ_iret d_C_isRecused_34 rfl (kB2_z _) (Nat.zero_le _) (Nat.zero_le _)
    · have hf := kIf_t hf hc
      refine kJ_iconst 30 1 d_C_isRecused_29 ki_1 rfl ?_
      refine kJ_goto 34 d_C_isRecused_30 rfl ?_
      cases hf
      exact kJ_iret d_C_isRecused_34 rfl (kB2_z _) (Nat.zero_le _) (Nat.zero_le _)
def f_C_holderFor (h : kH) (x0 : Nat) (x1 : Int32) (x2 : Nat) : Option Int32 := kG x1 12 (if (h (x2 + 4) (kx x1)) = (-6) then (kG x1 12 (some (h (x0 + 4) (kx x1)))) else (kG x1 12 (some (h (x2 + 4) (kx x1)))))
theorem j_C_holderFor {E : kE} {L : Nat} {xs : Nat → Int32} (hro : kRo E L xs) {K : List Nat} {h : kH} {x0 : Nat} {x1 : Int32} {x2 : Nat} (k0 : kIs x0 0) (k2 : kIs x2 3) {r : Int32} (hf : f_C_holderFor h x0 x1 x2 = some r) : JM E m_C_holderFor [.ref x0, .int x1, .ref x2] (mk K h) (some r) (mk K h) := by
  unfold f_C_holderFor at hf
  refine JM.of pn_C (Nat.le_of_ble_eq_true rfl) ?_
  show kJ E m_C_holderFor (some r) (mk K h) 0 0 0 [(0, .ref x0), (1, .int x1), (2, .ref x2)] [] (mk K h)
  refine kJ_aload_n 1 2 d_C_holderFor_0 rfl rfl rfl rfl ?_
  refine kM_getR 4 3 (x2 + 4) d_C_holderFor_1 l_C_84 (k2).x rfl rfl rfl rfl ?_
  refine kJ_iload_n 5 1 d_C_holderFor_4 rfl rfl rfl ?_
  obtain ⟨hg, hf⟩ := kG_some hf
  refine kM_iald 6 12 d_C_holderFor_5 ((kk_3_9 k2)).x rfl hg rfl ?_
  refine kJ_bipush 8 (-6) d_C_holderFor_6 kb_m6 rfl ?_
  refine kJ_icmp_eq 11 20 d_C_holderFor_8 rfl rfl (fun hc => ?_) (fun hc => ?_)
  · have hf := kIf_t hf hc
    refine kJ_aload_n 21 0 d_C_holderFor_20 rfl rfl rfl rfl ?_
    refine kM_getR 24 3 (x0 + 4) d_C_holderFor_21 l_C_25 (k0).x rfl rfl rfl rfl ?_
    refine kJ_iload_n 25 1 d_C_holderFor_24 rfl rfl rfl ?_
    obtain ⟨hg, hf⟩ := kG_some hf
    refine kM_iald 26 12 d_C_holderFor_25 ((kk_0_8 k0)).x rfl hg rfl ?_
    cases hf
    exact kJ_iret d_C_holderFor_26 rfl rfl (Nat.zero_le _) (Nat.zero_le _)
  · have hf := kIf_f hf hc
    refine kJ_aload_n 12 2 d_C_holderFor_11 rfl rfl rfl rfl ?_
    refine kM_getR 15 3 (x2 + 4) d_C_holderFor_12 l_C_84 (k2).x rfl rfl rfl rfl ?_
    refine kJ_iload_n 16 1 d_C_holderFor_15 rfl rfl rfl ?_
    obtain ⟨hg, hf⟩ := kG_some hf
    refine kM_iald 17 12 d_C_holderFor_16 ((kk_3_9 k2)).x rfl hg rfl ?_
    refine kJ_goto 26 d_C_holderFor_17 rfl ?_
    cases hf
    exact kJ_iret d_C_holderFor_26 rfl rfl (Nat.zero_le _) (Nat.zero_le _)
def b_H_endOfWay_23 (h : kH) (x1 : Nat) (x2 : Nat) (x4 : Int32) : Nat → Int32 → Int32 → Option Int32
  | 0, _, _ => none
  | n + 1, x5, x6 => (fun rec23 => if x4 ≤ x6 then (some (-6)) else (kBi (f_C_holderFor h x1 x5 x2) fun v1 => if v1 = (-6) then (some (-6)) else (if (f_C_isPresent h x1 v1) = true then (kBi (f_C_isRecused h x1 v1 x2) fun v2 => if v2 = true then (some (-6)) else (some v1)) else (rec23 v1 (x6 + 1))))) (fun x5' x6' => b_H_endOfWay_23 h x1 x2 x4 n x5' x6')
theorem c_H_endOfWay_23 {E : kE} {L : Nat} {xs : Nat → Int32} (hro : kRo E L xs) {K : List Nat} {h : kH} {x1 : Nat} {x2 : Nat} {x4 : Int32} (k1 : kIs x1 0) (k2 : kIs x2 3) {r : Int32} : ∀ (n : Nat) (x5 : Int32) (x6 : Int32), b_H_endOfWay_23 h x1 x2 x4 n x5 x6 = some r → kJ E m_H_endOfWay (some r) (mk K h) 0 0 23 [(1, .ref x1), (2, .ref x2), (4, .int x4), (5, .int x5), (6, .int x6)] [] (mk K h) := by
  intro n
  induction n with
  | zero =>
    intro x5 x6 hf
    have hf : (none : Option Int32) = some r := hf
    cases hf
  | succ n hrec23 =>
    intro x5 x6 hf
    rw [b_H_endOfWay_23] at hf
    dsimp only at hf
    refine kJ_iload 25 4 d_H_endOfWay_23 rfl rfl ?_
    refine kJ_iload 27 2 d_H_endOfWay_25 rfl rfl ?_
    refine kJ_icmp_ge 30 82 d_H_endOfWay_27 rfl rfl (fun hc => ?_) (fun hc => ?_)
    · have hf := kIf_t hf hc
      refine kJ_bipush 84 (-6) d_H_endOfWay_82 kb_m6 rfl ?_
      cases hf
      exact kJ_iret d_H_endOfWay_84 rfl rfl (Nat.zero_le _) (Nat.zero_le _)
    · have hf := kIf_f hf hc
      refine kJ_aload_n 31 0 d_H_endOfWay_30 rfl rfl rfl rfl ?_
      refine kJ_iload 33 3 d_H_endOfWay_31 rfl rfl ?_
      refine kJ_aload_n 34 1 d_H_endOfWay_33 rfl rfl rfl rfl ?_
      obtain ⟨v1, ev1, hf⟩ := kBi_some hf
      refine kM_callv 37 m_C_holderFor [.int x5, .ref x2] [] d_H_endOfWay_34 cl_H_51 ⟨w_455, w_23⟩ (k1).x ⟨rfl, by decide⟩ ⟨_, _, rfl⟩ rfl rfl (Nat.le_of_ble_eq_true rfl) ⟨Nat.le_of_ble_eq_true rfl, Nat.le_of_ble_eq_true rfl⟩ ⟨rfl, rfl⟩ ⟨Nat.zero_le _, Nat.zero_le _⟩ (j_C_holderFor hro k1 k2 ev1) rfl ?_
      refine kJ_istore 39 [(5, .int v1), (1, .ref x1), (2, .ref x2), (4, .int x4), (6, .int x6)] d_H_endOfWay_37 (Nat.le_of_ble_eq_true rfl) rfl rfl ?_
      refine kJ_iload 41 0 d_H_endOfWay_39 rfl rfl ?_
      refine kJ_bipush 43 (-6) d_H_endOfWay_41 kb_m6 rfl ?_
      refine kJ_icmp_ne 46 49 d_H_endOfWay_43 rfl rfl (fun hc => ?_) (fun hc => ?_)
      · have hf := kIf_f hf hc
        refine kJ_aload_n 50 1 d_H_endOfWay_49 rfl rfl rfl rfl ?_
        refine kJ_iload 52 0 d_H_endOfWay_50 rfl rfl ?_
        refine kM_callv 55 m_C_isPresent [.int v1] [] d_H_endOfWay_52 cl_H_37 ⟨w_386, w_11⟩ (k1).x ⟨rfl, by decide⟩ ⟨_, _, rfl⟩ rfl rfl (Nat.le_of_ble_eq_true rfl) ⟨Nat.le_of_ble_eq_true rfl, Nat.le_of_ble_eq_true rfl⟩ ⟨rfl, rfl⟩ ⟨Nat.zero_le _, Nat.zero_le _⟩ (j_C_isPresent hro k1 rfl) rfl ?_
        refine kJ_if_eq 58 76 d_H_endOfWay_55 rfl rfl (fun hc => ?_) (fun hc => ?_)
        · have hf := kIf_f hf (kB2_0 hc)
          refine kJ_iinc 79 4 [(6, .int (x6 + 1)), (5, .int v1), (1, .ref x1), (2, .ref x2), (4, .int x4)] d_H_endOfWay_76 rfl ki_1 (Nat.le_of_ble_eq_true rfl) rfl rfl ?_
          refine kJ_goto 23 d_H_endOfWay_79 rfl ?_
          refine kJ_sub [2, 3, 4, 1, 0] rfl ?_
          exact hrec23 v1 (x6 + 1) hf
        · have hf := kIf_t hf (kB2_1 hc)
          refine kJ_aload_n 59 1 d_H_endOfWay_58 rfl rfl rfl rfl ?_
          refine kJ_iload 61 0 d_H_endOfWay_59 rfl rfl ?_
          refine kJ_aload_n 62 2 d_H_endOfWay_61 rfl rfl rfl rfl ?_
          obtain ⟨v2, ev2, hf⟩ := kBi_some hf
          refine kM_callv 65 m_C_isRecused [.int v1, .ref x2] [] d_H_endOfWay_62 cl_H_33 ⟨w_442, w_20⟩ (k1).x ⟨rfl, by decide⟩ ⟨_, _, rfl⟩ rfl rfl (Nat.le_of_ble_eq_true rfl) ⟨Nat.le_of_ble_eq_true rfl, Nat.le_of_ble_eq_true rfl⟩ ⟨rfl, rfl⟩ ⟨Nat.zero_le _, Nat.zero_le _⟩ (j_C_isRecused hro k1 k2 ev2) rfl ?_
          refine kJ_if_eq 68 73 d_H_endOfWay_65 rfl rfl (fun hc => ?_) (fun hc => ?_)
          · have hf := kIf_f hf (kB2_0 hc)
            refine kJ_iload 75 0 d_H_endOfWay_73 rfl rfl ?_
            cases hf
            exact kJ_iret d_H_endOfWay_75 rfl rfl (Nat.zero_le _) (Nat.zero_le _)
          · have hf := kIf_t hf (kB2_1 hc)
            refine kJ_bipush 70 (-6) d_H_endOfWay_68 kb_m6 rfl ?_
            refine kJ_goto 75 d_H_endOfWay_70 rfl ?_
            cases hf
            exact kJ_iret d_H_endOfWay_75 rfl rfl (Nat.zero_le _) (Nat.zero_le _)
      · have hf := kIf_t hf hc
        refine kJ_bipush 48 (-6) d_H_endOfWay_46 kb_m6 rfl ?_
        cases hf
        exact kJ_iret d_H_endOfWay_48 rfl rfl (Nat.zero_le _) (Nat.zero_le _)
def f_H_endOfWay (h : kH) (x0 : Nat) (x1 : Nat) (x2 : Nat) (x3 : Int32) : Option Int32 := kG 4 6 (if (h (x1 + 1) (kx 4)) = 0 then (b_H_endOfWay_23 h x1 x2 1 kFuel x3 0) else (b_H_endOfWay_23 h x1 x2 12 kFuel x3 0))
theorem j_H_endOfWay {E : kE} {L : Nat} {xs : Nat → Int32} (hro : kRo E L xs) {K : List Nat} {h : kH} {x0 : Nat} {x1 : Nat} {x2 : Nat} {x3 : Int32} (k0 : kIs x0 1) (k1 : kIs x1 0) (k2 : kIs x2 3) {r : Int32} (hf : f_H_endOfWay h x0 x1 x2 x3 = some r) : JM E m_H_endOfWay [.ref x0, .ref x1, .ref x2, .int x3] (mk K h) (some r) (mk K h) := by
  unfold f_H_endOfWay at hf
  refine JM.of pn_H (Nat.le_of_ble_eq_true rfl) ?_
  show kJ E m_H_endOfWay (some r) (mk K h) 0 0 0 [(0, .ref x0), (1, .ref x1), (2, .ref x2), (3, .int x3)] [] (mk K h)
  refine kJ_aload_n 1 1 d_H_endOfWay_0 rfl rfl rfl rfl ?_
  refine kM_getR 4 0 (x1 + 1) d_H_endOfWay_1 l_H_48 (k1).x rfl rfl rfl rfl ?_
  refine kJ_iconst 5 4 d_H_endOfWay_4 ki_4 rfl ?_
  obtain ⟨hg, hf⟩ := kG_some hf
  refine kM_iald 6 6 d_H_endOfWay_5 ((kk_0_5 k1)).x rfl hg rfl ?_
  refine kJ_if_ne 9 13 d_H_endOfWay_6 rfl rfl (fun hc => ?_) (fun hc => ?_)
  · have hf := kIf_f hf hc
    refine kJ_bipush 15 12 d_H_endOfWay_13 kb_12 rfl ?_
    refine kJ_istore 17 [(4, .int 12), (0, .ref x0), (1, .ref x1), (2, .ref x2), (3, .int x3)] d_H_endOfWay_15 (Nat.le_of_ble_eq_true rfl) rfl rfl ?_
    refine kJ_iload_n 18 4 d_H_endOfWay_17 rfl rfl rfl ?_
    refine kJ_istore 20 [(5, .int x3), (4, .int 12), (0, .ref x0), (1, .ref x1), (2, .ref x2), (3, .int x3)] d_H_endOfWay_18 (Nat.le_of_ble_eq_true rfl) rfl rfl ?_
    refine kJ_iconst 21 0 d_H_endOfWay_20 ki_0 rfl ?_
    refine kJ_istore 23 [(6, .int 0), (5, .int x3), (4, .int 12), (0, .ref x0), (1, .ref x1), (2, .ref x2), (3, .int x3)] d_H_endOfWay_21 (Nat.le_of_ble_eq_true rfl) rfl rfl ?_
    refine kJ_sub [4, 5, 2, 1, 0] rfl ?_
    exact c_H_endOfWay_23 hro k1 k2 kFuel x3 0 hf
  · have hf := kIf_t hf hc
    refine kJ_iconst 10 1 d_H_endOfWay_9 ki_1 rfl ?_
    refine kJ_goto 15 d_H_endOfWay_10 rfl ?_
    refine kJ_istore 17 [(4, .int 1), (0, .ref x0), (1, .ref x1), (2, .ref x2), (3, .int x3)] d_H_endOfWay_15 (Nat.le_of_ble_eq_true rfl) rfl rfl ?_
    refine kJ_iload_n 18 4 d_H_endOfWay_17 rfl rfl rfl ?_
    refine kJ_istore 20 [(5, .int x3), (4, .int 1), (0, .ref x0), (1, .ref x1), (2, .ref x2), (3, .int x3)] d_H_endOfWay_18 (Nat.le_of_ble_eq_true rfl) rfl rfl ?_
    refine kJ_iconst 21 0 d_H_endOfWay_20 ki_0 rfl ?_
    refine kJ_istore 23 [(6, .int 0), (5, .int x3), (4, .int 1), (0, .ref x0), (1, .ref x1), (2, .ref x2), (3, .int x3)] d_H_endOfWay_21 (Nat.le_of_ble_eq_true rfl) rfl rfl ?_
    refine kJ_sub [4, 5, 2, 1, 0] rfl ?_
    exact c_H_endOfWay_23 hro k1 k2 kFuel x3 0 hf
def f_H_takenUp (h : kH) (x0 : Nat) (x1 : Nat) (x2 : Nat) (x3 : Int32) : Option (Int32 × kH) := kBi (f_H_endOfWay h x0 x1 x2 x3) fun v1 => if v1 = (-6) then (some ((-6), h)) else (kG v1 12 (kG 3 6 (if (h (x0 + 2) (kx v1)) < (h (x1 + 1) (kx 3)) then (kG v1 12 (kG v1 12 (kLet (hset h (x0 + 2) (kx v1) ((h (x0 + 2) (kx v1)) + 1)) fun h2 => some (v1, h2)))) else (some ((-6), h)))))
theorem j_H_takenUp {E : kE} {L : Nat} {xs : Nat → Int32} (hro : kRo E L xs) {K : List Nat} {h : kH} {x0 : Nat} {x1 : Nat} {x2 : Nat} {x3 : Int32} (k0 : kIs x0 1) (k1 : kIs x1 0) (k2 : kIs x2 3) {r : Int32} {h' : kH} (hf : f_H_takenUp h x0 x1 x2 x3 = some (r, h')) : JM E m_H_takenUp [.ref x0, .ref x1, .ref x2, .int x3] (mk K h) (some r) (mk K h') := by
  unfold f_H_takenUp at hf
  refine JM.of pn_H (Nat.le_of_ble_eq_true rfl) ?_
  show kJ E m_H_takenUp (some r) (mk K h') 0 0 0 [(0, .ref x0), (1, .ref x1), (2, .ref x2), (3, .int x3)] [] (mk K h)
  refine kJ_aload_n 1 0 d_H_takenUp_0 rfl rfl rfl rfl ?_
  refine kJ_aload_n 2 1 d_H_takenUp_1 rfl rfl rfl rfl ?_
  refine kJ_aload_n 3 2 d_H_takenUp_2 rfl rfl rfl rfl ?_
  refine kJ_iload_n 4 3 d_H_takenUp_3 rfl rfl rfl ?_
  obtain ⟨v1, ev1, hf⟩ := kBi_some hf
  refine kM_callv 7 m_H_endOfWay [.ref x1, .ref x2, .int x3] [] d_H_takenUp_4 cl_H_45 ⟨w_451, w_22⟩ (k0).x ⟨rfl, by decide⟩ ⟨_, _, rfl⟩ rfl rfl (Nat.le_of_ble_eq_true rfl) ⟨Nat.le_of_ble_eq_true rfl, Nat.le_of_ble_eq_true rfl⟩ ⟨rfl, rfl⟩ ⟨Nat.zero_le _, Nat.zero_le _⟩ (j_H_endOfWay hro k0 k1 k2 ev1) rfl ?_
  refine kJ_istore 9 [(4, .int v1), (0, .ref x0), (1, .ref x1), (2, .ref x2), (3, .int x3)] d_H_takenUp_7 (Nat.le_of_ble_eq_true rfl) rfl rfl ?_
  refine kJ_iload 11 0 d_H_takenUp_9 rfl rfl ?_
  refine kJ_bipush 13 (-6) d_H_takenUp_11 kb_m6 rfl ?_
  refine kJ_icmp_eq 16 32 d_H_takenUp_13 rfl rfl (fun hc => ?_) (fun hc => ?_)
  · have hf := kIf_t hf hc
    refine kJ_bipush 34 (-6) d_H_takenUp_32 kb_m6 rfl ?_
    cases hf
    exact kJ_iret d_H_takenUp_34 rfl rfl (Nat.zero_le _) (Nat.zero_le _)
  · have hf := kIf_f hf hc
    refine kJ_aload_n 17 1 d_H_takenUp_16 rfl rfl rfl rfl ?_
    refine kM_getR 20 1 (x0 + 2) d_H_takenUp_17 l_H_15 (k0).x rfl rfl rfl rfl ?_
    refine kJ_iload 22 0 d_H_takenUp_20 rfl rfl ?_
    obtain ⟨hg, hf⟩ := kG_some hf
    refine kM_iald 23 12 d_H_takenUp_22 ((kk_1_1 k0)).x rfl hg rfl ?_
    refine kJ_aload_n 24 2 d_H_takenUp_23 rfl rfl rfl rfl ?_
    refine kM_getR 27 0 (x1 + 1) d_H_takenUp_24 l_H_48 (k1).x rfl rfl rfl rfl ?_
    refine kJ_iconst 28 3 d_H_takenUp_27 ki_3 rfl ?_
    obtain ⟨hg, hf⟩ := kG_some hf
    refine kM_iald 29 6 d_H_takenUp_28 ((kk_0_5 k1)).x rfl hg rfl ?_
    refine kJ_icmp_lt 32 35 d_H_takenUp_29 rfl rfl (fun hc => ?_) (fun hc => ?_)
    · have hf := kIf_t hf hc
      refine kJ_aload_n 36 1 d_H_takenUp_35 rfl rfl rfl rfl ?_
      refine kM_getR 39 1 (x0 + 2) d_H_takenUp_36 l_H_15 (k0).x rfl rfl rfl rfl ?_
      refine kJ_iload 41 0 d_H_takenUp_39 rfl rfl ?_
      refine kJ_dup2 42 d_H_takenUp_41 rfl rfl rfl ?_
      obtain ⟨hg, hf⟩ := kG_some hf
      refine kM_iald 43 12 d_H_takenUp_42 ((kk_1_1 k0)).x rfl hg rfl ?_
      refine kJ_iconst 44 1 d_H_takenUp_43 ki_1 rfl ?_
      refine kJ_iadd 45 d_H_takenUp_44 rfl ?_
      obtain ⟨hg, hf⟩ := kG_some hf
      refine kM_iast 46 12 d_H_takenUp_45 ((kk_1_1 k0)).x rfl hg rfl ?_
      obtain ⟨h2, eh2, hf⟩ := kLet_e hf
      rw [← eh2]
      refine kJ_iload 48 0 d_H_takenUp_46 rfl rfl ?_
      cases hf
      exact kJ_iret d_H_takenUp_48 rfl rfl (Nat.zero_le _) (Nat.zero_le _)
    · have hf := kIf_f hf hc
      refine kJ_bipush 34 (-6) d_H_takenUp_32 kb_m6 rfl ?_
      cases hf
      exact kJ_iret d_H_takenUp_34 rfl rfl (Nat.zero_le _) (Nat.zero_le _)
def b_H_listen_19 (x0 : Nat) (x1 : Nat) (x2 : Nat) : Nat → kH → Int32 → Option (kH)
  | 0, _, _ => none
  | n + 1, h, x3 => (fun rec19 => if (h x1 1) ≤ x3 then (some h) else (kBi (f_C_isRecused h x1 x3 x2) fun v3 => if v3 = true then (rec19 h (x3 + 1)) else (if (f_C_isPresent h x1 x3) = true then (kG x3 12 (kLet (hset h (x0 + 1) (kx x3) x3) fun h7 => rec19 h7 (x3 + 1))) else (kBd (f_H_takenUp h x0 x1 x2 x3) fun v5 h4 => kG x3 12 (kLet (hset h4 (x0 + 1) (kx x3) v5) fun h6 => rec19 h6 (x3 + 1)))))) (fun h' x3' => b_H_listen_19 x0 x1 x2 n h' x3')
theorem c_H_listen_19 {E : kE} {L : Nat} {xs : Nat → Int32} (hro : kRo E L xs) {K : List Nat} {x0 : Nat} {x1 : Nat} {x2 : Nat} (k0 : kIs x0 1) (k1 : kIs x1 0) (k2 : kIs x2 3) {h' : kH} : ∀ (n : Nat) (h : kH) (x3 : Int32), b_H_listen_19 x0 x1 x2 n h x3 = some h' → kJ E m_H_listen none (mk K h') 0 0 19 [(0, .ref x0), (1, .ref x1), (2, .ref x2), (3, .int x3)] [] (mk K h) := by
  intro n
  induction n with
  | zero =>
    intro h x3 hf
    have hf : (none : Option (kH)) = some h' := hf
    cases hf
  | succ n hrec19 =>
    intro h x3 hf
    rw [b_H_listen_19] at hf
    dsimp only at hf
    refine kJ_iload_n 20 3 d_H_listen_19 rfl rfl rfl ?_
    refine kJ_aload_n 21 1 d_H_listen_20 rfl rfl rfl rfl ?_
    refine kM_getI 24 d_H_listen_21 l_H_27 (k1).x rfl rfl rfl ?_
    refine kJ_icmp_ge 27 67 d_H_listen_24 rfl rfl (fun hc => ?_) (fun hc => ?_)
    · have hf := kIf_t hf hc
      cases hf
      exact kJ_ret d_H_listen_67 rfl (Nat.zero_le _) (Nat.zero_le _)
    · have hf := kIf_f hf hc
      refine kJ_aload_n 28 1 d_H_listen_27 rfl rfl rfl rfl ?_
      refine kJ_iload_n 29 3 d_H_listen_28 rfl rfl rfl ?_
      refine kJ_aload_n 30 2 d_H_listen_29 rfl rfl rfl rfl ?_
      obtain ⟨v3, ev3, hf⟩ := kBi_some hf
      refine kM_callv 33 m_C_isRecused [.int x3, .ref x2] [] d_H_listen_30 cl_H_33 ⟨w_442, w_20⟩ (k1).x ⟨rfl, by decide⟩ ⟨_, _, rfl⟩ rfl rfl (Nat.le_of_ble_eq_true rfl) ⟨Nat.le_of_ble_eq_true rfl, Nat.le_of_ble_eq_true rfl⟩ ⟨rfl, rfl⟩ ⟨Nat.zero_le _, Nat.zero_le _⟩ (j_C_isRecused hro k1 k2 ev3) rfl ?_
      refine kJ_if_ne 36 61 d_H_listen_33 rfl rfl (fun hc => ?_) (fun hc => ?_)
      · have hf := kIf_t hf (kB2_1 hc)
        refine kJ_iinc 64 3 [(3, .int (x3 + 1)), (0, .ref x0), (1, .ref x1), (2, .ref x2)] d_H_listen_61 rfl ki_1 (Nat.le_of_ble_eq_true rfl) rfl rfl ?_
        refine kJ_goto 19 d_H_listen_64 rfl ?_
        refine kJ_sub [1, 2, 3, 0] rfl ?_
        exact hrec19 h (x3 + 1) hf
      · have hf := kIf_f hf (kB2_0 hc)
        refine kJ_aload_n 37 0 d_H_listen_36 rfl rfl rfl rfl ?_
        refine kM_getR 40 0 (x0 + 1) d_H_listen_37 l_H_9 (k0).x rfl rfl rfl rfl ?_
        refine kJ_iload_n 41 3 d_H_listen_40 rfl rfl rfl ?_
        refine kJ_aload_n 42 1 d_H_listen_41 rfl rfl rfl rfl ?_
        refine kJ_iload_n 43 3 d_H_listen_42 rfl rfl rfl ?_
        refine kM_callv 46 m_C_isPresent [.int x3] [.int x3, .ref (x0 + 1)] d_H_listen_43 cl_H_37 ⟨w_386, w_11⟩ (k1).x ⟨rfl, by decide⟩ ⟨_, _, rfl⟩ rfl rfl (Nat.le_of_ble_eq_true rfl) ⟨Nat.le_of_ble_eq_true rfl, Nat.le_of_ble_eq_true rfl⟩ ⟨rfl, rfl⟩ ⟨Nat.zero_le _, Nat.zero_le _⟩ (j_C_isPresent hro k1 rfl) rfl ?_
        refine kJ_if_eq 49 53 d_H_listen_46 rfl rfl (fun hc => ?_) (fun hc => ?_)
        · have hf := kIf_f hf (kB2_0 hc)
          refine kJ_aload_n 54 0 d_H_listen_53 rfl rfl rfl rfl ?_
          refine kJ_aload_n 55 1 d_H_listen_54 rfl rfl rfl rfl ?_
          refine kJ_aload_n 56 2 d_H_listen_55 rfl rfl rfl rfl ?_
          refine kJ_iload_n 57 3 d_H_listen_56 rfl rfl rfl ?_
          obtain ⟨v5, h4, ev5, hf⟩ := kBd_some hf
          refine kM_callv 60 m_H_takenUp [.ref x1, .ref x2, .int x3] [.int x3, .ref (x0 + 1)] d_H_listen_57 cl_H_41 ⟨w_447, w_21⟩ (k0).x ⟨rfl, by decide⟩ ⟨_, _, rfl⟩ rfl rfl (Nat.le_of_ble_eq_true rfl) ⟨Nat.le_of_ble_eq_true rfl, Nat.le_of_ble_eq_true rfl⟩ ⟨rfl, rfl⟩ ⟨Nat.zero_le _, Nat.zero_le _⟩ (j_H_takenUp hro k0 k1 k2 ev5) rfl ?_
          obtain ⟨hg, hf⟩ := kG_some hf
          refine kM_iast 61 12 d_H_listen_60 ((kk_1_0 k0)).x rfl hg rfl ?_
          obtain ⟨h6, eh6, hf⟩ := kLet_e hf
          rw [← eh6]
          refine kJ_iinc 64 3 [(3, .int (x3 + 1)), (0, .ref x0), (1, .ref x1), (2, .ref x2)] d_H_listen_61 rfl ki_1 (Nat.le_of_ble_eq_true rfl) rfl rfl ?_
          refine kJ_goto 19 d_H_listen_64 rfl ?_
          refine kJ_sub [1, 2, 3, 0] rfl ?_
          exact hrec19 h6 (x3 + 1) hf
        · have hf := kIf_t hf (kB2_1 hc)
          refine kJ_iload_n 50 3 d_H_listen_49 rfl rfl rfl ?_
          refine kJ_goto 60 d_H_listen_50 rfl ?_
          obtain ⟨hg, hf⟩ := kG_some hf
          refine kM_iast 61 12 d_H_listen_60 ((kk_1_0 k0)).x rfl hg rfl ?_
          obtain ⟨h7, eh7, hf⟩ := kLet_e hf
          rw [← eh7]
          refine kJ_iinc 64 3 [(3, .int (x3 + 1)), (0, .ref x0), (1, .ref x1), (2, .ref x2)] d_H_listen_61 rfl ki_1 (Nat.le_of_ble_eq_true rfl) rfl rfl ?_
          refine kJ_goto 19 d_H_listen_64 rfl ?_
          refine kJ_sub [1, 2, 3, 0] rfl ?_
          exact hrec19 h7 (x3 + 1) hf
def f_H_listen (h : kH) (x0 : Nat) (x1 : Nat) (x2 : Nat) : Option (kH) := kLet (hfill h (x0 + 1) 12 (-6)) fun h1 => kLet (hfill h1 (x0 + 2) 12 0) fun h2 => b_H_listen_19 x0 x1 x2 kFuel h2 0
theorem j_H_listen {E : kE} {L : Nat} {xs : Nat → Int32} (hro : kRo E L xs) {K : List Nat} {h : kH} {x0 : Nat} {x1 : Nat} {x2 : Nat} (k0 : kIs x0 1) (k1 : kIs x1 0) (k2 : kIs x2 3) {h' : kH} (hf : f_H_listen h x0 x1 x2 = some h') : JM E m_H_listen [.ref x0, .ref x1, .ref x2] (mk K h) none (mk K h') := by
  unfold f_H_listen at hf
  refine JM.of pn_H (Nat.le_of_ble_eq_true rfl) ?_
  show kJ E m_H_listen none (mk K h') 0 0 0 [(0, .ref x0), (1, .ref x1), (2, .ref x2)] [] (mk K h)
  refine kJ_aload_n 1 0 d_H_listen_0 rfl rfl rfl rfl ?_
  refine kM_getR 4 0 (x0 + 1) d_H_listen_1 l_H_9 (k0).x rfl rfl rfl rfl ?_
  refine kJ_bipush 6 (-6) d_H_listen_4 kb_m6 rfl ?_
  refine kM_calls 9 m_JA_fill [.ref (x0 + 1), .int (-6)] [] d_H_listen_6 cl_H_21 w_365 rfl rfl (Nat.le_of_ble_eq_true rfl) ⟨Nat.le_of_ble_eq_true rfl, Nat.le_of_ble_eq_true rfl⟩ ⟨rfl, rfl⟩ ⟨Nat.zero_le _, Nat.zero_le _⟩ (j_JA_fill hro ((kk_1_0 k0)).x (n := 12) rfl (by decide)) rfl ?_
  obtain ⟨h1, eh1, hf⟩ := kLet_e hf
  rw [← eh1]
  refine kJ_aload_n 10 0 d_H_listen_9 rfl rfl rfl rfl ?_
  refine kM_getR 13 1 (x0 + 2) d_H_listen_10 l_H_15 (k0).x rfl rfl rfl rfl ?_
  refine kJ_iconst 14 0 d_H_listen_13 ki_0 rfl ?_
  refine kM_calls 17 m_JA_fill [.ref (x0 + 2), .int 0] [] d_H_listen_14 cl_H_21 w_365 rfl rfl (Nat.le_of_ble_eq_true rfl) ⟨Nat.le_of_ble_eq_true rfl, Nat.le_of_ble_eq_true rfl⟩ ⟨rfl, rfl⟩ ⟨Nat.zero_le _, Nat.zero_le _⟩ (j_JA_fill hro ((kk_1_1 k0)).x (n := 12) rfl (by decide)) rfl ?_
  obtain ⟨h2, eh2, hf⟩ := kLet_e hf
  rw [← eh2]
  refine kJ_iconst 18 0 d_H_listen_17 ki_0 rfl ?_
  refine kJ_istore_n 19 [(3, .int 0), (0, .ref x0), (1, .ref x1), (2, .ref x2)] d_H_listen_18 rfl (Nat.le_of_ble_eq_true rfl) rfl rfl ?_
  refine kJ_sub [1, 2, 3, 0] rfl ?_
  exact c_H_listen_19 hro k0 k1 k2 kFuel h2 0 hf
def b_H_weightThere_31 (rec4 : Int32 → Int32 → Option Int32) (h : kH) (x0 : Nat) (x1 : Nat) (x2 : Int32) (x3 : Int32) : Option Int32 := kG x3 12 (kLet (x2 + (h (x1 + 2) (kx x3))) fun v1 => rec4 v1 (x3 + 1))
theorem c_H_weightThere_31 {E : kE} {L : Nat} {xs : Nat → Int32} (hro : kRo E L xs) {K : List Nat} {rec4 : Int32 → Int32 → Option Int32} {h : kH} {x0 : Nat} {x1 : Nat} {x2 : Int32} {x3 : Int32} (k0 : kIs x0 1) (k1 : kIs x1 0) {r : Int32} (hrec4 : ∀ (x2 : Int32) (x3 : Int32), rec4 x2 x3 = some r → kJ E m_H_weightThere (some r) (mk K h) 0 0 4 [(0, .ref x0), (1, .ref x1), (2, .int x2), (3, .int x3)] [] (mk K h)) (hf : b_H_weightThere_31 rec4 h x0 x1 x2 x3 = some r) : kJ E m_H_weightThere (some r) (mk K h) 0 0 31 [(0, .ref x0), (1, .ref x1), (2, .int x2), (3, .int x3)] [] (mk K h) := by
  unfold b_H_weightThere_31 at hf
  refine kJ_iload_n 32 2 d_H_weightThere_31 rfl rfl rfl ?_
  refine kJ_aload_n 33 1 d_H_weightThere_32 rfl rfl rfl rfl ?_
  refine kM_getR 36 1 (x1 + 2) d_H_weightThere_33 l_H_55 (k1).x rfl rfl rfl rfl ?_
  refine kJ_iload_n 37 3 d_H_weightThere_36 rfl rfl rfl ?_
  obtain ⟨hg, hf⟩ := kG_some hf
  refine kM_iald 38 12 d_H_weightThere_37 ((kk_0_6 k1)).x rfl hg rfl ?_
  refine kJ_iadd 39 d_H_weightThere_38 rfl ?_
  obtain ⟨v1, ev1, hf⟩ := kLet_e hf
  rw [← ev1]
  refine kJ_istore_n 40 [(2, .int v1), (0, .ref x0), (1, .ref x1), (3, .int x3)] d_H_weightThere_39 rfl (Nat.le_of_ble_eq_true rfl) rfl rfl ?_
  refine kJ_iinc 43 3 [(3, .int (x3 + 1)), (2, .int v1), (0, .ref x0), (1, .ref x1)] d_H_weightThere_40 rfl ki_1 (Nat.le_of_ble_eq_true rfl) rfl rfl ?_
  refine kJ_goto 4 d_H_weightThere_43 rfl ?_
  refine kJ_sub [2, 3, 1, 0] rfl ?_
  exact hrec4 v1 (x3 + 1) hf
def b_H_weightThere_4 (h : kH) (x0 : Nat) (x1 : Nat) : Nat → Int32 → Int32 → Option Int32
  | 0, _, _ => none
  | n + 1, x2, x3 => (fun rec4 => if (h x1 1) ≤ x3 then (some x2) else (if (f_C_isPresent h x1 x3) = true then (b_H_weightThere_31 rec4 h x0 x1 x2 x3) else (kG x3 12 (if (h (x0 + 1) (kx x3)) = (-6) then (rec4 x2 (x3 + 1)) else (b_H_weightThere_31 rec4 h x0 x1 x2 x3))))) (fun x2' x3' => b_H_weightThere_4 h x0 x1 n x2' x3')
theorem c_H_weightThere_4 {E : kE} {L : Nat} {xs : Nat → Int32} (hro : kRo E L xs) {K : List Nat} {h : kH} {x0 : Nat} {x1 : Nat} (k0 : kIs x0 1) (k1 : kIs x1 0) {r : Int32} : ∀ (n : Nat) (x2 : Int32) (x3 : Int32), b_H_weightThere_4 h x0 x1 n x2 x3 = some r → kJ E m_H_weightThere (some r) (mk K h) 0 0 4 [(0, .ref x0), (1, .ref x1), (2, .int x2), (3, .int x3)] [] (mk K h) := by
  intro n
  induction n with
  | zero =>
    intro x2 x3 hf
    have hf : (none : Option Int32) = some r := hf
    cases hf
  | succ n hrec4 =>
    intro x2 x3 hf
    rw [b_H_weightThere_4] at hf
    dsimp only at hf
    refine kJ_iload_n 5 3 d_H_weightThere_4 rfl rfl rfl ?_
    refine kJ_aload_n 6 1 d_H_weightThere_5 rfl rfl rfl rfl ?_
    refine kM_getI 9 d_H_weightThere_6 l_H_27 (k1).x rfl rfl rfl ?_
    refine kJ_icmp_ge 12 46 d_H_weightThere_9 rfl rfl (fun hc => ?_) (fun hc => ?_)
    · have hf := kIf_t hf hc
      refine kJ_iload_n 47 2 d_H_weightThere_46 rfl rfl rfl ?_
      cases hf
      exact kJ_iret d_H_weightThere_47 rfl rfl (Nat.zero_le _) (Nat.zero_le _)
    · have hf := kIf_f hf hc
      refine kJ_aload_n 13 1 d_H_weightThere_12 rfl rfl rfl rfl ?_
      refine kJ_iload_n 14 3 d_H_weightThere_13 rfl rfl rfl ?_
      refine kM_callv 17 m_C_isPresent [.int x3] [] d_H_weightThere_14 cl_H_37 ⟨w_386, w_11⟩ (k1).x ⟨rfl, by decide⟩ ⟨_, _, rfl⟩ rfl rfl (Nat.le_of_ble_eq_true rfl) ⟨Nat.le_of_ble_eq_true rfl, Nat.le_of_ble_eq_true rfl⟩ ⟨rfl, rfl⟩ ⟨Nat.zero_le _, Nat.zero_le _⟩ (j_C_isPresent hro k1 rfl) rfl ?_
      refine kJ_if_ne 20 31 d_H_weightThere_17 rfl rfl (fun hc => ?_) (fun hc => ?_)
      · have hf := kIf_t hf (kB2_1 hc)
        refine kJ_sub [0, 1, 2, 3] rfl ?_
        exact c_H_weightThere_31 hro k0 k1 hrec4 hf
      · have hf := kIf_f hf (kB2_0 hc)
        refine kJ_aload_n 21 0 d_H_weightThere_20 rfl rfl rfl rfl ?_
        refine kM_getR 24 0 (x0 + 1) d_H_weightThere_21 l_H_9 (k0).x rfl rfl rfl rfl ?_
        refine kJ_iload_n 25 3 d_H_weightThere_24 rfl rfl rfl ?_
        obtain ⟨hg, hf⟩ := kG_some hf
        refine kM_iald 26 12 d_H_weightThere_25 ((kk_1_0 k0)).x rfl hg rfl ?_
        refine kJ_bipush 28 (-6) d_H_weightThere_26 kb_m6 rfl ?_
        refine kJ_icmp_eq 31 40 d_H_weightThere_28 rfl rfl (fun hc => ?_) (fun hc => ?_)
        · have hf := kIf_t hf hc
          refine kJ_iinc 43 3 [(3, .int (x3 + 1)), (0, .ref x0), (1, .ref x1), (2, .int x2)] d_H_weightThere_40 rfl ki_1 (Nat.le_of_ble_eq_true rfl) rfl rfl ?_
          refine kJ_goto 4 d_H_weightThere_43 rfl ?_
          refine kJ_sub [1, 2, 3, 0] rfl ?_
          exact hrec4 x2 (x3 + 1) hf
        · have hf := kIf_f hf hc
          refine kJ_sub [0, 1, 2, 3] rfl ?_
          exact c_H_weightThere_31 hro k0 k1 hrec4 hf
def f_H_weightThere (h : kH) (x0 : Nat) (x1 : Nat) : Option Int32 := b_H_weightThere_4 h x0 x1 kFuel 0 0
theorem j_H_weightThere {E : kE} {L : Nat} {xs : Nat → Int32} (hro : kRo E L xs) {K : List Nat} {h : kH} {x0 : Nat} {x1 : Nat} (k0 : kIs x0 1) (k1 : kIs x1 0) {r : Int32} (hf : f_H_weightThere h x0 x1 = some r) : JM E m_H_weightThere [.ref x0, .ref x1] (mk K h) (some r) (mk K h) := by
  unfold f_H_weightThere at hf
  refine JM.of pn_H (Nat.le_of_ble_eq_true rfl) ?_
  show kJ E m_H_weightThere (some r) (mk K h) 0 0 0 [(0, .ref x0), (1, .ref x1)] [] (mk K h)
  refine kJ_iconst 1 0 d_H_weightThere_0 ki_0 rfl ?_
  refine kJ_istore_n 2 [(2, .int 0), (0, .ref x0), (1, .ref x1)] d_H_weightThere_1 rfl (Nat.le_of_ble_eq_true rfl) rfl rfl ?_
  refine kJ_iconst 3 0 d_H_weightThere_2 ki_0 rfl ?_
  refine kJ_istore_n 4 [(3, .int 0), (2, .int 0), (0, .ref x0), (1, .ref x1)] d_H_weightThere_3 rfl (Nat.le_of_ble_eq_true rfl) rfl rfl ?_
  refine kJ_sub [2, 3, 1, 0] rfl ?_
  exact c_H_weightThere_4 hro k0 k1 kFuel 0 0 hf
def b_C_isQuorum_28 (h : kH) (x0 : Nat) (x1 : Int32) (s0 : Int32) : Option Bool := kBi (f_C_weightOfAll h x0) fun v1 => if (100 * x1) < (v1 * s0) then (some false) else (some true)
theorem c_C_isQuorum_28 {E : kE} {L : Nat} {xs : Nat → Int32} (hro : kRo E L xs) {K : List Nat} {h : kH} {x0 : Nat} {x1 : Int32} {s0 : Int32} (k0 : kIs x0 0) {r : Bool} (hf : b_C_isQuorum_28 h x0 x1 s0 = some r) : kJ E m_C_isQuorum (some (kB2 r)) (mk K h) 0 0 28 [(0, .ref x0), (1, .int x1)] [.int s0] (mk K h) := by
  unfold b_C_isQuorum_28 at hf
  refine kJ_istore_n 29 [(2, .int s0), (0, .ref x0), (1, .int x1)] d_C_isQuorum_28 rfl (Nat.le_of_ble_eq_true rfl) rfl rfl ?_
  refine kJ_bipush 31 100 d_C_isQuorum_29 kb_100 rfl ?_
  refine kJ_iload_n 32 2 d_C_isQuorum_31 rfl rfl rfl ?_
  refine kJ_imul 33 d_C_isQuorum_32 rfl ?_
  refine kJ_aload_n 34 1 d_C_isQuorum_33 rfl rfl rfl rfl ?_
  obtain ⟨v1, ev1, hf⟩ := kBi_some hf
  refine kM_callv 37 m_C_weightOfAll [] [.int (100 * x1)] d_C_isQuorum_34 cl_C_85 ⟨w_415, w_17⟩ (k0).x ⟨rfl, by decide⟩ ⟨_, _, rfl⟩ rfl rfl (Nat.le_of_ble_eq_true rfl) ⟨Nat.le_of_ble_eq_true rfl, Nat.le_of_ble_eq_true rfl⟩ ⟨rfl, rfl⟩ ⟨Nat.zero_le _, Nat.zero_le _⟩ (j_C_weightOfAll hro k0 ev1) rfl ?_
  refine kJ_iload_n 38 0 d_C_isQuorum_37 rfl rfl rfl ?_
  refine kJ_imul 39 d_C_isQuorum_38 rfl ?_
  refine kJ_icmp_lt 42 46 d_C_isQuorum_39 rfl rfl (fun hc => ?_) (fun hc => ?_)
  · have hf := kIf_t hf hc
    refine kJ_iconst 47 0 d_C_isQuorum_46 ki_0 rfl ?_
    cases hf
    exact kJ_iret d_C_isQuorum_47 rfl (kB2_z _) (Nat.zero_le _) (Nat.zero_le _)
  · have hf := kIf_f hf hc
    refine kJ_iconst 43 1 d_C_isQuorum_42 ki_1 rfl ?_
    refine kJ_goto 47 d_C_isQuorum_43 rfl ?_
    cases hf
    exact kJ_iret d_C_isQuorum_47 rfl (kB2_z _) (Nat.zero_le _) (Nat.zero_le _)
def f_C_isQuorum (h : kH) (x0 : Nat) (x1 : Int32) : Option Bool := kG 2 6 (if (h x0 0) < (h (x0 + 1) (kx 2)) then (kG 0 6 (b_C_isQuorum_28 h x0 x1 (h (x0 + 1) (kx 0)))) else (kG 1 6 (b_C_isQuorum_28 h x0 x1 (h (x0 + 1) (kx 1)))))
theorem j_C_isQuorum {E : kE} {L : Nat} {xs : Nat → Int32} (hro : kRo E L xs) {K : List Nat} {h : kH} {x0 : Nat} {x1 : Int32} (k0 : kIs x0 0) {r : Bool} (hf : f_C_isQuorum h x0 x1 = some r) : JM E m_C_isQuorum [.ref x0, .int x1] (mk K h) (some (kB2 r)) (mk K h) := by
  unfold f_C_isQuorum at hf
  refine JM.of pn_C (Nat.le_of_ble_eq_true rfl) ?_
  show kJ E m_C_isQuorum (some (kB2 r)) (mk K h) 0 0 0 [(0, .ref x0), (1, .int x1)] [] (mk K h)
  refine kJ_aload_n 1 0 d_C_isQuorum_0 rfl rfl rfl rfl ?_
  refine kM_getI 4 d_C_isQuorum_1 l_C_51 (k0).x rfl rfl rfl ?_
  refine kJ_aload_n 5 0 d_C_isQuorum_4 rfl rfl rfl rfl ?_
  refine kM_getR 8 0 (x0 + 1) d_C_isQuorum_5 l_C_15 (k0).x rfl rfl rfl rfl ?_
  refine kJ_iconst 9 2 d_C_isQuorum_8 ki_2 rfl ?_
  obtain ⟨hg, hf⟩ := kG_some hf
  refine kM_iald 10 6 d_C_isQuorum_9 ((kk_0_5 k0)).x rfl hg rfl ?_
  refine kJ_icmp_lt 13 22 d_C_isQuorum_10 rfl rfl (fun hc => ?_) (fun hc => ?_)
  · have hf := kIf_t hf hc
    refine kJ_aload_n 23 0 d_C_isQuorum_22 rfl rfl rfl rfl ?_
    refine kM_getR 26 0 (x0 + 1) d_C_isQuorum_23 l_C_15 (k0).x rfl rfl rfl rfl ?_
    refine kJ_iconst 27 0 d_C_isQuorum_26 ki_0 rfl ?_
    obtain ⟨hg, hf⟩ := kG_some hf
    refine kM_iald 28 6 d_C_isQuorum_27 ((kk_0_5 k0)).x rfl hg rfl ?_
    refine kJ_sub [0, 1] rfl ?_
    exact c_C_isQuorum_28 hro k0 hf
  · have hf := kIf_f hf hc
    refine kJ_aload_n 14 0 d_C_isQuorum_13 rfl rfl rfl rfl ?_
    refine kM_getR 17 0 (x0 + 1) d_C_isQuorum_14 l_C_15 (k0).x rfl rfl rfl rfl ?_
    refine kJ_iconst 18 1 d_C_isQuorum_17 ki_1 rfl ?_
    obtain ⟨hg, hf⟩ := kG_some hf
    refine kM_iald 19 6 d_C_isQuorum_18 ((kk_0_5 k0)).x rfl hg rfl ?_
    refine kJ_goto 28 d_C_isQuorum_19 rfl ?_
    refine kJ_sub [0, 1] rfl ?_
    exact c_C_isQuorum_28 hro k0 hf
def f_I_isPending (h : kH) (x0 : Nat) : Bool := if (h x0 2) = 0 then true else (if (h x0 2) = 1 then true else false)
theorem j_I_isPending {E : kE} {L : Nat} {xs : Nat → Int32} (hro : kRo E L xs) {K : List Nat} {h : kH} {x0 : Nat} (k0 : kIs x0 3) {r : Bool} (hf : f_I_isPending h x0 = r) : JM E m_I_isPending [.ref x0] (mk K h) (some (kB2 r)) (mk K h) := by
  unfold f_I_isPending at hf
  refine JM.of pn_I (Nat.le_of_ble_eq_true rfl) ?_
  show kJ E m_I_isPending (some (kB2 r)) (mk K h) 0 0 0 [(0, .ref x0)] [] (mk K h)
  refine kJ_aload_n 1 0 d_I_isPending_0 rfl rfl rfl rfl ?_
  refine kM_getI 4 d_I_isPending_1 l_I_31 (k0).x rfl rfl rfl ?_
  refine kJ_if_eq 7 15 d_I_isPending_4 rfl rfl (fun hc => ?_) (fun hc => ?_)
  · have hf := kIf_t hf hc
    refine kJ_iconst 16 1 d_I_isPending_15 ki_1 rfl ?_
    refine kJ_goto 20 d_I_isPending_16 rfl ?_
    subst hf
    exact kJ_iret d_I_isPending_20 rfl (kB2_z _) (Nat.zero_le _) (Nat.zero_le _)
  · have hf := kIf_f hf hc
    refine kJ_aload_n 8 0 d_I_isPending_7 rfl rfl rfl rfl ?_
    refine kM_getI 11 d_I_isPending_8 l_I_31 (k0).x rfl rfl rfl ?_
    refine kJ_iconst 12 1 d_I_isPending_11 ki_1 rfl ?_
    refine kJ_icmp_ne 15 19 d_I_isPending_12 rfl rfl (fun hc => ?_) (fun hc => ?_)
    · have hf := kIf_f hf hc
      refine kJ_iconst 20 0 d_I_isPending_19 ki_0 rfl ?_
      subst hf
      exact kJ_iret d_I_isPending_20 rfl (kB2_z _) (Nat.zero_le _) (Nat.zero_le _)
    · have hf := kIf_t hf hc
      refine kJ_iconst 16 1 d_I_isPending_15 ki_1 rfl ?_
      refine kJ_goto 20 d_I_isPending_16 rfl ?_
      subst hf
      exact kJ_iret d_I_isPending_20 rfl (kB2_z _) (Nat.zero_le _) (Nat.zero_le _)
def f_H_wayOf (h : kH) (x0 : Nat) (x1 : Nat) (x2 : Nat) (x3 : Int32) : Option Int32 := kBi (f_C_isRecused h x1 x3 x2) fun v1 => if v1 = true then (some 5) else (kG x3 12 (if (h (x2 + 2) (kx x3)) = (-6) then (if (f_C_isPresent h x1 x3) = true then (some 3) else (kG x3 12 (if (h (x0 + 1) (kx x3)) = (-6) then (some 4) else (kG x3 12 (if (h (x2 + 3) (kx x3)) = (-6) then (kG (h (x0 + 1) (kx x3)) 12 (if (h (x2 + 2) (kx (h (x0 + 1) (kx x3)))) = (-6) then (some 3) else (kG (h (x0 + 1) (kx x3)) 12 (some (h (x2 + 2) (kx (h (x0 + 1) (kx x3)))))))) else (kG x3 12 (some (h (x2 + 3) (kx x3))))))))) else (kG x3 12 (some (h (x2 + 2) (kx x3))))))
theorem j_H_wayOf {E : kE} {L : Nat} {xs : Nat → Int32} (hro : kRo E L xs) {K : List Nat} {h : kH} {x0 : Nat} {x1 : Nat} {x2 : Nat} {x3 : Int32} (k0 : kIs x0 1) (k1 : kIs x1 0) (k2 : kIs x2 3) {r : Int32} (hf : f_H_wayOf h x0 x1 x2 x3 = some r) : JM E m_H_wayOf [.ref x0, .ref x1, .ref x2, .int x3] (mk K h) (some r) (mk K h) := by
  unfold f_H_wayOf at hf
  refine JM.of pn_H (Nat.le_of_ble_eq_true rfl) ?_
  show kJ E m_H_wayOf (some r) (mk K h) 0 0 0 [(0, .ref x0), (1, .ref x1), (2, .ref x2), (3, .int x3)] [] (mk K h)
  refine kJ_aload_n 1 1 d_H_wayOf_0 rfl rfl rfl rfl ?_
  refine kJ_iload_n 2 3 d_H_wayOf_1 rfl rfl rfl ?_
  refine kJ_aload_n 3 2 d_H_wayOf_2 rfl rfl rfl rfl ?_
  obtain ⟨v1, ev1, hf⟩ := kBi_some hf
  refine kM_callv 6 m_C_isRecused [.int x3, .ref x2] [] d_H_wayOf_3 cl_H_33 ⟨w_442, w_20⟩ (k1).x ⟨rfl, by decide⟩ ⟨_, _, rfl⟩ rfl rfl (Nat.le_of_ble_eq_true rfl) ⟨Nat.le_of_ble_eq_true rfl, Nat.le_of_ble_eq_true rfl⟩ ⟨rfl, rfl⟩ ⟨Nat.zero_le _, Nat.zero_le _⟩ (j_C_isRecused hro k1 k2 ev1) rfl ?_
  refine kJ_if_eq 9 11 d_H_wayOf_6 rfl rfl (fun hc => ?_) (fun hc => ?_)
  · have hf := kIf_f hf (kB2_0 hc)
    refine kJ_aload_n 12 2 d_H_wayOf_11 rfl rfl rfl rfl ?_
    refine kM_getR 15 1 (x2 + 2) d_H_wayOf_12 l_H_58 (k2).x rfl rfl rfl rfl ?_
    refine kJ_iload_n 16 3 d_H_wayOf_15 rfl rfl rfl ?_
    obtain ⟨hg, hf⟩ := kG_some hf
    refine kM_iald 17 12 d_H_wayOf_16 ((kk_3_7 k2)).x rfl hg rfl ?_
    refine kJ_bipush 19 (-6) d_H_wayOf_17 kb_m6 rfl ?_
    refine kJ_icmp_eq 22 29 d_H_wayOf_19 rfl rfl (fun hc => ?_) (fun hc => ?_)
    · have hf := kIf_t hf hc
      refine kJ_aload_n 30 1 d_H_wayOf_29 rfl rfl rfl rfl ?_
      refine kJ_iload_n 31 3 d_H_wayOf_30 rfl rfl rfl ?_
      refine kM_callv 34 m_C_isPresent [.int x3] [] d_H_wayOf_31 cl_H_37 ⟨w_386, w_11⟩ (k1).x ⟨rfl, by decide⟩ ⟨_, _, rfl⟩ rfl rfl (Nat.le_of_ble_eq_true rfl) ⟨Nat.le_of_ble_eq_true rfl, Nat.le_of_ble_eq_true rfl⟩ ⟨rfl, rfl⟩ ⟨Nat.zero_le _, Nat.zero_le _⟩ (j_C_isPresent hro k1 rfl) rfl ?_
      refine kJ_if_eq 37 39 d_H_wayOf_34 rfl rfl (fun hc => ?_) (fun hc => ?_)
      · have hf := kIf_f hf (kB2_0 hc)
        refine kJ_aload_n 40 0 d_H_wayOf_39 rfl rfl rfl rfl ?_
        refine kM_getR 43 0 (x0 + 1) d_H_wayOf_40 l_H_9 (k0).x rfl rfl rfl rfl ?_
        refine kJ_iload_n 44 3 d_H_wayOf_43 rfl rfl rfl ?_
        obtain ⟨hg, hf⟩ := kG_some hf
        refine kM_iald 45 12 d_H_wayOf_44 ((kk_1_0 k0)).x rfl hg rfl ?_
        refine kJ_istore 47 [(4, .int (h (x0 + 1) (kx x3))), (0, .ref x0), (1, .ref x1), (2, .ref x2), (3, .int x3)] d_H_wayOf_45 (Nat.le_of_ble_eq_true rfl) rfl rfl ?_
        refine kJ_iload 49 0 d_H_wayOf_47 rfl rfl ?_
        refine kJ_bipush 51 (-6) d_H_wayOf_49 kb_m6 rfl ?_
        refine kJ_icmp_ne 54 56 d_H_wayOf_51 rfl rfl (fun hc => ?_) (fun hc => ?_)
        · have hf := kIf_f hf hc
          refine kJ_aload_n 57 3 d_H_wayOf_56 rfl rfl rfl rfl ?_
          refine kM_getR 60 2 (x2 + 3) d_H_wayOf_57 l_H_63 (k2).x rfl rfl rfl rfl ?_
          refine kJ_iload_n 61 4 d_H_wayOf_60 rfl rfl rfl ?_
          obtain ⟨hg, hf⟩ := kG_some hf
          refine kM_iald 62 12 d_H_wayOf_61 ((kk_3_8 k2)).x rfl hg rfl ?_
          refine kJ_bipush 64 (-6) d_H_wayOf_62 kb_m6 rfl ?_
          refine kJ_icmp_eq 67 74 d_H_wayOf_64 rfl rfl (fun hc => ?_) (fun hc => ?_)
          · have hf := kIf_t hf hc
            refine kJ_aload_n 75 3 d_H_wayOf_74 rfl rfl rfl rfl ?_
            refine kM_getR 78 1 (x2 + 2) d_H_wayOf_75 l_H_58 (k2).x rfl rfl rfl rfl ?_
            refine kJ_iload 80 0 d_H_wayOf_78 rfl rfl ?_
            obtain ⟨hg, hf⟩ := kG_some hf
            refine kM_iald 81 12 d_H_wayOf_80 ((kk_3_7 k2)).x rfl hg rfl ?_
            refine kJ_bipush 83 (-6) d_H_wayOf_81 kb_m6 rfl ?_
            refine kJ_icmp_eq 86 96 d_H_wayOf_83 rfl rfl (fun hc => ?_) (fun hc => ?_)
            · have hf := kIf_t hf hc
              refine kJ_iconst 97 3 d_H_wayOf_96 ki_3 rfl ?_
              cases hf
              exact kJ_iret d_H_wayOf_97 rfl rfl (Nat.zero_le _) (Nat.zero_le _)
            · have hf := kIf_f hf hc
              refine kJ_aload_n 87 3 d_H_wayOf_86 rfl rfl rfl rfl ?_
              refine kM_getR 90 1 (x2 + 2) d_H_wayOf_87 l_H_58 (k2).x rfl rfl rfl rfl ?_
              refine kJ_iload 92 0 d_H_wayOf_90 rfl rfl ?_
              obtain ⟨hg, hf⟩ := kG_some hf
              refine kM_iald 93 12 d_H_wayOf_92 ((kk_3_7 k2)).x rfl hg rfl ?_
              refine kJ_goto 97 d_H_wayOf_93 rfl ?_
              cases hf
              exact kJ_iret d_H_wayOf_97 rfl rfl (Nat.zero_le _) (Nat.zero_le _)
          · have hf := kIf_f hf hc
            refine kJ_aload_n 68 3 d_H_wayOf_67 rfl rfl rfl rfl ?_
            refine kM_getR 71 2 (x2 + 3) d_H_wayOf_68 l_H_63 (k2).x rfl rfl rfl rfl ?_
            refine kJ_iload_n 72 4 d_H_wayOf_71 rfl rfl rfl ?_
            obtain ⟨hg, hf⟩ := kG_some hf
            refine kM_iald 73 12 d_H_wayOf_72 ((kk_3_8 k2)).x rfl hg rfl ?_
            cases hf
            exact kJ_iret d_H_wayOf_73 rfl rfl (Nat.zero_le _) (Nat.zero_le _)
        · have hf := kIf_t hf hc
          refine kJ_iconst 55 4 d_H_wayOf_54 ki_4 rfl ?_
          cases hf
          exact kJ_iret d_H_wayOf_55 rfl rfl (Nat.zero_le _) (Nat.zero_le _)
      · have hf := kIf_t hf (kB2_1 hc)
        refine kJ_iconst 38 3 d_H_wayOf_37 ki_3 rfl ?_
        cases hf
        exact kJ_iret d_H_wayOf_38 rfl rfl (Nat.zero_le _) (Nat.zero_le _)
    · have hf := kIf_f hf hc
      refine kJ_aload_n 23 2 d_H_wayOf_22 rfl rfl rfl rfl ?_
      refine kM_getR 26 1 (x2 + 2) d_H_wayOf_23 l_H_58 (k2).x rfl rfl rfl rfl ?_
      refine kJ_iload_n 27 3 d_H_wayOf_26 rfl rfl rfl ?_
      obtain ⟨hg, hf⟩ := kG_some hf
      refine kM_iald 28 12 d_H_wayOf_27 ((kk_3_7 k2)).x rfl hg rfl ?_
      cases hf
      exact kJ_iret d_H_wayOf_28 rfl rfl (Nat.zero_le _) (Nat.zero_le _)
  · have hf := kIf_t hf (kB2_1 hc)
    refine kJ_iconst 10 5 d_H_wayOf_9 ki_5 rfl ?_
    cases hf
    exact kJ_iret d_H_wayOf_10 rfl rfl (Nat.zero_le _) (Nat.zero_le _)
def b_H_tally_10 (x0 : Nat) (x1 : Nat) (x2 : Nat) : Nat → kH → Int32 → Option (kH)
  | 0, _, _ => none
  | n + 1, h, x3 => (fun rec10 => if (h x1 1) ≤ x3 then (some h) else (kBi (f_H_wayOf h x0 x1 x2 x3) fun v2 => kG v2 6 (kG x3 12 (kG v2 6 (kLet (hset h (x0 + 3) (kx v2) ((h (x0 + 3) (kx v2)) + (h (x1 + 2) (kx x3)))) fun h3 => rec10 h3 (x3 + 1)))))) (fun h' x3' => b_H_tally_10 x0 x1 x2 n h' x3')
theorem c_H_tally_10 {E : kE} {L : Nat} {xs : Nat → Int32} (hro : kRo E L xs) {K : List Nat} {x0 : Nat} {x1 : Nat} {x2 : Nat} (k0 : kIs x0 1) (k1 : kIs x1 0) (k2 : kIs x2 3) {h' : kH} : ∀ (n : Nat) (h : kH) (x3 : Int32), b_H_tally_10 x0 x1 x2 n h x3 = some h' → kJ E m_H_tally none (mk K h') 0 0 10 [(0, .ref x0), (1, .ref x1), (2, .ref x2), (3, .int x3)] [] (mk K h) := by
  intro n
  induction n with
  | zero =>
    intro h x3 hf
    have hf : (none : Option (kH)) = some h' := hf
    cases hf
  | succ n hrec10 =>
    intro h x3 hf
    rw [b_H_tally_10] at hf
    dsimp only at hf
    refine kJ_iload_n 11 3 d_H_tally_10 rfl rfl rfl ?_
    refine kJ_aload_n 12 1 d_H_tally_11 rfl rfl rfl rfl ?_
    refine kM_getI 15 d_H_tally_12 l_H_27 (k1).x rfl rfl rfl ?_
    refine kJ_icmp_ge 18 45 d_H_tally_15 rfl rfl (fun hc => ?_) (fun hc => ?_)
    · have hf := kIf_t hf hc
      cases hf
      exact kJ_ret d_H_tally_45 rfl (Nat.zero_le _) (Nat.zero_le _)
    · have hf := kIf_f hf hc
      refine kJ_aload_n 19 0 d_H_tally_18 rfl rfl rfl rfl ?_
      refine kM_getR 22 2 (x0 + 3) d_H_tally_19 l_H_18 (k0).x rfl rfl rfl rfl ?_
      refine kJ_aload_n 23 0 d_H_tally_22 rfl rfl rfl rfl ?_
      refine kJ_aload_n 24 1 d_H_tally_23 rfl rfl rfl rfl ?_
      refine kJ_aload_n 25 2 d_H_tally_24 rfl rfl rfl rfl ?_
      refine kJ_iload_n 26 3 d_H_tally_25 rfl rfl rfl ?_
      obtain ⟨v2, ev2, hf⟩ := kBi_some hf
      refine kM_callv 29 m_H_wayOf [.ref x1, .ref x2, .int x3] [.ref (x0 + 3)] d_H_tally_26 cl_H_66 ⟨w_480, w_29⟩ (k0).x ⟨rfl, by decide⟩ ⟨_, _, rfl⟩ rfl rfl (Nat.le_of_ble_eq_true rfl) ⟨Nat.le_of_ble_eq_true rfl, Nat.le_of_ble_eq_true rfl⟩ ⟨rfl, rfl⟩ ⟨Nat.zero_le _, Nat.zero_le _⟩ (j_H_wayOf hro k0 k1 k2 ev2) rfl ?_
      refine kJ_dup2 30 d_H_tally_29 rfl rfl rfl ?_
      obtain ⟨hg, hf⟩ := kG_some hf
      refine kM_iald 31 6 d_H_tally_30 ((kk_1_2 k0)).x rfl hg rfl ?_
      refine kJ_aload_n 32 1 d_H_tally_31 rfl rfl rfl rfl ?_
      refine kM_getR 35 1 (x1 + 2) d_H_tally_32 l_H_55 (k1).x rfl rfl rfl rfl ?_
      refine kJ_iload_n 36 3 d_H_tally_35 rfl rfl rfl ?_
      obtain ⟨hg, hf⟩ := kG_some hf
      refine kM_iald 37 12 d_H_tally_36 ((kk_0_6 k1)).x rfl hg rfl ?_
      refine kJ_iadd 38 d_H_tally_37 rfl ?_
      obtain ⟨hg, hf⟩ := kG_some hf
      refine kM_iast 39 6 d_H_tally_38 ((kk_1_2 k0)).x rfl hg rfl ?_
      obtain ⟨h3, eh3, hf⟩ := kLet_e hf
      rw [← eh3]
      refine kJ_iinc 42 3 [(3, .int (x3 + 1)), (0, .ref x0), (1, .ref x1), (2, .ref x2)] d_H_tally_39 rfl ki_1 (Nat.le_of_ble_eq_true rfl) rfl rfl ?_
      refine kJ_goto 10 d_H_tally_42 rfl ?_
      refine kJ_sub [1, 2, 3, 0] rfl ?_
      exact hrec10 h3 (x3 + 1) hf
def f_H_tally (h : kH) (x0 : Nat) (x1 : Nat) (x2 : Nat) : Option (kH) := kLet (hfill h (x0 + 3) 6 0) fun h1 => b_H_tally_10 x0 x1 x2 kFuel h1 0
theorem j_H_tally {E : kE} {L : Nat} {xs : Nat → Int32} (hro : kRo E L xs) {K : List Nat} {h : kH} {x0 : Nat} {x1 : Nat} {x2 : Nat} (k0 : kIs x0 1) (k1 : kIs x1 0) (k2 : kIs x2 3) {h' : kH} (hf : f_H_tally h x0 x1 x2 = some h') : JM E m_H_tally [.ref x0, .ref x1, .ref x2] (mk K h) none (mk K h') := by
  unfold f_H_tally at hf
  refine JM.of pn_H (Nat.le_of_ble_eq_true rfl) ?_
  show kJ E m_H_tally none (mk K h') 0 0 0 [(0, .ref x0), (1, .ref x1), (2, .ref x2)] [] (mk K h)
  refine kJ_aload_n 1 0 d_H_tally_0 rfl rfl rfl rfl ?_
  refine kM_getR 4 2 (x0 + 3) d_H_tally_1 l_H_18 (k0).x rfl rfl rfl rfl ?_
  refine kJ_iconst 5 0 d_H_tally_4 ki_0 rfl ?_
  refine kM_calls 8 m_JA_fill [.ref (x0 + 3), .int 0] [] d_H_tally_5 cl_H_21 w_365 rfl rfl (Nat.le_of_ble_eq_true rfl) ⟨Nat.le_of_ble_eq_true rfl, Nat.le_of_ble_eq_true rfl⟩ ⟨rfl, rfl⟩ ⟨Nat.zero_le _, Nat.zero_le _⟩ (j_JA_fill hro ((kk_1_2 k0)).x (n := 6) rfl (by decide)) rfl ?_
  obtain ⟨h1, eh1, hf⟩ := kLet_e hf
  rw [← eh1]
  refine kJ_iconst 9 0 d_H_tally_8 ki_0 rfl ?_
  refine kJ_istore_n 10 [(3, .int 0), (0, .ref x0), (1, .ref x1), (2, .ref x2)] d_H_tally_9 rfl (Nat.le_of_ble_eq_true rfl) rfl rfl ?_
  refine kJ_sub [1, 2, 3, 0] rfl ?_
  exact c_H_tally_10 hro k0 k1 k2 kFuel h1 0 hf
def f_P_sumOf (h : kH) (x1 : Nat) (x2 : Int32) : Option (Int32 × kH) := if (f_I_isPending h x1) = true then (kBi (f_H_listen h 141 1 x1) fun h1 => kBi (f_H_tally h1 141 1 x1) fun h2 => kG x2 6 (some ((h2 144 (kx x2)), h2))) else (kG x2 6 (some ((h (x1 + 1) (kx x2)), h)))
theorem j_P_sumOf {E : kE} {L : Nat} {xs : Nat → Int32} (hro : kRo E L xs) {K : List Nat} {h : kH} {x1 : Nat} {x2 : Int32} (k1 : kIs x1 3) {r : Int32} {h' : kH} (hf : f_P_sumOf h x1 x2 = some (r, h')) : JM E m_P_sumOf [.ref 0, .ref x1, .int x2] (mk K h) (some r) (mk K h') := by
  unfold f_P_sumOf at hf
  refine JM.of pn_P (Nat.le_of_ble_eq_true rfl) ?_
  show kJ E m_P_sumOf (some r) (mk K h') 0 0 0 [(0, .ref 0), (1, .ref x1), (2, .int x2)] [] (mk K h)
  refine kJ_aload_n 1 1 d_P_sumOf_0 rfl rfl rfl rfl ?_
  refine kM_callv 4 m_I_isPending [] [] d_P_sumOf_1 cl_P_242 ⟨w_472, w_27⟩ (k1).x ⟨rfl, by decide⟩ ⟨_, _, rfl⟩ rfl rfl (Nat.le_of_ble_eq_true rfl) ⟨Nat.le_of_ble_eq_true rfl, Nat.le_of_ble_eq_true rfl⟩ ⟨rfl, rfl⟩ ⟨Nat.zero_le _, Nat.zero_le _⟩ (j_I_isPending hro k1 rfl) rfl ?_
  refine kJ_if_ne 7 14 d_P_sumOf_4 rfl rfl (fun hc => ?_) (fun hc => ?_)
  · have hf := kIf_t hf (kB2_1 hc)
    refine kJ_aload_n 15 0 d_P_sumOf_14 rfl rfl rfl rfl ?_
    refine kM_getR 18 140 141 d_P_sumOf_15 l_P_22 (kp_0).x rfl rfl rfl rfl ?_
    refine kJ_aload_n 19 0 d_P_sumOf_18 rfl rfl rfl rfl ?_
    refine kM_getR 22 0 1 d_P_sumOf_19 l_P_10 (kp_0).x rfl rfl rfl rfl ?_
    refine kJ_aload_n 23 1 d_P_sumOf_22 rfl rfl rfl rfl ?_
    obtain ⟨h1, eh1, hf⟩ := kBi_some hf
    refine kM_callv 26 m_H_listen [.ref 1, .ref x1] [] d_P_sumOf_23 cl_P_159 ⟨w_437, w_19⟩ (kp_141).x ⟨rfl, by decide⟩ ⟨_, _, rfl⟩ rfl rfl (Nat.le_of_ble_eq_true rfl) ⟨Nat.le_of_ble_eq_true rfl, Nat.le_of_ble_eq_true rfl⟩ ⟨rfl, rfl⟩ ⟨Nat.zero_le _, Nat.zero_le _⟩ (j_H_listen hro kp_141 kp_1 k1 eh1) rfl ?_
    refine kJ_aload_n 27 0 d_P_sumOf_26 rfl rfl rfl rfl ?_
    refine kM_getR 30 140 141 d_P_sumOf_27 l_P_22 (kp_0).x rfl rfl rfl rfl ?_
    refine kJ_aload_n 31 0 d_P_sumOf_30 rfl rfl rfl rfl ?_
    refine kM_getR 34 0 1 d_P_sumOf_31 l_P_10 (kp_0).x rfl rfl rfl rfl ?_
    refine kJ_aload_n 35 1 d_P_sumOf_34 rfl rfl rfl rfl ?_
    obtain ⟨h2, eh2, hf⟩ := kBi_some hf
    refine kM_callv 38 m_H_tally [.ref 1, .ref x1] [] d_P_sumOf_35 cl_P_249 ⟨w_476, w_28⟩ (kp_141).x ⟨rfl, by decide⟩ ⟨_, _, rfl⟩ rfl rfl (Nat.le_of_ble_eq_true rfl) ⟨Nat.le_of_ble_eq_true rfl, Nat.le_of_ble_eq_true rfl⟩ ⟨rfl, rfl⟩ ⟨Nat.zero_le _, Nat.zero_le _⟩ (j_H_tally hro kp_141 kp_1 k1 eh2) rfl ?_
    refine kJ_aload_n 39 0 d_P_sumOf_38 rfl rfl rfl rfl ?_
    refine kM_getR 42 140 141 d_P_sumOf_39 l_P_22 (kp_0).x rfl rfl rfl rfl ?_
    refine kM_getR 45 2 144 d_P_sumOf_42 l_P_252 (kp_141).x rfl rfl rfl rfl ?_
    refine kJ_iload_n 46 2 d_P_sumOf_45 rfl rfl rfl ?_
    obtain ⟨hg, hf⟩ := kG_some hf
    refine kM_iald 47 6 d_P_sumOf_46 ((kk_1_2 kp_141)).x rfl hg rfl ?_
    cases hf
    exact kJ_iret d_P_sumOf_47 rfl rfl (Nat.zero_le _) (Nat.zero_le _)
  · have hf := kIf_f hf (kB2_0 hc)
    refine kJ_aload_n 8 1 d_P_sumOf_7 rfl rfl rfl rfl ?_
    refine kM_getR 11 0 (x1 + 1) d_P_sumOf_8 l_P_246 (k1).x rfl rfl rfl rfl ?_
    refine kJ_iload_n 12 2 d_P_sumOf_11 rfl rfl rfl ?_
    obtain ⟨hg, hf⟩ := kG_some hf
    refine kM_iald 13 6 d_P_sumOf_12 ((kk_3_6 k1)).x rfl hg rfl ?_
    cases hf
    exact kJ_iret d_P_sumOf_13 rfl rfl (Nat.zero_le _) (Nat.zero_le _)
