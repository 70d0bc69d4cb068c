/-! CONSTRUCTOR of the reference: its arrays' part is printed by wip/whole/init.py M. -/
abbrev cells_M (b : Nat) : List kC := [(7, [.ref (b + 1), .ref (b + 2), .ref (b + 3), .int 0, .ref (b + 4), .ref (b + 5), .ref (b + 6), .int 0, .int 0, .ref (b + 7), .ref (b + 8), .ref (b + 9), .ref (b + 10), .int 0, .int 0, .int 0]), (10, List.replicate 760 (.int 0)), (10, List.replicate 760 (.int 0)), (10, List.replicate 4560 (.int 0)), (10, List.replicate 1520 (.int 0)), (12, List.replicate 2 (.int 0)), (10, List.replicate 80 (.int 0)), (10, List.replicate 12 (.int 0)), (10, List.replicate 12 (.int 0)), (10, List.replicate 6 (.int 0)), (10, List.replicate 240 (.int 0))]
/-- the numbers of the class's cells, and of the reference's while they are all 0 -/
def kCs : List Nat := [1, 71, 147, 217, 287, 357, 427, 497, 567, 646, 716]
def kSs : List Nat := [2, 72, 148, 218, 288, 358, 428, 498, 568, 647, 717]
def hz : kH := fun a k => if k = 4 ∧ a ∈ kCs then -6 else if k < 6 ∧ a ∈ kSs then kFirst k else 0
def hA : kH := hset (hset (hset (hset (hset (hset (hset hz 787 0 50) 787 1 34) 787 2 240) 787 3 2) 787 4 1) 787 5 1) 787 9 (-6)
def hL1 (i : Nat) : kH := fun a j => if a = 787 ∧ 250 ≤ j ∧ j < i then -6 else hA a j
def hL2 (m : Nat) : kH := fun a j => if a = 787 ∧ ((23 ≤ j ∧ j < 23 + 6 * m ∧ j % 6 = 5) ∨ (109 ≤ j ∧ j < 109 + 12 * m ∧ j % 12 = 1)) then -6 else hL1 682 a j
/-- the numbers when all is made -/
abbrev h0 : kH := hL2 12
theorem hL1_s {i : Nat} (h : 250 ≤ i) : hset (hL1 i) 787 i (-6) = hL1 (i + 1) := by
  funext a j
  unfold hset hL1
  by_cases q : a = 787 ∧ j = i
  · rw [if_pos q, if_pos (by omega)]
  · rw [if_neg q]
    by_cases w : a = 787 ∧ 250 ≤ j ∧ j < i
    · rw [if_pos w, if_pos (by omega)]
    · rw [if_neg w, if_neg (by omega)]
theorem hL2_s {m : Nat} : hset (hset (hL2 m) 787 (20 + 6 * m + 3) (-6)) 787 (100 + 12 * m + 9) (-6) = hL2 (m + 1) := by
  funext a j
  unfold hset hL2
  by_cases q : a = 787 ∧ j = 100 + 12 * m + 9
  · rw [if_pos q, if_pos ⟨q.1, Or.inr (by omega)⟩]
  · rw [if_neg q]
    by_cases p : a = 787 ∧ j = 20 + 6 * m + 3
    · rw [if_pos p, if_pos ⟨p.1, Or.inl (by omega)⟩]
    · rw [if_neg p]
      by_cases w : a = 787 ∧ ((23 ≤ j ∧ j < 23 + 6 * m ∧ j % 6 = 5) ∨ (109 ≤ j ∧ j < 109 + 12 * m ∧ j % 12 = 1))
      · rw [if_pos w, if_pos (by omega)]
      · rw [if_neg w, if_neg (by omega)]
theorem j_M_init {E : kE} {g0 : List kC} {b : Nat} (hb : g0.length = b) (hb2 : b = 786) (hmk : g0 ++ cells_M b = mk hz) : JM E m_M_init [.ref b] (g0 ++ [(7, [.null, .null, .null, .int 0, .null, .null, .null, .int 0, .int 0, .null, .null, .null, .null, .int 0, .int 0, .int 0])]) none (mk h0) := by
  have s0 : (0 : Int32).toNatClampNeg = 0 := by decide
  have s1 : (1 : Int32).toNatClampNeg = 1 := by decide
  have s2 : (2 : Int32).toNatClampNeg = 2 := by decide
  have s3 : (3 : Int32).toNatClampNeg = 3 := by decide
  have s4 : (4 : Int32).toNatClampNeg = 4 := by decide
  have s5 : (5 : Int32).toNatClampNeg = 5 := by decide
  have s9 : (9 : Int32).toNatClampNeg = 9 := by decide
  have v : ∀ {j : Nat}, j < 760 → vp_in (nI j) 760 := fun h => vp_in_nI h (by decide)
  have loop2 : ∀ (d m : Nat), m + d = 12 → kJ E m_M_init none (mk h0) 10 7952 170 [(0, .ref 786), (1, .int (nI m))] [] (mk (hL2 m)) := by
    intro d
    induction d with
    | zero =>
      intro m hm
      obtain rfl : m = 12 := hm
      refine kJ_iload_n 171 1 d_M_init_170 rfl rfl rfl ?_
      refine kJ_bipush 173 12 d_M_init_171 kb_12 rfl ?_
      refine kJ_icmp_ge 176 215 d_M_init_173 rfl rfl (fun hc => ?_) (fun hc => ?_)
      · exact kJ_ret d_M_init_215 rfl (Nat.le_of_ble_eq_true rfl) (Nat.le_of_ble_eq_true rfl)
      · exact absurd (show (12 : Int32) ≤ nI 12 from by decide) hc
    | succ d ih =>
      intro m hm
      refine kJ_iload_n 171 1 d_M_init_170 rfl rfl rfl ?_
      refine kJ_bipush 173 12 d_M_init_171 kb_12 rfl ?_
      refine kJ_icmp_ge 176 215 d_M_init_173 rfl rfl (fun hc => ?_) (fun hc => ?_)
      · exact absurd hc (show ¬ (12 : Int32) ≤ nI m from by rw [show (12 : Int32) = nI 12 from rfl, leI (by omega) (by omega)]; omega)
      refine kJ_aload_n 177 0 d_M_init_176 rfl rfl rfl rfl ?_
      refine kM_getR 180 0 787 d_M_init_177 l_M_7 km_786 rfl rfl rfl rfl ?_
      refine kJ_bipush 182 20 d_M_init_180 kb_20 rfl ?_
      refine kJ_bipush 184 6 d_M_init_182 kb_6 rfl ?_
      refine kJ_iload_n 185 1 d_M_init_184 rfl rfl rfl ?_
      refine kJ_imul 186 d_M_init_185 rfl ?_
      refine kJ_iadd 187 d_M_init_186 rfl ?_
      refine kJ_iconst 188 3 d_M_init_187 ki_3 rfl ?_
      refine kJ_iadd 189 d_M_init_188 rfl ?_
      refine kJ_bipush 191 (-6) d_M_init_189 kb_m6 rfl ?_
      rw [show (20 : Int32) + 6 * nI m + 3 = nI (20 + 6 * m + 3) from e1 m 3]
      refine kM_iast 192 760 d_M_init_191 km_787 rfl (v (by omega)) rfl ?_
      rw [show (nI (20 + 6 * m + 3)).toNatClampNeg = 20 + 6 * m + 3 from kx_nI (by omega)]
      refine kJ_aload_n 193 0 d_M_init_192 rfl rfl rfl rfl ?_
      refine kM_getR 196 0 787 d_M_init_193 l_M_7 km_786 rfl rfl rfl rfl ?_
      refine kJ_bipush 198 100 d_M_init_196 kb_100 rfl ?_
      refine kJ_bipush 200 12 d_M_init_198 kb_12 rfl ?_
      refine kJ_iload_n 201 1 d_M_init_200 rfl rfl rfl ?_
      refine kJ_imul 202 d_M_init_201 rfl ?_
      refine kJ_iadd 203 d_M_init_202 rfl ?_
      refine kJ_bipush 205 9 d_M_init_203 kb_9 rfl ?_
      refine kJ_iadd 206 d_M_init_205 rfl ?_
      refine kJ_bipush 208 (-6) d_M_init_206 kb_m6 rfl ?_
      rw [show (100 : Int32) + 12 * nI m + 9 = nI (100 + 12 * m + 9) from e2 m 9]
      refine kM_iast 209 760 d_M_init_208 km_787 rfl (v (by omega)) rfl ?_
      rw [show (nI (100 + 12 * m + 9)).toNatClampNeg = 100 + 12 * m + 9 from kx_nI (by omega), hL2_s]
      refine kJ_iinc 212 1 [(1, .int (nI m + 1)), (0, .ref 786)] d_M_init_209 rfl ki_1 (Nat.le_of_ble_eq_true rfl) rfl rfl ?_
      refine kJ_goto 170 d_M_init_212 rfl ?_
      refine kJ_sub [1, 0] rfl ?_
      rw [nI_1]
      exact ih (m + 1) (by omega)
  have loop1 : ∀ (d i : Nat), i + d = 682 → 250 ≤ i → kJ E m_M_init none (mk h0) 10 7952 147 [(0, .ref 786), (1, .int (nI i))] [] (mk (hL1 i)) := by
    intro d
    induction d with
    | zero =>
      intro i hi h250
      obtain rfl : i = 682 := hi
      refine kJ_iload_n 148 1 d_M_init_147 rfl rfl rfl ?_
      refine kJ_sipush 151 682 d_M_init_148 ks_682 rfl ?_
      refine kJ_icmp_ge 154 168 d_M_init_151 rfl rfl (fun hc => ?_) (fun hc => ?_)
      · refine kJ_iconst 169 0 d_M_init_168 ki_0 rfl ?_
        refine kJ_istore_n 170 [(1, .int 0), (0, .ref 786)] d_M_init_169 rfl (Nat.le_of_ble_eq_true rfl) rfl rfl ?_
        refine kJ_sub [1, 0] rfl ?_
        have e : hL2 0 = hL1 682 := by
          funext a j
          unfold hL2
          rw [if_neg (by omega)]
        rw [← e]
        exact loop2 12 0 rfl
      · exact absurd (show (682 : Int32) ≤ nI 682 from by decide) hc
    | succ d ih =>
      intro i hi h250
      refine kJ_iload_n 148 1 d_M_init_147 rfl rfl rfl ?_
      refine kJ_sipush 151 682 d_M_init_148 ks_682 rfl ?_
      refine kJ_icmp_ge 154 168 d_M_init_151 rfl rfl (fun hc => ?_) (fun hc => ?_)
      · exact absurd hc (show ¬ (682 : Int32) ≤ nI i from by rw [show (682 : Int32) = nI 682 from rfl, leI (by omega) (by omega)]; omega)
      refine kJ_aload_n 155 0 d_M_init_154 rfl rfl rfl rfl ?_
      refine kM_getR 158 0 787 d_M_init_155 l_M_7 km_786 rfl rfl rfl rfl ?_
      refine kJ_iload_n 159 1 d_M_init_158 rfl rfl rfl ?_
      refine kJ_bipush 161 (-6) d_M_init_159 kb_m6 rfl ?_
      refine kM_iast 162 760 d_M_init_161 km_787 rfl (v (by omega)) rfl ?_
      rw [show (nI i).toNatClampNeg = i from kx_nI (by omega), hL1_s h250]
      refine kJ_iinc 165 1 [(1, .int (nI i + 1)), (0, .ref 786)] d_M_init_162 rfl ki_1 (Nat.le_of_ble_eq_true rfl) rfl rfl ?_
      refine kJ_goto 147 d_M_init_165 rfl ?_
      refine kJ_sub [1, 0] rfl ?_
      rw [nI_1]
      exact ih (i + 1) (by omega) (by omega)
  refine JM.of pn_M (Nat.le_of_ble_eq_true rfl) ?_
  refine kJ_aload_n 1 0 d_M_init_0 rfl rfl rfl rfl ?_
  refine kJ_objInit 4 d_M_init_1 ⟨w_814, w_119, w_120⟩ rfl ⟨by decide, by decide⟩ rfl ?_
  refine kJ_aload_n 5 0 d_M_init_4 rfl rfl rfl rfl ?_
  refine kJ_sipush 8 760 d_M_init_5 ks_760 rfl ?_
  refine kN_newa 10 10 760 1 1 760 (b + 1) ([(7, [.null, .null, .null, .int 0, .null, .null, .null, .int 0, .int 0, .null, .null, .null, .null, .int 0, .int 0, .int 0]), (10, List.replicate 760 (.int 0))]) hb d_M_init_8 (Or.inl ⟨rfl, rfl⟩) w_153 rfl rfl rfl (by decide) rfl (Nat.le_of_ble_eq_true rfl) rfl rfl (Nat.le_of_ble_eq_true rfl) (Nat.le_of_ble_eq_true rfl) rfl ?_
  refine kN_putF 13 0 ([(7, [.ref (b + 1), .null, .null, .int 0, .null, .null, .null, .int 0, .int 0, .null, .null, .null, .null, .int 0, .int 0, .int 0]), (10, List.replicate 760 (.int 0))]) hb d_M_init_10 l_M_7 (by decide) (fun C T N h => by cases h; rfl) rfl rfl rfl (kFit_arr _ _) (Nat.le_of_ble_eq_true rfl) rfl rfl ?_
  refine kJ_aload_n 14 0 d_M_init_13 rfl rfl rfl rfl ?_
  refine kJ_sipush 17 760 d_M_init_14 ks_760 rfl ?_
  refine kN_newa 19 10 760 2 2 1520 (b + 2) ([(7, [.ref (b + 1), .null, .null, .int 0, .null, .null, .null, .int 0, .int 0, .null, .null, .null, .null, .int 0, .int 0, .int 0]), (10, List.replicate 760 (.int 0)), (10, List.replicate 760 (.int 0))]) hb d_M_init_17 (Or.inl ⟨rfl, rfl⟩) w_153 rfl rfl rfl (by decide) rfl (Nat.le_of_ble_eq_true rfl) rfl rfl (Nat.le_of_ble_eq_true rfl) (Nat.le_of_ble_eq_true rfl) rfl ?_
  refine kN_putF 22 0 ([(7, [.ref (b + 1), .ref (b + 2), .null, .int 0, .null, .null, .null, .int 0, .int 0, .null, .null, .null, .null, .int 0, .int 0, .int 0]), (10, List.replicate 760 (.int 0)), (10, List.replicate 760 (.int 0))]) hb d_M_init_19 l_M_13 (by decide) (fun C T N h => by cases h; rfl) rfl rfl rfl (kFit_arr _ _) (Nat.le_of_ble_eq_true rfl) rfl rfl ?_
  refine kJ_aload_n 23 0 d_M_init_22 rfl rfl rfl rfl ?_
  refine kJ_sipush 26 4560 d_M_init_23 ks_4560 rfl ?_
  refine kN_newa 28 10 4560 3 3 6080 (b + 3) ([(7, [.ref (b + 1), .ref (b + 2), .null, .int 0, .null, .null, .null, .int 0, .int 0, .null, .null, .null, .null, .int 0, .int 0, .int 0]), (10, List.replicate 760 (.int 0)), (10, List.replicate 760 (.int 0)), (10, List.replicate 4560 (.int 0))]) hb d_M_init_26 (Or.inl ⟨rfl, rfl⟩) w_153 rfl rfl rfl (by decide) rfl (Nat.le_of_ble_eq_true rfl) rfl rfl (Nat.le_of_ble_eq_true rfl) (Nat.le_of_ble_eq_true rfl) rfl ?_
  refine kN_putF 31 0 ([(7, [.ref (b + 1), .ref (b + 2), .ref (b + 3), .int 0, .null, .null, .null, .int 0, .int 0, .null, .null, .null, .null, .int 0, .int 0, .int 0]), (10, List.replicate 760 (.int 0)), (10, List.replicate 760 (.int 0)), (10, List.replicate 4560 (.int 0))]) hb d_M_init_28 l_M_16 (by decide) (fun C T N h => by cases h; rfl) rfl rfl rfl (kFit_arr _ _) (Nat.le_of_ble_eq_true rfl) rfl rfl ?_
  refine kJ_aload_n 32 0 d_M_init_31 rfl rfl rfl rfl ?_
  refine kJ_sipush 35 1520 d_M_init_32 ks_1520 rfl ?_
  refine kN_newa 37 10 1520 4 4 7600 (b + 4) ([(7, [.ref (b + 1), .ref (b + 2), .ref (b + 3), .int 0, .null, .null, .null, .int 0, .int 0, .null, .null, .null, .null, .int 0, .int 0, .int 0]), (10, List.replicate 760 (.int 0)), (10, List.replicate 760 (.int 0)), (10, List.replicate 4560 (.int 0)), (10, List.replicate 1520 (.int 0))]) hb d_M_init_35 (Or.inl ⟨rfl, rfl⟩) w_153 rfl rfl rfl (by decide) rfl (Nat.le_of_ble_eq_true rfl) rfl rfl (Nat.le_of_ble_eq_true rfl) (Nat.le_of_ble_eq_true rfl) rfl ?_
  refine kN_putF 40 0 ([(7, [.ref (b + 1), .ref (b + 2), .ref (b + 3), .int 0, .ref (b + 4), .null, .null, .int 0, .int 0, .null, .null, .null, .null, .int 0, .int 0, .int 0]), (10, List.replicate 760 (.int 0)), (10, List.replicate 760 (.int 0)), (10, List.replicate 4560 (.int 0)), (10, List.replicate 1520 (.int 0))]) hb d_M_init_37 l_M_19 (by decide) (fun C T N h => by cases h; rfl) rfl rfl rfl (kFit_arr _ _) (Nat.le_of_ble_eq_true rfl) rfl rfl ?_
  refine kJ_aload_n 41 0 d_M_init_40 rfl rfl rfl rfl ?_
  refine kJ_iconst 42 2 d_M_init_41 ki_2 rfl ?_
  refine kN_newa 44 12 2 5 5 7602 (b + 5) ([(7, [.ref (b + 1), .ref (b + 2), .ref (b + 3), .int 0, .ref (b + 4), .null, .null, .int 0, .int 0, .null, .null, .null, .null, .int 0, .int 0, .int 0]), (10, List.replicate 760 (.int 0)), (10, List.replicate 760 (.int 0)), (10, List.replicate 4560 (.int 0)), (10, List.replicate 1520 (.int 0)), (12, List.replicate 2 (.int 0))]) hb d_M_init_42 (Or.inr (Or.inr ⟨rfl, rfl⟩)) w_365 rfl rfl rfl (by decide) rfl (Nat.le_of_ble_eq_true rfl) rfl rfl (Nat.le_of_ble_eq_true rfl) (Nat.le_of_ble_eq_true rfl) rfl ?_
  refine kN_putF 47 0 ([(7, [.ref (b + 1), .ref (b + 2), .ref (b + 3), .int 0, .ref (b + 4), .ref (b + 5), .null, .int 0, .int 0, .null, .null, .null, .null, .int 0, .int 0, .int 0]), (10, List.replicate 760 (.int 0)), (10, List.replicate 760 (.int 0)), (10, List.replicate 4560 (.int 0)), (10, List.replicate 1520 (.int 0)), (12, List.replicate 2 (.int 0))]) hb d_M_init_44 l_M_22 (by decide) (fun C T N h => by cases h; rfl) rfl rfl rfl (kFit_arr _ _) (Nat.le_of_ble_eq_true rfl) rfl rfl ?_
  refine kJ_aload_n 48 0 d_M_init_47 rfl rfl rfl rfl ?_
  refine kJ_bipush 50 80 d_M_init_48 kb_80 rfl ?_
  refine kN_newa 52 10 80 6 6 7682 (b + 6) ([(7, [.ref (b + 1), .ref (b + 2), .ref (b + 3), .int 0, .ref (b + 4), .ref (b + 5), .null, .int 0, .int 0, .null, .null, .null, .null, .int 0, .int 0, .int 0]), (10, List.replicate 760 (.int 0)), (10, List.replicate 760 (.int 0)), (10, List.replicate 4560 (.int 0)), (10, List.replicate 1520 (.int 0)), (12, List.replicate 2 (.int 0)), (10, List.replicate 80 (.int 0))]) hb d_M_init_50 (Or.inl ⟨rfl, rfl⟩) w_153 rfl rfl rfl (by decide) rfl (Nat.le_of_ble_eq_true rfl) rfl rfl (Nat.le_of_ble_eq_true rfl) (Nat.le_of_ble_eq_true rfl) rfl ?_
  refine kN_putF 55 0 ([(7, [.ref (b + 1), .ref (b + 2), .ref (b + 3), .int 0, .ref (b + 4), .ref (b + 5), .ref (b + 6), .int 0, .int 0, .null, .null, .null, .null, .int 0, .int 0, .int 0]), (10, List.replicate 760 (.int 0)), (10, List.replicate 760 (.int 0)), (10, List.replicate 4560 (.int 0)), (10, List.replicate 1520 (.int 0)), (12, List.replicate 2 (.int 0)), (10, List.replicate 80 (.int 0))]) hb d_M_init_52 l_M_26 (by decide) (fun C T N h => by cases h; rfl) rfl rfl rfl (kFit_arr _ _) (Nat.le_of_ble_eq_true rfl) rfl rfl ?_
  refine kJ_aload_n 56 0 d_M_init_55 rfl rfl rfl rfl ?_
  refine kJ_bipush 58 12 d_M_init_56 kb_12 rfl ?_
  refine kN_newa 60 10 12 7 7 7694 (b + 7) ([(7, [.ref (b + 1), .ref (b + 2), .ref (b + 3), .int 0, .ref (b + 4), .ref (b + 5), .ref (b + 6), .int 0, .int 0, .null, .null, .null, .null, .int 0, .int 0, .int 0]), (10, List.replicate 760 (.int 0)), (10, List.replicate 760 (.int 0)), (10, List.replicate 4560 (.int 0)), (10, List.replicate 1520 (.int 0)), (12, List.replicate 2 (.int 0)), (10, List.replicate 80 (.int 0)), (10, List.replicate 12 (.int 0))]) hb d_M_init_58 (Or.inl ⟨rfl, rfl⟩) w_153 rfl rfl rfl (by decide) rfl (Nat.le_of_ble_eq_true rfl) rfl rfl (Nat.le_of_ble_eq_true rfl) (Nat.le_of_ble_eq_true rfl) rfl ?_
  refine kN_putF 63 0 ([(7, [.ref (b + 1), .ref (b + 2), .ref (b + 3), .int 0, .ref (b + 4), .ref (b + 5), .ref (b + 6), .int 0, .int 0, .ref (b + 7), .null, .null, .null, .int 0, .int 0, .int 0]), (10, List.replicate 760 (.int 0)), (10, List.replicate 760 (.int 0)), (10, List.replicate 4560 (.int 0)), (10, List.replicate 1520 (.int 0)), (12, List.replicate 2 (.int 0)), (10, List.replicate 80 (.int 0)), (10, List.replicate 12 (.int 0))]) hb d_M_init_60 l_M_29 (by decide) (fun C T N h => by cases h; rfl) rfl rfl rfl (kFit_arr _ _) (Nat.le_of_ble_eq_true rfl) rfl rfl ?_
  refine kJ_aload_n 64 0 d_M_init_63 rfl rfl rfl rfl ?_
  refine kJ_bipush 66 12 d_M_init_64 kb_12 rfl ?_
  refine kN_newa 68 10 12 8 8 7706 (b + 8) ([(7, [.ref (b + 1), .ref (b + 2), .ref (b + 3), .int 0, .ref (b + 4), .ref (b + 5), .ref (b + 6), .int 0, .int 0, .ref (b + 7), .null, .null, .null, .int 0, .int 0, .int 0]), (10, List.replicate 760 (.int 0)), (10, List.replicate 760 (.int 0)), (10, List.replicate 4560 (.int 0)), (10, List.replicate 1520 (.int 0)), (12, List.replicate 2 (.int 0)), (10, List.replicate 80 (.int 0)), (10, List.replicate 12 (.int 0)), (10, List.replicate 12 (.int 0))]) hb d_M_init_66 (Or.inl ⟨rfl, rfl⟩) w_153 rfl rfl rfl (by decide) rfl (Nat.le_of_ble_eq_true rfl) rfl rfl (Nat.le_of_ble_eq_true rfl) (Nat.le_of_ble_eq_true rfl) rfl ?_
  refine kN_putF 71 0 ([(7, [.ref (b + 1), .ref (b + 2), .ref (b + 3), .int 0, .ref (b + 4), .ref (b + 5), .ref (b + 6), .int 0, .int 0, .ref (b + 7), .ref (b + 8), .null, .null, .int 0, .int 0, .int 0]), (10, List.replicate 760 (.int 0)), (10, List.replicate 760 (.int 0)), (10, List.replicate 4560 (.int 0)), (10, List.replicate 1520 (.int 0)), (12, List.replicate 2 (.int 0)), (10, List.replicate 80 (.int 0)), (10, List.replicate 12 (.int 0)), (10, List.replicate 12 (.int 0))]) hb d_M_init_68 l_M_32 (by decide) (fun C T N h => by cases h; rfl) rfl rfl rfl (kFit_arr _ _) (Nat.le_of_ble_eq_true rfl) rfl rfl ?_
  refine kJ_aload_n 72 0 d_M_init_71 rfl rfl rfl rfl ?_
  refine kJ_bipush 74 6 d_M_init_72 kb_6 rfl ?_
  refine kN_newa 76 10 6 9 9 7712 (b + 9) ([(7, [.ref (b + 1), .ref (b + 2), .ref (b + 3), .int 0, .ref (b + 4), .ref (b + 5), .ref (b + 6), .int 0, .int 0, .ref (b + 7), .ref (b + 8), .null, .null, .int 0, .int 0, .int 0]), (10, List.replicate 760 (.int 0)), (10, List.replicate 760 (.int 0)), (10, List.replicate 4560 (.int 0)), (10, List.replicate 1520 (.int 0)), (12, List.replicate 2 (.int 0)), (10, List.replicate 80 (.int 0)), (10, List.replicate 12 (.int 0)), (10, List.replicate 12 (.int 0)), (10, List.replicate 6 (.int 0))]) hb d_M_init_74 (Or.inl ⟨rfl, rfl⟩) w_153 rfl rfl rfl (by decide) rfl (Nat.le_of_ble_eq_true rfl) rfl rfl (Nat.le_of_ble_eq_true rfl) (Nat.le_of_ble_eq_true rfl) rfl ?_
  refine kN_putF 79 0 ([(7, [.ref (b + 1), .ref (b + 2), .ref (b + 3), .int 0, .ref (b + 4), .ref (b + 5), .ref (b + 6), .int 0, .int 0, .ref (b + 7), .ref (b + 8), .ref (b + 9), .null, .int 0, .int 0, .int 0]), (10, List.replicate 760 (.int 0)), (10, List.replicate 760 (.int 0)), (10, List.replicate 4560 (.int 0)), (10, List.replicate 1520 (.int 0)), (12, List.replicate 2 (.int 0)), (10, List.replicate 80 (.int 0)), (10, List.replicate 12 (.int 0)), (10, List.replicate 12 (.int 0)), (10, List.replicate 6 (.int 0))]) hb d_M_init_76 l_M_35 (by decide) (fun C T N h => by cases h; rfl) rfl rfl rfl (kFit_arr _ _) (Nat.le_of_ble_eq_true rfl) rfl rfl ?_
  refine kJ_aload_n 80 0 d_M_init_79 rfl rfl rfl rfl ?_
  refine kJ_sipush 83 240 d_M_init_80 ks_240 rfl ?_
  refine kN_newa 85 10 240 10 10 7952 (b + 10) ([(7, [.ref (b + 1), .ref (b + 2), .ref (b + 3), .int 0, .ref (b + 4), .ref (b + 5), .ref (b + 6), .int 0, .int 0, .ref (b + 7), .ref (b + 8), .ref (b + 9), .null, .int 0, .int 0, .int 0]), (10, List.replicate 760 (.int 0)), (10, List.replicate 760 (.int 0)), (10, List.replicate 4560 (.int 0)), (10, List.replicate 1520 (.int 0)), (12, List.replicate 2 (.int 0)), (10, List.replicate 80 (.int 0)), (10, List.replicate 12 (.int 0)), (10, List.replicate 12 (.int 0)), (10, List.replicate 6 (.int 0)), (10, List.replicate 240 (.int 0))]) hb d_M_init_83 (Or.inl ⟨rfl, rfl⟩) w_153 rfl rfl rfl (by decide) rfl (Nat.le_of_ble_eq_true rfl) rfl rfl (Nat.le_of_ble_eq_true rfl) (Nat.le_of_ble_eq_true rfl) rfl ?_
  refine kN_putF 88 0 ([(7, [.ref (b + 1), .ref (b + 2), .ref (b + 3), .int 0, .ref (b + 4), .ref (b + 5), .ref (b + 6), .int 0, .int 0, .ref (b + 7), .ref (b + 8), .ref (b + 9), .ref (b + 10), .int 0, .int 0, .int 0]), (10, List.replicate 760 (.int 0)), (10, List.replicate 760 (.int 0)), (10, List.replicate 4560 (.int 0)), (10, List.replicate 1520 (.int 0)), (12, List.replicate 2 (.int 0)), (10, List.replicate 80 (.int 0)), (10, List.replicate 12 (.int 0)), (10, List.replicate 12 (.int 0)), (10, List.replicate 6 (.int 0)), (10, List.replicate 240 (.int 0))]) hb d_M_init_85 l_M_38 (by decide) (fun C T N h => by cases h; rfl) rfl rfl rfl (kFit_arr _ _) (Nat.le_of_ble_eq_true rfl) rfl rfl ?_
  rw [hmk]
  subst hb2
  refine kJ_aload_n 89 0 d_M_init_88 rfl rfl rfl rfl ?_
  refine kM_getR 92 0 787 d_M_init_89 l_M_7 km_786 rfl rfl rfl rfl ?_
  refine kJ_iconst 93 0 d_M_init_92 ki_0 rfl ?_
  refine kJ_bipush 95 50 d_M_init_93 kb_50 rfl ?_
  refine kM_iast 96 760 d_M_init_95 km_787 rfl (v (j := 0) (by decide)) rfl ?_
  rw [s0]
  refine kJ_aload_n 97 0 d_M_init_96 rfl rfl rfl rfl ?_
  refine kM_getR 100 0 787 d_M_init_97 l_M_7 km_786 rfl rfl rfl rfl ?_
  refine kJ_iconst 101 1 d_M_init_100 ki_1 rfl ?_
  refine kJ_bipush 103 34 d_M_init_101 kb_34 rfl ?_
  refine kM_iast 104 760 d_M_init_103 km_787 rfl (v (j := 1) (by decide)) rfl ?_
  rw [s1]
  refine kJ_aload_n 105 0 d_M_init_104 rfl rfl rfl rfl ?_
  refine kM_getR 108 0 787 d_M_init_105 l_M_7 km_786 rfl rfl rfl rfl ?_
  refine kJ_iconst 109 2 d_M_init_108 ki_2 rfl ?_
  refine kJ_sipush 112 240 d_M_init_109 ks_240 rfl ?_
  refine kM_iast 113 760 d_M_init_112 km_787 rfl (v (j := 2) (by decide)) rfl ?_
  rw [s2]
  refine kJ_aload_n 114 0 d_M_init_113 rfl rfl rfl rfl ?_
  refine kM_getR 117 0 787 d_M_init_114 l_M_7 km_786 rfl rfl rfl rfl ?_
  refine kJ_iconst 118 3 d_M_init_117 ki_3 rfl ?_
  refine kJ_iconst 119 2 d_M_init_118 ki_2 rfl ?_
  refine kM_iast 120 760 d_M_init_119 km_787 rfl (v (j := 3) (by decide)) rfl ?_
  rw [s3]
  refine kJ_aload_n 121 0 d_M_init_120 rfl rfl rfl rfl ?_
  refine kM_getR 124 0 787 d_M_init_121 l_M_7 km_786 rfl rfl rfl rfl ?_
  refine kJ_iconst 125 4 d_M_init_124 ki_4 rfl ?_
  refine kJ_iconst 126 1 d_M_init_125 ki_1 rfl ?_
  refine kM_iast 127 760 d_M_init_126 km_787 rfl (v (j := 4) (by decide)) rfl ?_
  rw [s4]
  refine kJ_aload_n 128 0 d_M_init_127 rfl rfl rfl rfl ?_
  refine kM_getR 131 0 787 d_M_init_128 l_M_7 km_786 rfl rfl rfl rfl ?_
  refine kJ_iconst 132 5 d_M_init_131 ki_5 rfl ?_
  refine kJ_iconst 133 1 d_M_init_132 ki_1 rfl ?_
  refine kM_iast 134 760 d_M_init_133 km_787 rfl (v (j := 5) (by decide)) rfl ?_
  rw [s5]
  refine kJ_aload_n 135 0 d_M_init_134 rfl rfl rfl rfl ?_
  refine kM_getR 138 0 787 d_M_init_135 l_M_7 km_786 rfl rfl rfl rfl ?_
  refine kJ_bipush 140 9 d_M_init_138 kb_9 rfl ?_
  refine kJ_bipush 142 (-6) d_M_init_140 kb_m6 rfl ?_
  refine kM_iast 143 760 d_M_init_142 km_787 rfl (v (j := 9) (by decide)) rfl ?_
  rw [s9]
  refine kJ_sipush 146 250 d_M_init_143 ks_250 rfl ?_
  refine kJ_istore_n 147 [(1, .int 250), (0, .ref 786)] d_M_init_146 rfl (Nat.le_of_ble_eq_true rfl) rfl rfl ?_
  refine kJ_sub [1, 0] rfl ?_
  have e : hL1 250 = hA := by
    funext a j
    unfold hL1
    rw [if_neg (by omega)]
  have k := loop1 432 250 rfl (Nat.le_refl _)
  rw [e] at k
  exact k
