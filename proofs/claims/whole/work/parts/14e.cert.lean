/-! CODE of the methods as functions, with certificates: printed by wip/whole/emit.py. -/
def b_P_decisive_96 (x2 : Nat) (x3 : Int32) : Nat → kH → Int32 → Int32 → Option (Int32 × kH)
  | 0, _, _, _ => none
  | n + 1, h, x4, x5 => (fun rec96 => if (h 71 1) ≤ x5 then (some (x4, h)) else (kBi (f_C_canVote h 71 x5 x2) fun v7 => if v7 = true then (kBd (f_P_canTurn h x5 x2 x3) fun v9 h8 => if v9 = true then (kLet (x4 ||| (1 <<< (x5 &&& 31))) fun v10 => rec96 h8 v10 (x5 + 1)) else (rec96 h8 x4 (x5 + 1))) else (rec96 h x4 (x5 + 1)))) (fun h' x4' x5' => b_P_decisive_96 x2 x3 n h' x4' x5')
theorem c_P_decisive_96 {E : kE} {L : Nat} {xs : Nat → Int32} (hro : kRo E L xs) {x2 : Nat} {x3 : Int32} (k2 : kIs x2 3) {r : Int32} {h' : kH} : ∀ (n : Nat) (h : kH) (x4 : Int32) (x5 : Int32), b_P_decisive_96 x2 x3 n h x4 x5 = some (r, h') → kJ E m_P_decisive (some r) (mk h') 0 0 96 [(0, .ref 0), (2, .ref x2), (3, .int x3), (4, .int x4), (5, .int x5)] [] (mk h) := by
  intro n
  induction n with
  | zero =>
    intro h x4 x5 hf
    have hf : (none : Option (Int32 × kH)) = some (r, h') := hf
    cases hf
  | succ n hrec96 =>
    intro h x4 x5 hf
    rw [b_P_decisive_96] at hf
    dsimp only at hf
    refine kJ_iload 98 4 d_P_decisive_96 rfl rfl ?_
    refine kJ_aload_n 99 0 d_P_decisive_98 rfl rfl rfl rfl ?_
    refine kM_getR 102 70 71 d_P_decisive_99 l_P_16 kp_0 rfl rfl rfl rfl ?_
    refine kM_getI 105 d_P_decisive_102 l_P_205 kp_71 rfl rfl rfl ?_
    refine kJ_icmp_ge 108 147 d_P_decisive_105 rfl rfl (fun hc => ?_) (fun hc => ?_)
    · have hf := kIf_t hf hc
      refine kJ_iload 149 3 d_P_decisive_147 rfl rfl ?_
      cases hf
      exact kJ_iret d_P_decisive_149 rfl rfl (Nat.zero_le _) (Nat.zero_le _)
    · have hf := kIf_f hf hc
      refine kJ_aload_n 109 0 d_P_decisive_108 rfl rfl rfl rfl ?_
      refine kM_getR 112 70 71 d_P_decisive_109 l_P_16 kp_0 rfl rfl rfl rfl ?_
      refine kJ_iload 114 4 d_P_decisive_112 rfl rfl ?_
      refine kJ_aload_n 115 1 d_P_decisive_114 rfl rfl rfl rfl ?_
      obtain ⟨v7, ev7, hf⟩ := kBi_some hf
      refine kM_callv 118 m_C_canVote [.int x5, .ref x2] [] d_P_decisive_115 cl_P_259 ⟨w_569, w_32⟩ kp_71 ⟨rfl, by decide⟩ ⟨_, _, rfl⟩ rfl rfl (Nat.le_of_ble_eq_true rfl) ⟨Nat.le_of_ble_eq_true rfl, Nat.le_of_ble_eq_true rfl⟩ ⟨rfl, rfl⟩ ⟨Nat.zero_le _, Nat.zero_le _⟩ (j_C_canVote hro kp_71 k2 ev7) rfl ?_
      refine kJ_if_eq 121 141 d_P_decisive_118 rfl rfl (fun hc => ?_) (fun hc => ?_)
      · have hf := kIf_f hf (kB2_0 hc)
        refine kJ_iinc 144 4 [(5, .int (x5 + 1)), (0, .ref 0), (2, .ref x2), (3, .int x3), (4, .int x4)] d_P_decisive_141 rfl ki_1 (Nat.le_of_ble_eq_true rfl) rfl rfl ?_
        refine kJ_goto 96 d_P_decisive_144 rfl ?_
        refine kJ_sub [1, 2, 3, 4, 0] rfl ?_
        exact hrec96 h x4 (x5 + 1) hf
      · have hf := kIf_t hf (kB2_1 hc)
        refine kJ_aload_n 122 0 d_P_decisive_121 rfl rfl rfl rfl ?_
        refine kJ_iload 124 4 d_P_decisive_122 rfl rfl ?_
        refine kJ_aload_n 125 1 d_P_decisive_124 rfl rfl rfl rfl ?_
        refine kJ_iload_n 126 2 d_P_decisive_125 rfl rfl rfl ?_
        obtain ⟨v9, h8, ev9, hf⟩ := kBd_some hf
        refine kM_callv 129 m_P_canTurn [.int x5, .ref x2, .int x3] [] d_P_decisive_126 cl_P_262 ⟨w_689, w_49⟩ kp_0 ⟨rfl, by decide⟩ ⟨_, _, rfl⟩ rfl rfl (Nat.le_of_ble_eq_true rfl) ⟨Nat.le_of_ble_eq_true rfl, Nat.le_of_ble_eq_true rfl⟩ ⟨rfl, rfl⟩ ⟨Nat.zero_le _, Nat.zero_le _⟩ (j_P_canTurn hro k2 ev9) rfl ?_
        refine kJ_if_eq 132 141 d_P_decisive_129 rfl rfl (fun hc => ?_) (fun hc => ?_)
        · have hf := kIf_f hf (kB2_0 hc)
          refine kJ_iinc 144 4 [(5, .int (x5 + 1)), (0, .ref 0), (2, .ref x2), (3, .int x3), (4, .int x4)] d_P_decisive_141 rfl ki_1 (Nat.le_of_ble_eq_true rfl) rfl rfl ?_
          refine kJ_goto 96 d_P_decisive_144 rfl ?_
          refine kJ_sub [1, 2, 3, 4, 0] rfl ?_
          exact hrec96 h8 x4 (x5 + 1) hf
        · have hf := kIf_t hf (kB2_1 hc)
          refine kJ_iload 134 3 d_P_decisive_132 rfl rfl ?_
          refine kJ_iconst 135 1 d_P_decisive_134 ki_1 rfl ?_
          refine kJ_iload 137 4 d_P_decisive_135 rfl rfl ?_
          refine kJ_ishl 138 d_P_decisive_137 rfl ?_
          refine kJ_ior 139 d_P_decisive_138 rfl ?_
          obtain ⟨v10, ev10, hf⟩ := kLet_e hf
          rw [← ev10]
          refine kJ_istore 141 [(4, .int v10), (0, .ref 0), (2, .ref x2), (3, .int x3), (5, .int x5)] d_P_decisive_139 (Nat.le_of_ble_eq_true rfl) rfl rfl ?_
          refine kJ_iinc 144 4 [(5, .int (x5 + 1)), (4, .int v10), (0, .ref 0), (2, .ref x2), (3, .int x3)] d_P_decisive_141 rfl ki_1 (Nat.le_of_ble_eq_true rfl) rfl rfl ?_
          refine kJ_goto 96 d_P_decisive_144 rfl ?_
          refine kJ_sub [2, 3, 4, 1, 0] rfl ?_
          exact hrec96 h8 v10 (x5 + 1) hf
def f_P_decisive (h : kH) (x1 : Int32) : Option (Int32 × kH) := if (f_C_hasItem h 1 x1) = true then (kG x1 12 (if (f_I_isPending h (1 + 10 + 5 * kx x1)) = true then (kBi (f_C_copyFrom h 71 1) fun h2 => kG x1 12 (kBi (f_H_listen h2 141 71 (71 + 10 + 5 * kx x1)) fun h4 => kBi (f_H_tally h4 141 71 (71 + 10 + 5 * kx x1)) fun h5 => kBi (f_H_outcome h5 141 71 (71 + 10 + 5 * kx x1) 0) fun v6 => b_P_decisive_96 (71 + 10 + 5 * kx x1) v6 kFuel h5 0 0)) else (some ((-5), h)))) else (some ((-1), h))
theorem j_P_decisive {E : kE} {L : Nat} {xs : Nat → Int32} (hro : kRo E L xs) {h : kH} {x1 : Int32} {r : Int32} {h' : kH} (hf : f_P_decisive h x1 = some (r, h')) : JM E m_P_decisive [.ref 0, .int x1] (mk h) (some r) (mk h') := by
  unfold f_P_decisive at hf
  refine JM.of pn_P (Nat.le_of_ble_eq_true rfl) ?_
  show kJ E m_P_decisive (some r) (mk h') 0 0 0 [(0, .ref 0), (1, .int x1)] [] (mk h)
  refine kJ_aload_n 1 0 d_P_decisive_0 rfl rfl rfl rfl ?_
  refine kM_getR 4 0 1 d_P_decisive_1 l_P_10 kp_0 rfl rfl rfl rfl ?_
  refine kJ_iload_n 5 1 d_P_decisive_4 rfl rfl rfl ?_
  refine kM_callv 8 m_C_hasItem [.int x1] [] d_P_decisive_5 cl_P_134 ⟨w_487, w_17⟩ kp_1 ⟨rfl, by decide⟩ ⟨_, _, rfl⟩ rfl rfl (Nat.le_of_ble_eq_true rfl) ⟨Nat.le_of_ble_eq_true rfl, Nat.le_of_ble_eq_true rfl⟩ ⟨rfl, rfl⟩ ⟨Nat.zero_le _, Nat.zero_le _⟩ (j_C_hasItem hro kp_1 rfl) rfl ?_
  refine kJ_if_ne 11 13 d_P_decisive_8 rfl rfl (fun hc => ?_) (fun hc => ?_)
  · have hf := kIf_t hf (kB2_1 hc)
    refine kJ_aload_n 14 0 d_P_decisive_13 rfl rfl rfl rfl ?_
    refine kM_getR 17 0 1 d_P_decisive_14 l_P_10 kp_0 rfl rfl rfl rfl ?_
    refine kM_getR 20 4 6 d_P_decisive_17 l_P_137 kp_1 rfl rfl rfl rfl ?_
    refine kJ_iload_n 21 1 d_P_decisive_20 rfl rfl rfl ?_
    obtain ⟨hg1, hf⟩ := kG_some hf
    refine kM_aald 22 12 5 5 (1 + 10 + 5 * kx x1) d_P_decisive_21 (kk_0_9 kp_1) rfl (by decide) (Or.inl rfl) hg1 (by simp only [Nat.add_assoc, kx]; try omega) rfl ?_
    refine kM_callv 25 m_I_isPending [] [] d_P_decisive_22 cl_P_242 ⟨w_502, w_19⟩ (kC_item kp_1 (kIn_lt hg1)) ⟨rfl, by decide⟩ ⟨_, _, rfl⟩ rfl rfl (Nat.le_of_ble_eq_true rfl) ⟨Nat.le_of_ble_eq_true rfl, Nat.le_of_ble_eq_true rfl⟩ ⟨rfl, rfl⟩ ⟨Nat.zero_le _, Nat.zero_le _⟩ (j_I_isPending hro (kC_item kp_1 (kIn_lt hg1)) rfl) rfl ?_
    refine kJ_if_ne 28 31 d_P_decisive_25 rfl rfl (fun hc => ?_) (fun hc => ?_)
    · have hf := kIf_t hf (kB2_1 hc)
      refine kJ_aload_n 32 0 d_P_decisive_31 rfl rfl rfl rfl ?_
      refine kM_getR 35 70 71 d_P_decisive_32 l_P_16 kp_0 rfl rfl rfl rfl ?_
      refine kJ_aload_n 36 0 d_P_decisive_35 rfl rfl rfl rfl ?_
      refine kM_getR 39 0 1 d_P_decisive_36 l_P_10 kp_0 rfl rfl rfl rfl ?_
      obtain ⟨h2, eh2, hf⟩ := kBi_some hf
      refine kM_callv 42 m_C_copyFrom [.ref 1] [] d_P_decisive_39 cl_P_256 ⟨w_376, w_1⟩ kp_71 ⟨rfl, by decide⟩ ⟨_, _, rfl⟩ rfl rfl (Nat.le_of_ble_eq_true rfl) ⟨Nat.le_of_ble_eq_true rfl, Nat.le_of_ble_eq_true rfl⟩ ⟨rfl, rfl⟩ ⟨Nat.zero_le _, Nat.zero_le _⟩ (j_C_copyFrom hro kp_71 kp_1 eh2) rfl ?_
      refine kJ_aload_n 43 0 d_P_decisive_42 rfl rfl rfl rfl ?_
      refine kM_getR 46 70 71 d_P_decisive_43 l_P_16 kp_0 rfl rfl rfl rfl ?_
      refine kM_getR 49 4 76 d_P_decisive_46 l_P_137 kp_71 rfl rfl rfl rfl ?_
      refine kJ_iload_n 50 1 d_P_decisive_49 rfl rfl rfl ?_
      obtain ⟨hg3, hf⟩ := kG_some hf
      refine kM_aald 51 12 5 5 (71 + 10 + 5 * kx x1) d_P_decisive_50 (kk_0_9 kp_71) rfl (by decide) (Or.inl rfl) hg3 (by simp only [Nat.add_assoc, kx]; try omega) rfl ?_
      refine kJ_astore_n 52 [(2, .ref (71 + 10 + 5 * kx x1)), (0, .ref 0), (1, .int x1)] d_P_decisive_51 rfl (Nat.le_of_ble_eq_true rfl) rfl rfl rfl ?_
      refine kJ_aload_n 53 1 d_P_decisive_52 rfl rfl rfl rfl ?_
      refine kM_getR 56 140 141 d_P_decisive_53 l_P_22 kp_0 rfl rfl rfl rfl ?_
      refine kJ_aload_n 57 1 d_P_decisive_56 rfl rfl rfl rfl ?_
      refine kM_getR 60 70 71 d_P_decisive_57 l_P_16 kp_0 rfl rfl rfl rfl ?_
      refine kJ_aload_n 61 0 d_P_decisive_60 rfl rfl rfl rfl ?_
      obtain ⟨h4, eh4, hf⟩ := kBi_some hf
      refine kM_callv 64 m_H_listen [.ref 71, .ref (71 + 10 + 5 * kx x1)] [] d_P_decisive_61 cl_P_159 ⟨w_526, w_23⟩ kp_141 ⟨rfl, by decide⟩ ⟨_, _, rfl⟩ rfl rfl (Nat.le_of_ble_eq_true rfl) ⟨Nat.le_of_ble_eq_true rfl, Nat.le_of_ble_eq_true rfl⟩ ⟨rfl, rfl⟩ ⟨Nat.zero_le _, Nat.zero_le _⟩ (j_H_listen hro kp_141 kp_71 (kC_item kp_71 (kIn_lt hg3)) eh4) rfl ?_
      refine kJ_aload_n 65 1 d_P_decisive_64 rfl rfl rfl rfl ?_
      refine kM_getR 68 140 141 d_P_decisive_65 l_P_22 kp_0 rfl rfl rfl rfl ?_
      refine kJ_aload_n 69 1 d_P_decisive_68 rfl rfl rfl rfl ?_
      refine kM_getR 72 70 71 d_P_decisive_69 l_P_16 kp_0 rfl rfl rfl rfl ?_
      refine kJ_aload_n 73 0 d_P_decisive_72 rfl rfl rfl rfl ?_
      obtain ⟨h5, eh5, hf⟩ := kBi_some hf
      refine kM_callv 76 m_H_tally [.ref 71, .ref (71 + 10 + 5 * kx x1)] [] d_P_decisive_73 cl_P_249 ⟨w_581, w_34⟩ kp_141 ⟨rfl, by decide⟩ ⟨_, _, rfl⟩ rfl rfl (Nat.le_of_ble_eq_true rfl) ⟨Nat.le_of_ble_eq_true rfl, Nat.le_of_ble_eq_true rfl⟩ ⟨rfl, rfl⟩ ⟨Nat.zero_le _, Nat.zero_le _⟩ (j_H_tally hro kp_141 kp_71 (kC_item kp_71 (kIn_lt hg3)) eh5) rfl ?_
      refine kJ_aload_n 77 1 d_P_decisive_76 rfl rfl rfl rfl ?_
      refine kM_getR 80 140 141 d_P_decisive_77 l_P_22 kp_0 rfl rfl rfl rfl ?_
      refine kJ_aload_n 81 1 d_P_decisive_80 rfl rfl rfl rfl ?_
      refine kM_getR 84 70 71 d_P_decisive_81 l_P_16 kp_0 rfl rfl rfl rfl ?_
      refine kJ_aload_n 85 0 d_P_decisive_84 rfl rfl rfl rfl ?_
      refine kJ_iconst 86 0 d_P_decisive_85 ki_0 rfl ?_
      obtain ⟨v6, ev6, hf⟩ := kBi_some hf
      refine kM_callv 89 m_H_outcome [.ref 71, .ref (71 + 10 + 5 * kx x1), .int 0] [] d_P_decisive_86 cl_P_253 ⟨w_589, w_36⟩ kp_141 ⟨rfl, by decide⟩ ⟨_, _, rfl⟩ rfl rfl (Nat.le_of_ble_eq_true rfl) ⟨Nat.le_of_ble_eq_true rfl, Nat.le_of_ble_eq_true rfl⟩ ⟨rfl, rfl⟩ ⟨Nat.zero_le _, Nat.zero_le _⟩ (j_H_outcome hro kp_141 kp_71 (kC_item kp_71 (kIn_lt hg3)) ev6) rfl ?_
      refine kJ_istore_n 90 [(3, .int v6), (2, .ref (71 + 10 + 5 * kx x1)), (0, .ref 0), (1, .int x1)] d_P_decisive_89 rfl (Nat.le_of_ble_eq_true rfl) rfl rfl ?_
      refine kJ_iconst 91 0 d_P_decisive_90 ki_0 rfl ?_
      refine kJ_istore 93 [(4, .int 0), (3, .int v6), (2, .ref (71 + 10 + 5 * kx x1)), (0, .ref 0), (1, .int x1)] d_P_decisive_91 (Nat.le_of_ble_eq_true rfl) rfl rfl ?_
      refine kJ_iconst 94 0 d_P_decisive_93 ki_0 rfl ?_
      refine kJ_istore 96 [(5, .int 0), (4, .int 0), (3, .int v6), (2, .ref (71 + 10 + 5 * kx x1)), (0, .ref 0), (1, .int x1)] d_P_decisive_94 (Nat.le_of_ble_eq_true rfl) rfl rfl ?_
      refine kJ_sub [4, 3, 2, 1, 0] rfl ?_
      exact c_P_decisive_96 hro (kC_item kp_71 (kIn_lt hg3)) kFuel h5 0 0 hf
    · have hf := kIf_f hf (kB2_0 hc)
      refine kJ_bipush 30 (-5) d_P_decisive_28 kb_m5 rfl ?_
      cases hf
      exact kJ_iret d_P_decisive_30 rfl rfl (Nat.zero_le _) (Nat.zero_le _)
  · have hf := kIf_f hf (kB2_0 hc)
    refine kJ_iconst 12 (-1) d_P_decisive_11 ki_m1 rfl ?_
    cases hf
    exact kJ_iret d_P_decisive_12 rfl rfl (Nat.zero_le _) (Nat.zero_le _)
def b_P_findGains_39 (x1 : Nat) (x2 : Int32) : Nat → kH → Int32 → Int32 → Option (Int32 × kH)
  | 0, _, _, _ => none
  | n + 1, h, x3, x4 => (fun rec39 => if (h 71 1) ≤ x4 then (kBi (f_H_tally h 141 71 x1) fun h3 => some (x3, h3)) else (kBi (f_C_canVote h 71 x4 x1) fun v4 => if v4 = true then (kG x4 12 (if (h (x1 + 2) (kx x4)) = (-6) then (kLet (x3 ||| (1 <<< (x4 &&& 31))) fun v5 => kG x4 12 (kLet (hset h (x1 + 2) (kx x4) 1) fun h6 => kBi (f_H_tally h6 141 71 x1) fun h7 => kG 1 6 (kG x4 12 (kLet (hset h7 644 (kx x4) ((h7 144 (kx 1)) - x2)) fun h8 => kG x4 12 (kLet (hset h8 (x1 + 2) (kx x4) (-6)) fun h9 => rec39 h9 v5 (x4 + 1)))))) else (rec39 h x3 (x4 + 1)))) else (rec39 h x3 (x4 + 1)))) (fun h' x3' x4' => b_P_findGains_39 x1 x2 n h' x3' x4')
theorem c_P_findGains_39 {E : kE} {L : Nat} {xs : Nat → Int32} (hro : kRo E L xs) {x1 : Nat} {x2 : Int32} (k1 : kIs x1 3) {r : Int32} {h' : kH} : ∀ (n : Nat) (h : kH) (x3 : Int32) (x4 : Int32), b_P_findGains_39 x1 x2 n h x3 x4 = some (r, h') → kJ E m_P_findGains (some r) (mk h') 0 0 39 [(0, .ref 0), (1, .ref x1), (2, .int x2), (3, .int x3), (4, .int x4)] [] (mk h) := by
  intro n
  induction n with
  | zero =>
    intro h x3 x4 hf
    have hf : (none : Option (Int32 × kH)) = some (r, h') := hf
    cases hf
  | succ n hrec39 =>
    intro h x3 x4 hf
    rw [b_P_findGains_39] at hf
    dsimp only at hf
    refine kJ_iload 41 4 d_P_findGains_39 rfl rfl ?_
    refine kJ_aload_n 42 0 d_P_findGains_41 rfl rfl rfl rfl ?_
    refine kM_getR 45 70 71 d_P_findGains_42 l_P_16 kp_0 rfl rfl rfl rfl ?_
    refine kM_getI 48 d_P_findGains_45 l_P_205 kp_71 rfl rfl rfl ?_
    refine kJ_icmp_ge 51 136 d_P_findGains_48 rfl rfl (fun hc => ?_) (fun hc => ?_)
    · have hf := kIf_t hf hc
      refine kJ_aload_n 137 0 d_P_findGains_136 rfl rfl rfl rfl ?_
      refine kM_getR 140 140 141 d_P_findGains_137 l_P_22 kp_0 rfl rfl rfl rfl ?_
      refine kJ_aload_n 141 0 d_P_findGains_140 rfl rfl rfl rfl ?_
      refine kM_getR 144 70 71 d_P_findGains_141 l_P_16 kp_0 rfl rfl rfl rfl ?_
      refine kJ_aload_n 145 1 d_P_findGains_144 rfl rfl rfl rfl ?_
      obtain ⟨h3, eh3, hf⟩ := kBi_some hf
      refine kM_callv 148 m_H_tally [.ref 71, .ref x1] [] d_P_findGains_145 cl_P_249 ⟨w_581, w_34⟩ kp_141 ⟨rfl, by decide⟩ ⟨_, _, rfl⟩ rfl rfl (Nat.le_of_ble_eq_true rfl) ⟨Nat.le_of_ble_eq_true rfl, Nat.le_of_ble_eq_true rfl⟩ ⟨rfl, rfl⟩ ⟨Nat.zero_le _, Nat.zero_le _⟩ (j_H_tally hro kp_141 kp_71 k1 eh3) rfl ?_
      refine kJ_iload_n 149 3 d_P_findGains_148 rfl rfl rfl ?_
      cases hf
      exact kJ_iret d_P_findGains_149 rfl rfl (Nat.zero_le _) (Nat.zero_le _)
    · have hf := kIf_f hf hc
      refine kJ_aload_n 52 0 d_P_findGains_51 rfl rfl rfl rfl ?_
      refine kM_getR 55 70 71 d_P_findGains_52 l_P_16 kp_0 rfl rfl rfl rfl ?_
      refine kJ_iload 57 4 d_P_findGains_55 rfl rfl ?_
      refine kJ_aload_n 58 1 d_P_findGains_57 rfl rfl rfl rfl ?_
      obtain ⟨v4, ev4, hf⟩ := kBi_some hf
      refine kM_callv 61 m_C_canVote [.int x4, .ref x1] [] d_P_findGains_58 cl_P_259 ⟨w_569, w_32⟩ kp_71 ⟨rfl, by decide⟩ ⟨_, _, rfl⟩ rfl rfl (Nat.le_of_ble_eq_true rfl) ⟨Nat.le_of_ble_eq_true rfl, Nat.le_of_ble_eq_true rfl⟩ ⟨rfl, rfl⟩ ⟨Nat.zero_le _, Nat.zero_le _⟩ (j_C_canVote hro kp_71 k1 ev4) rfl ?_
      refine kJ_if_eq 64 130 d_P_findGains_61 rfl rfl (fun hc => ?_) (fun hc => ?_)
      · have hf := kIf_f hf (kB2_0 hc)
        refine kJ_iinc 133 4 [(4, .int (x4 + 1)), (0, .ref 0), (1, .ref x1), (2, .int x2), (3, .int x3)] d_P_findGains_130 rfl ki_1 (Nat.le_of_ble_eq_true rfl) rfl rfl ?_
        refine kJ_goto 39 d_P_findGains_133 rfl ?_
        refine kJ_sub [1, 2, 3, 4, 0] rfl ?_
        exact hrec39 h x3 (x4 + 1) hf
      · have hf := kIf_t hf (kB2_1 hc)
        refine kJ_aload_n 65 1 d_P_findGains_64 rfl rfl rfl rfl ?_
        refine kM_getR 68 1 (x1 + 2) d_P_findGains_65 l_P_177 k1 rfl rfl rfl rfl ?_
        refine kJ_iload 70 4 d_P_findGains_68 rfl rfl ?_
        obtain ⟨hg, hf⟩ := kG_some hf
        refine kM_iald 71 12 d_P_findGains_70 (kk_3_7 k1) rfl hg rfl ?_
        refine kJ_bipush 73 (-6) d_P_findGains_71 kb_m6 rfl ?_
        refine kJ_icmp_ne 76 130 d_P_findGains_73 rfl rfl (fun hc => ?_) (fun hc => ?_)
        · have hf := kIf_f hf hc
          refine kJ_iinc 133 4 [(4, .int (x4 + 1)), (0, .ref 0), (1, .ref x1), (2, .int x2), (3, .int x3)] d_P_findGains_130 rfl ki_1 (Nat.le_of_ble_eq_true rfl) rfl rfl ?_
          refine kJ_goto 39 d_P_findGains_133 rfl ?_
          refine kJ_sub [1, 2, 3, 4, 0] rfl ?_
          exact hrec39 h x3 (x4 + 1) hf
        · have hf := kIf_t hf hc
          refine kJ_iload_n 77 3 d_P_findGains_76 rfl rfl rfl ?_
          refine kJ_iconst 78 1 d_P_findGains_77 ki_1 rfl ?_
          refine kJ_iload 80 4 d_P_findGains_78 rfl rfl ?_
          refine kJ_ishl 81 d_P_findGains_80 rfl ?_
          refine kJ_ior 82 d_P_findGains_81 rfl ?_
          obtain ⟨v5, ev5, hf⟩ := kLet_e hf
          rw [← ev5]
          refine kJ_istore_n 83 [(3, .int v5), (0, .ref 0), (1, .ref x1), (2, .int x2), (4, .int x4)] d_P_findGains_82 rfl (Nat.le_of_ble_eq_true rfl) rfl rfl ?_
          refine kJ_aload_n 84 2 d_P_findGains_83 rfl rfl rfl rfl ?_
          refine kM_getR 87 1 (x1 + 2) d_P_findGains_84 l_P_177 k1 rfl rfl rfl rfl ?_
          refine kJ_iload 89 4 d_P_findGains_87 rfl rfl ?_
          refine kJ_iconst 90 1 d_P_findGains_89 ki_1 rfl ?_
          obtain ⟨hg, hf⟩ := kG_some hf
          refine kM_iast 91 12 d_P_findGains_90 (kk_3_7 k1) rfl hg rfl ?_
          obtain ⟨h6, eh6, hf⟩ := kLet_e hf
          rw [← eh6]
          refine kJ_aload_n 92 1 d_P_findGains_91 rfl rfl rfl rfl ?_
          refine kM_getR 95 140 141 d_P_findGains_92 l_P_22 kp_0 rfl rfl rfl rfl ?_
          refine kJ_aload_n 96 1 d_P_findGains_95 rfl rfl rfl rfl ?_
          refine kM_getR 99 70 71 d_P_findGains_96 l_P_16 kp_0 rfl rfl rfl rfl ?_
          refine kJ_aload_n 100 2 d_P_findGains_99 rfl rfl rfl rfl ?_
          obtain ⟨h7, eh7, hf⟩ := kBi_some hf
          refine kM_callv 103 m_H_tally [.ref 71, .ref x1] [] d_P_findGains_100 cl_P_249 ⟨w_581, w_34⟩ kp_141 ⟨rfl, by decide⟩ ⟨_, _, rfl⟩ rfl rfl (Nat.le_of_ble_eq_true rfl) ⟨Nat.le_of_ble_eq_true rfl, Nat.le_of_ble_eq_true rfl⟩ ⟨rfl, rfl⟩ ⟨Nat.zero_le _, Nat.zero_le _⟩ (j_H_tally hro kp_141 kp_71 k1 eh7) rfl ?_
          refine kJ_aload_n 104 1 d_P_findGains_103 rfl rfl rfl rfl ?_
          refine kM_getR 107 643 644 d_P_findGains_104 l_P_48 kp_0 rfl rfl rfl rfl ?_
          refine kJ_iload 109 4 d_P_findGains_107 rfl rfl ?_
          refine kJ_aload_n 110 1 d_P_findGains_109 rfl rfl rfl rfl ?_
          refine kM_getR 113 140 141 d_P_findGains_110 l_P_22 kp_0 rfl rfl rfl rfl ?_
          refine kM_getR 116 2 144 d_P_findGains_113 l_P_252 kp_141 rfl rfl rfl rfl ?_
          refine kJ_iconst 117 1 d_P_findGains_116 ki_1 rfl ?_
          obtain ⟨hg, hf⟩ := kG_some hf
          refine kM_iald 118 6 d_P_findGains_117 (kk_1_2 kp_141) rfl hg rfl ?_
          refine kJ_iload_n 119 3 d_P_findGains_118 rfl rfl rfl ?_
          refine kJ_isub 120 d_P_findGains_119 rfl ?_
          obtain ⟨hg, hf⟩ := kG_some hf
          refine kM_iast 121 12 d_P_findGains_120 kp_644 rfl hg rfl ?_
          obtain ⟨h8, eh8, hf⟩ := kLet_e hf
          rw [← eh8]
          refine kJ_aload_n 122 2 d_P_findGains_121 rfl rfl rfl rfl ?_
          refine kM_getR 125 1 (x1 + 2) d_P_findGains_122 l_P_177 k1 rfl rfl rfl rfl ?_
          refine kJ_iload 127 4 d_P_findGains_125 rfl rfl ?_
          refine kJ_bipush 129 (-6) d_P_findGains_127 kb_m6 rfl ?_
          obtain ⟨hg, hf⟩ := kG_some hf
          refine kM_iast 130 12 d_P_findGains_129 (kk_3_7 k1) rfl hg rfl ?_
          obtain ⟨h9, eh9, hf⟩ := kLet_e hf
          rw [← eh9]
          refine kJ_iinc 133 4 [(4, .int (x4 + 1)), (3, .int v5), (0, .ref 0), (1, .ref x1), (2, .int x2)] d_P_findGains_130 rfl ki_1 (Nat.le_of_ble_eq_true rfl) rfl rfl ?_
          refine kJ_goto 39 d_P_findGains_133 rfl ?_
          refine kJ_sub [2, 3, 4, 1, 0] rfl ?_
          exact hrec39 h9 v5 (x4 + 1) hf
def f_P_findGains (h : kH) (x1 : Nat) : Option (Int32 × kH) := kBi (f_H_listen h 141 71 x1) fun h1 => kBi (f_H_tally h1 141 71 x1) fun h2 => kG 1 6 (b_P_findGains_39 x1 (h2 144 (kx 1)) kFuel h2 0 0)
theorem j_P_findGains {E : kE} {L : Nat} {xs : Nat → Int32} (hro : kRo E L xs) {h : kH} {x1 : Nat} (k1 : kIs x1 3) {r : Int32} {h' : kH} (hf : f_P_findGains h x1 = some (r, h')) : JM E m_P_findGains [.ref 0, .ref x1] (mk h) (some r) (mk h') := by
  unfold f_P_findGains at hf
  refine JM.of pn_P (Nat.le_of_ble_eq_true rfl) ?_
  show kJ E m_P_findGains (some r) (mk h') 0 0 0 [(0, .ref 0), (1, .ref x1)] [] (mk h)
  refine kJ_aload_n 1 0 d_P_findGains_0 rfl rfl rfl rfl ?_
  refine kM_getR 4 140 141 d_P_findGains_1 l_P_22 kp_0 rfl rfl rfl rfl ?_
  refine kJ_aload_n 5 0 d_P_findGains_4 rfl rfl rfl rfl ?_
  refine kM_getR 8 70 71 d_P_findGains_5 l_P_16 kp_0 rfl rfl rfl rfl ?_
  refine kJ_aload_n 9 1 d_P_findGains_8 rfl rfl rfl rfl ?_
  obtain ⟨h1, eh1, hf⟩ := kBi_some hf
  refine kM_callv 12 m_H_listen [.ref 71, .ref x1] [] d_P_findGains_9 cl_P_159 ⟨w_526, w_23⟩ kp_141 ⟨rfl, by decide⟩ ⟨_, _, rfl⟩ rfl rfl (Nat.le_of_ble_eq_true rfl) ⟨Nat.le_of_ble_eq_true rfl, Nat.le_of_ble_eq_true rfl⟩ ⟨rfl, rfl⟩ ⟨Nat.zero_le _, Nat.zero_le _⟩ (j_H_listen hro kp_141 kp_71 k1 eh1) rfl ?_
  refine kJ_aload_n 13 0 d_P_findGains_12 rfl rfl rfl rfl ?_
  refine kM_getR 16 140 141 d_P_findGains_13 l_P_22 kp_0 rfl rfl rfl rfl ?_
  refine kJ_aload_n 17 0 d_P_findGains_16 rfl rfl rfl rfl ?_
  refine kM_getR 20 70 71 d_P_findGains_17 l_P_16 kp_0 rfl rfl rfl rfl ?_
  refine kJ_aload_n 21 1 d_P_findGains_20 rfl rfl rfl rfl ?_
  obtain ⟨h2, eh2, hf⟩ := kBi_some hf
  refine kM_callv 24 m_H_tally [.ref 71, .ref x1] [] d_P_findGains_21 cl_P_249 ⟨w_581, w_34⟩ kp_141 ⟨rfl, by decide⟩ ⟨_, _, rfl⟩ rfl rfl (Nat.le_of_ble_eq_true rfl) ⟨Nat.le_of_ble_eq_true rfl, Nat.le_of_ble_eq_true rfl⟩ ⟨rfl, rfl⟩ ⟨Nat.zero_le _, Nat.zero_le _⟩ (j_H_tally hro kp_141 kp_71 k1 eh2) rfl ?_
  refine kJ_aload_n 25 0 d_P_findGains_24 rfl rfl rfl rfl ?_
  refine kM_getR 28 140 141 d_P_findGains_25 l_P_22 kp_0 rfl rfl rfl rfl ?_
  refine kM_getR 31 2 144 d_P_findGains_28 l_P_252 kp_141 rfl rfl rfl rfl ?_
  refine kJ_iconst 32 1 d_P_findGains_31 ki_1 rfl ?_
  obtain ⟨hg, hf⟩ := kG_some hf
  refine kM_iald 33 6 d_P_findGains_32 (kk_1_2 kp_141) rfl hg rfl ?_
  refine kJ_istore_n 34 [(2, .int (h2 144 (kx 1))), (0, .ref 0), (1, .ref x1)] d_P_findGains_33 rfl (Nat.le_of_ble_eq_true rfl) rfl rfl ?_
  refine kJ_iconst 35 0 d_P_findGains_34 ki_0 rfl ?_
  refine kJ_istore_n 36 [(3, .int 0), (2, .int (h2 144 (kx 1))), (0, .ref 0), (1, .ref x1)] d_P_findGains_35 rfl (Nat.le_of_ble_eq_true rfl) rfl rfl ?_
  refine kJ_iconst 37 0 d_P_findGains_36 ki_0 rfl ?_
  refine kJ_istore 39 [(4, .int 0), (3, .int 0), (2, .int (h2 144 (kx 1))), (0, .ref 0), (1, .ref x1)] d_P_findGains_37 (Nat.le_of_ble_eq_true rfl) rfl rfl ?_
  refine kJ_sub [3, 4, 2, 1, 0] rfl ?_
  exact c_P_findGains_39 hro k1 kFuel h2 0 0 hf
def b_P_gainOf_4 (h : kH) (x1 : Int32) : Nat → Int32 → Int32 → Option Int32
  | 0, _, _ => none
  | n + 1, x2, x3 => (fun rec4 => if (h 71 1) ≤ x3 then (some x2) else (if ((x1 >>> (x3 &&& 31)) &&& 1) = 1 then (kG x3 12 (rec4 (x2 + (h 644 (kx x3))) (x3 + 1))) else (rec4 x2 (x3 + 1)))) (fun x2' x3' => b_P_gainOf_4 h x1 n x2' x3')
theorem c_P_gainOf_4 {E : kE} {L : Nat} {xs : Nat → Int32} (hro : kRo E L xs) {h : kH} {x1 : Int32} {r : Int32} : ∀ (n : Nat) (x2 : Int32) (x3 : Int32), b_P_gainOf_4 h x1 n x2 x3 = some r → kJ E m_P_gainOf (some r) (mk h) 0 0 4 [(0, .ref 0), (1, .int x1), (2, .int x2), (3, .int x3)] [] (mk h) := by
  intro n
  induction n with
  | zero =>
    intro x2 x3 hf
    have hf : (none : Option Int32) = some r := hf
    cases hf
  | succ n hrec4 =>
    intro x2 x3 hf
    rw [b_P_gainOf_4] at hf
    dsimp only at hf
    refine kJ_iload_n 5 3 d_P_gainOf_4 rfl rfl rfl ?_
    refine kJ_aload_n 6 0 d_P_gainOf_5 rfl rfl rfl rfl ?_
    refine kM_getR 9 70 71 d_P_gainOf_6 l_P_16 kp_0 rfl rfl rfl rfl ?_
    refine kM_getI 12 d_P_gainOf_9 l_P_205 kp_71 rfl rfl rfl ?_
    refine kJ_icmp_ge 15 39 d_P_gainOf_12 rfl rfl (fun hc => ?_) (fun hc => ?_)
    · have hf := kIf_t hf hc
      refine kJ_iload_n 40 2 d_P_gainOf_39 rfl rfl rfl ?_
      cases hf
      exact kJ_iret d_P_gainOf_40 rfl rfl (Nat.zero_le _) (Nat.zero_le _)
    · have hf := kIf_f hf hc
      refine kJ_iload_n 16 1 d_P_gainOf_15 rfl rfl rfl ?_
      refine kJ_iload_n 17 3 d_P_gainOf_16 rfl rfl rfl ?_
      refine kJ_ishr 18 d_P_gainOf_17 rfl ?_
      refine kJ_iconst 19 1 d_P_gainOf_18 ki_1 rfl ?_
      refine kJ_iand 20 d_P_gainOf_19 rfl ?_
      refine kJ_iconst 21 1 d_P_gainOf_20 ki_1 rfl ?_
      refine kJ_icmp_ne 24 33 d_P_gainOf_21 rfl rfl (fun hc => ?_) (fun hc => ?_)
      · have hf := kIf_f hf hc
        refine kJ_iinc 36 3 [(3, .int (x3 + 1)), (0, .ref 0), (1, .int x1), (2, .int x2)] d_P_gainOf_33 rfl ki_1 (Nat.le_of_ble_eq_true rfl) rfl rfl ?_
        refine kJ_goto 4 d_P_gainOf_36 rfl ?_
        refine kJ_sub [1, 2, 3, 0] rfl ?_
        exact hrec4 x2 (x3 + 1) hf
      · have hf := kIf_t hf hc
        refine kJ_iload_n 25 2 d_P_gainOf_24 rfl rfl rfl ?_
        refine kJ_aload_n 26 0 d_P_gainOf_25 rfl rfl rfl rfl ?_
        refine kM_getR 29 643 644 d_P_gainOf_26 l_P_48 kp_0 rfl rfl rfl rfl ?_
        refine kJ_iload_n 30 3 d_P_gainOf_29 rfl rfl rfl ?_
        obtain ⟨hg, hf⟩ := kG_some hf
        refine kM_iald 31 12 d_P_gainOf_30 kp_644 rfl hg rfl ?_
        refine kJ_iadd 32 d_P_gainOf_31 rfl ?_
        refine kJ_istore_n 33 [(2, .int (x2 + (h 644 (kx x3)))), (0, .ref 0), (1, .int x1), (3, .int x3)] d_P_gainOf_32 rfl (Nat.le_of_ble_eq_true rfl) rfl rfl ?_
        refine kJ_iinc 36 3 [(3, .int (x3 + 1)), (2, .int (x2 + (h 644 (kx x3)))), (0, .ref 0), (1, .int x1)] d_P_gainOf_33 rfl ki_1 (Nat.le_of_ble_eq_true rfl) rfl rfl ?_
        refine kJ_goto 4 d_P_gainOf_36 rfl ?_
        refine kJ_sub [2, 3, 1, 0] rfl ?_
        exact hrec4 (x2 + (h 644 (kx x3))) (x3 + 1) hf
def f_P_gainOf (h : kH) (x1 : Int32) : Option Int32 := b_P_gainOf_4 h x1 kFuel 0 0
theorem j_P_gainOf {E : kE} {L : Nat} {xs : Nat → Int32} (hro : kRo E L xs) {h : kH} {x1 : Int32} {r : Int32} (hf : f_P_gainOf h x1 = some r) : JM E m_P_gainOf [.ref 0, .int x1] (mk h) (some r) (mk h) := by
  unfold f_P_gainOf at hf
  refine JM.of pn_P (Nat.le_of_ble_eq_true rfl) ?_
  show kJ E m_P_gainOf (some r) (mk h) 0 0 0 [(0, .ref 0), (1, .int x1)] [] (mk h)
  refine kJ_iconst 1 0 d_P_gainOf_0 ki_0 rfl ?_
  refine kJ_istore_n 2 [(2, .int 0), (0, .ref 0), (1, .int x1)] d_P_gainOf_1 rfl (Nat.le_of_ble_eq_true rfl) rfl rfl ?_
  refine kJ_iconst 3 0 d_P_gainOf_2 ki_0 rfl ?_
  refine kJ_istore_n 4 [(3, .int 0), (2, .int 0), (0, .ref 0), (1, .int x1)] d_P_gainOf_3 rfl (Nat.le_of_ble_eq_true rfl) rfl rfl ?_
  refine kJ_sub [2, 3, 1, 0] rfl ?_
  exact c_P_gainOf_4 hro kFuel 0 0 hf
def b_P_fewestToCarry_10 (h : kH) (x1 : Nat) (x2 : Int32) : Nat → Int32 → Int32 → Int32 → Option Int32
  | 0, _, _, _ => none
  | n + 1, x3, x4, x5 => (fun rec10 => if x2 < x5 then (some x3) else (if (x5 &&& (x2 ^^^ (-1))) = 0 then (if x4 ≤ (f_JI_bitCount x5) then (rec10 x3 x4 (x5 + 1)) else (kBi (f_P_gainOf h x5) fun v1 => kBi (f_H_outcome h 141 71 x1 v1) fun v2 => if v2 = 3 then (rec10 x5 (f_JI_bitCount x5) (x5 + 1)) else (rec10 x3 x4 (x5 + 1)))) else (rec10 x3 x4 (x5 + 1)))) (fun x3' x4' x5' => b_P_fewestToCarry_10 h x1 x2 n x3' x4' x5')
theorem c_P_fewestToCarry_10 {E : kE} {L : Nat} {xs : Nat → Int32} (hro : kRo E L xs) {h : kH} {x1 : Nat} {x2 : Int32} (k1 : kIs x1 3) {r : Int32} : ∀ (n : Nat) (x3 : Int32) (x4 : Int32) (x5 : Int32), b_P_fewestToCarry_10 h x1 x2 n x3 x4 x5 = some r → kJ E m_P_fewestToCarry (some r) (mk h) 0 0 10 [(0, .ref 0), (1, .ref x1), (2, .int x2), (3, .int x3), (4, .int x4), (5, .int x5)] [] (mk h) := by
  intro n
  induction n with
  | zero =>
    intro x3 x4 x5 hf
    have hf : (none : Option Int32) = some r := hf
    cases hf
  | succ n hrec10 =>
    intro x3 x4 x5 hf
    rw [b_P_fewestToCarry_10] at hf
    dsimp only at hf
    refine kJ_iload 12 5 d_P_fewestToCarry_10 rfl rfl ?_
    refine kJ_iload_n 13 2 d_P_fewestToCarry_12 rfl rfl rfl ?_
    refine kJ_icmp_gt 16 74 d_P_fewestToCarry_13 rfl rfl (fun hc => ?_) (fun hc => ?_)
    · have hf := kIf_t hf hc
      refine kJ_iload_n 75 3 d_P_fewestToCarry_74 rfl rfl rfl ?_
      cases hf
      exact kJ_iret d_P_fewestToCarry_75 rfl rfl (Nat.zero_le _) (Nat.zero_le _)
    · have hf := kIf_f hf hc
      refine kJ_iload 18 5 d_P_fewestToCarry_16 rfl rfl ?_
      refine kM_calls 21 m_JI_bitCount [.int x5] [] d_P_fewestToCarry_18 cl_P_273 w_452 rfl rfl (Nat.le_of_ble_eq_true rfl) ⟨Nat.le_of_ble_eq_true rfl, Nat.le_of_ble_eq_true rfl⟩ ⟨rfl, rfl⟩ ⟨Nat.zero_le _, Nat.zero_le _⟩ (j_JI_bitCount hro rfl) rfl ?_
      refine kJ_istore 23 [(6, .int (f_JI_bitCount x5)), (0, .ref 0), (1, .ref x1), (2, .int x2), (3, .int x3), (4, .int x4), (5, .int x5)] d_P_fewestToCarry_21 (Nat.le_of_ble_eq_true rfl) rfl rfl ?_
      refine kJ_iload 25 6 d_P_fewestToCarry_23 rfl rfl ?_
      refine kJ_iload_n 26 3 d_P_fewestToCarry_25 rfl rfl rfl ?_
      refine kJ_iconst 27 (-1) d_P_fewestToCarry_26 ki_m1 rfl ?_
      refine kJ_ixor 28 d_P_fewestToCarry_27 rfl ?_
      refine kJ_iand 29 d_P_fewestToCarry_28 rfl ?_
      refine kJ_if_ne 32 68 d_P_fewestToCarry_29 rfl rfl (fun hc => ?_) (fun hc => ?_)
      · have hf := kIf_f hf hc
        refine kJ_iinc 71 6 [(5, .int (x5 + 1)), (6, .int (f_JI_bitCount x5)), (0, .ref 0), (1, .ref x1), (2, .int x2), (3, .int x3), (4, .int x4)] d_P_fewestToCarry_68 rfl ki_1 (Nat.le_of_ble_eq_true rfl) rfl rfl ?_
        refine kJ_goto 10 d_P_fewestToCarry_71 rfl ?_
        refine kJ_sub [2, 3, 4, 5, 6, 0] rfl ?_
        exact hrec10 x3 x4 (x5 + 1) hf
      · have hf := kIf_t hf hc
        refine kJ_iload 34 0 d_P_fewestToCarry_32 rfl rfl ?_
        refine kJ_iload 36 5 d_P_fewestToCarry_34 rfl rfl ?_
        refine kJ_icmp_ge 39 68 d_P_fewestToCarry_36 rfl rfl (fun hc => ?_) (fun hc => ?_)
        · have hf := kIf_t hf hc
          refine kJ_iinc 71 6 [(5, .int (x5 + 1)), (6, .int (f_JI_bitCount x5)), (0, .ref 0), (1, .ref x1), (2, .int x2), (3, .int x3), (4, .int x4)] d_P_fewestToCarry_68 rfl ki_1 (Nat.le_of_ble_eq_true rfl) rfl rfl ?_
          refine kJ_goto 10 d_P_fewestToCarry_71 rfl ?_
          refine kJ_sub [2, 3, 4, 5, 6, 0] rfl ?_
          exact hrec10 x3 x4 (x5 + 1) hf
        · have hf := kIf_f hf hc
          refine kJ_aload_n 40 1 d_P_fewestToCarry_39 rfl rfl rfl rfl ?_
          refine kM_getR 43 140 141 d_P_fewestToCarry_40 l_P_22 kp_0 rfl rfl rfl rfl ?_
          refine kJ_aload_n 44 1 d_P_fewestToCarry_43 rfl rfl rfl rfl ?_
          refine kM_getR 47 70 71 d_P_fewestToCarry_44 l_P_16 kp_0 rfl rfl rfl rfl ?_
          refine kJ_aload_n 48 2 d_P_fewestToCarry_47 rfl rfl rfl rfl ?_
          refine kJ_aload_n 49 1 d_P_fewestToCarry_48 rfl rfl rfl rfl ?_
          refine kJ_iload 51 6 d_P_fewestToCarry_49 rfl rfl ?_
          obtain ⟨v1, ev1, hf⟩ := kBi_some hf
          refine kM_callv 54 m_P_gainOf [.int x5] [.ref x1, .ref 71, .ref 141] d_P_fewestToCarry_51 cl_P_291 ⟨w_706, w_52⟩ kp_0 ⟨rfl, by decide⟩ ⟨_, _, rfl⟩ rfl rfl (Nat.le_of_ble_eq_true rfl) ⟨Nat.le_of_ble_eq_true rfl, Nat.le_of_ble_eq_true rfl⟩ ⟨rfl, rfl⟩ ⟨Nat.zero_le _, Nat.zero_le _⟩ (j_P_gainOf hro ev1) rfl ?_
          obtain ⟨v2, ev2, hf⟩ := kBi_some hf
          refine kM_callv 57 m_H_outcome [.ref 71, .ref x1, .int v1] [] d_P_fewestToCarry_54 cl_P_253 ⟨w_589, w_36⟩ kp_141 ⟨rfl, by decide⟩ ⟨_, _, rfl⟩ rfl rfl (Nat.le_of_ble_eq_true rfl) ⟨Nat.le_of_ble_eq_true rfl, Nat.le_of_ble_eq_true rfl⟩ ⟨rfl, rfl⟩ ⟨Nat.zero_le _, Nat.zero_le _⟩ (j_H_outcome hro kp_141 kp_71 k1 ev2) rfl ?_
          refine kJ_iconst 58 3 d_P_fewestToCarry_57 ki_3 rfl ?_
          refine kJ_icmp_ne 61 68 d_P_fewestToCarry_58 rfl rfl (fun hc => ?_) (fun hc => ?_)
          · have hf := kIf_f hf hc
            refine kJ_iinc 71 6 [(5, .int (x5 + 1)), (6, .int (f_JI_bitCount x5)), (0, .ref 0), (1, .ref x1), (2, .int x2), (3, .int x3), (4, .int x4)] d_P_fewestToCarry_68 rfl ki_1 (Nat.le_of_ble_eq_true rfl) rfl rfl ?_
            refine kJ_goto 10 d_P_fewestToCarry_71 rfl ?_
            refine kJ_sub [2, 3, 4, 5, 6, 0] rfl ?_
            exact hrec10 x3 x4 (x5 + 1) hf
          · have hf := kIf_t hf hc
            refine kJ_iload 63 6 d_P_fewestToCarry_61 rfl rfl ?_
            refine kJ_istore_n 64 [(3, .int x5), (6, .int (f_JI_bitCount x5)), (0, .ref 0), (1, .ref x1), (2, .int x2), (4, .int x4), (5, .int x5)] d_P_fewestToCarry_63 rfl (Nat.le_of_ble_eq_true rfl) rfl rfl ?_
            refine kJ_iload 66 1 d_P_fewestToCarry_64 rfl rfl ?_
            refine kJ_istore 68 [(4, .int (f_JI_bitCount x5)), (3, .int x5), (6, .int (f_JI_bitCount x5)), (0, .ref 0), (1, .ref x1), (2, .int x2), (5, .int x5)] d_P_fewestToCarry_66 (Nat.le_of_ble_eq_true rfl) rfl rfl ?_
            refine kJ_iinc 71 6 [(5, .int (x5 + 1)), (4, .int (f_JI_bitCount x5)), (3, .int x5), (6, .int (f_JI_bitCount x5)), (0, .ref 0), (1, .ref x1), (2, .int x2)] d_P_fewestToCarry_68 rfl ki_1 (Nat.le_of_ble_eq_true rfl) rfl rfl ?_
            refine kJ_goto 10 d_P_fewestToCarry_71 rfl ?_
            refine kJ_sub [4, 5, 6, 2, 1, 0] rfl ?_
            exact hrec10 x5 (f_JI_bitCount x5) (x5 + 1) hf
def f_P_fewestToCarry (h : kH) (x1 : Nat) (x2 : Int32) : Option Int32 := b_P_fewestToCarry_10 h x1 x2 kFuel (-6) 13 0
theorem j_P_fewestToCarry {E : kE} {L : Nat} {xs : Nat → Int32} (hro : kRo E L xs) {h : kH} {x1 : Nat} {x2 : Int32} (k1 : kIs x1 3) {r : Int32} (hf : f_P_fewestToCarry h x1 x2 = some r) : JM E m_P_fewestToCarry [.ref 0, .ref x1, .int x2] (mk h) (some r) (mk h) := by
  unfold f_P_fewestToCarry at hf
  refine JM.of pn_P (Nat.le_of_ble_eq_true rfl) ?_
  show kJ E m_P_fewestToCarry (some r) (mk h) 0 0 0 [(0, .ref 0), (1, .ref x1), (2, .int x2)] [] (mk h)
  refine kJ_bipush 2 (-6) d_P_fewestToCarry_0 kb_m6 rfl ?_
  refine kJ_istore_n 3 [(3, .int (-6)), (0, .ref 0), (1, .ref x1), (2, .int x2)] d_P_fewestToCarry_2 rfl (Nat.le_of_ble_eq_true rfl) rfl rfl ?_
  refine kJ_bipush 5 13 d_P_fewestToCarry_3 kb_13 rfl ?_
  refine kJ_istore 7 [(4, .int 13), (3, .int (-6)), (0, .ref 0), (1, .ref x1), (2, .int x2)] d_P_fewestToCarry_5 (Nat.le_of_ble_eq_true rfl) rfl rfl ?_
  refine kJ_iconst 8 0 d_P_fewestToCarry_7 ki_0 rfl ?_
  refine kJ_istore 10 [(5, .int 0), (4, .int 13), (3, .int (-6)), (0, .ref 0), (1, .ref x1), (2, .int x2)] d_P_fewestToCarry_8 (Nat.le_of_ble_eq_true rfl) rfl rfl ?_
  refine kJ_sub [3, 4, 5, 2, 1, 0] rfl ?_
  exact c_P_fewestToCarry_10 hro k1 kFuel (-6) 13 0 hf
def b_P_needed_25 (h : kH) (x1 : Int32) (x2 : Int32) : Option (Int32 × kH) := kG x1 12 (if (f_I_isPending h (1 + 10 + 5 * kx x1)) = true then (kBi (f_C_copyFrom h 71 1) fun h2 => kG x1 12 (kBd (f_P_findGains h2 (71 + 10 + 5 * kx x1)) fun v5 h4 => kBi (f_P_fewestToCarry h4 (71 + 10 + 5 * kx x1) v5) fun v6 => if v6 = (-6) then (some (v6, h4)) else (if x2 = 1 then (some (v6, h4)) else (some ((f_JI_bitCount v6), h4))))) else (some ((-5), h)))
theorem c_P_needed_25 {E : kE} {L : Nat} {xs : Nat → Int32} (hro : kRo E L xs) {h : kH} {x1 : Int32} {x2 : Int32} {r : Int32} {h' : kH} (hf : b_P_needed_25 h x1 x2 = some (r, h')) : kJ E m_P_needed (some r) (mk h') 0 0 25 [(0, .ref 0), (1, .int x1), (2, .int x2)] [] (mk h) := by
  unfold b_P_needed_25 at hf
  refine kJ_aload_n 26 0 d_P_needed_25 rfl rfl rfl rfl ?_
  refine kM_getR 29 0 1 d_P_needed_26 l_P_10 kp_0 rfl rfl rfl rfl ?_
  refine kM_getR 32 4 6 d_P_needed_29 l_P_137 kp_1 rfl rfl rfl rfl ?_
  refine kJ_iload_n 33 1 d_P_needed_32 rfl rfl rfl ?_
  obtain ⟨hg1, hf⟩ := kG_some hf
  refine kM_aald 34 12 5 5 (1 + 10 + 5 * kx x1) d_P_needed_33 (kk_0_9 kp_1) rfl (by decide) (Or.inl rfl) hg1 (by simp only [Nat.add_assoc, kx]; try omega) rfl ?_
  refine kM_callv 37 m_I_isPending [] [] d_P_needed_34 cl_P_242 ⟨w_502, w_19⟩ (kC_item kp_1 (kIn_lt hg1)) ⟨rfl, by decide⟩ ⟨_, _, rfl⟩ rfl rfl (Nat.le_of_ble_eq_true rfl) ⟨Nat.le_of_ble_eq_true rfl, Nat.le_of_ble_eq_true rfl⟩ ⟨rfl, rfl⟩ ⟨Nat.zero_le _, Nat.zero_le _⟩ (j_I_isPending hro (kC_item kp_1 (kIn_lt hg1)) rfl) rfl ?_
  refine kJ_if_ne 40 43 d_P_needed_37 rfl rfl (fun hc => ?_) (fun hc => ?_)
  · have hf := kIf_t hf (kB2_1 hc)
    refine kJ_aload_n 44 0 d_P_needed_43 rfl rfl rfl rfl ?_
    refine kM_getR 47 70 71 d_P_needed_44 l_P_16 kp_0 rfl rfl rfl rfl ?_
    refine kJ_aload_n 48 0 d_P_needed_47 rfl rfl rfl rfl ?_
    refine kM_getR 51 0 1 d_P_needed_48 l_P_10 kp_0 rfl rfl rfl rfl ?_
    obtain ⟨h2, eh2, hf⟩ := kBi_some hf
    refine kM_callv 54 m_C_copyFrom [.ref 1] [] d_P_needed_51 cl_P_256 ⟨w_376, w_1⟩ kp_71 ⟨rfl, by decide⟩ ⟨_, _, rfl⟩ rfl rfl (Nat.le_of_ble_eq_true rfl) ⟨Nat.le_of_ble_eq_true rfl, Nat.le_of_ble_eq_true rfl⟩ ⟨rfl, rfl⟩ ⟨Nat.zero_le _, Nat.zero_le _⟩ (j_C_copyFrom hro kp_71 kp_1 eh2) rfl ?_
    refine kJ_aload_n 55 0 d_P_needed_54 rfl rfl rfl rfl ?_
    refine kM_getR 58 70 71 d_P_needed_55 l_P_16 kp_0 rfl rfl rfl rfl ?_
    refine kM_getR 61 4 76 d_P_needed_58 l_P_137 kp_71 rfl rfl rfl rfl ?_
    refine kJ_iload_n 62 1 d_P_needed_61 rfl rfl rfl ?_
    obtain ⟨hg3, hf⟩ := kG_some hf
    refine kM_aald 63 12 5 5 (71 + 10 + 5 * kx x1) d_P_needed_62 (kk_0_9 kp_71) rfl (by decide) (Or.inl rfl) hg3 (by simp only [Nat.add_assoc, kx]; try omega) rfl ?_
    refine kJ_astore_n 64 [(3, .ref (71 + 10 + 5 * kx x1)), (0, .ref 0), (1, .int x1), (2, .int x2)] d_P_needed_63 rfl (Nat.le_of_ble_eq_true rfl) rfl rfl rfl ?_
    refine kJ_aload_n 65 1 d_P_needed_64 rfl rfl rfl rfl ?_
    refine kJ_aload_n 66 0 d_P_needed_65 rfl rfl rfl rfl ?_
    refine kJ_aload_n 67 1 d_P_needed_66 rfl rfl rfl rfl ?_
    refine kJ_aload_n 68 0 d_P_needed_67 rfl rfl rfl rfl ?_
    obtain ⟨v5, h4, ev5, hf⟩ := kBd_some hf
    refine kM_callv 71 m_P_findGains [.ref (71 + 10 + 5 * kx x1)] [.ref (71 + 10 + 5 * kx x1), .ref 0] d_P_needed_68 cl_P_266 ⟨w_697, w_50⟩ kp_0 ⟨rfl, by decide⟩ ⟨_, _, rfl⟩ rfl rfl (Nat.le_of_ble_eq_true rfl) ⟨Nat.le_of_ble_eq_true rfl, Nat.le_of_ble_eq_true rfl⟩ ⟨rfl, rfl⟩ ⟨Nat.zero_le _, Nat.zero_le _⟩ (j_P_findGains hro (kC_item kp_71 (kIn_lt hg3)) ev5) rfl ?_
    obtain ⟨v6, ev6, hf⟩ := kBi_some hf
    refine kM_callv 74 m_P_fewestToCarry [.ref (71 + 10 + 5 * kx x1), .int v5] [] d_P_needed_71 cl_P_270 ⟨w_701, w_51⟩ kp_0 ⟨rfl, by decide⟩ ⟨_, _, rfl⟩ rfl rfl (Nat.le_of_ble_eq_true rfl) ⟨Nat.le_of_ble_eq_true rfl, Nat.le_of_ble_eq_true rfl⟩ ⟨rfl, rfl⟩ ⟨Nat.zero_le _, Nat.zero_le _⟩ (j_P_fewestToCarry hro (kC_item kp_71 (kIn_lt hg3)) ev6) rfl ?_
    refine kJ_istore 76 [(4, .int v6), (3, .ref (71 + 10 + 5 * kx x1)), (0, .ref 0), (1, .int x1), (2, .int x2)] d_P_needed_74 (Nat.le_of_ble_eq_true rfl) rfl rfl ?_
    refine kJ_iload 78 0 d_P_needed_76 rfl rfl ?_
    refine kJ_bipush 80 (-6) d_P_needed_78 kb_m6 rfl ?_
    refine kJ_icmp_eq 83 88 d_P_needed_80 rfl rfl (fun hc => ?_) (fun hc => ?_)
    · have hf := kIf_t hf hc
      refine kJ_iload 90 0 d_P_needed_88 rfl rfl ?_
      refine kJ_goto 98 d_P_needed_90 rfl ?_
      cases hf
      exact kJ_iret d_P_needed_98 rfl rfl (Nat.zero_le _) (Nat.zero_le _)
    · have hf := kIf_f hf hc
      refine kJ_iload_n 84 4 d_P_needed_83 rfl rfl rfl ?_
      refine kJ_iconst 85 1 d_P_needed_84 ki_1 rfl ?_
      refine kJ_icmp_ne 88 93 d_P_needed_85 rfl rfl (fun hc => ?_) (fun hc => ?_)
      · have hf := kIf_f hf hc
        refine kJ_iload 95 0 d_P_needed_93 rfl rfl ?_
        refine kM_calls 98 m_JI_bitCount [.int v6] [] d_P_needed_95 cl_P_273 w_452 rfl rfl (Nat.le_of_ble_eq_true rfl) ⟨Nat.le_of_ble_eq_true rfl, Nat.le_of_ble_eq_true rfl⟩ ⟨rfl, rfl⟩ ⟨Nat.zero_le _, Nat.zero_le _⟩ (j_JI_bitCount hro rfl) rfl ?_
        cases hf
        exact kJ_iret d_P_needed_98 rfl rfl (Nat.zero_le _) (Nat.zero_le _)
      · have hf := kIf_t hf hc
        refine kJ_iload 90 0 d_P_needed_88 rfl rfl ?_
        refine kJ_goto 98 d_P_needed_90 rfl ?_
        cases hf
        exact kJ_iret d_P_needed_98 rfl rfl (Nat.zero_le _) (Nat.zero_le _)
  · have hf := kIf_f hf (kB2_0 hc)
    refine kJ_bipush 42 (-5) d_P_needed_40 kb_m5 rfl ?_
    cases hf
    exact kJ_iret d_P_needed_42 rfl rfl (Nat.zero_le _) (Nat.zero_le _)
def f_P_needed (h : kH) (x1 : Int32) (x2 : Int32) : Option (Int32 × kH) := if (f_C_hasItem h 1 x1) = true then (if x2 = 0 then (b_P_needed_25 h x1 x2) else (if x2 = 1 then (b_P_needed_25 h x1 x2) else (some ((-2), h)))) else (some ((-1), h))
theorem j_P_needed {E : kE} {L : Nat} {xs : Nat → Int32} (hro : kRo E L xs) {h : kH} {x1 : Int32} {x2 : Int32} {r : Int32} {h' : kH} (hf : f_P_needed h x1 x2 = some (r, h')) : JM E m_P_needed [.ref 0, .int x1, .int x2] (mk h) (some r) (mk h') := by
  unfold f_P_needed at hf
  refine JM.of pn_P (Nat.le_of_ble_eq_true rfl) ?_
  show kJ E m_P_needed (some r) (mk h') 0 0 0 [(0, .ref 0), (1, .int x1), (2, .int x2)] [] (mk h)
  refine kJ_aload_n 1 0 d_P_needed_0 rfl rfl rfl rfl ?_
  refine kM_getR 4 0 1 d_P_needed_1 l_P_10 kp_0 rfl rfl rfl rfl ?_
  refine kJ_iload_n 5 1 d_P_needed_4 rfl rfl rfl ?_
  refine kM_callv 8 m_C_hasItem [.int x1] [] d_P_needed_5 cl_P_134 ⟨w_487, w_17⟩ kp_1 ⟨rfl, by decide⟩ ⟨_, _, rfl⟩ rfl rfl (Nat.le_of_ble_eq_true rfl) ⟨Nat.le_of_ble_eq_true rfl, Nat.le_of_ble_eq_true rfl⟩ ⟨rfl, rfl⟩ ⟨Nat.zero_le _, Nat.zero_le _⟩ (j_C_hasItem hro kp_1 rfl) rfl ?_
  refine kJ_if_ne 11 13 d_P_needed_8 rfl rfl (fun hc => ?_) (fun hc => ?_)
  · have hf := kIf_t hf (kB2_1 hc)
    refine kJ_iload_n 14 2 d_P_needed_13 rfl rfl rfl ?_
    refine kJ_if_eq 17 25 d_P_needed_14 rfl rfl (fun hc => ?_) (fun hc => ?_)
    · have hf := kIf_t hf hc
      refine kJ_sub [0, 1, 2] rfl ?_
      exact c_P_needed_25 hro hf
    · have hf := kIf_f hf hc
      refine kJ_iload_n 18 2 d_P_needed_17 rfl rfl rfl ?_
      refine kJ_iconst 19 1 d_P_needed_18 ki_1 rfl ?_
      refine kJ_icmp_eq 22 25 d_P_needed_19 rfl rfl (fun hc => ?_) (fun hc => ?_)
      · have hf := kIf_t hf hc
        refine kJ_sub [0, 1, 2] rfl ?_
        exact c_P_needed_25 hro hf
      · have hf := kIf_f hf hc
        refine kJ_bipush 24 (-2) d_P_needed_22 kb_m2 rfl ?_
        cases hf
        exact kJ_iret d_P_needed_24 rfl rfl (Nat.zero_le _) (Nat.zero_le _)
  · have hf := kIf_f hf (kB2_0 hc)
    refine kJ_iconst 12 (-1) d_P_needed_11 ki_m1 rfl ?_
    cases hf
    exact kJ_iret d_P_needed_12 rfl rfl (Nat.zero_le _) (Nat.zero_le _)
def b_P_countSetsWithout_52 (rec17 : kH → Int32 → Option (kH)) (x1 : Int32) (x2 : Int32) (x3 : Int32) : Nat → kH → Int32 → Option (kH)
  | 0, _, _ => none
  | n + 1, h, x4 => (fun rec52 => if x4 < x3 then (rec17 h (x2 + 1)) else (kG x4 109 (kG (x4 - x3) 109 (kG x4 109 (kLet (hset h 645 (kx x4) ((h 645 (kx x4)) + (h 645 (kx (x4 - x3))))) fun h3 => rec52 h3 (x4 + (-1))))))) (fun h' x4' => b_P_countSetsWithout_52 rec17 x1 x2 x3 n h' x4')
theorem c_P_countSetsWithout_52 {E : kE} {L : Nat} {xs : Nat → Int32} (hro : kRo E L xs) {rec17 : kH → Int32 → Option (kH)} {x1 : Int32} {x2 : Int32} {x3 : Int32} {h' : kH} (hrec17 : ∀ (h : kH) (x2 : Int32), rec17 h x2 = some h' → kJ E m_P_countSetsWithout none (mk h') 0 0 17 [(0, .ref 0), (1, .int x1), (2, .int x2)] [] (mk h)) : ∀ (n : Nat) (h : kH) (x4 : Int32), b_P_countSetsWithout_52 rec17 x1 x2 x3 n h x4 = some h' → kJ E m_P_countSetsWithout none (mk h') 0 0 52 [(0, .ref 0), (1, .int x1), (2, .int x2), (3, .int x3), (4, .int x4)] [] (mk h) := by
  intro n
  induction n with
  | zero =>
    intro h x4 hf
    have hf : (none : Option (kH)) = some h' := hf
    cases hf
  | succ n hrec52 =>
    intro h x4 hf
    rw [b_P_countSetsWithout_52] at hf
    dsimp only at hf
    refine kJ_iload 54 4 d_P_countSetsWithout_52 rfl rfl ?_
    refine kJ_iload_n 55 3 d_P_countSetsWithout_54 rfl rfl rfl ?_
    refine kJ_icmp_lt 58 83 d_P_countSetsWithout_55 rfl rfl (fun hc => ?_) (fun hc => ?_)
    · have hf := kIf_t hf hc
      refine kJ_iinc 86 2 [(2, .int (x2 + 1)), (0, .ref 0), (1, .int x1), (3, .int x3), (4, .int x4)] d_P_countSetsWithout_83 rfl ki_1 (Nat.le_of_ble_eq_true rfl) rfl rfl ?_
      refine kJ_goto 17 d_P_countSetsWithout_86 rfl ?_
      refine kJ_sub [1, 2, 0] rfl ?_
      exact hrec17 h (x2 + 1) hf
    · have hf := kIf_f hf hc
      refine kJ_aload_n 59 0 d_P_countSetsWithout_58 rfl rfl rfl rfl ?_
      refine kM_getR 62 644 645 d_P_countSetsWithout_59 l_P_52 kp_0 rfl rfl rfl rfl ?_
      refine kJ_iload 64 4 d_P_countSetsWithout_62 rfl rfl ?_
      refine kJ_dup2 65 d_P_countSetsWithout_64 rfl rfl rfl ?_
      obtain ⟨hg, hf⟩ := kG_some hf
      refine kM_iald 66 109 d_P_countSetsWithout_65 kp_645 rfl hg rfl ?_
      refine kJ_aload_n 67 0 d_P_countSetsWithout_66 rfl rfl rfl rfl ?_
      refine kM_getR 70 644 645 d_P_countSetsWithout_67 l_P_52 kp_0 rfl rfl rfl rfl ?_
      refine kJ_iload 72 4 d_P_countSetsWithout_70 rfl rfl ?_
      refine kJ_iload_n 73 3 d_P_countSetsWithout_72 rfl rfl rfl ?_
      refine kJ_isub 74 d_P_countSetsWithout_73 rfl ?_
      obtain ⟨hg, hf⟩ := kG_some hf
      refine kM_iald 75 109 d_P_countSetsWithout_74 kp_645 rfl hg rfl ?_
      refine kJ_iadd 76 d_P_countSetsWithout_75 rfl ?_
      obtain ⟨hg, hf⟩ := kG_some hf
      refine kM_iast 77 109 d_P_countSetsWithout_76 kp_645 rfl hg rfl ?_
      obtain ⟨h3, eh3, hf⟩ := kLet_e hf
      rw [← eh3]
      refine kJ_iinc 80 4 [(4, .int (x4 + (-1))), (0, .ref 0), (1, .int x1), (2, .int x2), (3, .int x3)] d_P_countSetsWithout_77 rfl ki_m1 (Nat.le_of_ble_eq_true rfl) rfl rfl ?_
      refine kJ_goto 52 d_P_countSetsWithout_80 rfl ?_
      refine kJ_sub [1, 2, 3, 4, 0] rfl ?_
      exact hrec52 h3 (x4 + (-1)) hf
def b_P_countSetsWithout_17 (x1 : Int32) : Nat → kH → Int32 → Option (kH)
  | 0, _, _ => none
  | n + 1, h, x2 => (fun rec17 => if (h 1 1) ≤ x2 then (some h) else (if x2 = x1 then (rec17 h (x2 + 1)) else (kG x2 12 (b_P_countSetsWithout_52 rec17 x1 x2 (h 3 (kx x2)) kFuel h ((Int32.ofNat 109) - 1))))) (fun h' x2' => b_P_countSetsWithout_17 x1 n h' x2')
theorem c_P_countSetsWithout_17 {E : kE} {L : Nat} {xs : Nat → Int32} (hro : kRo E L xs) {x1 : Int32} {h' : kH} : ∀ (n : Nat) (h : kH) (x2 : Int32), b_P_countSetsWithout_17 x1 n h x2 = some h' → kJ E m_P_countSetsWithout none (mk h') 0 0 17 [(0, .ref 0), (1, .int x1), (2, .int x2)] [] (mk h) := by
  intro n
  induction n with
  | zero =>
    intro h x2 hf
    have hf : (none : Option (kH)) = some h' := hf
    cases hf
  | succ n hrec17 =>
    intro h x2 hf
    rw [b_P_countSetsWithout_17] at hf
    dsimp only at hf
    refine kJ_iload_n 18 2 d_P_countSetsWithout_17 rfl rfl rfl ?_
    refine kJ_aload_n 19 0 d_P_countSetsWithout_18 rfl rfl rfl rfl ?_
    refine kM_getR 22 0 1 d_P_countSetsWithout_19 l_P_10 kp_0 rfl rfl rfl rfl ?_
    refine kM_getI 25 d_P_countSetsWithout_22 l_P_205 kp_1 rfl rfl rfl ?_
    refine kJ_icmp_ge 28 89 d_P_countSetsWithout_25 rfl rfl (fun hc => ?_) (fun hc => ?_)
    · have hf := kIf_t hf hc
      cases hf
      exact kJ_ret d_P_countSetsWithout_89 rfl (Nat.zero_le _) (Nat.zero_le _)
    · have hf := kIf_f hf hc
      refine kJ_iload_n 29 2 d_P_countSetsWithout_28 rfl rfl rfl ?_
      refine kJ_iload_n 30 1 d_P_countSetsWithout_29 rfl rfl rfl ?_
      refine kJ_icmp_eq 33 83 d_P_countSetsWithout_30 rfl rfl (fun hc => ?_) (fun hc => ?_)
      · have hf := kIf_t hf hc
        refine kJ_iinc 86 2 [(2, .int (x2 + 1)), (0, .ref 0), (1, .int x1)] d_P_countSetsWithout_83 rfl ki_1 (Nat.le_of_ble_eq_true rfl) rfl rfl ?_
        refine kJ_goto 17 d_P_countSetsWithout_86 rfl ?_
        refine kJ_sub [1, 2, 0] rfl ?_
        exact hrec17 h (x2 + 1) hf
      · have hf := kIf_f hf hc
        refine kJ_aload_n 34 0 d_P_countSetsWithout_33 rfl rfl rfl rfl ?_
        refine kM_getR 37 0 1 d_P_countSetsWithout_34 l_P_10 kp_0 rfl rfl rfl rfl ?_
        refine kM_getR 40 1 3 d_P_countSetsWithout_37 l_P_116 kp_1 rfl rfl rfl rfl ?_
        refine kJ_iload_n 41 2 d_P_countSetsWithout_40 rfl rfl rfl ?_
        obtain ⟨hg, hf⟩ := kG_some hf
        refine kM_iald 42 12 d_P_countSetsWithout_41 (kk_0_6 kp_1) rfl hg rfl ?_
        refine kJ_istore_n 43 [(3, .int (h 3 (kx x2))), (0, .ref 0), (1, .int x1), (2, .int x2)] d_P_countSetsWithout_42 rfl (Nat.le_of_ble_eq_true rfl) rfl rfl ?_
        refine kJ_aload_n 44 1 d_P_countSetsWithout_43 rfl rfl rfl rfl ?_
        refine kM_getR 47 644 645 d_P_countSetsWithout_44 l_P_52 kp_0 rfl rfl rfl rfl ?_
        refine kM_alen 48 109 d_P_countSetsWithout_47 kp_645 rfl rfl ?_
        refine kJ_iconst 49 1 d_P_countSetsWithout_48 ki_1 rfl ?_
        refine kJ_isub 50 d_P_countSetsWithout_49 rfl ?_
        refine kJ_istore 52 [(4, .int ((Int32.ofNat 109) - 1)), (3, .int (h 3 (kx x2))), (0, .ref 0), (1, .int x1), (2, .int x2)] d_P_countSetsWithout_50 (Nat.le_of_ble_eq_true rfl) rfl rfl ?_
        refine kJ_sub [2, 3, 4, 1, 0] rfl ?_
        exact c_P_countSetsWithout_52 hro hrec17 kFuel h ((Int32.ofNat 109) - 1) hf
def f_P_countSetsWithout (h : kH) (x1 : Int32) : Option (kH) := kLet (hfill h 645 109 0) fun h1 => kG 0 109 (kLet (hset h1 645 (kx 0) 1) fun h2 => b_P_countSetsWithout_17 x1 kFuel h2 0)
theorem j_P_countSetsWithout {E : kE} {L : Nat} {xs : Nat → Int32} (hro : kRo E L xs) {h : kH} {x1 : Int32} {h' : kH} (hf : f_P_countSetsWithout h x1 = some h') : JM E m_P_countSetsWithout [.ref 0, .int x1] (mk h) none (mk h') := by
  unfold f_P_countSetsWithout at hf
  refine JM.of pn_P (Nat.le_of_ble_eq_true rfl) ?_
  show kJ E m_P_countSetsWithout none (mk h') 0 0 0 [(0, .ref 0), (1, .int x1)] [] (mk h)
  refine kJ_aload_n 1 0 d_P_countSetsWithout_0 rfl rfl rfl rfl ?_
  refine kM_getR 4 644 645 d_P_countSetsWithout_1 l_P_52 kp_0 rfl rfl rfl rfl ?_
  refine kJ_iconst 5 0 d_P_countSetsWithout_4 ki_0 rfl ?_
  refine kM_calls 8 m_JA_fill [.ref 645, .int 0] [] d_P_countSetsWithout_5 cl_P_294 w_425 rfl rfl (Nat.le_of_ble_eq_true rfl) ⟨Nat.le_of_ble_eq_true rfl, Nat.le_of_ble_eq_true rfl⟩ ⟨rfl, rfl⟩ ⟨Nat.zero_le _, Nat.zero_le _⟩ (j_JA_fill hro kp_645 (n := 109) rfl (by decide)) rfl ?_
  obtain ⟨h1, eh1, hf⟩ := kLet_e hf
  rw [← eh1]
  refine kJ_aload_n 9 0 d_P_countSetsWithout_8 rfl rfl rfl rfl ?_
  refine kM_getR 12 644 645 d_P_countSetsWithout_9 l_P_52 kp_0 rfl rfl rfl rfl ?_
  refine kJ_iconst 13 0 d_P_countSetsWithout_12 ki_0 rfl ?_
  refine kJ_iconst 14 1 d_P_countSetsWithout_13 ki_1 rfl ?_
  obtain ⟨hg, hf⟩ := kG_some hf
  refine kM_iast 15 109 d_P_countSetsWithout_14 kp_645 rfl hg rfl ?_
  obtain ⟨h2, eh2, hf⟩ := kLet_e hf
  rw [← eh2]
  refine kJ_iconst 16 0 d_P_countSetsWithout_15 ki_0 rfl ?_
  refine kJ_istore_n 17 [(2, .int 0), (0, .ref 0), (1, .int x1)] d_P_countSetsWithout_16 rfl (Nat.le_of_ble_eq_true rfl) rfl rfl ?_
  refine kJ_sub [1, 2, 0] rfl ?_
  exact c_P_countSetsWithout_17 hro kFuel h2 0 hf
def b_P_power_42 (x2 : Int32) (x3 : Int32) : Nat → kH → Int32 → Int32 → Option (Int32 × kH)
  | 0, _, _, _ => none
  | n + 1, h, x4, x5 => (fun rec42 => if (Int32.ofNat 109) ≤ x5 then (some (x4, h)) else (if x2 < (2 * x5) then (rec42 h x4 (x5 + 1)) else (if (2 * (x5 + x3)) ≤ x2 then (rec42 h x4 (x5 + 1)) else (kG x5 109 (rec42 h (x4 + (h 645 (kx x5))) (x5 + 1)))))) (fun h' x4' x5' => b_P_power_42 x2 x3 n h' x4' x5')
theorem c_P_power_42 {E : kE} {L : Nat} {xs : Nat → Int32} (hro : kRo E L xs) {x2 : Int32} {x3 : Int32} {r : Int32} {h' : kH} : ∀ (n : Nat) (h : kH) (x4 : Int32) (x5 : Int32), b_P_power_42 x2 x3 n h x4 x5 = some (r, h') → kJ E m_P_power (some r) (mk h') 0 0 42 [(0, .ref 0), (2, .int x2), (3, .int x3), (4, .int x4), (5, .int x5)] [] (mk h) := by
  intro n
  induction n with
  | zero =>
    intro h x4 x5 hf
    have hf : (none : Option (Int32 × kH)) = some (r, h') := hf
    cases hf
  | succ n hrec42 =>
    intro h x4 x5 hf
    rw [b_P_power_42] at hf
    dsimp only at hf
    refine kJ_iload 44 4 d_P_power_42 rfl rfl ?_
    refine kJ_aload_n 45 0 d_P_power_44 rfl rfl rfl rfl ?_
    refine kM_getR 48 644 645 d_P_power_45 l_P_52 kp_0 rfl rfl rfl rfl ?_
    refine kM_alen 49 109 d_P_power_48 kp_645 rfl rfl ?_
    refine kJ_icmp_ge 52 88 d_P_power_49 rfl rfl (fun hc => ?_) (fun hc => ?_)
    · have hf := kIf_t hf hc
      refine kJ_iload 90 3 d_P_power_88 rfl rfl ?_
      cases hf
      exact kJ_iret d_P_power_90 rfl rfl (Nat.zero_le _) (Nat.zero_le _)
    · have hf := kIf_f hf hc
      refine kJ_iconst 53 2 d_P_power_52 ki_2 rfl ?_
      refine kJ_iload 55 4 d_P_power_53 rfl rfl ?_
      refine kJ_imul 56 d_P_power_55 rfl ?_
      refine kJ_iload_n 57 1 d_P_power_56 rfl rfl rfl ?_
      refine kJ_icmp_gt 60 82 d_P_power_57 rfl rfl (fun hc => ?_) (fun hc => ?_)
      · have hf := kIf_t hf hc
        refine kJ_iinc 85 4 [(5, .int (x5 + 1)), (0, .ref 0), (2, .int x2), (3, .int x3), (4, .int x4)] d_P_power_82 rfl ki_1 (Nat.le_of_ble_eq_true rfl) rfl rfl ?_
        refine kJ_goto 42 d_P_power_85 rfl ?_
        refine kJ_sub [1, 2, 3, 4, 0] rfl ?_
        exact hrec42 h x4 (x5 + 1) hf
      · have hf := kIf_f hf hc
        refine kJ_iconst 61 2 d_P_power_60 ki_2 rfl ?_
        refine kJ_iload 63 4 d_P_power_61 rfl rfl ?_
        refine kJ_iload_n 64 2 d_P_power_63 rfl rfl rfl ?_
        refine kJ_iadd 65 d_P_power_64 rfl ?_
        refine kJ_imul 66 d_P_power_65 rfl ?_
        refine kJ_iload_n 67 1 d_P_power_66 rfl rfl rfl ?_
        refine kJ_icmp_le 70 82 d_P_power_67 rfl rfl (fun hc => ?_) (fun hc => ?_)
        · have hf := kIf_t hf hc
          refine kJ_iinc 85 4 [(5, .int (x5 + 1)), (0, .ref 0), (2, .int x2), (3, .int x3), (4, .int x4)] d_P_power_82 rfl ki_1 (Nat.le_of_ble_eq_true rfl) rfl rfl ?_
          refine kJ_goto 42 d_P_power_85 rfl ?_
          refine kJ_sub [1, 2, 3, 4, 0] rfl ?_
          exact hrec42 h x4 (x5 + 1) hf
        · have hf := kIf_f hf hc
          refine kJ_iload 72 3 d_P_power_70 rfl rfl ?_
          refine kJ_aload_n 73 0 d_P_power_72 rfl rfl rfl rfl ?_
          refine kM_getR 76 644 645 d_P_power_73 l_P_52 kp_0 rfl rfl rfl rfl ?_
          refine kJ_iload 78 4 d_P_power_76 rfl rfl ?_
          obtain ⟨hg, hf⟩ := kG_some hf
          refine kM_iald 79 109 d_P_power_78 kp_645 rfl hg rfl ?_
          refine kJ_iadd 80 d_P_power_79 rfl ?_
          refine kJ_istore 82 [(4, .int (x4 + (h 645 (kx x5)))), (0, .ref 0), (2, .int x2), (3, .int x3), (5, .int x5)] d_P_power_80 (Nat.le_of_ble_eq_true rfl) rfl rfl ?_
          refine kJ_iinc 85 4 [(5, .int (x5 + 1)), (4, .int (x4 + (h 645 (kx x5)))), (0, .ref 0), (2, .int x2), (3, .int x3)] d_P_power_82 rfl ki_1 (Nat.le_of_ble_eq_true rfl) rfl rfl ?_
          refine kJ_goto 42 d_P_power_85 rfl ?_
          refine kJ_sub [2, 3, 4, 1, 0] rfl ?_
          exact hrec42 h (x4 + (h 645 (kx x5))) (x5 + 1) hf
def f_P_power (h : kH) (x1 : Int32) : Option (Int32 × kH) := if (f_C_hasMember h 1 x1) = true then (kBi (f_P_countSetsWithout h x1) fun h1 => kBi (f_C_weightOfAll h1 1) fun v2 => kG x1 12 (b_P_power_42 v2 (h1 3 (kx x1)) kFuel h1 0 0)) else (some ((-1), h))
theorem j_P_power {E : kE} {L : Nat} {xs : Nat → Int32} (hro : kRo E L xs) {h : kH} {x1 : Int32} {r : Int32} {h' : kH} (hf : f_P_power h x1 = some (r, h')) : JM E m_P_power [.ref 0, .int x1] (mk h) (some r) (mk h') := by
  unfold f_P_power at hf
  refine JM.of pn_P (Nat.le_of_ble_eq_true rfl) ?_
  show kJ E m_P_power (some r) (mk h') 0 0 0 [(0, .ref 0), (1, .int x1)] [] (mk h)
  refine kJ_aload_n 1 0 d_P_power_0 rfl rfl rfl rfl ?_
  refine kM_getR 4 0 1 d_P_power_1 l_P_10 kp_0 rfl rfl rfl rfl ?_
  refine kJ_iload_n 5 1 d_P_power_4 rfl rfl rfl ?_
  refine kM_callv 8 m_C_hasMember [.int x1] [] d_P_power_5 cl_P_112 ⟨w_437, w_10⟩ kp_1 ⟨rfl, by decide⟩ ⟨_, _, rfl⟩ rfl rfl (Nat.le_of_ble_eq_true rfl) ⟨Nat.le_of_ble_eq_true rfl, Nat.le_of_ble_eq_true rfl⟩ ⟨rfl, rfl⟩ ⟨Nat.zero_le _, Nat.zero_le _⟩ (j_C_hasMember hro kp_1 rfl) rfl ?_
  refine kJ_if_ne 11 13 d_P_power_8 rfl rfl (fun hc => ?_) (fun hc => ?_)
  · have hf := kIf_t hf (kB2_1 hc)
    refine kJ_aload_n 14 0 d_P_power_13 rfl rfl rfl rfl ?_
    refine kJ_iload_n 15 1 d_P_power_14 rfl rfl rfl ?_
    obtain ⟨h1, eh1, hf⟩ := kBi_some hf
    refine kM_callv 18 m_P_countSetsWithout [.int x1] [] d_P_power_15 cl_P_278 ⟨w_714, w_53⟩ kp_0 ⟨rfl, by decide⟩ ⟨_, _, rfl⟩ rfl rfl (Nat.le_of_ble_eq_true rfl) ⟨Nat.le_of_ble_eq_true rfl, Nat.le_of_ble_eq_true rfl⟩ ⟨rfl, rfl⟩ ⟨Nat.zero_le _, Nat.zero_le _⟩ (j_P_countSetsWithout hro eh1) rfl ?_
    refine kJ_aload_n 19 0 d_P_power_18 rfl rfl rfl rfl ?_
    refine kM_getR 22 0 1 d_P_power_19 l_P_10 kp_0 rfl rfl rfl rfl ?_
    obtain ⟨v2, ev2, hf⟩ := kBi_some hf
    refine kM_callv 25 m_C_weightOfAll [] [] d_P_power_22 cl_P_224 ⟨w_557, w_30⟩ kp_1 ⟨rfl, by decide⟩ ⟨_, _, rfl⟩ rfl rfl (Nat.le_of_ble_eq_true rfl) ⟨Nat.le_of_ble_eq_true rfl, Nat.le_of_ble_eq_true rfl⟩ ⟨rfl, rfl⟩ ⟨Nat.zero_le _, Nat.zero_le _⟩ (j_C_weightOfAll hro kp_1 ev2) rfl ?_
    refine kJ_istore_n 26 [(2, .int v2), (0, .ref 0), (1, .int x1)] d_P_power_25 rfl (Nat.le_of_ble_eq_true rfl) rfl rfl ?_
    refine kJ_aload_n 27 1 d_P_power_26 rfl rfl rfl rfl ?_
    refine kM_getR 30 0 1 d_P_power_27 l_P_10 kp_0 rfl rfl rfl rfl ?_
    refine kM_getR 33 1 3 d_P_power_30 l_P_116 kp_1 rfl rfl rfl rfl ?_
    refine kJ_iload_n 34 2 d_P_power_33 rfl rfl rfl ?_
    obtain ⟨hg, hf⟩ := kG_some hf
    refine kM_iald 35 12 d_P_power_34 (kk_0_6 kp_1) rfl hg rfl ?_
    refine kJ_istore_n 36 [(3, .int (h1 3 (kx x1))), (2, .int v2), (0, .ref 0), (1, .int x1)] d_P_power_35 rfl (Nat.le_of_ble_eq_true rfl) rfl rfl ?_
    refine kJ_iconst 37 0 d_P_power_36 ki_0 rfl ?_
    refine kJ_istore 39 [(4, .int 0), (3, .int (h1 3 (kx x1))), (2, .int v2), (0, .ref 0), (1, .int x1)] d_P_power_37 (Nat.le_of_ble_eq_true rfl) rfl rfl ?_
    refine kJ_iconst 40 0 d_P_power_39 ki_0 rfl ?_
    refine kJ_istore 42 [(5, .int 0), (4, .int 0), (3, .int (h1 3 (kx x1))), (2, .int v2), (0, .ref 0), (1, .int x1)] d_P_power_40 (Nat.le_of_ble_eq_true rfl) rfl rfl ?_
    refine kJ_sub [4, 3, 2, 1, 0] rfl ?_
    exact c_P_power_42 hro kFuel h1 0 0 hf
  · have hf := kIf_f hf (kB2_0 hc)
    refine kJ_iconst 12 (-1) d_P_power_11 ki_m1 rfl ?_
    cases hf
    exact kJ_iret d_P_power_12 rfl rfl (Nat.zero_le _) (Nat.zero_le _)
def b_C_nextTurn_24 (h : kH) (x0 : Nat) (s0 : Int32) : Option Int32 := kBi (f_V_next h (x0 + 6)) fun v1 => if v1 = (-6) then (some s0) else (kG v1 20 (if s0 = (-6) then (some (h (x0 + 7) (kx v1))) else (some (f_JM_min s0 (h (x0 + 7) (kx v1))))))
theorem c_C_nextTurn_24 {E : kE} {L : Nat} {xs : Nat → Int32} (hro : kRo E L xs) {h : kH} {x0 : Nat} {s0 : Int32} (k0 : kIs x0 0) {r : Int32} (hf : b_C_nextTurn_24 h x0 s0 = some r) : kJ E m_C_nextTurn (some r) (mk h) 0 0 24 [(0, .ref x0)] [.int s0] (mk h) := by
  unfold b_C_nextTurn_24 at hf
  refine kJ_istore_n 25 [(1, .int s0), (0, .ref x0)] d_C_nextTurn_24 rfl (Nat.le_of_ble_eq_true rfl) rfl rfl ?_
  refine kJ_aload_n 26 1 d_C_nextTurn_25 rfl rfl rfl rfl ?_
  refine kM_getR 29 5 (x0 + 6) d_C_nextTurn_26 l_C_37 k0 rfl rfl rfl rfl ?_
  obtain ⟨v1, ev1, hf⟩ := kBi_some hf
  refine kM_callv 32 m_V_next [] [] d_C_nextTurn_29 cl_C_174 ⟨w_621, w_42⟩ (kk_0_10 k0) ⟨rfl, by decide⟩ ⟨_, _, rfl⟩ rfl rfl (Nat.le_of_ble_eq_true rfl) ⟨Nat.le_of_ble_eq_true rfl, Nat.le_of_ble_eq_true rfl⟩ ⟨rfl, rfl⟩ ⟨Nat.zero_le _, Nat.zero_le _⟩ (j_V_next hro (kk_0_10 k0) ev1) rfl ?_
  refine kJ_istore_n 33 [(2, .int v1), (1, .int s0), (0, .ref x0)] d_C_nextTurn_32 rfl (Nat.le_of_ble_eq_true rfl) rfl rfl ?_
  refine kJ_iload_n 34 0 d_C_nextTurn_33 rfl rfl rfl ?_
  refine kJ_bipush 36 (-6) d_C_nextTurn_34 kb_m6 rfl ?_
  refine kJ_icmp_ne 39 41 d_C_nextTurn_36 rfl rfl (fun hc => ?_) (fun hc => ?_)
  · have hf := kIf_f hf hc
    refine kJ_aload_n 42 2 d_C_nextTurn_41 rfl rfl rfl rfl ?_
    refine kM_getR 45 5 (x0 + 6) d_C_nextTurn_42 l_C_37 k0 rfl rfl rfl rfl ?_
    refine kM_getR 48 0 (x0 + 7) d_C_nextTurn_45 l_C_177 (kk_0_10 k0) rfl rfl rfl rfl ?_
    refine kJ_iload_n 49 0 d_C_nextTurn_48 rfl rfl rfl ?_
    obtain ⟨hg, hf⟩ := kG_some hf
    refine kM_iald 50 20 d_C_nextTurn_49 (kk_4_1 (kk_0_10 k0)) rfl hg rfl ?_
    refine kJ_istore_n 51 [(3, .int (h (x0 + 7) (kx v1))), (2, .int v1), (1, .int s0), (0, .ref x0)] d_C_nextTurn_50 rfl (Nat.le_of_ble_eq_true rfl) rfl rfl ?_
    refine kJ_iload_n 52 2 d_C_nextTurn_51 rfl rfl rfl ?_
    refine kJ_bipush 54 (-6) d_C_nextTurn_52 kb_m6 rfl ?_
    refine kJ_icmp_ne 57 61 d_C_nextTurn_54 rfl rfl (fun hc => ?_) (fun hc => ?_)
    · have hf := kIf_f hf hc
      refine kJ_iload_n 62 2 d_C_nextTurn_61 rfl rfl rfl ?_
      refine kJ_iload_n 63 0 d_C_nextTurn_62 rfl rfl rfl ?_
      refine kM_calls 66 m_JM_min [.int s0, .int (h (x0 + 7) (kx v1))] [] d_C_nextTurn_63 cl_C_189 w_402 rfl rfl (Nat.le_of_ble_eq_true rfl) ⟨Nat.le_of_ble_eq_true rfl, Nat.le_of_ble_eq_true rfl⟩ ⟨rfl, rfl⟩ ⟨Nat.zero_le _, Nat.zero_le _⟩ (j_JM_min hro rfl) rfl ?_
      cases hf
      exact kJ_iret d_C_nextTurn_66 rfl rfl (Nat.zero_le _) (Nat.zero_le _)
    · have hf := kIf_t hf hc
      refine kJ_iload_n 58 0 d_C_nextTurn_57 rfl rfl rfl ?_
      refine kJ_goto 66 d_C_nextTurn_58 rfl ?_
      cases hf
      exact kJ_iret d_C_nextTurn_66 rfl rfl (Nat.zero_le _) (Nat.zero_le _)
  · have hf := kIf_t hf hc
    refine kJ_iload_n 40 1 d_C_nextTurn_39 rfl rfl rfl ?_
    cases hf
    exact kJ_iret d_C_nextTurn_40 rfl rfl (Nat.zero_le _) (Nat.zero_le _)
def f_C_nextTurn (h : kH) (x0 : Nat) : Option Int32 := kG 2 6 (if (h (x0 + 1) (kx 2)) ≤ (h x0 0) then (b_C_nextTurn_24 h x0 (-6)) else (kG 2 6 (b_C_nextTurn_24 h x0 (h (x0 + 1) (kx 2)))))
theorem j_C_nextTurn {E : kE} {L : Nat} {xs : Nat → Int32} (hro : kRo E L xs) {h : kH} {x0 : Nat} (k0 : kIs x0 0) {r : Int32} (hf : f_C_nextTurn h x0 = some r) : JM E m_C_nextTurn [.ref x0] (mk h) (some r) (mk h) := by
  unfold f_C_nextTurn at hf
  refine JM.of pn_C (Nat.le_of_ble_eq_true rfl) ?_
  show kJ E m_C_nextTurn (some r) (mk h) 0 0 0 [(0, .ref x0)] [] (mk h)
  refine kJ_aload_n 1 0 d_C_nextTurn_0 rfl rfl rfl rfl ?_
  refine kM_getR 4 0 (x0 + 1) d_C_nextTurn_1 l_C_15 k0 rfl rfl rfl rfl ?_
  refine kJ_iconst 5 2 d_C_nextTurn_4 ki_2 rfl ?_
  obtain ⟨hg, hf⟩ := kG_some hf
  refine kM_iald 6 6 d_C_nextTurn_5 (kk_0_5 k0) rfl hg rfl ?_
  refine kJ_aload_n 7 0 d_C_nextTurn_6 rfl rfl rfl rfl ?_
  refine kM_getI 10 d_C_nextTurn_7 l_C_51 k0 rfl rfl rfl ?_
  refine kJ_icmp_le 13 22 d_C_nextTurn_10 rfl rfl (fun hc => ?_) (fun hc => ?_)
  · have hf := kIf_t hf hc
    refine kJ_bipush 24 (-6) d_C_nextTurn_22 kb_m6 rfl ?_
    refine kJ_sub [0] rfl ?_
    exact c_C_nextTurn_24 hro k0 hf
  · have hf := kIf_f hf hc
    refine kJ_aload_n 14 0 d_C_nextTurn_13 rfl rfl rfl rfl ?_
    refine kM_getR 17 0 (x0 + 1) d_C_nextTurn_14 l_C_15 k0 rfl rfl rfl rfl ?_
    refine kJ_iconst 18 2 d_C_nextTurn_17 ki_2 rfl ?_
    obtain ⟨hg, hf⟩ := kG_some hf
    refine kM_iald 19 6 d_C_nextTurn_18 (kk_0_5 k0) rfl hg rfl ?_
    refine kJ_goto 24 d_C_nextTurn_19 rfl ?_
    refine kJ_sub [0] rfl ?_
    exact c_C_nextTurn_24 hro k0 hf
def b_P_quorumAt_36 (x2 : Nat) : Nat → kH → Int32 → Option (Int32 × kH)
  | 0, _, _ => none
  | n + 1, h, x3 => (fun rec36 => if 22 ≤ x3 then (some ((-6), h)) else (kBi (f_H_listen h 141 71 x2) fun h3 => kBi (f_H_weightThere h3 141 71) fun v4 => kBi (f_C_isQuorum h3 71 v4) fun v5 => if v5 = true then (some ((h3 71 0), h3)) else (kBi (f_C_nextTurn h3 71) fun v6 => if v6 = (-6) then (some ((-6), h3)) else (kBi (f_C_moveTo h3 71 v6) fun h7 => rec36 h7 (x3 + 1))))) (fun h' x3' => b_P_quorumAt_36 x2 n h' x3')
theorem c_P_quorumAt_36 {E : kE} {L : Nat} {xs : Nat → Int32} (hro : kRo E L xs) {x2 : Nat} (k2 : kIs x2 3) {r : Int32} {h' : kH} : ∀ (n : Nat) (h : kH) (x3 : Int32), b_P_quorumAt_36 x2 n h x3 = some (r, h') → kJ E m_P_quorumAt (some r) (mk h') 0 0 36 [(0, .ref 0), (2, .ref x2), (3, .int x3)] [] (mk h) := by
  intro n
  induction n with
  | zero =>
    intro h x3 hf
    have hf : (none : Option (Int32 × kH)) = some (r, h') := hf
    cases hf
  | succ n hrec36 =>
    intro h x3 hf
    rw [b_P_quorumAt_36] at hf
    dsimp only at hf
    refine kJ_iload_n 37 2 d_P_quorumAt_36 rfl rfl rfl ?_
    refine kJ_bipush 39 22 d_P_quorumAt_37 kb_22 rfl ?_
    refine kJ_icmp_ge 42 117 d_P_quorumAt_39 rfl rfl (fun hc => ?_) (fun hc => ?_)
    · have hf := kIf_t hf hc
      refine kJ_bipush 119 (-6) d_P_quorumAt_117 kb_m6 rfl ?_
      cases hf
      exact kJ_iret d_P_quorumAt_119 rfl rfl (Nat.zero_le _) (Nat.zero_le _)
    · have hf := kIf_f hf hc
      refine kJ_aload_n 43 0 d_P_quorumAt_42 rfl rfl rfl rfl ?_
      refine kM_getR 46 140 141 d_P_quorumAt_43 l_P_22 kp_0 rfl rfl rfl rfl ?_
      refine kJ_aload_n 47 0 d_P_quorumAt_46 rfl rfl rfl rfl ?_
      refine kM_getR 50 70 71 d_P_quorumAt_47 l_P_16 kp_0 rfl rfl rfl rfl ?_
      refine kJ_aload_n 51 1 d_P_quorumAt_50 rfl rfl rfl rfl ?_
      obtain ⟨h3, eh3, hf⟩ := kBi_some hf
      refine kM_callv 54 m_H_listen [.ref 71, .ref x2] [] d_P_quorumAt_51 cl_P_159 ⟨w_526, w_23⟩ kp_141 ⟨rfl, by decide⟩ ⟨_, _, rfl⟩ rfl rfl (Nat.le_of_ble_eq_true rfl) ⟨Nat.le_of_ble_eq_true rfl, Nat.le_of_ble_eq_true rfl⟩ ⟨rfl, rfl⟩ ⟨Nat.zero_le _, Nat.zero_le _⟩ (j_H_listen hro kp_141 kp_71 k2 eh3) rfl ?_
      refine kJ_aload_n 55 0 d_P_quorumAt_54 rfl rfl rfl rfl ?_
      refine kM_getR 58 70 71 d_P_quorumAt_55 l_P_16 kp_0 rfl rfl rfl rfl ?_
      refine kJ_aload_n 59 0 d_P_quorumAt_58 rfl rfl rfl rfl ?_
      refine kM_getR 62 140 141 d_P_quorumAt_59 l_P_22 kp_0 rfl rfl rfl rfl ?_
      refine kJ_aload_n 63 0 d_P_quorumAt_62 rfl rfl rfl rfl ?_
      refine kM_getR 66 70 71 d_P_quorumAt_63 l_P_16 kp_0 rfl rfl rfl rfl ?_
      obtain ⟨v4, ev4, hf⟩ := kBi_some hf
      refine kM_callv 69 m_H_weightThere [.ref 71] [.ref 71] d_P_quorumAt_66 cl_P_163 ⟨w_545, w_27⟩ kp_141 ⟨rfl, by decide⟩ ⟨_, _, rfl⟩ rfl rfl (Nat.le_of_ble_eq_true rfl) ⟨Nat.le_of_ble_eq_true rfl, Nat.le_of_ble_eq_true rfl⟩ ⟨rfl, rfl⟩ ⟨Nat.zero_le _, Nat.zero_le _⟩ (j_H_weightThere hro kp_141 kp_71 ev4) rfl ?_
      obtain ⟨v5, ev5, hf⟩ := kBi_some hf
      refine kM_callv 72 m_C_isQuorum [.int v4] [] d_P_quorumAt_69 cl_P_167 ⟨w_553, w_29⟩ kp_71 ⟨rfl, by decide⟩ ⟨_, _, rfl⟩ rfl rfl (Nat.le_of_ble_eq_true rfl) ⟨Nat.le_of_ble_eq_true rfl, Nat.le_of_ble_eq_true rfl⟩ ⟨rfl, rfl⟩ ⟨Nat.zero_le _, Nat.zero_le _⟩ (j_C_isQuorum hro kp_71 ev5) rfl ?_
      refine kJ_if_eq 75 83 d_P_quorumAt_72 rfl rfl (fun hc => ?_) (fun hc => ?_)
      · have hf := kIf_f hf (kB2_0 hc)
        refine kJ_aload_n 84 0 d_P_quorumAt_83 rfl rfl rfl rfl ?_
        refine kM_getR 87 70 71 d_P_quorumAt_84 l_P_16 kp_0 rfl rfl rfl rfl ?_
        obtain ⟨v6, ev6, hf⟩ := kBi_some hf
        refine kM_callv 90 m_C_nextTurn [] [] d_P_quorumAt_87 cl_P_282 ⟨w_723, w_54⟩ kp_71 ⟨rfl, by decide⟩ ⟨_, _, rfl⟩ rfl rfl (Nat.le_of_ble_eq_true rfl) ⟨Nat.le_of_ble_eq_true rfl, Nat.le_of_ble_eq_true rfl⟩ ⟨rfl, rfl⟩ ⟨Nat.zero_le _, Nat.zero_le _⟩ (j_C_nextTurn hro kp_71 ev6) rfl ?_
        refine kJ_istore 92 [(4, .int v6), (0, .ref 0), (2, .ref x2), (3, .int x3)] d_P_quorumAt_90 (Nat.le_of_ble_eq_true rfl) rfl rfl ?_
        refine kJ_iload 94 0 d_P_quorumAt_92 rfl rfl ?_
        refine kJ_bipush 96 (-6) d_P_quorumAt_94 kb_m6 rfl ?_
        refine kJ_icmp_ne 99 102 d_P_quorumAt_96 rfl rfl (fun hc => ?_) (fun hc => ?_)
        · have hf := kIf_f hf hc
          refine kJ_aload_n 103 1 d_P_quorumAt_102 rfl rfl rfl rfl ?_
          refine kM_getR 106 70 71 d_P_quorumAt_103 l_P_16 kp_0 rfl rfl rfl rfl ?_
          refine kJ_iload 108 0 d_P_quorumAt_106 rfl rfl ?_
          obtain ⟨h7, eh7, hf⟩ := kBi_some hf
          refine kM_callv 111 m_C_moveTo [.int v6] [] d_P_quorumAt_108 cl_P_285 ⟨w_617, w_41⟩ kp_71 ⟨rfl, by decide⟩ ⟨_, _, rfl⟩ rfl rfl (Nat.le_of_ble_eq_true rfl) ⟨Nat.le_of_ble_eq_true rfl, Nat.le_of_ble_eq_true rfl⟩ ⟨rfl, rfl⟩ ⟨Nat.zero_le _, Nat.zero_le _⟩ (j_C_moveTo hro kp_71 eh7) rfl ?_
          refine kJ_iinc 114 3 [(3, .int (x3 + 1)), (4, .int v6), (0, .ref 0), (2, .ref x2)] d_P_quorumAt_111 rfl ki_1 (Nat.le_of_ble_eq_true rfl) rfl rfl ?_
          refine kJ_goto 36 d_P_quorumAt_114 rfl ?_
          refine kJ_sub [2, 3, 0] rfl ?_
          exact hrec36 h7 (x3 + 1) hf
        · have hf := kIf_t hf hc
          refine kJ_bipush 101 (-6) d_P_quorumAt_99 kb_m6 rfl ?_
          cases hf
          exact kJ_iret d_P_quorumAt_101 rfl rfl (Nat.zero_le _) (Nat.zero_le _)
      · have hf := kIf_t hf (kB2_1 hc)
        refine kJ_aload_n 76 0 d_P_quorumAt_75 rfl rfl rfl rfl ?_
        refine kM_getR 79 70 71 d_P_quorumAt_76 l_P_16 kp_0 rfl rfl rfl rfl ?_
        refine kM_getI 82 d_P_quorumAt_79 l_P_202 kp_71 rfl rfl rfl ?_
        cases hf
        exact kJ_iret d_P_quorumAt_82 rfl rfl (Nat.zero_le _) (Nat.zero_le _)
def f_P_quorumAt (h : kH) (x1 : Int32) : Option (Int32 × kH) := if (f_C_hasItem h 1 x1) = true then (kBi (f_C_copyFrom h 71 1) fun h1 => kG x1 12 (b_P_quorumAt_36 (71 + 10 + 5 * kx x1) kFuel h1 0)) else (some ((-1), h))
theorem j_P_quorumAt {E : kE} {L : Nat} {xs : Nat → Int32} (hro : kRo E L xs) {h : kH} {x1 : Int32} {r : Int32} {h' : kH} (hf : f_P_quorumAt h x1 = some (r, h')) : JM E m_P_quorumAt [.ref 0, .int x1] (mk h) (some r) (mk h') := by
  unfold f_P_quorumAt at hf
  refine JM.of pn_P (Nat.le_of_ble_eq_true rfl) ?_
  show kJ E m_P_quorumAt (some r) (mk h') 0 0 0 [(0, .ref 0), (1, .int x1)] [] (mk h)
  refine kJ_aload_n 1 0 d_P_quorumAt_0 rfl rfl rfl rfl ?_
  refine kM_getR 4 0 1 d_P_quorumAt_1 l_P_10 kp_0 rfl rfl rfl rfl ?_
  refine kJ_iload_n 5 1 d_P_quorumAt_4 rfl rfl rfl ?_
  refine kM_callv 8 m_C_hasItem [.int x1] [] d_P_quorumAt_5 cl_P_134 ⟨w_487, w_17⟩ kp_1 ⟨rfl, by decide⟩ ⟨_, _, rfl⟩ rfl rfl (Nat.le_of_ble_eq_true rfl) ⟨Nat.le_of_ble_eq_true rfl, Nat.le_of_ble_eq_true rfl⟩ ⟨rfl, rfl⟩ ⟨Nat.zero_le _, Nat.zero_le _⟩ (j_C_hasItem hro kp_1 rfl) rfl ?_
  refine kJ_if_ne 11 13 d_P_quorumAt_8 rfl rfl (fun hc => ?_) (fun hc => ?_)
  · have hf := kIf_t hf (kB2_1 hc)
    refine kJ_aload_n 14 0 d_P_quorumAt_13 rfl rfl rfl rfl ?_
    refine kM_getR 17 70 71 d_P_quorumAt_14 l_P_16 kp_0 rfl rfl rfl rfl ?_
    refine kJ_aload_n 18 0 d_P_quorumAt_17 rfl rfl rfl rfl ?_
    refine kM_getR 21 0 1 d_P_quorumAt_18 l_P_10 kp_0 rfl rfl rfl rfl ?_
    obtain ⟨h1, eh1, hf⟩ := kBi_some hf
    refine kM_callv 24 m_C_copyFrom [.ref 1] [] d_P_quorumAt_21 cl_P_256 ⟨w_376, w_1⟩ kp_71 ⟨rfl, by decide⟩ ⟨_, _, rfl⟩ rfl rfl (Nat.le_of_ble_eq_true rfl) ⟨Nat.le_of_ble_eq_true rfl, Nat.le_of_ble_eq_true rfl⟩ ⟨rfl, rfl⟩ ⟨Nat.zero_le _, Nat.zero_le _⟩ (j_C_copyFrom hro kp_71 kp_1 eh1) rfl ?_
    refine kJ_aload_n 25 0 d_P_quorumAt_24 rfl rfl rfl rfl ?_
    refine kM_getR 28 70 71 d_P_quorumAt_25 l_P_16 kp_0 rfl rfl rfl rfl ?_
    refine kM_getR 31 4 76 d_P_quorumAt_28 l_P_137 kp_71 rfl rfl rfl rfl ?_
    refine kJ_iload_n 32 1 d_P_quorumAt_31 rfl rfl rfl ?_
    obtain ⟨hg2, hf⟩ := kG_some hf
    refine kM_aald 33 12 5 5 (71 + 10 + 5 * kx x1) d_P_quorumAt_32 (kk_0_9 kp_71) rfl (by decide) (Or.inl rfl) hg2 (by simp only [Nat.add_assoc, kx]; try omega) rfl ?_
    refine kJ_astore_n 34 [(2, .ref (71 + 10 + 5 * kx x1)), (0, .ref 0), (1, .int x1)] d_P_quorumAt_33 rfl (Nat.le_of_ble_eq_true rfl) rfl rfl rfl ?_
    refine kJ_iconst 35 0 d_P_quorumAt_34 ki_0 rfl ?_
    refine kJ_istore_n 36 [(3, .int 0), (2, .ref (71 + 10 + 5 * kx x1)), (0, .ref 0), (1, .int x1)] d_P_quorumAt_35 rfl (Nat.le_of_ble_eq_true rfl) rfl rfl ?_
    refine kJ_sub [2, 1, 0] rfl ?_
    exact c_P_quorumAt_36 hro (kC_item kp_71 (kIn_lt hg2)) kFuel h1 0 hf
  · have hf := kIf_f hf (kB2_0 hc)
    refine kJ_iconst 12 (-1) d_P_quorumAt_11 ki_m1 rfl ?_
    cases hf
    exact kJ_iret d_P_quorumAt_12 rfl rfl (Nat.zero_le _) (Nat.zero_le _)
def b_P_bestHolder_93 (x1 : Int32) (x3 : Nat) : Nat → kH → Int32 → Int32 → Int32 → Option (Int32 × kH)
  | 0, _, _, _, _ => none
  | n + 1, h, x4, x5, x6 => (fun rec93 => if (h 71 1) ≤ x6 then (some (x4, h)) else (kBi (f_C_canVote h 71 x6 x3) fun v4 => if v4 = true then (kG x1 12 (kLet (hset h 75 (kx x1) x6) fun h5 => kBi (f_H_listen h5 141 71 x3) fun h6 => kG x1 12 (if (h6 142 (kx x1)) = x6 then (kG x6 12 (if x5 ≤ (h6 143 (kx x6)) then (rec93 h6 x4 x5 (x6 + 1)) else (kG x6 12 (rec93 h6 x6 (h6 143 (kx x6)) (x6 + 1))))) else (rec93 h6 x4 x5 (x6 + 1))))) else (rec93 h x4 x5 (x6 + 1)))) (fun h' x4' x5' x6' => b_P_bestHolder_93 x1 x3 n h' x4' x5' x6')
theorem c_P_bestHolder_93 {E : kE} {L : Nat} {xs : Nat → Int32} (hro : kRo E L xs) {x1 : Int32} {x3 : Nat} (k3 : kIs x3 3) {r : Int32} {h' : kH} : ∀ (n : Nat) (h : kH) (x4 : Int32) (x5 : Int32) (x6 : Int32), b_P_bestHolder_93 x1 x3 n h x4 x5 x6 = some (r, h') → kJ E m_P_bestHolder (some r) (mk h') 0 0 93 [(0, .ref 0), (1, .int x1), (3, .ref x3), (4, .int x4), (5, .int x5), (6, .int x6)] [] (mk h) := by
  intro n
  induction n with
  | zero =>
    intro h x4 x5 x6 hf
    have hf : (none : Option (Int32 × kH)) = some (r, h') := hf
    cases hf
  | succ n hrec93 =>
    intro h x4 x5 x6 hf
    rw [b_P_bestHolder_93] at hf
    dsimp only at hf
    refine kJ_iload 95 5 d_P_bestHolder_93 rfl rfl ?_
    refine kJ_aload_n 96 0 d_P_bestHolder_95 rfl rfl rfl rfl ?_
    refine kM_getR 99 70 71 d_P_bestHolder_96 l_P_16 kp_0 rfl rfl rfl rfl ?_
    refine kM_getI 102 d_P_bestHolder_99 l_P_205 kp_71 rfl rfl rfl ?_
    refine kJ_icmp_ge 105 192 d_P_bestHolder_102 rfl rfl (fun hc => ?_) (fun hc => ?_)
    · have hf := kIf_t hf hc
      refine kJ_iload 194 3 d_P_bestHolder_192 rfl rfl ?_
      cases hf
      exact kJ_iret d_P_bestHolder_194 rfl rfl (Nat.zero_le _) (Nat.zero_le _)
    · have hf := kIf_f hf hc
      refine kJ_aload_n 106 0 d_P_bestHolder_105 rfl rfl rfl rfl ?_
      refine kM_getR 109 70 71 d_P_bestHolder_106 l_P_16 kp_0 rfl rfl rfl rfl ?_
      refine kJ_iload 111 5 d_P_bestHolder_109 rfl rfl ?_
      refine kJ_aload_n 112 2 d_P_bestHolder_111 rfl rfl rfl rfl ?_
      obtain ⟨v4, ev4, hf⟩ := kBi_some hf
      refine kM_callv 115 m_C_canVote [.int x6, .ref x3] [] d_P_bestHolder_112 cl_P_259 ⟨w_569, w_32⟩ kp_71 ⟨rfl, by decide⟩ ⟨_, _, rfl⟩ rfl rfl (Nat.le_of_ble_eq_true rfl) ⟨Nat.le_of_ble_eq_true rfl, Nat.le_of_ble_eq_true rfl⟩ ⟨rfl, rfl⟩ ⟨Nat.zero_le _, Nat.zero_le _⟩ (j_C_canVote hro kp_71 k3 ev4) rfl ?_
      refine kJ_if_eq 118 186 d_P_bestHolder_115 rfl rfl (fun hc => ?_) (fun hc => ?_)
      · have hf := kIf_f hf (kB2_0 hc)
        refine kJ_iinc 189 5 [(6, .int (x6 + 1)), (0, .ref 0), (1, .int x1), (3, .ref x3), (4, .int x4), (5, .int x5)] d_P_bestHolder_186 rfl ki_1 (Nat.le_of_ble_eq_true rfl) rfl rfl ?_
        refine kJ_goto 93 d_P_bestHolder_189 rfl ?_
        refine kJ_sub [1, 2, 3, 4, 5, 0] rfl ?_
        exact hrec93 h x4 x5 (x6 + 1) hf
      · have hf := kIf_t hf (kB2_1 hc)
        refine kJ_aload_n 119 0 d_P_bestHolder_118 rfl rfl rfl rfl ?_
        refine kM_getR 122 70 71 d_P_bestHolder_119 l_P_16 kp_0 rfl rfl rfl rfl ?_
        refine kM_getR 125 3 75 d_P_bestHolder_122 l_P_125 kp_71 rfl rfl rfl rfl ?_
        refine kJ_iload_n 126 1 d_P_bestHolder_125 rfl rfl rfl ?_
        refine kJ_iload 128 5 d_P_bestHolder_126 rfl rfl ?_
        obtain ⟨hg, hf⟩ := kG_some hf
        refine kM_iast 129 12 d_P_bestHolder_128 (kk_0_8 kp_71) rfl hg rfl ?_
        obtain ⟨h5, eh5, hf⟩ := kLet_e hf
        rw [← eh5]
        refine kJ_aload_n 130 0 d_P_bestHolder_129 rfl rfl rfl rfl ?_
        refine kM_getR 133 140 141 d_P_bestHolder_130 l_P_22 kp_0 rfl rfl rfl rfl ?_
        refine kJ_aload_n 134 0 d_P_bestHolder_133 rfl rfl rfl rfl ?_
        refine kM_getR 137 70 71 d_P_bestHolder_134 l_P_16 kp_0 rfl rfl rfl rfl ?_
        refine kJ_aload_n 138 2 d_P_bestHolder_137 rfl rfl rfl rfl ?_
        obtain ⟨h6, eh6, hf⟩ := kBi_some hf
        refine kM_callv 141 m_H_listen [.ref 71, .ref x3] [] d_P_bestHolder_138 cl_P_159 ⟨w_526, w_23⟩ kp_141 ⟨rfl, by decide⟩ ⟨_, _, rfl⟩ rfl rfl (Nat.le_of_ble_eq_true rfl) ⟨Nat.le_of_ble_eq_true rfl, Nat.le_of_ble_eq_true rfl⟩ ⟨rfl, rfl⟩ ⟨Nat.zero_le _, Nat.zero_le _⟩ (j_H_listen hro kp_141 kp_71 k3 eh6) rfl ?_
        refine kJ_aload_n 142 0 d_P_bestHolder_141 rfl rfl rfl rfl ?_
        refine kM_getR 145 140 141 d_P_bestHolder_142 l_P_22 kp_0 rfl rfl rfl rfl ?_
        refine kM_getR 148 0 142 d_P_bestHolder_145 l_P_174 kp_141 rfl rfl rfl rfl ?_
        refine kJ_iload_n 149 1 d_P_bestHolder_148 rfl rfl rfl ?_
        obtain ⟨hg, hf⟩ := kG_some hf
        refine kM_iald 150 12 d_P_bestHolder_149 (kk_1_0 kp_141) rfl hg rfl ?_
        refine kJ_iload 152 5 d_P_bestHolder_150 rfl rfl ?_
        refine kJ_icmp_ne 155 186 d_P_bestHolder_152 rfl rfl (fun hc => ?_) (fun hc => ?_)
        · have hf := kIf_f hf hc
          refine kJ_iinc 189 5 [(6, .int (x6 + 1)), (0, .ref 0), (1, .int x1), (3, .ref x3), (4, .int x4), (5, .int x5)] d_P_bestHolder_186 rfl ki_1 (Nat.le_of_ble_eq_true rfl) rfl rfl ?_
          refine kJ_goto 93 d_P_bestHolder_189 rfl ?_
          refine kJ_sub [1, 2, 3, 4, 5, 0] rfl ?_
          exact hrec93 h6 x4 x5 (x6 + 1) hf
        · have hf := kIf_t hf hc
          refine kJ_aload_n 156 0 d_P_bestHolder_155 rfl rfl rfl rfl ?_
          refine kM_getR 159 140 141 d_P_bestHolder_156 l_P_22 kp_0 rfl rfl rfl rfl ?_
          refine kM_getR 162 1 143 d_P_bestHolder_159 l_P_288 kp_141 rfl rfl rfl rfl ?_
          refine kJ_iload 164 5 d_P_bestHolder_162 rfl rfl ?_
          obtain ⟨hg, hf⟩ := kG_some hf
          refine kM_iald 165 12 d_P_bestHolder_164 (kk_1_1 kp_141) rfl hg rfl ?_
          refine kJ_iload 167 4 d_P_bestHolder_165 rfl rfl ?_
          refine kJ_icmp_ge 170 186 d_P_bestHolder_167 rfl rfl (fun hc => ?_) (fun hc => ?_)
          · have hf := kIf_t hf hc
            refine kJ_iinc 189 5 [(6, .int (x6 + 1)), (0, .ref 0), (1, .int x1), (3, .ref x3), (4, .int x4), (5, .int x5)] d_P_bestHolder_186 rfl ki_1 (Nat.le_of_ble_eq_true rfl) rfl rfl ?_
            refine kJ_goto 93 d_P_bestHolder_189 rfl ?_
            refine kJ_sub [1, 2, 3, 4, 5, 0] rfl ?_
            exact hrec93 h6 x4 x5 (x6 + 1) hf
          · have hf := kIf_f hf hc
            refine kJ_iload 172 5 d_P_bestHolder_170 rfl rfl ?_
            refine kJ_istore 174 [(4, .int x6), (0, .ref 0), (1, .int x1), (3, .ref x3), (5, .int x5), (6, .int x6)] d_P_bestHolder_172 (Nat.le_of_ble_eq_true rfl) rfl rfl ?_
            refine kJ_aload_n 175 1 d_P_bestHolder_174 rfl rfl rfl rfl ?_
            refine kM_getR 178 140 141 d_P_bestHolder_175 l_P_22 kp_0 rfl rfl rfl rfl ?_
            refine kM_getR 181 1 143 d_P_bestHolder_178 l_P_288 kp_141 rfl rfl rfl rfl ?_
            refine kJ_iload 183 5 d_P_bestHolder_181 rfl rfl ?_
            obtain ⟨hg, hf⟩ := kG_some hf
            refine kM_iald 184 12 d_P_bestHolder_183 (kk_1_1 kp_141) rfl hg rfl ?_
            refine kJ_istore 186 [(5, .int (h6 143 (kx x6))), (4, .int x6), (0, .ref 0), (1, .int x1), (3, .ref x3), (6, .int x6)] d_P_bestHolder_184 (Nat.le_of_ble_eq_true rfl) rfl rfl ?_
            refine kJ_iinc 189 5 [(6, .int (x6 + 1)), (5, .int (h6 143 (kx x6))), (4, .int x6), (0, .ref 0), (1, .int x1), (3, .ref x3)] d_P_bestHolder_186 rfl ki_1 (Nat.le_of_ble_eq_true rfl) rfl rfl ?_
            refine kJ_goto 93 d_P_bestHolder_189 rfl ?_
            refine kJ_sub [3, 4, 5, 2, 1, 0] rfl ?_
            exact hrec93 h6 x6 (h6 143 (kx x6)) (x6 + 1) hf
def f_P_bestHolder (h : kH) (x1 : Int32) (x2 : Int32) : Option (Int32 × kH) := if (f_C_hasMember h 1 x1) = true then (if (f_C_hasItem h 1 x2) = true then (kBi (f_C_copyFrom h 71 1) fun h1 => kG x2 12 (if (f_C_isPresent h1 71 x1) = true then (some ((-5), h1)) else (kBi (f_C_isRecused h1 71 x1 (71 + 10 + 5 * kx x2)) fun v3 => if v3 = true then (some ((-5), h1)) else (kG x1 12 (if (h1 ((71 + 10 + 5 * kx x2) + 4) (kx x1)) = (-6) then (b_P_bestHolder_93 x1 (71 + 10 + 5 * kx x2) kFuel h1 (-6) 13 0) else (some ((-5), h1))))))) else (some ((-1), h))) else (some ((-1), h))
theorem j_P_bestHolder {E : kE} {L : Nat} {xs : Nat → Int32} (hro : kRo E L xs) {h : kH} {x1 : Int32} {x2 : Int32} {r : Int32} {h' : kH} (hf : f_P_bestHolder h x1 x2 = some (r, h')) : JM E m_P_bestHolder [.ref 0, .int x1, .int x2] (mk h) (some r) (mk h') := by
  unfold f_P_bestHolder at hf
  refine JM.of pn_P (Nat.le_of_ble_eq_true rfl) ?_
  show kJ E m_P_bestHolder (some r) (mk h') 0 0 0 [(0, .ref 0), (1, .int x1), (2, .int x2)] [] (mk h)
  refine kJ_aload_n 1 0 d_P_bestHolder_0 rfl rfl rfl rfl ?_
  refine kM_getR 4 0 1 d_P_bestHolder_1 l_P_10 kp_0 rfl rfl rfl rfl ?_
  refine kJ_iload_n 5 1 d_P_bestHolder_4 rfl rfl rfl ?_
  refine kM_callv 8 m_C_hasMember [.int x1] [] d_P_bestHolder_5 cl_P_112 ⟨w_437, w_10⟩ kp_1 ⟨rfl, by decide⟩ ⟨_, _, rfl⟩ rfl rfl (Nat.le_of_ble_eq_true rfl) ⟨Nat.le_of_ble_eq_true rfl, Nat.le_of_ble_eq_true rfl⟩ ⟨rfl, rfl⟩ ⟨Nat.zero_le _, Nat.zero_le _⟩ (j_C_hasMember hro kp_1 rfl) rfl ?_
  refine kJ_if_eq 11 22 d_P_bestHolder_8 rfl rfl (fun hc => ?_) (fun hc => ?_)
  · have hf := kIf_f hf (kB2_0 hc)
    refine kJ_iconst 23 (-1) d_P_bestHolder_22 ki_m1 rfl ?_
    cases hf
    exact kJ_iret d_P_bestHolder_23 rfl rfl (Nat.zero_le _) (Nat.zero_le _)
  · have hf := kIf_t hf (kB2_1 hc)
    refine kJ_aload_n 12 0 d_P_bestHolder_11 rfl rfl rfl rfl ?_
    refine kM_getR 15 0 1 d_P_bestHolder_12 l_P_10 kp_0 rfl rfl rfl rfl ?_
    refine kJ_iload_n 16 2 d_P_bestHolder_15 rfl rfl rfl ?_
    refine kM_callv 19 m_C_hasItem [.int x2] [] d_P_bestHolder_16 cl_P_134 ⟨w_487, w_17⟩ kp_1 ⟨rfl, by decide⟩ ⟨_, _, rfl⟩ rfl rfl (Nat.le_of_ble_eq_true rfl) ⟨Nat.le_of_ble_eq_true rfl, Nat.le_of_ble_eq_true rfl⟩ ⟨rfl, rfl⟩ ⟨Nat.zero_le _, Nat.zero_le _⟩ (j_C_hasItem hro kp_1 rfl) rfl ?_
    refine kJ_if_ne 22 24 d_P_bestHolder_19 rfl rfl (fun hc => ?_) (fun hc => ?_)
    · have hf := kIf_t hf (kB2_1 hc)
      refine kJ_aload_n 25 0 d_P_bestHolder_24 rfl rfl rfl rfl ?_
      refine kM_getR 28 70 71 d_P_bestHolder_25 l_P_16 kp_0 rfl rfl rfl rfl ?_
      refine kJ_aload_n 29 0 d_P_bestHolder_28 rfl rfl rfl rfl ?_
      refine kM_getR 32 0 1 d_P_bestHolder_29 l_P_10 kp_0 rfl rfl rfl rfl ?_
      obtain ⟨h1, eh1, hf⟩ := kBi_some hf
      refine kM_callv 35 m_C_copyFrom [.ref 1] [] d_P_bestHolder_32 cl_P_256 ⟨w_376, w_1⟩ kp_71 ⟨rfl, by decide⟩ ⟨_, _, rfl⟩ rfl rfl (Nat.le_of_ble_eq_true rfl) ⟨Nat.le_of_ble_eq_true rfl, Nat.le_of_ble_eq_true rfl⟩ ⟨rfl, rfl⟩ ⟨Nat.zero_le _, Nat.zero_le _⟩ (j_C_copyFrom hro kp_71 kp_1 eh1) rfl ?_
      refine kJ_aload_n 36 0 d_P_bestHolder_35 rfl rfl rfl rfl ?_
      refine kM_getR 39 70 71 d_P_bestHolder_36 l_P_16 kp_0 rfl rfl rfl rfl ?_
      refine kM_getR 42 4 76 d_P_bestHolder_39 l_P_137 kp_71 rfl rfl rfl rfl ?_
      refine kJ_iload_n 43 2 d_P_bestHolder_42 rfl rfl rfl ?_
      obtain ⟨hg2, hf⟩ := kG_some hf
      refine kM_aald 44 12 5 5 (71 + 10 + 5 * kx x2) d_P_bestHolder_43 (kk_0_9 kp_71) rfl (by decide) (Or.inl rfl) hg2 (by simp only [Nat.add_assoc, kx]; try omega) rfl ?_
      refine kJ_astore_n 45 [(3, .ref (71 + 10 + 5 * kx x2)), (0, .ref 0), (1, .int x1), (2, .int x2)] d_P_bestHolder_44 rfl (Nat.le_of_ble_eq_true rfl) rfl rfl rfl ?_
      refine kJ_aload_n 46 1 d_P_bestHolder_45 rfl rfl rfl rfl ?_
      refine kM_getR 49 70 71 d_P_bestHolder_46 l_P_16 kp_0 rfl rfl rfl rfl ?_
      refine kJ_iload_n 50 2 d_P_bestHolder_49 rfl rfl rfl ?_
      refine kM_callv 53 m_C_isPresent [.int x1] [] d_P_bestHolder_50 cl_P_122 ⟨w_449, w_12⟩ kp_71 ⟨rfl, by decide⟩ ⟨_, _, rfl⟩ rfl rfl (Nat.le_of_ble_eq_true rfl) ⟨Nat.le_of_ble_eq_true rfl, Nat.le_of_ble_eq_true rfl⟩ ⟨rfl, rfl⟩ ⟨Nat.zero_le _, Nat.zero_le _⟩ (j_C_isPresent hro kp_71 rfl) rfl ?_
      refine kJ_if_ne 56 79 d_P_bestHolder_53 rfl rfl (fun hc => ?_) (fun hc => ?_)
      · have hf := kIf_t hf (kB2_1 hc)
        refine kJ_bipush 81 (-5) d_P_bestHolder_79 kb_m5 rfl ?_
        cases hf
        exact kJ_iret d_P_bestHolder_81 rfl rfl (Nat.zero_le _) (Nat.zero_le _)
      · have hf := kIf_f hf (kB2_0 hc)
        refine kJ_aload_n 57 1 d_P_bestHolder_56 rfl rfl rfl rfl ?_
        refine kM_getR 60 70 71 d_P_bestHolder_57 l_P_16 kp_0 rfl rfl rfl rfl ?_
        refine kJ_iload_n 61 2 d_P_bestHolder_60 rfl rfl rfl ?_
        refine kJ_aload_n 62 0 d_P_bestHolder_61 rfl rfl rfl rfl ?_
        obtain ⟨v3, ev3, hf⟩ := kBi_some hf
        refine kM_callv 65 m_C_isRecused [.int x1, .ref (71 + 10 + 5 * kx x2)] [] d_P_bestHolder_62 cl_P_188 ⟨w_514, w_21⟩ kp_71 ⟨rfl, by decide⟩ ⟨_, _, rfl⟩ rfl rfl (Nat.le_of_ble_eq_true rfl) ⟨Nat.le_of_ble_eq_true rfl, Nat.le_of_ble_eq_true rfl⟩ ⟨rfl, rfl⟩ ⟨Nat.zero_le _, Nat.zero_le _⟩ (j_C_isRecused hro kp_71 (kC_item kp_71 (kIn_lt hg2)) ev3) rfl ?_
        refine kJ_if_ne 68 79 d_P_bestHolder_65 rfl rfl (fun hc => ?_) (fun hc => ?_)
        · have hf := kIf_t hf (kB2_1 hc)
          refine kJ_bipush 81 (-5) d_P_bestHolder_79 kb_m5 rfl ?_
          cases hf
          exact kJ_iret d_P_bestHolder_81 rfl rfl (Nat.zero_le _) (Nat.zero_le _)
        · have hf := kIf_f hf (kB2_0 hc)
          refine kJ_aload_n 69 0 d_P_bestHolder_68 rfl rfl rfl rfl ?_
          refine kM_getR 72 3 ((71 + 10 + 5 * kx x2) + 4) d_P_bestHolder_69 l_P_187 (kC_item kp_71 (kIn_lt hg2)) rfl rfl rfl rfl ?_
          refine kJ_iload_n 73 2 d_P_bestHolder_72 rfl rfl rfl ?_
          obtain ⟨hg, hf⟩ := kG_some hf
          refine kM_iald 74 12 d_P_bestHolder_73 (kk_3_9 (kC_item kp_71 (kIn_lt hg2))) rfl hg rfl ?_
          refine kJ_bipush 76 (-6) d_P_bestHolder_74 kb_m6 rfl ?_
          refine kJ_icmp_eq 79 82 d_P_bestHolder_76 rfl rfl (fun hc => ?_) (fun hc => ?_)
          · have hf := kIf_t hf hc
            refine kJ_bipush 84 (-6) d_P_bestHolder_82 kb_m6 rfl ?_
            refine kJ_istore 86 [(4, .int (-6)), (3, .ref (71 + 10 + 5 * kx x2)), (0, .ref 0), (1, .int x1), (2, .int x2)] d_P_bestHolder_84 (Nat.le_of_ble_eq_true rfl) rfl rfl ?_
            refine kJ_bipush 88 13 d_P_bestHolder_86 kb_13 rfl ?_
            refine kJ_istore 90 [(5, .int 13), (4, .int (-6)), (3, .ref (71 + 10 + 5 * kx x2)), (0, .ref 0), (1, .int x1), (2, .int x2)] d_P_bestHolder_88 (Nat.le_of_ble_eq_true rfl) rfl rfl ?_
            refine kJ_iconst 91 0 d_P_bestHolder_90 ki_0 rfl ?_
            refine kJ_istore 93 [(6, .int 0), (5, .int 13), (4, .int (-6)), (3, .ref (71 + 10 + 5 * kx x2)), (0, .ref 0), (1, .int x1), (2, .int x2)] d_P_bestHolder_91 (Nat.le_of_ble_eq_true rfl) rfl rfl ?_
            refine kJ_sub [4, 5, 3, 2, 1, 0] rfl ?_
            exact c_P_bestHolder_93 hro (kC_item kp_71 (kIn_lt hg2)) kFuel h1 (-6) 13 0 hf
          · have hf := kIf_f hf hc
            refine kJ_bipush 81 (-5) d_P_bestHolder_79 kb_m5 rfl ?_
            cases hf
            exact kJ_iret d_P_bestHolder_81 rfl rfl (Nat.zero_le _) (Nat.zero_le _)
    · have hf := kIf_f hf (kB2_0 hc)
      refine kJ_iconst 23 (-1) d_P_bestHolder_22 ki_m1 rfl ?_
      cases hf
      exact kJ_iret d_P_bestHolder_23 rfl rfl (Nat.zero_le _) (Nat.zero_le _)
