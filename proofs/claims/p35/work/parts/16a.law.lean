/-! CODE of the law as functions, with certificates: printed by wip/p35/emit.py. -/
def f_L_cell (L : Nat) (xs : Nat → Int32) (x1 : Int32) (x2 : Int32) : Option Int32 := if (Int32.ofNat L) = 0 then (kNz x2 (some (kRem ((x1 * 37) + 5) x2))) else (kNz (Int32.ofNat L) (kG (kRem x1 (Int32.ofNat L)) L (kNz x2 (some (kRem (((xs (kx (kRem x1 (Int32.ofNat L)))) >>> ((kRem x1 7) &&& 31)) &&& 4194303) x2)))))
theorem j_L_cell {E : kE} {L : Nat} {xs : Nat → Int32} (hro : kRo E L xs) {K : List Nat} {h0 : kH} {x1 : Int32} {x2 : Int32} {r : Int32} (hf : f_L_cell L xs x1 x2 = some r) : JM E m_L_cell [.retAddr 2, .int x1, .int x2] (mk K h0) (some r) (mk K h0) := by
  unfold f_L_cell at hf
  refine JM.of pn_L (Nat.le_of_ble_eq_true rfl) ?_
  show kJ E m_L_cell (some r) (mk K h0) 0 0 0 [(0, .retAddr 2), (1, .int x1), (2, .int x2)] [] (mk K h0)
  refine kJ_aload_n 1 0 d_L_cell_0 rfl rfl rfl rfl ?_
  refine kM_scrl 2 hro d_L_cell_1 rfl ?_
  refine kJ_if_ne 5 14 d_L_cell_2 rfl rfl (fun hc => ?_) (fun hc => ?_)
  · have hf := kIf_f hf hc
    refine kJ_aload_n 15 0 d_L_cell_14 rfl rfl rfl rfl ?_
    refine kJ_iload_n 16 1 d_L_cell_15 rfl rfl rfl ?_
    refine kJ_aload_n 17 0 d_L_cell_16 rfl rfl rfl rfl ?_
    refine kM_scrl 18 hro d_L_cell_17 rfl ?_
    obtain ⟨hy, hf⟩ := kNz_some hf
    refine kJ_irem 19 d_L_cell_18 hy rfl ?_
    obtain ⟨hg, hf⟩ := kG_some hf
    refine kM_scr 20 hro d_L_cell_19 hg rfl ?_
    refine kJ_iload_n 21 1 d_L_cell_20 rfl rfl rfl ?_
    refine kJ_bipush 23 7 d_L_cell_21 kb_7 rfl ?_
    refine kJ_irem 24 d_L_cell_23 (by decide) rfl ?_
    refine kJ_ishr 25 d_L_cell_24 rfl ?_
    refine kJ_ldc 27 4194303 d_L_cell_25 w_420 rfl ?_
    refine kJ_iand 28 d_L_cell_27 rfl ?_
    refine kJ_iload_n 29 2 d_L_cell_28 rfl rfl rfl ?_
    obtain ⟨hy, hf⟩ := kNz_some hf
    refine kJ_irem 30 d_L_cell_29 hy rfl ?_
    cases hf
    exact kJ_iret d_L_cell_30 rfl rfl (Nat.zero_le _) (Nat.zero_le _)
  · have hf := kIf_t hf hc
    refine kJ_iload_n 6 1 d_L_cell_5 rfl rfl rfl ?_
    refine kJ_bipush 8 37 d_L_cell_6 kb_37 rfl ?_
    refine kJ_imul 9 d_L_cell_8 rfl ?_
    refine kJ_iconst 10 5 d_L_cell_9 ki_5 rfl ?_
    refine kJ_iadd 11 d_L_cell_10 rfl ?_
    refine kJ_goto 28 d_L_cell_11 rfl ?_
    refine kJ_iload_n 29 2 d_L_cell_28 rfl rfl rfl ?_
    obtain ⟨hy, hf⟩ := kNz_some hf
    refine kJ_irem 30 d_L_cell_29 hy rfl ?_
    cases hf
    exact kJ_iret d_L_cell_30 rfl rfl (Nat.zero_le _) (Nat.zero_le _)
def f_L_has (x0 : Int32) (x1 : Int32) : Bool := if ((x0 >>> (x1 &&& 31)) &&& 1) = 1 then true else false
theorem j_L_has {E : kE} {L : Nat} {xs : Nat → Int32} (hro : kRo E L xs) {K : List Nat} {h0 : kH} {x0 : Int32} {x1 : Int32} {r : Bool} (hf : f_L_has x0 x1 = r) : JM E m_L_has [.int x0, .int x1] (mk K h0) (some (kB2 r)) (mk K h0) := by
  unfold f_L_has at hf
  refine JM.of pn_L (Nat.le_of_ble_eq_true rfl) ?_
  show kJ E m_L_has (some (kB2 r)) (mk K h0) 0 0 0 [(0, .int x0), (1, .int x1)] [] (mk K h0)
  refine kJ_iload_n 1 0 d_L_has_0 rfl rfl rfl ?_
  refine kJ_iload_n 2 1 d_L_has_1 rfl rfl rfl ?_
  refine kJ_ishr 3 d_L_has_2 rfl ?_
  refine kJ_iconst 4 1 d_L_has_3 ki_1 rfl ?_
  refine kJ_iand 5 d_L_has_4 rfl ?_
  refine kJ_iconst 6 1 d_L_has_5 ki_1 rfl ?_
  refine kJ_icmp_ne 9 13 d_L_has_6 rfl rfl (fun hc => ?_) (fun hc => ?_)
  · have hf := kIf_f hf hc
    refine kJ_iconst 14 0 d_L_has_13 ki_0 rfl ?_
    subst hf
    exact kJ_iret d_L_has_14 rfl (kB2_z _) (Nat.zero_le _) (Nat.zero_le _)
  · have hf := kIf_t hf hc
    refine kJ_iconst 10 1 d_L_has_9 ki_1 rfl ?_
    refine kJ_goto 14 d_L_has_10 rfl ?_
    subst hf
    exact kJ_iret d_L_has_14 rfl (kB2_z _) (Nat.zero_le _) (Nat.zero_le _)
def f_L_holder (h : kH) (x1 : Int32) (x2 : Int32) : Option (Int32 × kH) := kBd (f_P_at h x1 x2 4) fun v2 h1 => if v2 < 0 then (kBi (f_P_ofMember h1 x1 3) fun v3 => some (v3, h1)) else (some (v2, h1))
theorem j_L_holder {E : kE} {L : Nat} {xs : Nat → Int32} (hro : kRo E L xs) {K : List Nat} {h : kH} {x1 : Int32} {x2 : Int32} {r : Int32} {h' : kH} (hf : f_L_holder h x1 x2 = some (r, h')) : JM E m_L_holder [.ref 0, .int x1, .int x2] (mk K h) (some r) (mk K h') := by
  unfold f_L_holder at hf
  refine JM.of pn_L (Nat.le_of_ble_eq_true rfl) ?_
  show kJ E m_L_holder (some r) (mk K h') 0 0 0 [(0, .ref 0), (1, .int x1), (2, .int x2)] [] (mk K h)
  refine kJ_aload_n 1 0 d_L_holder_0 rfl rfl rfl rfl ?_
  refine kJ_iload_n 2 1 d_L_holder_1 rfl rfl rfl ?_
  refine kJ_iload_n 3 2 d_L_holder_2 rfl rfl rfl ?_
  refine kJ_iconst 4 4 d_L_holder_3 ki_4 rfl ?_
  obtain ⟨v2, h1, ev2, hf⟩ := kBd_some hf
  refine kM_callv 7 m_P_at [.int x1, .int x2, .int 4] [] d_L_holder_4 cl_L_8 ⟨w_486, w_487⟩ (kp_0).x ⟨rfl, by decide⟩ ⟨_, _, rfl⟩ rfl rfl (Nat.le_of_ble_eq_true rfl) ⟨Nat.le_of_ble_eq_true rfl, Nat.le_of_ble_eq_true rfl⟩ ⟨rfl, rfl⟩ ⟨Nat.zero_le _, Nat.zero_le _⟩ (j_P_at hro ev2) rfl ?_
  refine kJ_istore_n 8 [(3, .int v2), (0, .ref 0), (1, .int x1), (2, .int x2)] d_L_holder_7 rfl (Nat.le_of_ble_eq_true rfl) rfl rfl ?_
  refine kJ_iload_n 9 0 d_L_holder_8 rfl rfl rfl ?_
  refine kJ_if_lt 12 16 d_L_holder_9 rfl rfl (fun hc => ?_) (fun hc => ?_)
  · have hf := kIf_t hf hc
    refine kJ_aload_n 17 1 d_L_holder_16 rfl rfl rfl rfl ?_
    refine kJ_iload_n 18 2 d_L_holder_17 rfl rfl rfl ?_
    refine kJ_iconst 19 3 d_L_holder_18 ki_3 rfl ?_
    obtain ⟨v3, ev3, hf⟩ := kBi_some hf
    refine kM_callv 22 m_P_ofMember [.int x1, .int 3] [] d_L_holder_19 cl_L_14 ⟨w_380, w_381⟩ (kp_0).x ⟨rfl, by decide⟩ ⟨_, _, rfl⟩ rfl rfl (Nat.le_of_ble_eq_true rfl) ⟨Nat.le_of_ble_eq_true rfl, Nat.le_of_ble_eq_true rfl⟩ ⟨rfl, rfl⟩ ⟨Nat.zero_le _, Nat.zero_le _⟩ (j_P_ofMember hro ev3) rfl ?_
    cases hf
    exact kJ_iret d_L_holder_22 rfl rfl (Nat.zero_le _) (Nat.zero_le _)
  · have hf := kIf_f hf hc
    refine kJ_iload_n 13 0 d_L_holder_12 rfl rfl rfl ?_
    refine kJ_goto 22 d_L_holder_13 rfl ?_
    cases hf
    exact kJ_iret d_L_holder_22 rfl rfl (Nat.zero_le _) (Nat.zero_le _)
def b_L_end_15 (x2 : Int32) : Nat → kH → Int32 → Int32 → Int32 → Option (Int32 × kH)
  | 0, _, _, _, _ => none
  | n + 1, h, x3, x4, x5 => (fun rec15 => if 12 ≤ x5 then (some ((-6), h)) else (if x3 < 0 then (some ((-6), h)) else (if (f_L_has x4 x3) = true then (some ((-6), h)) else (kBi (f_P_ofMember h x3 2) fun v3 => if v3 = 1 then (kBd (f_P_at h x3 x2 5) fun v9 h8 => if v9 = 1 then (some ((-6), h8)) else (some (x3, h8))) else (kLet (x4 ||| (1 <<< (x3 &&& 31))) fun v4 => kBi (f_P_count h 20) fun v5 => if v5 = 1 then (kBd (f_L_holder h x3 x2) fun v7 h6 => rec15 h6 v7 v4 (x5 + 1)) else (rec15 h (-6) v4 (x5 + 1))))))) (fun h' x3' x4' x5' => b_L_end_15 x2 n h' x3' x4' x5')
theorem c_L_end_15 {E : kE} {L : Nat} {xs : Nat → Int32} (hro : kRo E L xs) {K : List Nat} {x2 : Int32} {r : Int32} {h' : kH} : ∀ (n : Nat) (h : kH) (x3 : Int32) (x4 : Int32) (x5 : Int32), b_L_end_15 x2 n h x3 x4 x5 = some (r, h') → kJ E m_L_end (some r) (mk K h') 0 0 15 [(0, .ref 0), (2, .int x2), (3, .int x3), (4, .int x4), (5, .int x5)] [] (mk K h) := by
  intro n
  induction n with
  | zero =>
    intro h x3 x4 x5 hf
    have hf : (none : Option (Int32 × kH)) = some (r, h') := hf
    cases hf
  | succ n hrec15 =>
    intro h x3 x4 x5 hf
    rw [b_L_end_15] at hf
    dsimp only at hf
    refine kJ_iload 17 4 d_L_end_15 rfl rfl ?_
    refine kJ_bipush 19 12 d_L_end_17 kb_12 rfl ?_
    refine kJ_icmp_ge 22 102 d_L_end_19 rfl rfl (fun hc => ?_) (fun hc => ?_)
    · have hf := kIf_t hf hc
      refine kJ_bipush 104 (-6) d_L_end_102 kb_m6 rfl ?_
      cases hf
      exact kJ_iret d_L_end_104 rfl rfl (Nat.zero_le _) (Nat.zero_le _)
    · have hf := kIf_f hf hc
      refine kJ_iload_n 23 2 d_L_end_22 rfl rfl rfl ?_
      refine kJ_if_lt 26 102 d_L_end_23 rfl rfl (fun hc => ?_) (fun hc => ?_)
      · have hf := kIf_t hf hc
        refine kJ_bipush 104 (-6) d_L_end_102 kb_m6 rfl ?_
        cases hf
        exact kJ_iret d_L_end_104 rfl rfl (Nat.zero_le _) (Nat.zero_le _)
      · have hf := kIf_f hf hc
        refine kJ_iload 28 3 d_L_end_26 rfl rfl ?_
        refine kJ_iload_n 29 2 d_L_end_28 rfl rfl rfl ?_
        refine kM_calls 32 m_L_has [.int x4, .int x3] [] d_L_end_29 cl_L_24 w_483 rfl rfl (Nat.le_of_ble_eq_true rfl) ⟨Nat.le_of_ble_eq_true rfl, Nat.le_of_ble_eq_true rfl⟩ ⟨rfl, rfl⟩ ⟨Nat.zero_le _, Nat.zero_le _⟩ (j_L_has hro rfl) rfl ?_
        refine kJ_if_eq 35 38 d_L_end_32 rfl rfl (fun hc => ?_) (fun hc => ?_)
        · have hf := kIf_f hf (kB2_0 hc)
          refine kJ_aload_n 39 0 d_L_end_38 rfl rfl rfl rfl ?_
          refine kJ_iload_n 40 2 d_L_end_39 rfl rfl rfl ?_
          refine kJ_iconst 41 2 d_L_end_40 ki_2 rfl ?_
          obtain ⟨v3, ev3, hf⟩ := kBi_some hf
          refine kM_callv 44 m_P_ofMember [.int x3, .int 2] [] d_L_end_41 cl_L_14 ⟨w_380, w_381⟩ (kp_0).x ⟨rfl, by decide⟩ ⟨_, _, rfl⟩ rfl rfl (Nat.le_of_ble_eq_true rfl) ⟨Nat.le_of_ble_eq_true rfl, Nat.le_of_ble_eq_true rfl⟩ ⟨rfl, rfl⟩ ⟨Nat.zero_le _, Nat.zero_le _⟩ (j_P_ofMember hro ev3) rfl ?_
          refine kJ_iconst 45 1 d_L_end_44 ki_1 rfl ?_
          refine kJ_icmp_ne 48 66 d_L_end_45 rfl rfl (fun hc => ?_) (fun hc => ?_)
          · have hf := kIf_f hf hc
            refine kJ_iload 68 3 d_L_end_66 rfl rfl ?_
            refine kJ_iconst 69 1 d_L_end_68 ki_1 rfl ?_
            refine kJ_iload_n 70 2 d_L_end_69 rfl rfl rfl ?_
            refine kJ_ishl 71 d_L_end_70 rfl ?_
            refine kJ_ior 72 d_L_end_71 rfl ?_
            obtain ⟨v4, ev4, hf⟩ := kLet_e hf
            rw [← ev4]
            refine kJ_istore 74 [(4, .int v4), (0, .ref 0), (2, .int x2), (3, .int x3), (5, .int x5)] d_L_end_72 (Nat.le_of_ble_eq_true rfl) rfl rfl ?_
            refine kJ_aload_n 75 1 d_L_end_74 rfl rfl rfl rfl ?_
            refine kJ_bipush 77 20 d_L_end_75 kb_20 rfl ?_
            obtain ⟨v5, ev5, hf⟩ := kBi_some hf
            refine kM_callv 80 m_P_count [.int 20] [] d_L_end_77 cl_L_28 ⟨w_397, w_398⟩ (kp_0).x ⟨rfl, by decide⟩ ⟨_, _, rfl⟩ rfl rfl (Nat.le_of_ble_eq_true rfl) ⟨Nat.le_of_ble_eq_true rfl, Nat.le_of_ble_eq_true rfl⟩ ⟨rfl, rfl⟩ ⟨Nat.zero_le _, Nat.zero_le _⟩ (j_P_count hro ev5) rfl ?_
            refine kJ_iconst 81 1 d_L_end_80 ki_1 rfl ?_
            refine kJ_icmp_ne 84 93 d_L_end_81 rfl rfl (fun hc => ?_) (fun hc => ?_)
            · have hf := kIf_f hf hc
              refine kJ_bipush 95 (-6) d_L_end_93 kb_m6 rfl ?_
              refine kJ_istore_n 96 [(3, .int (-6)), (4, .int v4), (0, .ref 0), (2, .int x2), (5, .int x5)] d_L_end_95 rfl (Nat.le_of_ble_eq_true rfl) rfl rfl ?_
              refine kJ_iinc 99 4 [(5, .int (x5 + 1)), (3, .int (-6)), (4, .int v4), (0, .ref 0), (2, .int x2)] d_L_end_96 rfl ki_1 (Nat.le_of_ble_eq_true rfl) rfl rfl ?_
              refine kJ_goto 15 d_L_end_99 rfl ?_
              refine kJ_sub [3, 4, 1, 2, 0] rfl ?_
              exact hrec15 h (-6) v4 (x5 + 1) hf
            · have hf := kIf_t hf hc
              refine kJ_aload_n 85 1 d_L_end_84 rfl rfl rfl rfl ?_
              refine kJ_iload_n 86 3 d_L_end_85 rfl rfl rfl ?_
              refine kJ_iload_n 87 2 d_L_end_86 rfl rfl rfl ?_
              obtain ⟨v7, h6, ev7, hf⟩ := kBd_some hf
              refine kM_calls 90 m_L_holder [.ref 0, .int x3, .int x2] [] d_L_end_87 cl_L_18 w_499 rfl rfl (Nat.le_of_ble_eq_true rfl) ⟨Nat.le_of_ble_eq_true rfl, Nat.le_of_ble_eq_true rfl⟩ ⟨rfl, rfl⟩ ⟨Nat.zero_le _, Nat.zero_le _⟩ (j_L_holder hro ev7) rfl ?_
              refine kJ_goto 95 d_L_end_90 rfl ?_
              refine kJ_istore_n 96 [(3, .int v7), (4, .int v4), (0, .ref 0), (2, .int x2), (5, .int x5)] d_L_end_95 rfl (Nat.le_of_ble_eq_true rfl) rfl rfl ?_
              refine kJ_iinc 99 4 [(5, .int (x5 + 1)), (3, .int v7), (4, .int v4), (0, .ref 0), (2, .int x2)] d_L_end_96 rfl ki_1 (Nat.le_of_ble_eq_true rfl) rfl rfl ?_
              refine kJ_goto 15 d_L_end_99 rfl ?_
              refine kJ_sub [3, 4, 1, 2, 0] rfl ?_
              exact hrec15 h6 v7 v4 (x5 + 1) hf
          · have hf := kIf_t hf hc
            refine kJ_aload_n 49 0 d_L_end_48 rfl rfl rfl rfl ?_
            refine kJ_iload_n 50 2 d_L_end_49 rfl rfl rfl ?_
            refine kJ_iload_n 51 1 d_L_end_50 rfl rfl rfl ?_
            refine kJ_iconst 52 5 d_L_end_51 ki_5 rfl ?_
            obtain ⟨v9, h8, ev9, hf⟩ := kBd_some hf
            refine kM_callv 55 m_P_at [.int x3, .int x2, .int 5] [] d_L_end_52 cl_L_8 ⟨w_486, w_487⟩ (kp_0).x ⟨rfl, by decide⟩ ⟨_, _, rfl⟩ rfl rfl (Nat.le_of_ble_eq_true rfl) ⟨Nat.le_of_ble_eq_true rfl, Nat.le_of_ble_eq_true rfl⟩ ⟨rfl, rfl⟩ ⟨Nat.zero_le _, Nat.zero_le _⟩ (j_P_at hro ev9) rfl ?_
            refine kJ_iconst 56 1 d_L_end_55 ki_1 rfl ?_
            refine kJ_icmp_ne 59 64 d_L_end_56 rfl rfl (fun hc => ?_) (fun hc => ?_)
            · have hf := kIf_f hf hc
              refine kJ_iload_n 65 2 d_L_end_64 rfl rfl rfl ?_
              cases hf
              exact kJ_iret d_L_end_65 rfl rfl (Nat.zero_le _) (Nat.zero_le _)
            · have hf := kIf_t hf hc
              refine kJ_bipush 61 (-6) d_L_end_59 kb_m6 rfl ?_
              refine kJ_goto 65 d_L_end_61 rfl ?_
              cases hf
              exact kJ_iret d_L_end_65 rfl rfl (Nat.zero_le _) (Nat.zero_le _)
        · have hf := kIf_t hf (kB2_1 hc)
          refine kJ_bipush 37 (-6) d_L_end_35 kb_m6 rfl ?_
          cases hf
          exact kJ_iret d_L_end_37 rfl rfl (Nat.zero_le _) (Nat.zero_le _)
def f_L_end (h : kH) (x1 : Int32) (x2 : Int32) : Option (Int32 × kH) := kBd (f_L_holder h x1 x2) fun v2 h1 => b_L_end_15 x2 kFuel h1 v2 (1 <<< (x1 &&& 31)) 0
theorem j_L_end {E : kE} {L : Nat} {xs : Nat → Int32} (hro : kRo E L xs) {K : List Nat} {h : kH} {x1 : Int32} {x2 : Int32} {r : Int32} {h' : kH} (hf : f_L_end h x1 x2 = some (r, h')) : JM E m_L_end [.ref 0, .int x1, .int x2] (mk K h) (some r) (mk K h') := by
  unfold f_L_end at hf
  refine JM.of pn_L (Nat.le_of_ble_eq_true rfl) ?_
  show kJ E m_L_end (some r) (mk K h') 0 0 0 [(0, .ref 0), (1, .int x1), (2, .int x2)] [] (mk K h)
  refine kJ_aload_n 1 0 d_L_end_0 rfl rfl rfl rfl ?_
  refine kJ_iload_n 2 1 d_L_end_1 rfl rfl rfl ?_
  refine kJ_iload_n 3 2 d_L_end_2 rfl rfl rfl ?_
  obtain ⟨v2, h1, ev2, hf⟩ := kBd_some hf
  refine kM_calls 6 m_L_holder [.ref 0, .int x1, .int x2] [] d_L_end_3 cl_L_18 w_499 rfl rfl (Nat.le_of_ble_eq_true rfl) ⟨Nat.le_of_ble_eq_true rfl, Nat.le_of_ble_eq_true rfl⟩ ⟨rfl, rfl⟩ ⟨Nat.zero_le _, Nat.zero_le _⟩ (j_L_holder hro ev2) rfl ?_
  refine kJ_istore_n 7 [(3, .int v2), (0, .ref 0), (1, .int x1), (2, .int x2)] d_L_end_6 rfl (Nat.le_of_ble_eq_true rfl) rfl rfl ?_
  refine kJ_iconst 8 1 d_L_end_7 ki_1 rfl ?_
  refine kJ_iload_n 9 2 d_L_end_8 rfl rfl rfl ?_
  refine kJ_ishl 10 d_L_end_9 rfl ?_
  refine kJ_istore 12 [(4, .int (1 <<< (x1 &&& 31))), (3, .int v2), (0, .ref 0), (1, .int x1), (2, .int x2)] d_L_end_10 (Nat.le_of_ble_eq_true rfl) rfl rfl ?_
  refine kJ_iconst 13 0 d_L_end_12 ki_0 rfl ?_
  refine kJ_istore 15 [(5, .int 0), (4, .int (1 <<< (x1 &&& 31))), (3, .int v2), (0, .ref 0), (1, .int x1), (2, .int x2)] d_L_end_13 (Nat.le_of_ble_eq_true rfl) rfl rfl ?_
  refine kJ_sub [3, 5, 2, 1, 0] rfl ?_
  exact c_L_end_15 hro kFuel h1 v2 (1 <<< (x1 &&& 31)) 0 hf
def b_L_areVoices_194 (x1 : Int32) (x4 : Nat) : Nat → kH → Int32 → Option (Bool × kH)
  | 0, _, _ => none
  | n + 1, h, x5 => (fun rec194 => kBi (f_P_count h 1) fun v4 => if v4 ≤ x5 then (some (true, h)) else (kBd (f_P_at h x5 x1 6) fun v6 h5 => kG x5 12 (if v6 = (h5 x4 (kx x5)) then (rec194 h5 (x5 + 1)) else (some (false, h5))))) (fun h' x5' => b_L_areVoices_194 x1 x4 n h' x5')
theorem c_L_areVoices_194 {E : kE} {L : Nat} {xs : Nat → Int32} (hro : kRo E L xs) {K : List Nat} {x1 : Int32} {x4 : Nat} (k4 : kX K x4 9) {r : Bool} {h' : kH} : ∀ (n : Nat) (h : kH) (x5 : Int32), b_L_areVoices_194 x1 x4 n h x5 = some (r, h') → kJ E m_L_areVoices (some (kB2 r)) (mk K h') 2 24 194 [(0, .ref 0), (1, .int x1), (4, .ref x4), (5, .int x5)] [] (mk K h) := by
  intro n
  induction n with
  | zero =>
    intro h x5 hf
    have hf : (none : Option (Bool × kH)) = some (r, h') := hf
    cases hf
  | succ n hrec194 =>
    intro h x5 hf
    rw [b_L_areVoices_194] at hf
    dsimp only at hf
    refine kJ_iload 196 3 d_L_areVoices_194 rfl rfl ?_
    refine kJ_aload_n 197 0 d_L_areVoices_196 rfl rfl rfl rfl ?_
    refine kJ_iconst 198 1 d_L_areVoices_197 ki_1 rfl ?_
    obtain ⟨v4, ev4, hf⟩ := kBi_some hf
    refine kM_callv 201 m_P_count [.int 1] [.int x5] d_L_areVoices_198 cl_L_28 ⟨w_397, w_398⟩ (kp_0).x ⟨rfl, by decide⟩ ⟨_, _, rfl⟩ rfl rfl (Nat.le_of_ble_eq_true rfl) ⟨Nat.le_of_ble_eq_true rfl, Nat.le_of_ble_eq_true rfl⟩ ⟨rfl, rfl⟩ ⟨Nat.le_of_ble_eq_true rfl, Nat.le_of_ble_eq_true rfl⟩ (j_P_count hro ev4) rfl ?_
    refine kJ_icmp_ge 204 229 d_L_areVoices_201 rfl rfl (fun hc => ?_) (fun hc => ?_)
    · have hf := kIf_t hf hc
      refine kJ_iconst 230 1 d_L_areVoices_229 ki_1 rfl ?_
      cases hf
      exact kJ_iret d_L_areVoices_230 rfl (kB2_z _) (Nat.le_of_ble_eq_true rfl) (Nat.le_of_ble_eq_true rfl)
    · have hf := kIf_f hf hc
      refine kJ_aload_n 205 0 d_L_areVoices_204 rfl rfl rfl rfl ?_
      refine kJ_iload 207 3 d_L_areVoices_205 rfl rfl ?_
      refine kJ_iload_n 208 1 d_L_areVoices_207 rfl rfl rfl ?_
      refine kJ_bipush 210 6 d_L_areVoices_208 kb_6 rfl ?_
      obtain ⟨v6, h5, ev6, hf⟩ := kBd_some hf
      refine kM_callv 213 m_P_at [.int x5, .int x1, .int 6] [] d_L_areVoices_210 cl_L_8 ⟨w_486, w_487⟩ (kp_0).x ⟨rfl, by decide⟩ ⟨_, _, rfl⟩ rfl rfl (Nat.le_of_ble_eq_true rfl) ⟨Nat.le_of_ble_eq_true rfl, Nat.le_of_ble_eq_true rfl⟩ ⟨rfl, rfl⟩ ⟨Nat.le_of_ble_eq_true rfl, Nat.le_of_ble_eq_true rfl⟩ (j_P_at hro ev6) rfl ?_
      refine kJ_aload 215 2 d_L_areVoices_213 rfl rfl rfl ?_
      refine kJ_iload 217 3 d_L_areVoices_215 rfl rfl ?_
      obtain ⟨hg, hf⟩ := kG_some hf
      refine kM_iald 218 12 d_L_areVoices_217 k4 rfl hg rfl ?_
      refine kJ_icmp_eq 221 223 d_L_areVoices_218 rfl rfl (fun hc => ?_) (fun hc => ?_)
      · have hf := kIf_t hf hc
        refine kJ_iinc 226 3 [(5, .int (x5 + 1)), (0, .ref 0), (1, .int x1), (4, .ref x4)] d_L_areVoices_223 rfl ki_1 (Nat.le_of_ble_eq_true rfl) rfl rfl ?_
        refine kJ_goto 194 d_L_areVoices_226 rfl ?_
        refine kJ_sub [1, 2, 3, 0] rfl ?_
        exact hrec194 h5 (x5 + 1) hf
      · have hf := kIf_f hf hc
        refine kJ_iconst 222 0 d_L_areVoices_221 ki_0 rfl ?_
        cases hf
        exact kJ_iret d_L_areVoices_222 rfl (kB2_z _) (Nat.le_of_ble_eq_true rfl) (Nat.le_of_ble_eq_true rfl)
def b_L_areVoices_168 (rec14 : kH → Int32 → Option (Bool × kH)) (h : kH) (x1 : Int32) (x2 : Nat) (x3 : Nat) (x4 : Nat) (x5 : Int32) : Option (Bool × kH) := kBd (f_P_at h x5 x1 0) fun v14 h13 => kG x5 12 (if v14 = (h13 x2 (kx x5)) then (rec14 h13 (x5 + 1)) else (some (false, h13)))
theorem c_L_areVoices_168 {E : kE} {L : Nat} {xs : Nat → Int32} (hro : kRo E L xs) {K : List Nat} {rec14 : kH → Int32 → Option (Bool × kH)} {h : kH} {x1 : Int32} {x2 : Nat} {x3 : Nat} {x4 : Nat} {x5 : Int32} (k2 : kX K x2 9) (k3 : kX K x3 9) (k4 : kX K x4 9) {r : Bool} {h' : kH} (hrec14 : ∀ (h : kH) (x5 : Int32), rec14 h x5 = some (r, h') → kJ E m_L_areVoices (some (kB2 r)) (mk K h') 2 24 14 [(0, .ref 0), (1, .int x1), (2, .ref x2), (3, .ref x3), (4, .ref x4), (5, .int x5)] [] (mk K h)) (hf : b_L_areVoices_168 rec14 h x1 x2 x3 x4 x5 = some (r, h')) : kJ E m_L_areVoices (some (kB2 r)) (mk K h') 2 24 168 [(0, .ref 0), (1, .int x1), (2, .ref x2), (3, .ref x3), (4, .ref x4), (5, .int x5)] [] (mk K h) := by
  unfold b_L_areVoices_168 at hf
  refine kJ_aload_n 169 0 d_L_areVoices_168 rfl rfl rfl rfl ?_
  refine kJ_iload 171 5 d_L_areVoices_169 rfl rfl ?_
  refine kJ_iload_n 172 1 d_L_areVoices_171 rfl rfl rfl ?_
  refine kJ_iconst 173 0 d_L_areVoices_172 ki_0 rfl ?_
  obtain ⟨v14, h13, ev14, hf⟩ := kBd_some hf
  refine kM_callv 176 m_P_at [.int x5, .int x1, .int 0] [] d_L_areVoices_173 cl_L_8 ⟨w_486, w_487⟩ (kp_0).x ⟨rfl, by decide⟩ ⟨_, _, rfl⟩ rfl rfl (Nat.le_of_ble_eq_true rfl) ⟨Nat.le_of_ble_eq_true rfl, Nat.le_of_ble_eq_true rfl⟩ ⟨rfl, rfl⟩ ⟨Nat.le_of_ble_eq_true rfl, Nat.le_of_ble_eq_true rfl⟩ (j_P_at hro ev14) rfl ?_
  refine kJ_aload_n 177 2 d_L_areVoices_176 rfl rfl rfl rfl ?_
  refine kJ_iload 179 5 d_L_areVoices_177 rfl rfl ?_
  obtain ⟨hg, hf⟩ := kG_some hf
  refine kM_iald 180 12 d_L_areVoices_179 k2 rfl hg rfl ?_
  refine kJ_icmp_eq 183 185 d_L_areVoices_180 rfl rfl (fun hc => ?_) (fun hc => ?_)
  · have hf := kIf_t hf hc
    refine kJ_iinc 188 5 [(5, .int (x5 + 1)), (0, .ref 0), (1, .int x1), (2, .ref x2), (3, .ref x3), (4, .ref x4)] d_L_areVoices_185 rfl ki_1 (Nat.le_of_ble_eq_true rfl) rfl rfl ?_
    refine kJ_goto 14 d_L_areVoices_188 rfl ?_
    refine kJ_sub [1, 2, 3, 4, 5, 0] rfl ?_
    exact hrec14 h13 (x5 + 1) hf
  · have hf := kIf_f hf hc
    refine kJ_iconst 184 0 d_L_areVoices_183 ki_0 rfl ?_
    cases hf
    exact kJ_iret d_L_areVoices_184 rfl (kB2_z _) (Nat.le_of_ble_eq_true rfl) (Nat.le_of_ble_eq_true rfl)
def b_L_areVoices_162 (rec14 : kH → Int32 → Option (Bool × kH)) (h : kH) (x1 : Int32) (x2 : Nat) (x3 : Nat) (x4 : Nat) (x5 : Int32) (x7 : Int32) : Option (Bool × kH) := kG x5 12 (kLet (hset h x2 (kx x5) x7) fun h18 => b_L_areVoices_168 rec14 h18 x1 x2 x3 x4 x5)
theorem c_L_areVoices_162 {E : kE} {L : Nat} {xs : Nat → Int32} (hro : kRo E L xs) {K : List Nat} {rec14 : kH → Int32 → Option (Bool × kH)} {h : kH} {x1 : Int32} {x2 : Nat} {x3 : Nat} {x4 : Nat} {x5 : Int32} {x7 : Int32} (k2 : kX K x2 9) (k3 : kX K x3 9) (k4 : kX K x4 9) {r : Bool} {h' : kH} (hrec14 : ∀ (h : kH) (x5 : Int32), rec14 h x5 = some (r, h') → kJ E m_L_areVoices (some (kB2 r)) (mk K h') 2 24 14 [(0, .ref 0), (1, .int x1), (2, .ref x2), (3, .ref x3), (4, .ref x4), (5, .int x5)] [] (mk K h)) (hf : b_L_areVoices_162 rec14 h x1 x2 x3 x4 x5 x7 = some (r, h')) : kJ E m_L_areVoices (some (kB2 r)) (mk K h') 2 24 162 [(0, .ref 0), (1, .int x1), (2, .ref x2), (3, .ref x3), (4, .ref x4), (5, .int x5), (7, .int x7)] [] (mk K h) := by
  unfold b_L_areVoices_162 at hf
  refine kJ_aload_n 163 2 d_L_areVoices_162 rfl rfl rfl rfl ?_
  refine kJ_iload 165 5 d_L_areVoices_163 rfl rfl ?_
  refine kJ_iload 167 6 d_L_areVoices_165 rfl rfl ?_
  obtain ⟨hg, hf⟩ := kG_some hf
  refine kM_iast 168 12 d_L_areVoices_167 k2 rfl hg rfl ?_
  obtain ⟨h18, eh18, hf⟩ := kLet_e hf
  rw [← eh18]
  refine kJ_sub [0, 1, 2, 3, 4, 5] rfl ?_
  exact c_L_areVoices_168 hro k2 k3 k4 hrec14 hf
def b_L_areVoices_135 (rec14 : kH → Int32 → Option (Bool × kH)) (h : kH) (x1 : Int32) (x2 : Nat) (x3 : Nat) (x4 : Nat) (x5 : Int32) (s0 : Int32) : Option (Bool × kH) := if s0 < 0 then (b_L_areVoices_162 rec14 h x1 x2 x3 x4 x5 s0) else (kG s0 12 (kG s0 12 (kLet (hset h x3 (kx s0) ((h x3 (kx s0)) + 1)) fun h20 => kG s0 12 (kG s0 12 (kLet (hset h20 x4 (kx s0) ((h20 x4 (kx s0)) ||| (1 <<< (x5 &&& 31)))) fun h21 => b_L_areVoices_162 rec14 h21 x1 x2 x3 x4 x5 s0)))))
theorem c_L_areVoices_135 {E : kE} {L : Nat} {xs : Nat → Int32} (hro : kRo E L xs) {K : List Nat} {rec14 : kH → Int32 → Option (Bool × kH)} {h : kH} {x1 : Int32} {x2 : Nat} {x3 : Nat} {x4 : Nat} {x5 : Int32} {s0 : Int32} (k2 : kX K x2 9) (k3 : kX K x3 9) (k4 : kX K x4 9) {r : Bool} {h' : kH} (hrec14 : ∀ (h : kH) (x5 : Int32), rec14 h x5 = some (r, h') → kJ E m_L_areVoices (some (kB2 r)) (mk K h') 2 24 14 [(0, .ref 0), (1, .int x1), (2, .ref x2), (3, .ref x3), (4, .ref x4), (5, .int x5)] [] (mk K h)) (hf : b_L_areVoices_135 rec14 h x1 x2 x3 x4 x5 s0 = some (r, h')) : kJ E m_L_areVoices (some (kB2 r)) (mk K h') 2 24 135 [(0, .ref 0), (1, .int x1), (2, .ref x2), (3, .ref x3), (4, .ref x4), (5, .int x5)] [.int s0] (mk K h) := by
  unfold b_L_areVoices_135 at hf
  refine kJ_istore 137 [(7, .int s0), (0, .ref 0), (1, .int x1), (2, .ref x2), (3, .ref x3), (4, .ref x4), (5, .int x5)] d_L_areVoices_135 (Nat.le_of_ble_eq_true rfl) rfl rfl ?_
  refine kJ_iload 139 0 d_L_areVoices_137 rfl rfl ?_
  refine kJ_if_lt 142 162 d_L_areVoices_139 rfl rfl (fun hc => ?_) (fun hc => ?_)
  · have hf := kIf_t hf hc
    refine kJ_sub [1, 2, 3, 4, 5, 6, 0] rfl ?_
    exact c_L_areVoices_162 hro k2 k3 k4 hrec14 hf
  · have hf := kIf_f hf hc
    refine kJ_aload_n 143 4 d_L_areVoices_142 rfl rfl rfl rfl ?_
    refine kJ_iload 145 0 d_L_areVoices_143 rfl rfl ?_
    refine kJ_dup2 146 d_L_areVoices_145 rfl rfl rfl ?_
    obtain ⟨hg, hf⟩ := kG_some hf
    refine kM_iald 147 12 d_L_areVoices_146 k3 rfl hg rfl ?_
    refine kJ_iconst 148 1 d_L_areVoices_147 ki_1 rfl ?_
    refine kJ_iadd 149 d_L_areVoices_148 rfl ?_
    obtain ⟨hg, hf⟩ := kG_some hf
    refine kM_iast 150 12 d_L_areVoices_149 k3 rfl hg rfl ?_
    obtain ⟨h20, eh20, hf⟩ := kLet_e hf
    rw [← eh20]
    refine kJ_aload 152 5 d_L_areVoices_150 rfl rfl rfl ?_
    refine kJ_iload 154 0 d_L_areVoices_152 rfl rfl ?_
    refine kJ_dup2 155 d_L_areVoices_154 rfl rfl rfl ?_
    obtain ⟨hg, hf⟩ := kG_some hf
    refine kM_iald 156 12 d_L_areVoices_155 k4 rfl hg rfl ?_
    refine kJ_iconst 157 1 d_L_areVoices_156 ki_1 rfl ?_
    refine kJ_iload 159 6 d_L_areVoices_157 rfl rfl ?_
    refine kJ_ishl 160 d_L_areVoices_159 rfl ?_
    refine kJ_ior 161 d_L_areVoices_160 rfl ?_
    obtain ⟨hg, hf⟩ := kG_some hf
    refine kM_iast 162 12 d_L_areVoices_161 k4 rfl hg rfl ?_
    obtain ⟨h21, eh21, hf⟩ := kLet_e hf
    rw [← eh21]
    refine kJ_sub [1, 2, 3, 4, 5, 6, 0] rfl ?_
    exact c_L_areVoices_162 hro k2 k3 k4 hrec14 hf
def b_L_areVoices_101 (rec14 : kH → Int32 → Option (Bool × kH)) (h : kH) (x1 : Int32) (x2 : Nat) (x3 : Nat) (x4 : Nat) (x5 : Int32) (s0 : Int32) : Option (Bool × kH) := if s0 < 0 then (b_L_areVoices_162 rec14 h x1 x2 x3 x4 x5 s0) else (if s0 = x5 then (b_L_areVoices_162 rec14 h x1 x2 x3 x4 x5 s0) else (kG s0 12 (kBi (f_P_count h 19) fun v19 => if v19 ≤ (h x3 (kx s0)) then (b_L_areVoices_135 rec14 h x1 x2 x3 x4 x5 (-6)) else (b_L_areVoices_135 rec14 h x1 x2 x3 x4 x5 s0))))
theorem c_L_areVoices_101 {E : kE} {L : Nat} {xs : Nat → Int32} (hro : kRo E L xs) {K : List Nat} {rec14 : kH → Int32 → Option (Bool × kH)} {h : kH} {x1 : Int32} {x2 : Nat} {x3 : Nat} {x4 : Nat} {x5 : Int32} {s0 : Int32} (k2 : kX K x2 9) (k3 : kX K x3 9) (k4 : kX K x4 9) {r : Bool} {h' : kH} (hrec14 : ∀ (h : kH) (x5 : Int32), rec14 h x5 = some (r, h') → kJ E m_L_areVoices (some (kB2 r)) (mk K h') 2 24 14 [(0, .ref 0), (1, .int x1), (2, .ref x2), (3, .ref x3), (4, .ref x4), (5, .int x5)] [] (mk K h)) (hf : b_L_areVoices_101 rec14 h x1 x2 x3 x4 x5 s0 = some (r, h')) : kJ E m_L_areVoices (some (kB2 r)) (mk K h') 2 24 101 [(0, .ref 0), (1, .int x1), (2, .ref x2), (3, .ref x3), (4, .ref x4), (5, .int x5)] [.int s0] (mk K h) := by
  unfold b_L_areVoices_101 at hf
  refine kJ_istore 103 [(7, .int s0), (0, .ref 0), (1, .int x1), (2, .ref x2), (3, .ref x3), (4, .ref x4), (5, .int x5)] d_L_areVoices_101 (Nat.le_of_ble_eq_true rfl) rfl rfl ?_
  refine kJ_iload 105 0 d_L_areVoices_103 rfl rfl ?_
  refine kJ_if_lt 108 162 d_L_areVoices_105 rfl rfl (fun hc => ?_) (fun hc => ?_)
  · have hf := kIf_t hf hc
    refine kJ_sub [1, 2, 3, 4, 5, 6, 0] rfl ?_
    exact c_L_areVoices_162 hro k2 k3 k4 hrec14 hf
  · have hf := kIf_f hf hc
    refine kJ_iload 110 0 d_L_areVoices_108 rfl rfl ?_
    refine kJ_iload 112 6 d_L_areVoices_110 rfl rfl ?_
    refine kJ_icmp_eq 115 162 d_L_areVoices_112 rfl rfl (fun hc => ?_) (fun hc => ?_)
    · have hf := kIf_t hf hc
      refine kJ_sub [1, 2, 3, 4, 5, 6, 0] rfl ?_
      exact c_L_areVoices_162 hro k2 k3 k4 hrec14 hf
    · have hf := kIf_f hf hc
      refine kJ_aload_n 116 4 d_L_areVoices_115 rfl rfl rfl rfl ?_
      refine kJ_iload 118 0 d_L_areVoices_116 rfl rfl ?_
      obtain ⟨hg, hf⟩ := kG_some hf
      refine kM_iald 119 12 d_L_areVoices_118 k3 rfl hg rfl ?_
      refine kJ_aload_n 120 1 d_L_areVoices_119 rfl rfl rfl rfl ?_
      refine kJ_bipush 122 19 d_L_areVoices_120 kb_19 rfl ?_
      obtain ⟨v19, ev19, hf⟩ := kBi_some hf
      refine kM_callv 125 m_P_count [.int 19] [.int (h x3 (kx s0))] d_L_areVoices_122 cl_L_28 ⟨w_397, w_398⟩ (kp_0).x ⟨rfl, by decide⟩ ⟨_, _, rfl⟩ rfl rfl (Nat.le_of_ble_eq_true rfl) ⟨Nat.le_of_ble_eq_true rfl, Nat.le_of_ble_eq_true rfl⟩ ⟨rfl, rfl⟩ ⟨Nat.le_of_ble_eq_true rfl, Nat.le_of_ble_eq_true rfl⟩ (j_P_count hro ev19) rfl ?_
      refine kJ_icmp_ge 128 133 d_L_areVoices_125 rfl rfl (fun hc => ?_) (fun hc => ?_)
      · have hf := kIf_t hf hc
        refine kJ_bipush 135 (-6) d_L_areVoices_133 kb_m6 rfl ?_
        refine kJ_sub [1, 2, 3, 4, 5, 6] rfl ?_
        exact c_L_areVoices_135 hro k2 k3 k4 hrec14 hf
      · have hf := kIf_f hf hc
        refine kJ_iload 130 0 d_L_areVoices_128 rfl rfl ?_
        refine kJ_goto 135 d_L_areVoices_130 rfl ?_
        refine kJ_sub [1, 2, 3, 4, 5, 6] rfl ?_
        exact c_L_areVoices_135 hro k2 k3 k4 hrec14 hf
def b_L_areVoices_67 (rec14 : kH → Int32 → Option (Bool × kH)) (h : kH) (x1 : Int32) (x2 : Nat) (x3 : Nat) (x4 : Nat) (x5 : Int32) : Option (Bool × kH) := kBd (f_P_at h x5 x1 5) fun v12 h11 => if v12 = 0 then (kBi (f_P_ofMember h11 x5 2) fun v15 => if v15 = 1 then (b_L_areVoices_101 rec14 h11 x1 x2 x3 x4 x5 x5) else (kBd (f_L_end h11 x5 x1) fun v17 h16 => b_L_areVoices_101 rec14 h16 x1 x2 x3 x4 x5 v17)) else (b_L_areVoices_168 rec14 h11 x1 x2 x3 x4 x5)
theorem c_L_areVoices_67 {E : kE} {L : Nat} {xs : Nat → Int32} (hro : kRo E L xs) {K : List Nat} {rec14 : kH → Int32 → Option (Bool × kH)} {h : kH} {x1 : Int32} {x2 : Nat} {x3 : Nat} {x4 : Nat} {x5 : Int32} (k2 : kX K x2 9) (k3 : kX K x3 9) (k4 : kX K x4 9) {r : Bool} {h' : kH} (hrec14 : ∀ (h : kH) (x5 : Int32), rec14 h x5 = some (r, h') → kJ E m_L_areVoices (some (kB2 r)) (mk K h') 2 24 14 [(0, .ref 0), (1, .int x1), (2, .ref x2), (3, .ref x3), (4, .ref x4), (5, .int x5)] [] (mk K h)) (hf : b_L_areVoices_67 rec14 h x1 x2 x3 x4 x5 = some (r, h')) : kJ E m_L_areVoices (some (kB2 r)) (mk K h') 2 24 67 [(0, .ref 0), (1, .int x1), (2, .ref x2), (3, .ref x3), (4, .ref x4), (5, .int x5)] [] (mk K h) := by
  unfold b_L_areVoices_67 at hf
  refine kJ_aload_n 68 0 d_L_areVoices_67 rfl rfl rfl rfl ?_
  refine kJ_iload 70 5 d_L_areVoices_68 rfl rfl ?_
  refine kJ_iload_n 71 1 d_L_areVoices_70 rfl rfl rfl ?_
  refine kJ_iconst 72 5 d_L_areVoices_71 ki_5 rfl ?_
  obtain ⟨v12, h11, ev12, hf⟩ := kBd_some hf
  refine kM_callv 75 m_P_at [.int x5, .int x1, .int 5] [] d_L_areVoices_72 cl_L_8 ⟨w_486, w_487⟩ (kp_0).x ⟨rfl, by decide⟩ ⟨_, _, rfl⟩ rfl rfl (Nat.le_of_ble_eq_true rfl) ⟨Nat.le_of_ble_eq_true rfl, Nat.le_of_ble_eq_true rfl⟩ ⟨rfl, rfl⟩ ⟨Nat.le_of_ble_eq_true rfl, Nat.le_of_ble_eq_true rfl⟩ (j_P_at hro ev12) rfl ?_
  refine kJ_if_ne 78 168 d_L_areVoices_75 rfl rfl (fun hc => ?_) (fun hc => ?_)
  · have hf := kIf_f hf hc
    refine kJ_sub [0, 1, 2, 3, 4, 5] rfl ?_
    exact c_L_areVoices_168 hro k2 k3 k4 hrec14 hf
  · have hf := kIf_t hf hc
    refine kJ_aload_n 79 0 d_L_areVoices_78 rfl rfl rfl rfl ?_
    refine kJ_iload 81 5 d_L_areVoices_79 rfl rfl ?_
    refine kJ_iconst 82 2 d_L_areVoices_81 ki_2 rfl ?_
    obtain ⟨v15, ev15, hf⟩ := kBi_some hf
    refine kM_callv 85 m_P_ofMember [.int x5, .int 2] [] d_L_areVoices_82 cl_L_14 ⟨w_380, w_381⟩ (kp_0).x ⟨rfl, by decide⟩ ⟨_, _, rfl⟩ rfl rfl (Nat.le_of_ble_eq_true rfl) ⟨Nat.le_of_ble_eq_true rfl, Nat.le_of_ble_eq_true rfl⟩ ⟨rfl, rfl⟩ ⟨Nat.le_of_ble_eq_true rfl, Nat.le_of_ble_eq_true rfl⟩ (j_P_ofMember hro ev15) rfl ?_
    refine kJ_iconst 86 1 d_L_areVoices_85 ki_1 rfl ?_
    refine kJ_icmp_ne 89 94 d_L_areVoices_86 rfl rfl (fun hc => ?_) (fun hc => ?_)
    · have hf := kIf_f hf hc
      refine kJ_aload_n 95 0 d_L_areVoices_94 rfl rfl rfl rfl ?_
      refine kJ_iload 97 5 d_L_areVoices_95 rfl rfl ?_
      refine kJ_iload_n 98 1 d_L_areVoices_97 rfl rfl rfl ?_
      obtain ⟨v17, h16, ev17, hf⟩ := kBd_some hf
      refine kM_calls 101 m_L_end [.ref 0, .int x5, .int x1] [] d_L_areVoices_98 cl_L_35 w_496 rfl rfl (Nat.le_of_ble_eq_true rfl) ⟨Nat.le_of_ble_eq_true rfl, Nat.le_of_ble_eq_true rfl⟩ ⟨rfl, rfl⟩ ⟨Nat.le_of_ble_eq_true rfl, Nat.le_of_ble_eq_true rfl⟩ (j_L_end hro ev17) rfl ?_
      refine kJ_sub [0, 1, 2, 3, 4, 5] rfl ?_
      exact c_L_areVoices_101 hro k2 k3 k4 hrec14 hf
    · have hf := kIf_t hf hc
      refine kJ_iload 91 5 d_L_areVoices_89 rfl rfl ?_
      refine kJ_goto 101 d_L_areVoices_91 rfl ?_
      refine kJ_sub [0, 1, 2, 3, 4, 5] rfl ?_
      exact c_L_areVoices_101 hro k2 k3 k4 hrec14 hf
def b_L_areVoices_14 (x1 : Int32) (x2 : Nat) (x3 : Nat) (x4 : Nat) : Nat → kH → Int32 → Option (Bool × kH)
  | 0, _, _ => none
  | n + 1, h, x5 => (fun rec14 => kBi (f_P_count h 1) fun v3 => if v3 ≤ x5 then (b_L_areVoices_194 x1 x4 kFuel h 0) else (kG x5 12 (kLet (hset h x2 (kx x5) (-6)) fun h7 => kBd (f_P_ofItem h7 x1 1) fun v9 h8 => kBi (f_P_ofMember h8 x5 1) fun v10 => if (f_L_has v9 v10) = true then (kBd (f_P_at h8 x5 x1 5) fun v23 h22 => if v23 = 1 then (b_L_areVoices_67 rec14 h22 x1 x2 x3 x4 x5) else (some (false, h22))) else (b_L_areVoices_67 rec14 h8 x1 x2 x3 x4 x5)))) (fun h' x5' => b_L_areVoices_14 x1 x2 x3 x4 n h' x5')
theorem c_L_areVoices_14 {E : kE} {L : Nat} {xs : Nat → Int32} (hro : kRo E L xs) {K : List Nat} {x1 : Int32} {x2 : Nat} {x3 : Nat} {x4 : Nat} (k2 : kX K x2 9) (k3 : kX K x3 9) (k4 : kX K x4 9) {r : Bool} {h' : kH} : ∀ (n : Nat) (h : kH) (x5 : Int32), b_L_areVoices_14 x1 x2 x3 x4 n h x5 = some (r, h') → kJ E m_L_areVoices (some (kB2 r)) (mk K h') 2 24 14 [(0, .ref 0), (1, .int x1), (2, .ref x2), (3, .ref x3), (4, .ref x4), (5, .int x5)] [] (mk K h) := by
  intro n
  induction n with
  | zero =>
    intro h x5 hf
    have hf : (none : Option (Bool × kH)) = some (r, h') := hf
    cases hf
  | succ n hrec14 =>
    intro h x5 hf
    rw [b_L_areVoices_14] at hf
    dsimp only at hf
    refine kJ_iload 16 5 d_L_areVoices_14 rfl rfl ?_
    refine kJ_aload_n 17 0 d_L_areVoices_16 rfl rfl rfl rfl ?_
    refine kJ_iconst 18 1 d_L_areVoices_17 ki_1 rfl ?_
    obtain ⟨v3, ev3, hf⟩ := kBi_some hf
    refine kM_callv 21 m_P_count [.int 1] [.int x5] d_L_areVoices_18 cl_L_28 ⟨w_397, w_398⟩ (kp_0).x ⟨rfl, by decide⟩ ⟨_, _, rfl⟩ rfl rfl (Nat.le_of_ble_eq_true rfl) ⟨Nat.le_of_ble_eq_true rfl, Nat.le_of_ble_eq_true rfl⟩ ⟨rfl, rfl⟩ ⟨Nat.le_of_ble_eq_true rfl, Nat.le_of_ble_eq_true rfl⟩ (j_P_count hro ev3) rfl ?_
    refine kJ_icmp_ge 24 191 d_L_areVoices_21 rfl rfl (fun hc => ?_) (fun hc => ?_)
    · have hf := kIf_t hf hc
      refine kJ_iconst 192 0 d_L_areVoices_191 ki_0 rfl ?_
      refine kJ_istore 194 [(5, .int 0), (0, .ref 0), (1, .int x1), (2, .ref x2), (3, .ref x3), (4, .ref x4)] d_L_areVoices_192 (Nat.le_of_ble_eq_true rfl) rfl rfl ?_
      refine kJ_sub [1, 2, 5, 0] rfl ?_
      exact c_L_areVoices_194 hro k4 kFuel h 0 hf
    · have hf := kIf_f hf hc
      refine kJ_aload_n 25 2 d_L_areVoices_24 rfl rfl rfl rfl ?_
      refine kJ_iload 27 5 d_L_areVoices_25 rfl rfl ?_
      refine kJ_bipush 29 (-6) d_L_areVoices_27 kb_m6 rfl ?_
      obtain ⟨hg, hf⟩ := kG_some hf
      refine kM_iast 30 12 d_L_areVoices_29 k2 rfl hg rfl ?_
      obtain ⟨h7, eh7, hf⟩ := kLet_e hf
      rw [← eh7]
      refine kJ_aload_n 31 0 d_L_areVoices_30 rfl rfl rfl rfl ?_
      refine kJ_iload_n 32 1 d_L_areVoices_31 rfl rfl rfl ?_
      refine kJ_iconst 33 1 d_L_areVoices_32 ki_1 rfl ?_
      obtain ⟨v9, h8, ev9, hf⟩ := kBd_some hf
      refine kM_callv 36 m_P_ofItem [.int x1, .int 1] [] d_L_areVoices_33 cl_L_32 ⟨w_428, w_429⟩ (kp_0).x ⟨rfl, by decide⟩ ⟨_, _, rfl⟩ rfl rfl (Nat.le_of_ble_eq_true rfl) ⟨Nat.le_of_ble_eq_true rfl, Nat.le_of_ble_eq_true rfl⟩ ⟨rfl, rfl⟩ ⟨Nat.le_of_ble_eq_true rfl, Nat.le_of_ble_eq_true rfl⟩ (j_P_ofItem hro ev9) rfl ?_
      refine kJ_aload_n 37 0 d_L_areVoices_36 rfl rfl rfl rfl ?_
      refine kJ_iload 39 5 d_L_areVoices_37 rfl rfl ?_
      refine kJ_iconst 40 1 d_L_areVoices_39 ki_1 rfl ?_
      obtain ⟨v10, ev10, hf⟩ := kBi_some hf
      refine kM_callv 43 m_P_ofMember [.int x5, .int 1] [.int v9] d_L_areVoices_40 cl_L_14 ⟨w_380, w_381⟩ (kp_0).x ⟨rfl, by decide⟩ ⟨_, _, rfl⟩ rfl rfl (Nat.le_of_ble_eq_true rfl) ⟨Nat.le_of_ble_eq_true rfl, Nat.le_of_ble_eq_true rfl⟩ ⟨rfl, rfl⟩ ⟨Nat.le_of_ble_eq_true rfl, Nat.le_of_ble_eq_true rfl⟩ (j_P_ofMember hro ev10) rfl ?_
      refine kM_calls 46 m_L_has [.int v9, .int v10] [] d_L_areVoices_43 cl_L_24 w_483 rfl rfl (Nat.le_of_ble_eq_true rfl) ⟨Nat.le_of_ble_eq_true rfl, Nat.le_of_ble_eq_true rfl⟩ ⟨rfl, rfl⟩ ⟨Nat.le_of_ble_eq_true rfl, Nat.le_of_ble_eq_true rfl⟩ (j_L_has hro rfl) rfl ?_
      refine kJ_istore 48 [(6, .int (kB2 (f_L_has v9 v10))), (0, .ref 0), (1, .int x1), (2, .ref x2), (3, .ref x3), (4, .ref x4), (5, .int x5)] d_L_areVoices_46 (Nat.le_of_ble_eq_true rfl) rfl rfl ?_
      refine kJ_iload 50 0 d_L_areVoices_48 rfl rfl ?_
      refine kJ_if_eq 53 67 d_L_areVoices_50 rfl rfl (fun hc => ?_) (fun hc => ?_)
      · have hf := kIf_f hf (kB2_0 hc)
        refine kJ_sub [1, 2, 3, 4, 5, 6] rfl ?_
        exact c_L_areVoices_67 hro k2 k3 k4 hrec14 hf
      · have hf := kIf_t hf (kB2_1 hc)
        refine kJ_aload_n 54 1 d_L_areVoices_53 rfl rfl rfl rfl ?_
        refine kJ_iload 56 6 d_L_areVoices_54 rfl rfl ?_
        refine kJ_iload_n 57 2 d_L_areVoices_56 rfl rfl rfl ?_
        refine kJ_iconst 58 5 d_L_areVoices_57 ki_5 rfl ?_
        obtain ⟨v23, h22, ev23, hf⟩ := kBd_some hf
        refine kM_callv 61 m_P_at [.int x5, .int x1, .int 5] [] d_L_areVoices_58 cl_L_8 ⟨w_486, w_487⟩ (kp_0).x ⟨rfl, by decide⟩ ⟨_, _, rfl⟩ rfl rfl (Nat.le_of_ble_eq_true rfl) ⟨Nat.le_of_ble_eq_true rfl, Nat.le_of_ble_eq_true rfl⟩ ⟨rfl, rfl⟩ ⟨Nat.le_of_ble_eq_true rfl, Nat.le_of_ble_eq_true rfl⟩ (j_P_at hro ev23) rfl ?_
        refine kJ_iconst 62 1 d_L_areVoices_61 ki_1 rfl ?_
        refine kJ_icmp_eq 65 67 d_L_areVoices_62 rfl rfl (fun hc => ?_) (fun hc => ?_)
        · have hf := kIf_t hf hc
          refine kJ_sub [1, 2, 3, 4, 5, 6] rfl ?_
          exact c_L_areVoices_67 hro k2 k3 k4 hrec14 hf
        · have hf := kIf_f hf hc
          refine kJ_iconst 66 0 d_L_areVoices_65 ki_0 rfl ?_
          cases hf
          exact kJ_iret d_L_areVoices_66 rfl (kB2_z _) (Nat.le_of_ble_eq_true rfl) (Nat.le_of_ble_eq_true rfl)
def f_L_areVoices (K : List Nat) (h : kH) (x1 : Int32) (x2 : Nat) : Option (Bool × kH) := kLet (hfill h (786 + K.length) 12 0) fun h1 => kLet (hfill h1 (786 + (K ++ [9]).length) 12 0) fun h2 => b_L_areVoices_14 x1 x2 (786 + K.length) (786 + (K ++ [9]).length) kFuel h2 0
theorem j_L_areVoices {E : kE} {L : Nat} {xs : Nat → Int32} (hro : kRo E L xs) {K : List Nat} {h : kH} {x1 : Int32} {x2 : Nat} (k2 : kX K x2 9) {r : Bool} {h' : kH} (hf : f_L_areVoices K h x1 x2 = some (r, h')) : JM E m_L_areVoices [.ref 0, .int x1, .ref x2] (mk K h) (some (kB2 r)) (mk (K ++ [9] ++ [9]) h') := by
  unfold f_L_areVoices at hf
  refine JM.of pn_L (Nat.le_of_ble_eq_true rfl) ?_
  show kJ E m_L_areVoices (some (kB2 r)) (mk (K ++ [9] ++ [9]) h') 0 0 0 [(0, .ref 0), (1, .int x1), (2, .ref x2)] [] (mk K h)
  refine kJ_bipush 2 12 d_L_areVoices_0 kb_12 rfl ?_
  refine kX_newa 4 12 9 d_L_areVoices_2 w_101 (by decide) rfl (by decide) rfl (Nat.le_of_ble_eq_true rfl) (Nat.le_of_ble_eq_true rfl) rfl ?_
  obtain ⟨h1, eh1, hf⟩ := kLet_e hf
  rw [← eh1]
  refine kJ_astore_n 5 [(3, .ref (786 + K.length)), (0, .ref 0), (1, .int x1), (2, .ref x2)] d_L_areVoices_4 rfl (Nat.le_of_ble_eq_true rfl) rfl rfl rfl ?_
  refine kJ_bipush 7 12 d_L_areVoices_5 kb_12 rfl ?_
  refine kX_newa 9 12 9 d_L_areVoices_7 w_101 (by decide) rfl (by decide) rfl (Nat.le_of_ble_eq_true rfl) (Nat.le_of_ble_eq_true rfl) rfl ?_
  obtain ⟨h2, eh2, hf⟩ := kLet_e hf
  rw [← eh2]
  refine kJ_astore 11 [(4, .ref (786 + (K ++ [9]).length)), (3, .ref (786 + K.length)), (0, .ref 0), (1, .int x1), (2, .ref x2)] d_L_areVoices_9 (Nat.le_of_ble_eq_true rfl) rfl rfl rfl ?_
  refine kJ_iconst 12 0 d_L_areVoices_11 ki_0 rfl ?_
  refine kJ_istore 14 [(5, .int 0), (4, .ref (786 + (K ++ [9]).length)), (3, .ref (786 + K.length)), (0, .ref 0), (1, .int x1), (2, .ref x2)] d_L_areVoices_12 (Nat.le_of_ble_eq_true rfl) rfl rfl ?_
  refine kJ_sub [3, 4, 5, 2, 1, 0] rfl ?_
  exact c_L_areVoices_14 hro (kX.app (kX.app k2 [9]) [9]) (kX.app (kX_new K 9) [9]) (kX_new (K ++ [9]) 9) kFuel h2 0 hf
def b_L_sums_136 (rec3 : kH → Int32 → Option (kH)) (h : kH) (x1 : Int32) (x2 : Nat) (x3 : Nat) (x4 : Int32) (x6 : Int32) : Option (kH) := kG x6 6 (kBi (f_P_ofMember h x4 0) fun v13 => kG x6 6 (kLet (hset h x3 (kx x6) ((h x3 (kx x6)) + v13)) fun h14 => kG 0 6 (kBd (f_P_at h14 x4 x1 3) fun v16 h15 => if v16 = x6 then (kG 0 6 (kLet (hset h15 x3 (kx 0) ((h14 x3 (kx 0)) - 0)) fun h18 => rec3 h18 (x4 + 1))) else (kG 0 6 (kLet (hset h15 x3 (kx 0) ((h14 x3 (kx 0)) - 1000000)) fun h17 => rec3 h17 (x4 + 1))))))
theorem c_L_sums_136 {E : kE} {L : Nat} {xs : Nat → Int32} (hro : kRo E L xs) {K : List Nat} {rec3 : kH → Int32 → Option (kH)} {h : kH} {x1 : Int32} {x2 : Nat} {x3 : Nat} {x4 : Int32} {x6 : Int32} (k2 : kX K x2 9) (k3 : kX K x3 8) {h' : kH} (hrec3 : ∀ (h : kH) (x4 : Int32), rec3 h x4 = some h' → kJ E m_L_sums none (mk K h') 0 0 3 [(0, .ref 0), (1, .int x1), (2, .ref x2), (3, .ref x3), (4, .int x4)] [] (mk K h)) (hf : b_L_sums_136 rec3 h x1 x2 x3 x4 x6 = some h') : kJ E m_L_sums none (mk K h') 0 0 136 [(0, .ref 0), (1, .int x1), (2, .ref x2), (3, .ref x3), (4, .int x4), (6, .int x6)] [] (mk K h) := by
  unfold b_L_sums_136 at hf
  refine kJ_aload_n 137 3 d_L_sums_136 rfl rfl rfl rfl ?_
  refine kJ_iload 139 5 d_L_sums_137 rfl rfl ?_
  refine kJ_dup2 140 d_L_sums_139 rfl rfl rfl ?_
  obtain ⟨hg, hf⟩ := kG_some hf
  refine kM_iald 141 6 d_L_sums_140 k3 rfl hg rfl ?_
  refine kJ_aload_n 142 0 d_L_sums_141 rfl rfl rfl rfl ?_
  refine kJ_iload 144 4 d_L_sums_142 rfl rfl ?_
  refine kJ_iconst 145 0 d_L_sums_144 ki_0 rfl ?_
  obtain ⟨v13, ev13, hf⟩ := kBi_some hf
  refine kM_callv 148 m_P_ofMember [.int x4, .int 0] [.int (h x3 (kx x6)), .int x6, .ref x3] d_L_sums_145 cl_L_14 ⟨w_380, w_381⟩ (kp_0).x ⟨rfl, by decide⟩ ⟨_, _, rfl⟩ rfl rfl (Nat.le_of_ble_eq_true rfl) ⟨Nat.le_of_ble_eq_true rfl, Nat.le_of_ble_eq_true rfl⟩ ⟨rfl, rfl⟩ ⟨Nat.zero_le _, Nat.zero_le _⟩ (j_P_ofMember hro ev13) rfl ?_
  refine kJ_iadd 149 d_L_sums_148 rfl ?_
  obtain ⟨hg, hf⟩ := kG_some hf
  refine kM_iast 150 6 d_L_sums_149 k3 rfl hg rfl ?_
  obtain ⟨h14, eh14, hf⟩ := kLet_e hf
  rw [← eh14]
  refine kJ_aload_n 151 3 d_L_sums_150 rfl rfl rfl rfl ?_
  refine kJ_iconst 152 0 d_L_sums_151 ki_0 rfl ?_
  refine kJ_dup2 153 d_L_sums_152 rfl rfl rfl ?_
  obtain ⟨hg, hf⟩ := kG_some hf
  refine kM_iald 154 6 d_L_sums_153 k3 rfl hg rfl ?_
  refine kJ_aload_n 155 0 d_L_sums_154 rfl rfl rfl rfl ?_
  refine kJ_iload 157 4 d_L_sums_155 rfl rfl ?_
  refine kJ_iload_n 158 1 d_L_sums_157 rfl rfl rfl ?_
  refine kJ_iconst 159 3 d_L_sums_158 ki_3 rfl ?_
  obtain ⟨v16, h15, ev16, hf⟩ := kBd_some hf
  refine kM_callv 162 m_P_at [.int x4, .int x1, .int 3] [.int (h14 x3 (kx 0)), .int 0, .ref x3] d_L_sums_159 cl_L_8 ⟨w_486, w_487⟩ (kp_0).x ⟨rfl, by decide⟩ ⟨_, _, rfl⟩ rfl rfl (Nat.le_of_ble_eq_true rfl) ⟨Nat.le_of_ble_eq_true rfl, Nat.le_of_ble_eq_true rfl⟩ ⟨rfl, rfl⟩ ⟨Nat.zero_le _, Nat.zero_le _⟩ (j_P_at hro ev16) rfl ?_
  refine kJ_iload 164 5 d_L_sums_162 rfl rfl ?_
  refine kJ_icmp_ne 167 171 d_L_sums_164 rfl rfl (fun hc => ?_) (fun hc => ?_)
  · have hf := kIf_f hf hc
    refine kJ_ldc 173 1000000 d_L_sums_171 w_504 rfl ?_
    refine kJ_isub 174 d_L_sums_173 rfl ?_
    obtain ⟨hg, hf⟩ := kG_some hf
    refine kM_iast 175 6 d_L_sums_174 k3 rfl hg rfl ?_
    obtain ⟨h17, eh17, hf⟩ := kLet_e hf
    rw [← eh17]
    refine kJ_iinc 178 4 [(4, .int (x4 + 1)), (0, .ref 0), (1, .int x1), (2, .ref x2), (3, .ref x3), (6, .int x6)] d_L_sums_175 rfl ki_1 (Nat.le_of_ble_eq_true rfl) rfl rfl ?_
    refine kJ_goto 3 d_L_sums_178 rfl ?_
    refine kJ_sub [1, 2, 3, 4, 0] rfl ?_
    exact hrec3 h17 (x4 + 1) hf
  · have hf := kIf_t hf hc
    refine kJ_iconst 168 0 d_L_sums_167 ki_0 rfl ?_
    refine kJ_goto 173 d_L_sums_168 rfl ?_
    refine kJ_isub 174 d_L_sums_173 rfl ?_
    obtain ⟨hg, hf⟩ := kG_some hf
    refine kM_iast 175 6 d_L_sums_174 k3 rfl hg rfl ?_
    obtain ⟨h18, eh18, hf⟩ := kLet_e hf
    rw [← eh18]
    refine kJ_iinc 178 4 [(4, .int (x4 + 1)), (0, .ref 0), (1, .int x1), (2, .ref x2), (3, .ref x3), (6, .int x6)] d_L_sums_175 rfl ki_1 (Nat.le_of_ble_eq_true rfl) rfl rfl ?_
    refine kJ_goto 3 d_L_sums_178 rfl ?_
    refine kJ_sub [1, 2, 3, 4, 0] rfl ?_
    exact hrec3 h18 (x4 + 1) hf
def b_L_sums_134 (rec3 : kH → Int32 → Option (kH)) (h : kH) (x1 : Int32) (x2 : Nat) (x3 : Nat) (x4 : Int32) (s0 : Int32) : Option (kH) := b_L_sums_136 rec3 h x1 x2 x3 x4 s0
theorem c_L_sums_134 {E : kE} {L : Nat} {xs : Nat → Int32} (hro : kRo E L xs) {K : List Nat} {rec3 : kH → Int32 → Option (kH)} {h : kH} {x1 : Int32} {x2 : Nat} {x3 : Nat} {x4 : Int32} {s0 : Int32} (k2 : kX K x2 9) (k3 : kX K x3 8) {h' : kH} (hrec3 : ∀ (h : kH) (x4 : Int32), rec3 h x4 = some h' → kJ E m_L_sums none (mk K h') 0 0 3 [(0, .ref 0), (1, .int x1), (2, .ref x2), (3, .ref x3), (4, .int x4)] [] (mk K h)) (hf : b_L_sums_134 rec3 h x1 x2 x3 x4 s0 = some h') : kJ E m_L_sums none (mk K h') 0 0 134 [(0, .ref 0), (1, .int x1), (2, .ref x2), (3, .ref x3), (4, .int x4)] [.int s0] (mk K h) := by
  unfold b_L_sums_134 at hf
  refine kJ_istore 136 [(6, .int s0), (0, .ref 0), (1, .int x1), (2, .ref x2), (3, .ref x3), (4, .int x4)] d_L_sums_134 (Nat.le_of_ble_eq_true rfl) rfl rfl ?_
  refine kJ_sub [1, 2, 3, 4, 5, 0] rfl ?_
  exact c_L_sums_136 hro k2 k3 hrec3 hf
def b_L_sums_3 (x1 : Int32) (x2 : Nat) (x3 : Nat) : Nat → kH → Int32 → Option (kH)
  | 0, _, _ => none
  | n + 1, h, x4 => (fun rec3 => kBi (f_P_count h 1) fun v1 => if v1 ≤ x4 then (some h) else (kBd (f_P_at h x4 x1 1) fun v3 h2 => kBd (f_P_at h2 x4 x1 5) fun v5 h4 => if v5 = 1 then (b_L_sums_136 rec3 h4 x1 x2 x3 x4 5) else (if v3 < 0 then (kBi (f_P_ofMember h4 x4 2) fun v6 => if v6 = 1 then (b_L_sums_136 rec3 h4 x1 x2 x3 x4 3) else (kG x4 12 (if 0 ≤ (h4 x2 (kx x4)) then (kBd (f_P_at h4 x4 x1 2) fun v8 h7 => if v8 < 0 then (kG x4 12 (kBd (f_P_at h7 (h7 x2 (kx x4)) x1 1) fun v10 h9 => if 0 ≤ v10 then (kG x4 12 (kBd (f_P_at h9 (h9 x2 (kx x4)) x1 1) fun v12 h11 => b_L_sums_134 rec3 h11 x1 x2 x3 x4 v12)) else (b_L_sums_134 rec3 h9 x1 x2 x3 x4 3))) else (kBd (f_P_at h7 x4 x1 2) fun v20 h19 => b_L_sums_136 rec3 h19 x1 x2 x3 x4 v20)) else (b_L_sums_136 rec3 h4 x1 x2 x3 x4 4)))) else (b_L_sums_136 rec3 h4 x1 x2 x3 x4 v3)))) (fun h' x4' => b_L_sums_3 x1 x2 x3 n h' x4')
theorem c_L_sums_3 {E : kE} {L : Nat} {xs : Nat → Int32} (hro : kRo E L xs) {K : List Nat} {x1 : Int32} {x2 : Nat} {x3 : Nat} (k2 : kX K x2 9) (k3 : kX K x3 8) {h' : kH} : ∀ (n : Nat) (h : kH) (x4 : Int32), b_L_sums_3 x1 x2 x3 n h x4 = some h' → kJ E m_L_sums none (mk K h') 0 0 3 [(0, .ref 0), (1, .int x1), (2, .ref x2), (3, .ref x3), (4, .int x4)] [] (mk K h) := by
  intro n
  induction n with
  | zero =>
    intro h x4 hf
    have hf : (none : Option (kH)) = some h' := hf
    cases hf
  | succ n hrec3 =>
    intro h x4 hf
    rw [b_L_sums_3] at hf
    dsimp only at hf
    refine kJ_iload 5 4 d_L_sums_3 rfl rfl ?_
    refine kJ_aload_n 6 0 d_L_sums_5 rfl rfl rfl rfl ?_
    refine kJ_iconst 7 1 d_L_sums_6 ki_1 rfl ?_
    obtain ⟨v1, ev1, hf⟩ := kBi_some hf
    refine kM_callv 10 m_P_count [.int 1] [.int x4] d_L_sums_7 cl_L_28 ⟨w_397, w_398⟩ (kp_0).x ⟨rfl, by decide⟩ ⟨_, _, rfl⟩ rfl rfl (Nat.le_of_ble_eq_true rfl) ⟨Nat.le_of_ble_eq_true rfl, Nat.le_of_ble_eq_true rfl⟩ ⟨rfl, rfl⟩ ⟨Nat.zero_le _, Nat.zero_le _⟩ (j_P_count hro ev1) rfl ?_
    refine kJ_icmp_ge 13 181 d_L_sums_10 rfl rfl (fun hc => ?_) (fun hc => ?_)
    · have hf := kIf_t hf hc
      cases hf
      exact kJ_ret d_L_sums_181 rfl (Nat.zero_le _) (Nat.zero_le _)
    · have hf := kIf_f hf hc
      refine kJ_aload_n 14 0 d_L_sums_13 rfl rfl rfl rfl ?_
      refine kJ_iload 16 4 d_L_sums_14 rfl rfl ?_
      refine kJ_iload_n 17 1 d_L_sums_16 rfl rfl rfl ?_
      refine kJ_iconst 18 1 d_L_sums_17 ki_1 rfl ?_
      obtain ⟨v3, h2, ev3, hf⟩ := kBd_some hf
      refine kM_callv 21 m_P_at [.int x4, .int x1, .int 1] [] d_L_sums_18 cl_L_8 ⟨w_486, w_487⟩ (kp_0).x ⟨rfl, by decide⟩ ⟨_, _, rfl⟩ rfl rfl (Nat.le_of_ble_eq_true rfl) ⟨Nat.le_of_ble_eq_true rfl, Nat.le_of_ble_eq_true rfl⟩ ⟨rfl, rfl⟩ ⟨Nat.zero_le _, Nat.zero_le _⟩ (j_P_at hro ev3) rfl ?_
      refine kJ_istore 23 [(5, .int v3), (0, .ref 0), (1, .int x1), (2, .ref x2), (3, .ref x3), (4, .int x4)] d_L_sums_21 (Nat.le_of_ble_eq_true rfl) rfl rfl ?_
      refine kJ_aload_n 24 1 d_L_sums_23 rfl rfl rfl rfl ?_
      refine kJ_iload 26 5 d_L_sums_24 rfl rfl ?_
      refine kJ_iload_n 27 2 d_L_sums_26 rfl rfl rfl ?_
      refine kJ_iconst 28 5 d_L_sums_27 ki_5 rfl ?_
      obtain ⟨v5, h4, ev5, hf⟩ := kBd_some hf
      refine kM_callv 31 m_P_at [.int x4, .int x1, .int 5] [] d_L_sums_28 cl_L_8 ⟨w_486, w_487⟩ (kp_0).x ⟨rfl, by decide⟩ ⟨_, _, rfl⟩ rfl rfl (Nat.le_of_ble_eq_true rfl) ⟨Nat.le_of_ble_eq_true rfl, Nat.le_of_ble_eq_true rfl⟩ ⟨rfl, rfl⟩ ⟨Nat.zero_le _, Nat.zero_le _⟩ (j_P_at hro ev5) rfl ?_
      refine kJ_iconst 32 1 d_L_sums_31 ki_1 rfl ?_
      refine kJ_icmp_ne 35 41 d_L_sums_32 rfl rfl (fun hc => ?_) (fun hc => ?_)
      · have hf := kIf_f hf hc
        refine kJ_iload 43 0 d_L_sums_41 rfl rfl ?_
        refine kJ_if_lt 46 53 d_L_sums_43 rfl rfl (fun hc => ?_) (fun hc => ?_)
        · have hf := kIf_t hf hc
          refine kJ_aload_n 54 1 d_L_sums_53 rfl rfl rfl rfl ?_
          refine kJ_iload 56 5 d_L_sums_54 rfl rfl ?_
          refine kJ_iconst 57 2 d_L_sums_56 ki_2 rfl ?_
          obtain ⟨v6, ev6, hf⟩ := kBi_some hf
          refine kM_callv 60 m_P_ofMember [.int x4, .int 2] [] d_L_sums_57 cl_L_14 ⟨w_380, w_381⟩ (kp_0).x ⟨rfl, by decide⟩ ⟨_, _, rfl⟩ rfl rfl (Nat.le_of_ble_eq_true rfl) ⟨Nat.le_of_ble_eq_true rfl, Nat.le_of_ble_eq_true rfl⟩ ⟨rfl, rfl⟩ ⟨Nat.zero_le _, Nat.zero_le _⟩ (j_P_ofMember hro ev6) rfl ?_
          refine kJ_iconst 61 1 d_L_sums_60 ki_1 rfl ?_
          refine kJ_icmp_ne 64 70 d_L_sums_61 rfl rfl (fun hc => ?_) (fun hc => ?_)
          · have hf := kIf_f hf hc
            refine kJ_aload_n 71 3 d_L_sums_70 rfl rfl rfl rfl ?_
            refine kJ_iload 73 5 d_L_sums_71 rfl rfl ?_
            obtain ⟨hg, hf⟩ := kG_some hf
            refine kM_iald 74 12 d_L_sums_73 k2 rfl hg rfl ?_
            refine kJ_if_ge 77 83 d_L_sums_74 rfl rfl (fun hc => ?_) (fun hc => ?_)
            · have hf := kIf_t hf hc
              refine kJ_aload_n 84 1 d_L_sums_83 rfl rfl rfl rfl ?_
              refine kJ_iload 86 5 d_L_sums_84 rfl rfl ?_
              refine kJ_iload_n 87 2 d_L_sums_86 rfl rfl rfl ?_
              refine kJ_iconst 88 2 d_L_sums_87 ki_2 rfl ?_
              obtain ⟨v8, h7, ev8, hf⟩ := kBd_some hf
              refine kM_callv 91 m_P_at [.int x4, .int x1, .int 2] [] d_L_sums_88 cl_L_8 ⟨w_486, w_487⟩ (kp_0).x ⟨rfl, by decide⟩ ⟨_, _, rfl⟩ rfl rfl (Nat.le_of_ble_eq_true rfl) ⟨Nat.le_of_ble_eq_true rfl, Nat.le_of_ble_eq_true rfl⟩ ⟨rfl, rfl⟩ ⟨Nat.zero_le _, Nat.zero_le _⟩ (j_P_at hro ev8) rfl ?_
              refine kJ_if_lt 94 107 d_L_sums_91 rfl rfl (fun hc => ?_) (fun hc => ?_)
              · have hf := kIf_t hf hc
                refine kJ_aload_n 108 1 d_L_sums_107 rfl rfl rfl rfl ?_
                refine kJ_aload_n 109 3 d_L_sums_108 rfl rfl rfl rfl ?_
                refine kJ_iload 111 5 d_L_sums_109 rfl rfl ?_
                obtain ⟨hg, hf⟩ := kG_some hf
                refine kM_iald 112 12 d_L_sums_111 k2 rfl hg rfl ?_
                refine kJ_iload_n 113 2 d_L_sums_112 rfl rfl rfl ?_
                refine kJ_iconst 114 1 d_L_sums_113 ki_1 rfl ?_
                obtain ⟨v10, h9, ev10, hf⟩ := kBd_some hf
                refine kM_callv 117 m_P_at [.int (h7 x2 (kx x4)), .int x1, .int 1] [] d_L_sums_114 cl_L_8 ⟨w_486, w_487⟩ (kp_0).x ⟨rfl, by decide⟩ ⟨_, _, rfl⟩ rfl rfl (Nat.le_of_ble_eq_true rfl) ⟨Nat.le_of_ble_eq_true rfl, Nat.le_of_ble_eq_true rfl⟩ ⟨rfl, rfl⟩ ⟨Nat.zero_le _, Nat.zero_le _⟩ (j_P_at hro ev10) rfl ?_
                refine kJ_if_ge 120 124 d_L_sums_117 rfl rfl (fun hc => ?_) (fun hc => ?_)
                · have hf := kIf_t hf hc
                  refine kJ_aload_n 125 1 d_L_sums_124 rfl rfl rfl rfl ?_
                  refine kJ_aload_n 126 3 d_L_sums_125 rfl rfl rfl rfl ?_
                  refine kJ_iload 128 5 d_L_sums_126 rfl rfl ?_
                  obtain ⟨hg, hf⟩ := kG_some hf
                  refine kM_iald 129 12 d_L_sums_128 k2 rfl hg rfl ?_
                  refine kJ_iload_n 130 2 d_L_sums_129 rfl rfl rfl ?_
                  refine kJ_iconst 131 1 d_L_sums_130 ki_1 rfl ?_
                  obtain ⟨v12, h11, ev12, hf⟩ := kBd_some hf
                  refine kM_callv 134 m_P_at [.int (h9 x2 (kx x4)), .int x1, .int 1] [] d_L_sums_131 cl_L_8 ⟨w_486, w_487⟩ (kp_0).x ⟨rfl, by decide⟩ ⟨_, _, rfl⟩ rfl rfl (Nat.le_of_ble_eq_true rfl) ⟨Nat.le_of_ble_eq_true rfl, Nat.le_of_ble_eq_true rfl⟩ ⟨rfl, rfl⟩ ⟨Nat.zero_le _, Nat.zero_le _⟩ (j_P_at hro ev12) rfl ?_
                  refine kJ_sub [1, 2, 3, 4, 5] rfl ?_
                  exact c_L_sums_134 hro k2 k3 hrec3 hf
                · have hf := kIf_f hf hc
                  refine kJ_iconst 121 3 d_L_sums_120 ki_3 rfl ?_
                  refine kJ_goto 134 d_L_sums_121 rfl ?_
                  refine kJ_sub [1, 2, 3, 4, 5] rfl ?_
                  exact c_L_sums_134 hro k2 k3 hrec3 hf
              · have hf := kIf_f hf hc
                refine kJ_aload_n 95 1 d_L_sums_94 rfl rfl rfl rfl ?_
                refine kJ_iload 97 5 d_L_sums_95 rfl rfl ?_
                refine kJ_iload_n 98 2 d_L_sums_97 rfl rfl rfl ?_
                refine kJ_iconst 99 2 d_L_sums_98 ki_2 rfl ?_
                obtain ⟨v20, h19, ev20, hf⟩ := kBd_some hf
                refine kM_callv 102 m_P_at [.int x4, .int x1, .int 2] [] d_L_sums_99 cl_L_8 ⟨w_486, w_487⟩ (kp_0).x ⟨rfl, by decide⟩ ⟨_, _, rfl⟩ rfl rfl (Nat.le_of_ble_eq_true rfl) ⟨Nat.le_of_ble_eq_true rfl, Nat.le_of_ble_eq_true rfl⟩ ⟨rfl, rfl⟩ ⟨Nat.zero_le _, Nat.zero_le _⟩ (j_P_at hro ev20) rfl ?_
                refine kJ_istore 104 [(6, .int v20), (5, .int v3), (0, .ref 0), (1, .int x1), (2, .ref x2), (3, .ref x3), (4, .int x4)] d_L_sums_102 (Nat.le_of_ble_eq_true rfl) rfl rfl ?_
                refine kJ_goto 136 d_L_sums_104 rfl ?_
                refine kJ_sub [2, 3, 4, 5, 6, 0] rfl ?_
                exact c_L_sums_136 hro k2 k3 hrec3 hf
            · have hf := kIf_f hf hc
              refine kJ_iconst 78 4 d_L_sums_77 ki_4 rfl ?_
              refine kJ_istore 80 [(6, .int 4), (5, .int v3), (0, .ref 0), (1, .int x1), (2, .ref x2), (3, .ref x3), (4, .int x4)] d_L_sums_78 (Nat.le_of_ble_eq_true rfl) rfl rfl ?_
              refine kJ_goto 136 d_L_sums_80 rfl ?_
              refine kJ_sub [2, 3, 4, 5, 6, 0] rfl ?_
              exact c_L_sums_136 hro k2 k3 hrec3 hf
          · have hf := kIf_t hf hc
            refine kJ_iconst 65 3 d_L_sums_64 ki_3 rfl ?_
            refine kJ_istore 67 [(6, .int 3), (5, .int v3), (0, .ref 0), (1, .int x1), (2, .ref x2), (3, .ref x3), (4, .int x4)] d_L_sums_65 (Nat.le_of_ble_eq_true rfl) rfl rfl ?_
            refine kJ_goto 136 d_L_sums_67 rfl ?_
            refine kJ_sub [2, 3, 4, 5, 6, 0] rfl ?_
            exact c_L_sums_136 hro k2 k3 hrec3 hf
        · have hf := kIf_f hf hc
          refine kJ_iload 48 0 d_L_sums_46 rfl rfl ?_
          refine kJ_istore 50 [(6, .int v3), (5, .int v3), (0, .ref 0), (1, .int x1), (2, .ref x2), (3, .ref x3), (4, .int x4)] d_L_sums_48 (Nat.le_of_ble_eq_true rfl) rfl rfl ?_
          refine kJ_goto 136 d_L_sums_50 rfl ?_
          refine kJ_sub [2, 3, 4, 5, 6, 0] rfl ?_
          exact c_L_sums_136 hro k2 k3 hrec3 hf
      · have hf := kIf_t hf hc
        refine kJ_iconst 36 5 d_L_sums_35 ki_5 rfl ?_
        refine kJ_istore 38 [(6, .int 5), (5, .int v3), (0, .ref 0), (1, .int x1), (2, .ref x2), (3, .ref x3), (4, .int x4)] d_L_sums_36 (Nat.le_of_ble_eq_true rfl) rfl rfl ?_
        refine kJ_goto 136 d_L_sums_38 rfl ?_
        refine kJ_sub [2, 3, 4, 5, 6, 0] rfl ?_
        exact c_L_sums_136 hro k2 k3 hrec3 hf
def f_L_sums (h : kH) (x1 : Int32) (x2 : Nat) (x3 : Nat) : Option (kH) := b_L_sums_3 x1 x2 x3 kFuel h 0
theorem j_L_sums {E : kE} {L : Nat} {xs : Nat → Int32} (hro : kRo E L xs) {K : List Nat} {h : kH} {x1 : Int32} {x2 : Nat} {x3 : Nat} (k2 : kX K x2 9) (k3 : kX K x3 8) {h' : kH} (hf : f_L_sums h x1 x2 x3 = some h') : JM E m_L_sums [.ref 0, .int x1, .ref x2, .ref x3] (mk K h) none (mk K h') := by
  unfold f_L_sums at hf
  refine JM.of pn_L (Nat.le_of_ble_eq_true rfl) ?_
  show kJ E m_L_sums none (mk K h') 0 0 0 [(0, .ref 0), (1, .int x1), (2, .ref x2), (3, .ref x3)] [] (mk K h)
  refine kJ_iconst 1 0 d_L_sums_0 ki_0 rfl ?_
  refine kJ_istore 3 [(4, .int 0), (0, .ref 0), (1, .int x1), (2, .ref x2), (3, .ref x3)] d_L_sums_1 (Nat.le_of_ble_eq_true rfl) rfl rfl ?_
  refine kJ_sub [1, 2, 3, 4, 0] rfl ?_
  exact c_L_sums_3 hro k2 k3 kFuel h 0 hf
def b_L_there_30 (rec4 : Int32 → Int32 → Option Int32) (h : kH) (x1 : Nat) (x3 : Int32) (s0 : Int32) : Option Int32 := kBi (f_P_ofMember h x3 0) fun v3 => rec4 (s0 + v3) (x3 + 1)
theorem c_L_there_30 {E : kE} {L : Nat} {xs : Nat → Int32} (hro : kRo E L xs) {K : List Nat} {rec4 : Int32 → Int32 → Option Int32} {h : kH} {x1 : Nat} {x3 : Int32} {s0 : Int32} (k1 : kX K x1 9) {r : Int32} (hrec4 : ∀ (x2 : Int32) (x3 : Int32), rec4 x2 x3 = some r → kJ E m_L_there (some r) (mk K h) 0 0 4 [(0, .ref 0), (1, .ref x1), (2, .int x2), (3, .int x3)] [] (mk K h)) (hf : b_L_there_30 rec4 h x1 x3 s0 = some r) : kJ E m_L_there (some r) (mk K h) 0 0 30 [(0, .ref 0), (1, .ref x1), (3, .int x3)] [.int s0] (mk K h) := by
  unfold b_L_there_30 at hf
  refine kJ_aload_n 31 0 d_L_there_30 rfl rfl rfl rfl ?_
  refine kJ_iload_n 32 2 d_L_there_31 rfl rfl rfl ?_
  refine kJ_iconst 33 0 d_L_there_32 ki_0 rfl ?_
  obtain ⟨v3, ev3, hf⟩ := kBi_some hf
  refine kM_callv 36 m_P_ofMember [.int x3, .int 0] [.int s0] d_L_there_33 cl_L_14 ⟨w_380, w_381⟩ (kp_0).x ⟨rfl, by decide⟩ ⟨_, _, rfl⟩ rfl rfl (Nat.le_of_ble_eq_true rfl) ⟨Nat.le_of_ble_eq_true rfl, Nat.le_of_ble_eq_true rfl⟩ ⟨rfl, rfl⟩ ⟨Nat.zero_le _, Nat.zero_le _⟩ (j_P_ofMember hro ev3) rfl ?_
  refine kJ_goto 40 d_L_there_36 rfl ?_
  refine kJ_iadd 41 d_L_there_40 rfl ?_
  refine kJ_istore_n 42 [(2, .int (s0 + v3)), (0, .ref 0), (1, .ref x1), (3, .int x3)] d_L_there_41 rfl (Nat.le_of_ble_eq_true rfl) rfl rfl ?_
  refine kJ_iinc 45 3 [(3, .int (x3 + 1)), (2, .int (s0 + v3)), (0, .ref 0), (1, .ref x1)] d_L_there_42 rfl ki_1 (Nat.le_of_ble_eq_true rfl) rfl rfl ?_
  refine kJ_goto 4 d_L_there_45 rfl ?_
  refine kJ_sub [2, 3, 1, 0] rfl ?_
  exact hrec4 (s0 + v3) (x3 + 1) hf
def b_L_there_4 (h : kH) (x1 : Nat) : Nat → Int32 → Int32 → Option Int32
  | 0, _, _ => none
  | n + 1, x2, x3 => (fun rec4 => kBi (f_P_count h 1) fun v1 => if v1 ≤ x3 then (some x2) else (kBi (f_P_ofMember h x3 2) fun v2 => if v2 = 1 then (b_L_there_30 rec4 h x1 x3 x2) else (kG x3 12 (if (h x1 (kx x3)) < 0 then (rec4 (x2 + 0) (x3 + 1)) else (b_L_there_30 rec4 h x1 x3 x2))))) (fun x2' x3' => b_L_there_4 h x1 n x2' x3')
theorem c_L_there_4 {E : kE} {L : Nat} {xs : Nat → Int32} (hro : kRo E L xs) {K : List Nat} {h : kH} {x1 : Nat} (k1 : kX K x1 9) {r : Int32} : ∀ (n : Nat) (x2 : Int32) (x3 : Int32), b_L_there_4 h x1 n x2 x3 = some r → kJ E m_L_there (some r) (mk K h) 0 0 4 [(0, .ref 0), (1, .ref x1), (2, .int x2), (3, .int x3)] [] (mk K h) := by
  intro n
  induction n with
  | zero =>
    intro x2 x3 hf
    have hf : (none : Option Int32) = some r := hf
    cases hf
  | succ n hrec4 =>
    intro x2 x3 hf
    rw [b_L_there_4] at hf
    dsimp only at hf
    refine kJ_iload_n 5 3 d_L_there_4 rfl rfl rfl ?_
    refine kJ_aload_n 6 0 d_L_there_5 rfl rfl rfl rfl ?_
    refine kJ_iconst 7 1 d_L_there_6 ki_1 rfl ?_
    obtain ⟨v1, ev1, hf⟩ := kBi_some hf
    refine kM_callv 10 m_P_count [.int 1] [.int x3] d_L_there_7 cl_L_28 ⟨w_397, w_398⟩ (kp_0).x ⟨rfl, by decide⟩ ⟨_, _, rfl⟩ rfl rfl (Nat.le_of_ble_eq_true rfl) ⟨Nat.le_of_ble_eq_true rfl, Nat.le_of_ble_eq_true rfl⟩ ⟨rfl, rfl⟩ ⟨Nat.zero_le _, Nat.zero_le _⟩ (j_P_count hro ev1) rfl ?_
    refine kJ_icmp_ge 13 48 d_L_there_10 rfl rfl (fun hc => ?_) (fun hc => ?_)
    · have hf := kIf_t hf hc
      refine kJ_iload_n 49 2 d_L_there_48 rfl rfl rfl ?_
      cases hf
      exact kJ_iret d_L_there_49 rfl rfl (Nat.zero_le _) (Nat.zero_le _)
    · have hf := kIf_f hf hc
      refine kJ_iload_n 14 2 d_L_there_13 rfl rfl rfl ?_
      refine kJ_aload_n 15 0 d_L_there_14 rfl rfl rfl rfl ?_
      refine kJ_iload_n 16 3 d_L_there_15 rfl rfl rfl ?_
      refine kJ_iconst 17 2 d_L_there_16 ki_2 rfl ?_
      obtain ⟨v2, ev2, hf⟩ := kBi_some hf
      refine kM_callv 20 m_P_ofMember [.int x3, .int 2] [.int x2] d_L_there_17 cl_L_14 ⟨w_380, w_381⟩ (kp_0).x ⟨rfl, by decide⟩ ⟨_, _, rfl⟩ rfl rfl (Nat.le_of_ble_eq_true rfl) ⟨Nat.le_of_ble_eq_true rfl, Nat.le_of_ble_eq_true rfl⟩ ⟨rfl, rfl⟩ ⟨Nat.zero_le _, Nat.zero_le _⟩ (j_P_ofMember hro ev2) rfl ?_
      refine kJ_iconst 21 1 d_L_there_20 ki_1 rfl ?_
      refine kJ_icmp_eq 24 30 d_L_there_21 rfl rfl (fun hc => ?_) (fun hc => ?_)
      · have hf := kIf_t hf hc
        refine kJ_sub [0, 1, 3] rfl ?_
        exact c_L_there_30 hro k1 hrec4 hf
      · have hf := kIf_f hf hc
        refine kJ_aload_n 25 1 d_L_there_24 rfl rfl rfl rfl ?_
        refine kJ_iload_n 26 3 d_L_there_25 rfl rfl rfl ?_
        obtain ⟨hg, hf⟩ := kG_some hf
        refine kM_iald 27 12 d_L_there_26 k1 rfl hg rfl ?_
        refine kJ_if_lt 30 39 d_L_there_27 rfl rfl (fun hc => ?_) (fun hc => ?_)
        · have hf := kIf_t hf hc
          refine kJ_iconst 40 0 d_L_there_39 ki_0 rfl ?_
          refine kJ_iadd 41 d_L_there_40 rfl ?_
          refine kJ_istore_n 42 [(2, .int (x2 + 0)), (0, .ref 0), (1, .ref x1), (3, .int x3)] d_L_there_41 rfl (Nat.le_of_ble_eq_true rfl) rfl rfl ?_
          refine kJ_iinc 45 3 [(3, .int (x3 + 1)), (2, .int (x2 + 0)), (0, .ref 0), (1, .ref x1)] d_L_there_42 rfl ki_1 (Nat.le_of_ble_eq_true rfl) rfl rfl ?_
          refine kJ_goto 4 d_L_there_45 rfl ?_
          refine kJ_sub [2, 3, 1, 0] rfl ?_
          exact hrec4 (x2 + 0) (x3 + 1) hf
        · have hf := kIf_f hf hc
          refine kJ_sub [0, 1, 3] rfl ?_
          exact c_L_there_30 hro k1 hrec4 hf
def f_L_there (h : kH) (x1 : Nat) : Option Int32 := b_L_there_4 h x1 kFuel 0 0
theorem j_L_there {E : kE} {L : Nat} {xs : Nat → Int32} (hro : kRo E L xs) {K : List Nat} {h : kH} {x1 : Nat} (k1 : kX K x1 9) {r : Int32} (hf : f_L_there h x1 = some r) : JM E m_L_there [.ref 0, .ref x1] (mk K h) (some r) (mk K h) := by
  unfold f_L_there at hf
  refine JM.of pn_L (Nat.le_of_ble_eq_true rfl) ?_
  show kJ E m_L_there (some r) (mk K h) 0 0 0 [(0, .ref 0), (1, .ref x1)] [] (mk K h)
  refine kJ_iconst 1 0 d_L_there_0 ki_0 rfl ?_
  refine kJ_istore_n 2 [(2, .int 0), (0, .ref 0), (1, .ref x1)] d_L_there_1 rfl (Nat.le_of_ble_eq_true rfl) rfl rfl ?_
  refine kJ_iconst 3 0 d_L_there_2 ki_0 rfl ?_
  refine kJ_istore_n 4 [(3, .int 0), (2, .int 0), (0, .ref 0), (1, .ref x1)] d_L_there_3 rfl (Nat.le_of_ble_eq_true rfl) rfl rfl ?_
  refine kJ_sub [2, 3, 1, 0] rfl ?_
  exact c_L_there_4 hro k1 kFuel 0 0 hf
def b_L_isQuorum_32 (h : kH) (s0 : Int32) (s1 : Int32) (s3 : Int32) : Option Bool := kBi (f_P_count h s3) fun v4 => if s0 < (s1 * v4) then (some false) else (some true)
theorem c_L_isQuorum_32 {E : kE} {L : Nat} {xs : Nat → Int32} (hro : kRo E L xs) {K : List Nat} {h : kH} {s0 : Int32} {s1 : Int32} {s3 : Int32} {r : Bool} (hf : b_L_isQuorum_32 h s0 s1 s3 = some r) : kJ E m_L_isQuorum (some (kB2 r)) (mk K h) 0 0 32 [] [.int s3, .ref 0, .int s1, .int s0] (mk K h) := by
  unfold b_L_isQuorum_32 at hf
  obtain ⟨v4, ev4, hf⟩ := kBi_some hf
  refine kM_callv 35 m_P_count [.int s3] [.int s1, .int s0] d_L_isQuorum_32 cl_L_28 ⟨w_397, w_398⟩ (kp_0).x ⟨rfl, by decide⟩ ⟨_, _, rfl⟩ rfl rfl (Nat.le_of_ble_eq_true rfl) ⟨Nat.le_of_ble_eq_true rfl, Nat.le_of_ble_eq_true rfl⟩ ⟨rfl, rfl⟩ ⟨Nat.zero_le _, Nat.zero_le _⟩ (j_P_count hro ev4) rfl ?_
  refine kJ_imul 36 d_L_isQuorum_35 rfl ?_
  refine kJ_icmp_lt 39 43 d_L_isQuorum_36 rfl rfl (fun hc => ?_) (fun hc => ?_)
  · have hf := kIf_t hf hc
    refine kJ_iconst 44 0 d_L_isQuorum_43 ki_0 rfl ?_
    cases hf
    exact kJ_iret d_L_isQuorum_44 rfl (kB2_z _) (Nat.zero_le _) (Nat.zero_le _)
  · have hf := kIf_f hf hc
    refine kJ_iconst 40 1 d_L_isQuorum_39 ki_1 rfl ?_
    refine kJ_goto 44 d_L_isQuorum_40 rfl ?_
    cases hf
    exact kJ_iret d_L_isQuorum_44 rfl (kB2_z _) (Nat.zero_le _) (Nat.zero_le _)
def f_L_isQuorum (h : kH) (x1 : Int32) : Option Bool := kBi (f_P_count h 7) fun v1 => kBi (f_P_count h 0) fun v2 => kBi (f_P_count h 18) fun v3 => if v2 < v3 then (b_L_isQuorum_32 h (100 * x1) v1 16) else (b_L_isQuorum_32 h (100 * x1) v1 17)
theorem j_L_isQuorum {E : kE} {L : Nat} {xs : Nat → Int32} (hro : kRo E L xs) {K : List Nat} {h : kH} {x1 : Int32} {r : Bool} (hf : f_L_isQuorum h x1 = some r) : JM E m_L_isQuorum [.ref 0, .int x1] (mk K h) (some (kB2 r)) (mk K h) := by
  unfold f_L_isQuorum at hf
  refine JM.of pn_L (Nat.le_of_ble_eq_true rfl) ?_
  show kJ E m_L_isQuorum (some (kB2 r)) (mk K h) 0 0 0 [(0, .ref 0), (1, .int x1)] [] (mk K h)
  refine kJ_bipush 2 100 d_L_isQuorum_0 kb_100 rfl ?_
  refine kJ_iload_n 3 1 d_L_isQuorum_2 rfl rfl rfl ?_
  refine kJ_imul 4 d_L_isQuorum_3 rfl ?_
  refine kJ_aload_n 5 0 d_L_isQuorum_4 rfl rfl rfl rfl ?_
  refine kJ_bipush 7 7 d_L_isQuorum_5 kb_7 rfl ?_
  obtain ⟨v1, ev1, hf⟩ := kBi_some hf
  refine kM_callv 10 m_P_count [.int 7] [.int (100 * x1)] d_L_isQuorum_7 cl_L_28 ⟨w_397, w_398⟩ (kp_0).x ⟨rfl, by decide⟩ ⟨_, _, rfl⟩ rfl rfl (Nat.le_of_ble_eq_true rfl) ⟨Nat.le_of_ble_eq_true rfl, Nat.le_of_ble_eq_true rfl⟩ ⟨rfl, rfl⟩ ⟨Nat.zero_le _, Nat.zero_le _⟩ (j_P_count hro ev1) rfl ?_
  refine kJ_aload_n 11 0 d_L_isQuorum_10 rfl rfl rfl rfl ?_
  refine kJ_aload_n 12 0 d_L_isQuorum_11 rfl rfl rfl rfl ?_
  refine kJ_iconst 13 0 d_L_isQuorum_12 ki_0 rfl ?_
  obtain ⟨v2, ev2, hf⟩ := kBi_some hf
  refine kM_callv 16 m_P_count [.int 0] [.ref 0, .int v1, .int (100 * x1)] d_L_isQuorum_13 cl_L_28 ⟨w_397, w_398⟩ (kp_0).x ⟨rfl, by decide⟩ ⟨_, _, rfl⟩ rfl rfl (Nat.le_of_ble_eq_true rfl) ⟨Nat.le_of_ble_eq_true rfl, Nat.le_of_ble_eq_true rfl⟩ ⟨rfl, rfl⟩ ⟨Nat.zero_le _, Nat.zero_le _⟩ (j_P_count hro ev2) rfl ?_
  refine kJ_aload_n 17 0 d_L_isQuorum_16 rfl rfl rfl rfl ?_
  refine kJ_bipush 19 18 d_L_isQuorum_17 kb_18 rfl ?_
  obtain ⟨v3, ev3, hf⟩ := kBi_some hf
  refine kM_callv 22 m_P_count [.int 18] [.int v2, .ref 0, .int v1, .int (100 * x1)] d_L_isQuorum_19 cl_L_28 ⟨w_397, w_398⟩ (kp_0).x ⟨rfl, by decide⟩ ⟨_, _, rfl⟩ rfl rfl (Nat.le_of_ble_eq_true rfl) ⟨Nat.le_of_ble_eq_true rfl, Nat.le_of_ble_eq_true rfl⟩ ⟨rfl, rfl⟩ ⟨Nat.zero_le _, Nat.zero_le _⟩ (j_P_count hro ev3) rfl ?_
  refine kJ_icmp_lt 25 30 d_L_isQuorum_22 rfl rfl (fun hc => ?_) (fun hc => ?_)
  · have hf := kIf_t hf hc
    refine kJ_bipush 32 16 d_L_isQuorum_30 kb_16 rfl ?_
    refine kJ_sub [] rfl ?_
    exact c_L_isQuorum_32 hro hf
  · have hf := kIf_f hf hc
    refine kJ_bipush 27 17 d_L_isQuorum_25 kb_17 rfl ?_
    refine kJ_goto 32 d_L_isQuorum_27 rfl ?_
    refine kJ_sub [] rfl ?_
    exact c_L_isQuorum_32 hro hf
