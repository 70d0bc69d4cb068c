/-! CODE of the methods as functions, with certificates: printed by wip/whole/emit.py. -/
def b_M_undo_22 : Nat → kH → Int32 → Option (Int32 × kH)
  | 0, _, _ => none
  | n + 1, h, x1 => (fun rec22 => if 760 ≤ x1 then (some ((h 786 3), h)) else (kG (((h 786 3) * 760) + x1) 4560 (kG x1 760 (kLet (hset h 787 (kx x1) (h 789 (kx (((h 786 3) * 760) + x1)))) fun h2 => rec22 h2 (x1 + 1))))) (fun h' x1' => b_M_undo_22 n h' x1')
theorem c_M_undo_22 {E : kE} {L : Nat} {xs : Nat → Int32} (hro : kRo E L xs) {r : Int32} {h' : kH} : ∀ (n : Nat) (h : kH) (x1 : Int32), b_M_undo_22 n h x1 = some (r, h') → kJ E m_M_undo (some r) (mk h') 0 0 22 [(0, .ref 786), (1, .int x1)] [] (mk h) := by
  intro n
  induction n with
  | zero =>
    intro h x1 hf
    have hf : (none : Option (Int32 × kH)) = some (r, h') := hf
    cases hf
  | succ n hrec22 =>
    intro h x1 hf
    rw [b_M_undo_22] at hf
    dsimp only at hf
    refine kJ_iload_n 23 1 d_M_undo_22 rfl rfl rfl ?_
    refine kJ_sipush 26 760 d_M_undo_23 ks_760 rfl ?_
    refine kJ_icmp_ge 29 56 d_M_undo_26 rfl rfl (fun hc => ?_) (fun hc => ?_)
    · have hf := kIf_t hf hc
      refine kJ_aload_n 57 0 d_M_undo_56 rfl rfl rfl rfl ?_
      refine kM_getI 60 d_M_undo_57 l_M_45 km_786 rfl rfl rfl ?_
      cases hf
      exact kJ_iret d_M_undo_60 rfl rfl (Nat.zero_le _) (Nat.zero_le _)
    · have hf := kIf_f hf hc
      refine kJ_aload_n 30 0 d_M_undo_29 rfl rfl rfl rfl ?_
      refine kM_getR 33 0 787 d_M_undo_30 l_M_7 km_786 rfl rfl rfl rfl ?_
      refine kJ_iload_n 34 1 d_M_undo_33 rfl rfl rfl ?_
      refine kJ_aload_n 35 0 d_M_undo_34 rfl rfl rfl rfl ?_
      refine kM_getR 38 2 789 d_M_undo_35 l_M_16 km_786 rfl rfl rfl rfl ?_
      refine kJ_aload_n 39 0 d_M_undo_38 rfl rfl rfl rfl ?_
      refine kM_getI 42 d_M_undo_39 l_M_45 km_786 rfl rfl rfl ?_
      refine kJ_sipush 45 760 d_M_undo_42 ks_760 rfl ?_
      refine kJ_imul 46 d_M_undo_45 rfl ?_
      refine kJ_iload_n 47 1 d_M_undo_46 rfl rfl rfl ?_
      refine kJ_iadd 48 d_M_undo_47 rfl ?_
      obtain ⟨hg, hf⟩ := kG_some hf
      refine kM_iald 49 4560 d_M_undo_48 km_789 rfl hg rfl ?_
      obtain ⟨hg, hf⟩ := kG_some hf
      refine kM_iast 50 760 d_M_undo_49 km_787 rfl hg rfl ?_
      obtain ⟨h2, eh2, hf⟩ := kLet_e hf
      rw [← eh2]
      refine kJ_iinc 53 1 [(1, .int (x1 + 1)), (0, .ref 786)] d_M_undo_50 rfl ki_1 (Nat.le_of_ble_eq_true rfl) rfl rfl ?_
      refine kJ_goto 22 d_M_undo_53 rfl ?_
      refine kJ_sub [1, 0] rfl ?_
      exact hrec22 h2 (x1 + 1) hf
def f_M_undo (h : kH) : Option (Int32 × kH) := if (h 786 3) = 0 then (some ((-5), h)) else (kLet (hset h 786 3 ((h 786 3) - 1)) fun h1 => b_M_undo_22  kFuel h1 0)
theorem j_M_undo {E : kE} {L : Nat} {xs : Nat → Int32} (hro : kRo E L xs) {h : kH} {r : Int32} {h' : kH} (hf : f_M_undo h = some (r, h')) : JM E m_M_undo [.ref 786] (mk h) (some r) (mk h') := by
  unfold f_M_undo at hf
  refine JM.of pn_M (Nat.le_of_ble_eq_true rfl) ?_
  show kJ E m_M_undo (some r) (mk h') 0 0 0 [(0, .ref 786)] [] (mk h)
  refine kJ_aload_n 1 0 d_M_undo_0 rfl rfl rfl rfl ?_
  refine kM_getI 4 d_M_undo_1 l_M_45 km_786 rfl rfl rfl ?_
  refine kJ_if_ne 7 10 d_M_undo_4 rfl rfl (fun hc => ?_) (fun hc => ?_)
  · have hf := kIf_f hf hc
    refine kJ_aload_n 11 0 d_M_undo_10 rfl rfl rfl rfl ?_
    refine kJ_dup 12 d_M_undo_11 rfl rfl ?_
    refine kM_getI 15 d_M_undo_12 l_M_45 km_786 rfl rfl rfl ?_
    refine kJ_iconst 16 1 d_M_undo_15 ki_1 rfl ?_
    refine kJ_isub 17 d_M_undo_16 rfl ?_
    refine kM_put 20 d_M_undo_17 l_M_45 km_786 rfl rfl (kFit_int _) rfl ?_
    obtain ⟨h1, eh1, hf⟩ := kLet_e hf
    rw [← eh1]
    refine kJ_iconst 21 0 d_M_undo_20 ki_0 rfl ?_
    refine kJ_istore_n 22 [(1, .int 0), (0, .ref 786)] d_M_undo_21 rfl (Nat.le_of_ble_eq_true rfl) rfl rfl ?_
    refine kJ_sub [1, 0] rfl ?_
    exact c_M_undo_22 hro kFuel h1 0 hf
  · have hf := kIf_t hf hc
    refine kJ_bipush 9 (-5) d_M_undo_7 kb_m5 rfl ?_
    cases hf
    exact kJ_iret d_M_undo_9 rfl rfl (Nat.zero_le _) (Nat.zero_le _)
def b_M_save_14 (x1 : Int32) : Nat → kH → Int32 → Option (Int32 × kH)
  | 0, _, _ => none
  | n + 1, h, x2 => (fun rec14 => if 760 ≤ x2 then (kG x1 2 (kLet (hset h 791 (kx x1) (vp_nar .boolean 1)) fun h1 => kG 6 760 (some ((h1 787 (kx 6)), h1)))) else (kG x2 760 (kG ((x1 * 760) + x2) 1520 (kLet (hset h 790 (kx ((x1 * 760) + x2)) (h 787 (kx x2))) fun h2 => rec14 h2 (x2 + 1))))) (fun h' x2' => b_M_save_14 x1 n h' x2')
theorem c_M_save_14 {E : kE} {L : Nat} {xs : Nat → Int32} (hro : kRo E L xs) {x1 : Int32} {r : Int32} {h' : kH} : ∀ (n : Nat) (h : kH) (x2 : Int32), b_M_save_14 x1 n h x2 = some (r, h') → kJ E m_M_save (some r) (mk h') 0 0 14 [(0, .ref 786), (1, .int x1), (2, .int x2)] [] (mk h) := by
  intro n
  induction n with
  | zero =>
    intro h x2 hf
    have hf : (none : Option (Int32 × kH)) = some (r, h') := hf
    cases hf
  | succ n hrec14 =>
    intro h x2 hf
    rw [b_M_save_14] at hf
    dsimp only at hf
    refine kJ_iload_n 15 2 d_M_save_14 rfl rfl rfl ?_
    refine kJ_sipush 18 760 d_M_save_15 ks_760 rfl ?_
    refine kJ_icmp_ge 21 45 d_M_save_18 rfl rfl (fun hc => ?_) (fun hc => ?_)
    · have hf := kIf_t hf hc
      refine kJ_aload_n 46 0 d_M_save_45 rfl rfl rfl rfl ?_
      refine kM_getR 49 4 791 d_M_save_46 l_M_22 km_786 rfl rfl rfl rfl ?_
      refine kJ_iload_n 50 1 d_M_save_49 rfl rfl rfl ?_
      refine kJ_iconst 51 1 d_M_save_50 ki_1 rfl ?_
      obtain ⟨hg, hf⟩ := kG_some hf
      refine kM_zast 52 2 d_M_save_51 km_791 rfl hg rfl ?_
      obtain ⟨h1, eh1, hf⟩ := kLet_e hf
      rw [← eh1]
      refine kJ_aload_n 53 0 d_M_save_52 rfl rfl rfl rfl ?_
      refine kM_getR 56 0 787 d_M_save_53 l_M_7 km_786 rfl rfl rfl rfl ?_
      refine kJ_bipush 58 6 d_M_save_56 kb_6 rfl ?_
      obtain ⟨hg, hf⟩ := kG_some hf
      refine kM_iald 59 760 d_M_save_58 km_787 rfl hg rfl ?_
      cases hf
      exact kJ_iret d_M_save_59 rfl rfl (Nat.zero_le _) (Nat.zero_le _)
    · have hf := kIf_f hf hc
      refine kJ_aload_n 22 0 d_M_save_21 rfl rfl rfl rfl ?_
      refine kM_getR 25 3 790 d_M_save_22 l_M_19 km_786 rfl rfl rfl rfl ?_
      refine kJ_iload_n 26 1 d_M_save_25 rfl rfl rfl ?_
      refine kJ_sipush 29 760 d_M_save_26 ks_760 rfl ?_
      refine kJ_imul 30 d_M_save_29 rfl ?_
      refine kJ_iload_n 31 2 d_M_save_30 rfl rfl rfl ?_
      refine kJ_iadd 32 d_M_save_31 rfl ?_
      refine kJ_aload_n 33 0 d_M_save_32 rfl rfl rfl rfl ?_
      refine kM_getR 36 0 787 d_M_save_33 l_M_7 km_786 rfl rfl rfl rfl ?_
      refine kJ_iload_n 37 2 d_M_save_36 rfl rfl rfl ?_
      obtain ⟨hg, hf⟩ := kG_some hf
      refine kM_iald 38 760 d_M_save_37 km_787 rfl hg rfl ?_
      obtain ⟨hg, hf⟩ := kG_some hf
      refine kM_iast 39 1520 d_M_save_38 km_790 rfl hg rfl ?_
      obtain ⟨h2, eh2, hf⟩ := kLet_e hf
      rw [← eh2]
      refine kJ_iinc 42 2 [(2, .int (x2 + 1)), (0, .ref 786), (1, .int x1)] d_M_save_39 rfl ki_1 (Nat.le_of_ble_eq_true rfl) rfl rfl ?_
      refine kJ_goto 14 d_M_save_42 rfl ?_
      refine kJ_sub [1, 2, 0] rfl ?_
      exact hrec14 h2 (x2 + 1) hf
def f_M_save (h : kH) (x1 : Int32) : Option (Int32 × kH) := if (f_M_in x1 0 1) = true then (b_M_save_14 x1 kFuel h 0) else (some ((-2), h))
theorem j_M_save {E : kE} {L : Nat} {xs : Nat → Int32} (hro : kRo E L xs) {h : kH} {x1 : Int32} {r : Int32} {h' : kH} (hf : f_M_save h x1 = some (r, h')) : JM E m_M_save [.ref 786, .int x1] (mk h) (some r) (mk h') := by
  unfold f_M_save at hf
  refine JM.of pn_M (Nat.le_of_ble_eq_true rfl) ?_
  show kJ E m_M_save (some r) (mk h') 0 0 0 [(0, .ref 786), (1, .int x1)] [] (mk h)
  refine kJ_iload_n 1 1 d_M_save_0 rfl rfl rfl ?_
  refine kJ_iconst 2 0 d_M_save_1 ki_0 rfl ?_
  refine kJ_iconst 3 1 d_M_save_2 ki_1 rfl ?_
  refine kM_calls 6 m_M_in [.int x1, .int 0, .int 1] [] d_M_save_3 cl_M_49 w_869 rfl rfl (Nat.le_of_ble_eq_true rfl) ⟨Nat.le_of_ble_eq_true rfl, Nat.le_of_ble_eq_true rfl⟩ ⟨rfl, rfl⟩ ⟨Nat.zero_le _, Nat.zero_le _⟩ (j_M_in hro rfl) rfl ?_
  refine kJ_if_ne 9 12 d_M_save_6 rfl rfl (fun hc => ?_) (fun hc => ?_)
  · have hf := kIf_t hf (kB2_1 hc)
    refine kJ_iconst 13 0 d_M_save_12 ki_0 rfl ?_
    refine kJ_istore_n 14 [(2, .int 0), (0, .ref 786), (1, .int x1)] d_M_save_13 rfl (Nat.le_of_ble_eq_true rfl) rfl rfl ?_
    refine kJ_sub [1, 2, 0] rfl ?_
    exact c_M_save_14 hro kFuel h 0 hf
  · have hf := kIf_f hf (kB2_0 hc)
    refine kJ_bipush 11 (-2) d_M_save_9 kb_m2 rfl ?_
    cases hf
    exact kJ_iret d_M_save_11 rfl rfl (Nat.zero_le _) (Nat.zero_le _)
def b_M_restore_30 (x1 : Int32) : Nat → kH → Int32 → Option (Int32 × kH)
  | 0, _, _ => none
  | n + 1, h, x2 => (fun rec30 => if 760 ≤ x2 then (kG 6 760 (some ((h 787 (kx 6)), h))) else (kG ((x1 * 760) + x2) 1520 (kG x2 760 (kLet (hset h 787 (kx x2) (h 790 (kx ((x1 * 760) + x2)))) fun h2 => rec30 h2 (x2 + 1))))) (fun h' x2' => b_M_restore_30 x1 n h' x2')
theorem c_M_restore_30 {E : kE} {L : Nat} {xs : Nat → Int32} (hro : kRo E L xs) {x1 : Int32} {r : Int32} {h' : kH} : ∀ (n : Nat) (h : kH) (x2 : Int32), b_M_restore_30 x1 n h x2 = some (r, h') → kJ E m_M_restore (some r) (mk h') 0 0 30 [(0, .ref 786), (1, .int x1), (2, .int x2)] [] (mk h) := by
  intro n
  induction n with
  | zero =>
    intro h x2 hf
    have hf : (none : Option (Int32 × kH)) = some (r, h') := hf
    cases hf
  | succ n hrec30 =>
    intro h x2 hf
    rw [b_M_restore_30] at hf
    dsimp only at hf
    refine kJ_iload_n 31 2 d_M_restore_30 rfl rfl rfl ?_
    refine kJ_sipush 34 760 d_M_restore_31 ks_760 rfl ?_
    refine kJ_icmp_ge 37 61 d_M_restore_34 rfl rfl (fun hc => ?_) (fun hc => ?_)
    · have hf := kIf_t hf hc
      refine kJ_aload_n 62 0 d_M_restore_61 rfl rfl rfl rfl ?_
      refine kM_getR 65 0 787 d_M_restore_62 l_M_7 km_786 rfl rfl rfl rfl ?_
      refine kJ_bipush 67 6 d_M_restore_65 kb_6 rfl ?_
      obtain ⟨hg, hf⟩ := kG_some hf
      refine kM_iald 68 760 d_M_restore_67 km_787 rfl hg rfl ?_
      cases hf
      exact kJ_iret d_M_restore_68 rfl rfl (Nat.zero_le _) (Nat.zero_le _)
    · have hf := kIf_f hf hc
      refine kJ_aload_n 38 0 d_M_restore_37 rfl rfl rfl rfl ?_
      refine kM_getR 41 0 787 d_M_restore_38 l_M_7 km_786 rfl rfl rfl rfl ?_
      refine kJ_iload_n 42 2 d_M_restore_41 rfl rfl rfl ?_
      refine kJ_aload_n 43 0 d_M_restore_42 rfl rfl rfl rfl ?_
      refine kM_getR 46 3 790 d_M_restore_43 l_M_19 km_786 rfl rfl rfl rfl ?_
      refine kJ_iload_n 47 1 d_M_restore_46 rfl rfl rfl ?_
      refine kJ_sipush 50 760 d_M_restore_47 ks_760 rfl ?_
      refine kJ_imul 51 d_M_restore_50 rfl ?_
      refine kJ_iload_n 52 2 d_M_restore_51 rfl rfl rfl ?_
      refine kJ_iadd 53 d_M_restore_52 rfl ?_
      obtain ⟨hg, hf⟩ := kG_some hf
      refine kM_iald 54 1520 d_M_restore_53 km_790 rfl hg rfl ?_
      obtain ⟨hg, hf⟩ := kG_some hf
      refine kM_iast 55 760 d_M_restore_54 km_787 rfl hg rfl ?_
      obtain ⟨h2, eh2, hf⟩ := kLet_e hf
      rw [← eh2]
      refine kJ_iinc 58 2 [(2, .int (x2 + 1)), (0, .ref 786), (1, .int x1)] d_M_restore_55 rfl ki_1 (Nat.le_of_ble_eq_true rfl) rfl rfl ?_
      refine kJ_goto 30 d_M_restore_58 rfl ?_
      refine kJ_sub [1, 2, 0] rfl ?_
      exact hrec30 h2 (x2 + 1) hf
def f_M_restore (h : kH) (x1 : Int32) : Option (Int32 × kH) := if (f_M_in x1 0 1) = true then (kG x1 2 (if (h 791 (kx x1)) = 0 then (some ((-5), h)) else (kBi (f_M_record h) fun h1 => b_M_restore_30 x1 kFuel h1 0))) else (some ((-2), h))
theorem j_M_restore {E : kE} {L : Nat} {xs : Nat → Int32} (hro : kRo E L xs) {h : kH} {x1 : Int32} {r : Int32} {h' : kH} (hf : f_M_restore h x1 = some (r, h')) : JM E m_M_restore [.ref 786, .int x1] (mk h) (some r) (mk h') := by
  unfold f_M_restore at hf
  refine JM.of pn_M (Nat.le_of_ble_eq_true rfl) ?_
  show kJ E m_M_restore (some r) (mk h') 0 0 0 [(0, .ref 786), (1, .int x1)] [] (mk h)
  refine kJ_iload_n 1 1 d_M_restore_0 rfl rfl rfl ?_
  refine kJ_iconst 2 0 d_M_restore_1 ki_0 rfl ?_
  refine kJ_iconst 3 1 d_M_restore_2 ki_1 rfl ?_
  refine kM_calls 6 m_M_in [.int x1, .int 0, .int 1] [] d_M_restore_3 cl_M_49 w_869 rfl rfl (Nat.le_of_ble_eq_true rfl) ⟨Nat.le_of_ble_eq_true rfl, Nat.le_of_ble_eq_true rfl⟩ ⟨rfl, rfl⟩ ⟨Nat.zero_le _, Nat.zero_le _⟩ (j_M_in hro rfl) rfl ?_
  refine kJ_if_ne 9 12 d_M_restore_6 rfl rfl (fun hc => ?_) (fun hc => ?_)
  · have hf := kIf_t hf (kB2_1 hc)
    refine kJ_aload_n 13 0 d_M_restore_12 rfl rfl rfl rfl ?_
    refine kM_getR 16 4 791 d_M_restore_13 l_M_22 km_786 rfl rfl rfl rfl ?_
    refine kJ_iload_n 17 1 d_M_restore_16 rfl rfl rfl ?_
    obtain ⟨hg, hf⟩ := kG_some hf
    refine kM_zald 18 2 d_M_restore_17 km_791 rfl hg rfl ?_
    refine kJ_if_ne 21 24 d_M_restore_18 rfl rfl (fun hc => ?_) (fun hc => ?_)
    · have hf := kIf_f hf hc
      refine kJ_aload_n 25 0 d_M_restore_24 rfl rfl rfl rfl ?_
      obtain ⟨h1, eh1, hf⟩ := kBi_some hf
      refine kM_callv 28 m_M_record [] [] d_M_restore_25 cl_M_53 ⟨w_873, w_65⟩ km_786 ⟨rfl, by decide⟩ ⟨_, _, rfl⟩ rfl rfl (Nat.le_of_ble_eq_true rfl) ⟨Nat.le_of_ble_eq_true rfl, Nat.le_of_ble_eq_true rfl⟩ ⟨rfl, rfl⟩ ⟨Nat.zero_le _, Nat.zero_le _⟩ (j_M_record hro eh1) rfl ?_
      refine kJ_iconst 29 0 d_M_restore_28 ki_0 rfl ?_
      refine kJ_istore_n 30 [(2, .int 0), (0, .ref 786), (1, .int x1)] d_M_restore_29 rfl (Nat.le_of_ble_eq_true rfl) rfl rfl ?_
      refine kJ_sub [1, 2, 0] rfl ?_
      exact c_M_restore_30 hro kFuel h1 0 hf
    · have hf := kIf_t hf hc
      refine kJ_bipush 23 (-5) d_M_restore_21 kb_m5 rfl ?_
      cases hf
      exact kJ_iret d_M_restore_23 rfl rfl (Nat.zero_le _) (Nat.zero_le _)
  · have hf := kIf_f hf (kB2_0 hc)
    refine kJ_bipush 11 (-2) d_M_restore_9 kb_m2 rfl ?_
    cases hf
    exact kJ_iret d_M_restore_11 rfl rfl (Nat.zero_le _) (Nat.zero_le _)
