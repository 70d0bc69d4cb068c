/-! CODE of the methods as functions, with certificates: printed by wip/whole/emit.py. -/
def b_D_append_94 (x0 : Nat) (x1 : Int64) (x3 : Int32) : Nat → kH → Int32 → Option (Int32 × kH)
  | 0, _, _ => none
  | n + 1, h, x4 => (fun rec94 => if x3 ≤ x4 then (some ((h x0 1), h)) else (kG (((h x0 1) - 1) - x4) 80 (kLet (hset h (x0 + 1) (kx (((h x0 1) - 1) - x4)) (vp_nar .char (kChar (Int64.toInt32 ((kLushr x1 (8 * x4)) &&& 255))))) fun h2 => rec94 h2 (x4 + 1)))) (fun h' x4' => b_D_append_94 x0 x1 x3 n h' x4')
theorem c_D_append_94 {E : kE} {L : Nat} {xs : Nat → Int32} (hro : kRo E L xs) {x0 : Nat} {x1 : Int64} {x3 : Int32} (k0 : kIs x0 5) {r : Int32} {h' : kH} : ∀ (n : Nat) (h : kH) (x4 : Int32), b_D_append_94 x0 x1 x3 n h x4 = some (r, h') → kJ E m_D_append (some r) (mk h') 0 0 94 [(0, .ref x0), (1, .long x1), (3, .int x3), (4, .int x4)] [] (mk h) := by
  intro n
  induction n with
  | zero =>
    intro h x4 hf
    have hf : (none : Option (Int32 × kH)) = some (r, h') := hf
    cases hf
  | succ n hrec94 =>
    intro h x4 hf
    rw [b_D_append_94] at hf
    dsimp only at hf
    refine kJ_iload 96 3 d_D_append_94 rfl rfl ?_
    refine kJ_iload_n 97 2 d_D_append_96 rfl rfl rfl ?_
    refine kJ_icmp_ge 100 133 d_D_append_97 rfl rfl (fun hc => ?_) (fun hc => ?_)
    · have hf := kIf_t hf hc
      refine kJ_aload_n 134 0 d_D_append_133 rfl rfl rfl rfl ?_
      refine kM_getI 137 d_D_append_134 l_D_31 k0 rfl rfl rfl ?_
      cases hf
      exact kJ_iret d_D_append_137 rfl rfl (Nat.zero_le _) (Nat.zero_le _)
    · have hf := kIf_f hf hc
      refine kJ_aload_n 101 0 d_D_append_100 rfl rfl rfl rfl ?_
      refine kM_getR 104 0 (x0 + 1) d_D_append_101 l_D_9 k0 rfl rfl rfl rfl ?_
      refine kJ_aload_n 105 0 d_D_append_104 rfl rfl rfl rfl ?_
      refine kM_getI 108 d_D_append_105 l_D_31 k0 rfl rfl rfl ?_
      refine kJ_iconst 109 1 d_D_append_108 ki_1 rfl ?_
      refine kJ_isub 110 d_D_append_109 rfl ?_
      refine kJ_iload 112 3 d_D_append_110 rfl rfl ?_
      refine kJ_isub 113 d_D_append_112 rfl ?_
      refine kJ_lload_n 114 1 d_D_append_113 rfl rfl rfl ?_
      refine kJ_bipush 116 8 d_D_append_114 kb_8 rfl ?_
      refine kJ_iload 118 3 d_D_append_116 rfl rfl ?_
      refine kJ_imul 119 d_D_append_118 rfl ?_
      refine kJ_lushr 120 d_D_append_119 rfl ?_
      refine kJ_ldc2 123 255 d_D_append_120 w_739 rfl ?_
      refine kJ_land 124 d_D_append_123 rfl ?_
      refine kJ_l2i 125 d_D_append_124 rfl ?_
      refine kJ_i2c 126 d_D_append_125 rfl ?_
      obtain ⟨hg, hf⟩ := kG_some hf
      refine kM_cast 127 80 d_D_append_126 (kk_5_0 k0) rfl hg rfl ?_
      obtain ⟨h2, eh2, hf⟩ := kLet_e hf
      rw [← eh2]
      refine kJ_iinc 130 3 [(4, .int (x4 + 1)), (0, .ref x0), (1, .long x1), (3, .int x3)] d_D_append_127 rfl ki_1 (Nat.le_of_ble_eq_true rfl) rfl rfl ?_
      refine kJ_goto 94 d_D_append_130 rfl ?_
      refine kJ_sub [1, 2, 3, 0] rfl ?_
      exact hrec94 h2 (x4 + 1) hf
def b_D_append_60 (h : kH) (x0 : Nat) (x1 : Int64) (x3 : Int32) : Option (Int32 × kH) := if x3 = 0 then (some ((-2), h)) else (if ((h x0 1) + x3) ≤ 80 then (kLet (hset h x0 1 ((h x0 1) + x3)) fun h1 => b_D_append_94 x0 x1 x3 kFuel h1 0) else (some ((-4), h)))
theorem c_D_append_60 {E : kE} {L : Nat} {xs : Nat → Int32} (hro : kRo E L xs) {h : kH} {x0 : Nat} {x1 : Int64} {x3 : Int32} (k0 : kIs x0 5) {r : Int32} {h' : kH} (hf : b_D_append_60 h x0 x1 x3 = some (r, h')) : kJ E m_D_append (some r) (mk h') 0 0 60 [(0, .ref x0), (1, .long x1), (3, .int x3)] [] (mk h) := by
  unfold b_D_append_60 at hf
  refine kJ_iload_n 61 2 d_D_append_60 rfl rfl rfl ?_
  refine kJ_if_ne 64 67 d_D_append_61 rfl rfl (fun hc => ?_) (fun hc => ?_)
  · have hf := kIf_f hf hc
    refine kJ_aload_n 68 0 d_D_append_67 rfl rfl rfl rfl ?_
    refine kM_getI 71 d_D_append_68 l_D_31 k0 rfl rfl rfl ?_
    refine kJ_iload_n 72 2 d_D_append_71 rfl rfl rfl ?_
    refine kJ_iadd 73 d_D_append_72 rfl ?_
    refine kJ_bipush 75 80 d_D_append_73 kb_80 rfl ?_
    refine kJ_icmp_le 78 81 d_D_append_75 rfl rfl (fun hc => ?_) (fun hc => ?_)
    · have hf := kIf_t hf hc
      refine kJ_aload_n 82 0 d_D_append_81 rfl rfl rfl rfl ?_
      refine kJ_dup 83 d_D_append_82 rfl rfl ?_
      refine kM_getI 86 d_D_append_83 l_D_31 k0 rfl rfl rfl ?_
      refine kJ_iload_n 87 2 d_D_append_86 rfl rfl rfl ?_
      refine kJ_iadd 88 d_D_append_87 rfl ?_
      refine kM_put 91 d_D_append_88 l_D_31 k0 rfl rfl (kFit_int _) rfl ?_
      obtain ⟨h1, eh1, hf⟩ := kLet_e hf
      rw [← eh1]
      refine kJ_iconst 92 0 d_D_append_91 ki_0 rfl ?_
      refine kJ_istore 94 [(4, .int 0), (0, .ref x0), (1, .long x1), (3, .int x3)] d_D_append_92 (Nat.le_of_ble_eq_true rfl) rfl rfl ?_
      refine kJ_sub [1, 2, 3, 0] rfl ?_
      exact c_D_append_94 hro k0 kFuel h1 0 hf
    · have hf := kIf_f hf hc
      refine kJ_bipush 80 (-4) d_D_append_78 kb_m4 rfl ?_
      cases hf
      exact kJ_iret d_D_append_80 rfl rfl (Nat.zero_le _) (Nat.zero_le _)
  · have hf := kIf_t hf hc
    refine kJ_bipush 66 (-2) d_D_append_64 kb_m2 rfl ?_
    cases hf
    exact kJ_iret d_D_append_66 rfl rfl (Nat.zero_le _) (Nat.zero_le _)
def b_D_append_5 (x0 : Nat) (x1 : Int64) : Nat → kH → Int32 → Int64 → Option (Int32 × kH)
  | 0, _, _, _ => none
  | n + 1, h, x3, x4 => (fun rec5 => if (lg_cmp x4 0) = 0 then (b_D_append_60 h x0 x1 x3) else (if 8 ≤ x3 then (b_D_append_60 h x0 x1 x3) else (if (lg_cmp (x4 &&& 255) 33) < 0 then (some ((-2), h)) else (if (lg_cmp (x4 &&& 255) 126) ≤ 0 then (rec5 h (x3 + 1) (kLushr x4 8)) else (some ((-2), h)))))) (fun h' x3' x4' => b_D_append_5 x0 x1 n h' x3' x4')
theorem c_D_append_5 {E : kE} {L : Nat} {xs : Nat → Int32} (hro : kRo E L xs) {x0 : Nat} {x1 : Int64} (k0 : kIs x0 5) {r : Int32} {h' : kH} : ∀ (n : Nat) (h : kH) (x3 : Int32) (x4 : Int64), b_D_append_5 x0 x1 n h x3 x4 = some (r, h') → kJ E m_D_append (some r) (mk h') 0 0 5 [(0, .ref x0), (1, .long x1), (3, .int x3), (4, .long x4)] [] (mk h) := by
  intro n
  induction n with
  | zero =>
    intro h x3 x4 hf
    have hf : (none : Option (Int32 × kH)) = some (r, h') := hf
    cases hf
  | succ n hrec5 =>
    intro h x3 x4 hf
    rw [b_D_append_5] at hf
    dsimp only at hf
    refine kJ_lload 7 3 d_D_append_5 rfl rfl ?_
    refine kJ_lconst 8 0 d_D_append_7 (by decide) rfl ?_
    refine kJ_lcmp 9 d_D_append_8 rfl ?_
    refine kJ_if_eq 12 60 d_D_append_9 rfl rfl (fun hc => ?_) (fun hc => ?_)
    · have hf := kIf_t hf hc
      refine kJ_sub [0, 1, 2] rfl ?_
      exact c_D_append_60 hro k0 hf
    · have hf := kIf_f hf hc
      refine kJ_iload_n 13 2 d_D_append_12 rfl rfl rfl ?_
      refine kJ_bipush 15 8 d_D_append_13 kb_8 rfl ?_
      refine kJ_icmp_ge 18 60 d_D_append_15 rfl rfl (fun hc => ?_) (fun hc => ?_)
      · have hf := kIf_t hf hc
        refine kJ_sub [0, 1, 2] rfl ?_
        exact c_D_append_60 hro k0 hf
      · have hf := kIf_f hf hc
        refine kJ_lload 20 3 d_D_append_18 rfl rfl ?_
        refine kJ_ldc2 23 255 d_D_append_20 w_739 rfl ?_
        refine kJ_land 24 d_D_append_23 rfl ?_
        refine kJ_lstore 26 [(6, .long (x4 &&& 255)), (0, .ref x0), (1, .long x1), (3, .int x3), (4, .long x4)] d_D_append_24 (Nat.le_of_ble_eq_true rfl) rfl rfl ?_
        refine kJ_lload 28 0 d_D_append_26 rfl rfl ?_
        refine kJ_ldc2 31 33 d_D_append_28 w_740 rfl ?_
        refine kJ_lcmp 32 d_D_append_31 rfl ?_
        refine kJ_if_lt 35 44 d_D_append_32 rfl rfl (fun hc => ?_) (fun hc => ?_)
        · have hf := kIf_t hf hc
          refine kJ_bipush 46 (-2) d_D_append_44 kb_m2 rfl ?_
          cases hf
          exact kJ_iret d_D_append_46 rfl rfl (Nat.zero_le _) (Nat.zero_le _)
        · have hf := kIf_f hf hc
          refine kJ_lload 37 0 d_D_append_35 rfl rfl ?_
          refine kJ_ldc2 40 126 d_D_append_37 w_741 rfl ?_
          refine kJ_lcmp 41 d_D_append_40 rfl ?_
          refine kJ_if_le 44 47 d_D_append_41 rfl rfl (fun hc => ?_) (fun hc => ?_)
          · have hf := kIf_t hf hc
            refine kJ_iinc 50 3 [(3, .int (x3 + 1)), (6, .long (x4 &&& 255)), (0, .ref x0), (1, .long x1), (4, .long x4)] d_D_append_47 rfl ki_1 (Nat.le_of_ble_eq_true rfl) rfl rfl ?_
            refine kJ_lload 52 4 d_D_append_50 rfl rfl ?_
            refine kJ_bipush 54 8 d_D_append_52 kb_8 rfl ?_
            refine kJ_lushr 55 d_D_append_54 rfl ?_
            refine kJ_lstore 57 [(4, .long (kLushr x4 8)), (3, .int (x3 + 1)), (6, .long (x4 &&& 255)), (0, .ref x0), (1, .long x1)] d_D_append_55 (Nat.le_of_ble_eq_true rfl) rfl rfl ?_
            refine kJ_goto 5 d_D_append_57 rfl ?_
            refine kJ_sub [3, 4, 1, 0] rfl ?_
            exact hrec5 h (x3 + 1) (kLushr x4 8) hf
          · have hf := kIf_f hf hc
            refine kJ_bipush 46 (-2) d_D_append_44 kb_m2 rfl ?_
            cases hf
            exact kJ_iret d_D_append_46 rfl rfl (Nat.zero_le _) (Nat.zero_le _)
def f_D_append (h : kH) (x0 : Nat) (x1 : Int64) : Option (Int32 × kH) := b_D_append_5 x0 x1 kFuel h 0 x1
theorem j_D_append {E : kE} {L : Nat} {xs : Nat → Int32} (hro : kRo E L xs) {h : kH} {x0 : Nat} {x1 : Int64} (k0 : kIs x0 5) {r : Int32} {h' : kH} (hf : f_D_append h x0 x1 = some (r, h')) : JM E m_D_append [.ref x0, .long x1] (mk h) (some r) (mk h') := by
  unfold f_D_append at hf
  refine JM.of pn_D (Nat.le_of_ble_eq_true rfl) ?_
  show kJ E m_D_append (some r) (mk h') 0 0 0 [(0, .ref x0), (1, .long x1)] [] (mk h)
  refine kJ_iconst 1 0 d_D_append_0 ki_0 rfl ?_
  refine kJ_istore_n 2 [(3, .int 0), (0, .ref x0), (1, .long x1)] d_D_append_1 rfl (Nat.le_of_ble_eq_true rfl) rfl rfl ?_
  refine kJ_lload_n 3 2 d_D_append_2 rfl rfl rfl ?_
  refine kJ_lstore 5 [(4, .long x1), (3, .int 0), (0, .ref x0), (1, .long x1)] d_D_append_3 (Nat.le_of_ble_eq_true rfl) rfl rfl ?_
  refine kJ_sub [2, 3, 1, 0] rfl ?_
  exact c_D_append_5 hro k0 kFuel h 0 x1 hf
def f_P_put (h : kH) (x1 : Int64) : Option (Int32 × kH) := kBd (f_D_append h 637 x1) fun v2 h1 => some (v2, h1)
theorem j_P_put {E : kE} {L : Nat} {xs : Nat → Int32} (hro : kRo E L xs) {h : kH} {x1 : Int64} {r : Int32} {h' : kH} (hf : f_P_put h x1 = some (r, h')) : JM E m_P_put [.ref 0, .long x1] (mk h) (some r) (mk h') := by
  unfold f_P_put at hf
  refine JM.of pn_P (Nat.le_of_ble_eq_true rfl) ?_
  show kJ E m_P_put (some r) (mk h') 0 0 0 [(0, .ref 0), (1, .long x1)] [] (mk h)
  refine kJ_aload_n 1 0 d_P_put_0 rfl rfl rfl rfl ?_
  refine kM_getR 4 636 637 d_P_put_1 l_P_36 kp_0 rfl rfl rfl rfl ?_
  refine kJ_lload_n 5 1 d_P_put_4 rfl rfl rfl ?_
  obtain ⟨v2, h1, ev2, hf⟩ := kBd_some hf
  refine kM_callv 8 m_D_append [.long x1] [] d_P_put_5 cl_P_300 ⟨w_737, w_55⟩ kp_637 ⟨rfl, by decide⟩ ⟨_, _, rfl⟩ rfl rfl (Nat.le_of_ble_eq_true rfl) ⟨Nat.le_of_ble_eq_true rfl, Nat.le_of_ble_eq_true rfl⟩ ⟨rfl, rfl⟩ ⟨Nat.zero_le _, Nat.zero_le _⟩ (j_D_append hro kp_637 ev2) rfl ?_
  cases hf
  exact kJ_iret d_P_put_8 rfl rfl (Nat.zero_le _) (Nat.zero_le _)
def f_D_empty (h : kH) (x0 : Nat) : Option (Int32 × kH) := kLet (hset h x0 1 0) fun h1 => some ((h x0 1), h1)
theorem j_D_empty {E : kE} {L : Nat} {xs : Nat → Int32} (hro : kRo E L xs) {h : kH} {x0 : Nat} (k0 : kIs x0 5) {r : Int32} {h' : kH} (hf : f_D_empty h x0 = some (r, h')) : JM E m_D_empty [.ref x0] (mk h) (some r) (mk h') := by
  unfold f_D_empty at hf
  refine JM.of pn_D (Nat.le_of_ble_eq_true rfl) ?_
  show kJ E m_D_empty (some r) (mk h') 0 0 0 [(0, .ref x0)] [] (mk h)
  refine kJ_aload_n 1 0 d_D_empty_0 rfl rfl rfl rfl ?_
  refine kM_getI 4 d_D_empty_1 l_D_31 k0 rfl rfl rfl ?_
  refine kJ_istore_n 5 [(1, .int (h x0 1)), (0, .ref x0)] d_D_empty_4 rfl (Nat.le_of_ble_eq_true rfl) rfl rfl ?_
  refine kJ_aload_n 6 1 d_D_empty_5 rfl rfl rfl rfl ?_
  refine kJ_iconst 7 0 d_D_empty_6 ki_0 rfl ?_
  refine kM_put 10 d_D_empty_7 l_D_31 k0 rfl rfl (kFit_int _) rfl ?_
  obtain ⟨h1, eh1, hf⟩ := kLet_e hf
  rw [← eh1]
  refine kJ_iload_n 11 0 d_D_empty_10 rfl rfl rfl ?_
  cases hf
  exact kJ_iret d_D_empty_11 rfl rfl (Nat.zero_le _) (Nat.zero_le _)
def f_P_wipe (h : kH) : Option (Int32 × kH) := kBd (f_D_empty h 637) fun v2 h1 => some (v2, h1)
theorem j_P_wipe {E : kE} {L : Nat} {xs : Nat → Int32} (hro : kRo E L xs) {h : kH} {r : Int32} {h' : kH} (hf : f_P_wipe h = some (r, h')) : JM E m_P_wipe [.ref 0] (mk h) (some r) (mk h') := by
  unfold f_P_wipe at hf
  refine JM.of pn_P (Nat.le_of_ble_eq_true rfl) ?_
  show kJ E m_P_wipe (some r) (mk h') 0 0 0 [(0, .ref 0)] [] (mk h)
  refine kJ_aload_n 1 0 d_P_wipe_0 rfl rfl rfl rfl ?_
  refine kM_getR 4 636 637 d_P_wipe_1 l_P_36 kp_0 rfl rfl rfl rfl ?_
  obtain ⟨v2, h1, ev2, hf⟩ := kBd_some hf
  refine kM_callv 7 m_D_empty [] [] d_P_wipe_4 cl_P_304 ⟨w_748, w_56⟩ kp_637 ⟨rfl, by decide⟩ ⟨_, _, rfl⟩ rfl rfl (Nat.le_of_ble_eq_true rfl) ⟨Nat.le_of_ble_eq_true rfl, Nat.le_of_ble_eq_true rfl⟩ ⟨rfl, rfl⟩ ⟨Nat.zero_le _, Nat.zero_le _⟩ (j_D_empty hro kp_637 ev2) rfl ?_
  cases hf
  exact kJ_iret d_P_wipe_7 rfl rfl (Nat.zero_le _) (Nat.zero_le _)
def f_D_ahead (h : kH) (x0 : Nat) : Option Int32 := if (h x0 1) ≤ (h x0 2) then (kRc 0) else (kG (h x0 2) 80 (kRc (h (x0 + 1) (kx (h x0 2)))))
theorem j_D_ahead {E : kE} {L : Nat} {xs : Nat → Int32} (hro : kRo E L xs) {h : kH} {x0 : Nat} (k0 : kIs x0 5) {r : Int32} (hf : f_D_ahead h x0 = some r) : JM E m_D_ahead [.ref x0] (mk h) (some r) (mk h) := by
  unfold f_D_ahead at hf
  refine JM.of pn_D (Nat.le_of_ble_eq_true rfl) ?_
  show kJ E m_D_ahead (some r) (mk h) 0 0 0 [(0, .ref x0)] [] (mk h)
  refine kJ_aload_n 1 0 d_D_ahead_0 rfl rfl rfl rfl ?_
  refine kM_getI 4 d_D_ahead_1 l_D_35 k0 rfl rfl rfl ?_
  refine kJ_aload_n 5 0 d_D_ahead_4 rfl rfl rfl rfl ?_
  refine kM_getI 8 d_D_ahead_5 l_D_31 k0 rfl rfl rfl ?_
  refine kJ_icmp_ge 11 23 d_D_ahead_8 rfl rfl (fun hc => ?_) (fun hc => ?_)
  · have hf := kIf_t hf hc
    refine kJ_iconst 24 0 d_D_ahead_23 ki_0 rfl ?_
    obtain ⟨he, hn⟩ := kRc_some hf
    rw [he]
    exact kJ_iret d_D_ahead_24 rfl hn (Nat.zero_le _) (Nat.zero_le _)
  · have hf := kIf_f hf hc
    refine kJ_aload_n 12 0 d_D_ahead_11 rfl rfl rfl rfl ?_
    refine kM_getR 15 0 (x0 + 1) d_D_ahead_12 l_D_9 k0 rfl rfl rfl rfl ?_
    refine kJ_aload_n 16 0 d_D_ahead_15 rfl rfl rfl rfl ?_
    refine kM_getI 19 d_D_ahead_16 l_D_35 k0 rfl rfl rfl ?_
    obtain ⟨hg, hf⟩ := kG_some hf
    refine kM_cald 20 80 d_D_ahead_19 (kk_5_0 k0) rfl hg rfl ?_
    refine kJ_goto 24 d_D_ahead_20 rfl ?_
    obtain ⟨he, hn⟩ := kRc_some hf
    rw [he]
    exact kJ_iret d_D_ahead_24 rfl hn (Nat.zero_le _) (Nat.zero_le _)
def f_D_isSign (x0 : Int32) : Bool := if x0 = 43 then true else (if x0 = 45 then true else (if x0 = 111 then true else (if x0 = 118 then true else (if x0 = 99 then true else (if x0 = 120 then true else (if x0 = 109 then true else false))))))
theorem j_D_isSign {E : kE} {L : Nat} {xs : Nat → Int32} (hro : kRo E L xs) {h0 : kH} {x0 : Int32} {r : Bool} (hf : f_D_isSign x0 = r) : JM E m_D_isSign [.int x0] (mk h0) (some (kB2 r)) (mk h0) := by
  unfold f_D_isSign at hf
  refine JM.of pn_D (Nat.le_of_ble_eq_true rfl) ?_
  show kJ E m_D_isSign (some (kB2 r)) (mk h0) 0 0 0 [(0, .int x0)] [] (mk h0)
  refine kJ_iload_n 1 0 d_D_isSign_0 rfl rfl rfl ?_
  refine kJ_bipush 3 43 d_D_isSign_1 kb_43 rfl ?_
  refine kJ_icmp_eq 6 42 d_D_isSign_3 rfl rfl (fun hc => ?_) (fun hc => ?_)
  · have hf := kIf_t hf hc
    refine kJ_iconst 43 1 d_D_isSign_42 ki_1 rfl ?_
    refine kJ_goto 47 d_D_isSign_43 rfl ?_
    subst hf
    exact kJ_iret d_D_isSign_47 rfl (kB2_z _) (Nat.zero_le _) (Nat.zero_le _)
  · have hf := kIf_f hf hc
    refine kJ_iload_n 7 0 d_D_isSign_6 rfl rfl rfl ?_
    refine kJ_bipush 9 45 d_D_isSign_7 kb_45 rfl ?_
    refine kJ_icmp_eq 12 42 d_D_isSign_9 rfl rfl (fun hc => ?_) (fun hc => ?_)
    · have hf := kIf_t hf hc
      refine kJ_iconst 43 1 d_D_isSign_42 ki_1 rfl ?_
      refine kJ_goto 47 d_D_isSign_43 rfl ?_
      subst hf
      exact kJ_iret d_D_isSign_47 rfl (kB2_z _) (Nat.zero_le _) (Nat.zero_le _)
    · have hf := kIf_f hf hc
      refine kJ_iload_n 13 0 d_D_isSign_12 rfl rfl rfl ?_
      refine kJ_bipush 15 111 d_D_isSign_13 kb_111 rfl ?_
      refine kJ_icmp_eq 18 42 d_D_isSign_15 rfl rfl (fun hc => ?_) (fun hc => ?_)
      · have hf := kIf_t hf hc
        refine kJ_iconst 43 1 d_D_isSign_42 ki_1 rfl ?_
        refine kJ_goto 47 d_D_isSign_43 rfl ?_
        subst hf
        exact kJ_iret d_D_isSign_47 rfl (kB2_z _) (Nat.zero_le _) (Nat.zero_le _)
      · have hf := kIf_f hf hc
        refine kJ_iload_n 19 0 d_D_isSign_18 rfl rfl rfl ?_
        refine kJ_bipush 21 118 d_D_isSign_19 kb_118 rfl ?_
        refine kJ_icmp_eq 24 42 d_D_isSign_21 rfl rfl (fun hc => ?_) (fun hc => ?_)
        · have hf := kIf_t hf hc
          refine kJ_iconst 43 1 d_D_isSign_42 ki_1 rfl ?_
          refine kJ_goto 47 d_D_isSign_43 rfl ?_
          subst hf
          exact kJ_iret d_D_isSign_47 rfl (kB2_z _) (Nat.zero_le _) (Nat.zero_le _)
        · have hf := kIf_f hf hc
          refine kJ_iload_n 25 0 d_D_isSign_24 rfl rfl rfl ?_
          refine kJ_bipush 27 99 d_D_isSign_25 kb_99 rfl ?_
          refine kJ_icmp_eq 30 42 d_D_isSign_27 rfl rfl (fun hc => ?_) (fun hc => ?_)
          · have hf := kIf_t hf hc
            refine kJ_iconst 43 1 d_D_isSign_42 ki_1 rfl ?_
            refine kJ_goto 47 d_D_isSign_43 rfl ?_
            subst hf
            exact kJ_iret d_D_isSign_47 rfl (kB2_z _) (Nat.zero_le _) (Nat.zero_le _)
          · have hf := kIf_f hf hc
            refine kJ_iload_n 31 0 d_D_isSign_30 rfl rfl rfl ?_
            refine kJ_bipush 33 120 d_D_isSign_31 kb_120 rfl ?_
            refine kJ_icmp_eq 36 42 d_D_isSign_33 rfl rfl (fun hc => ?_) (fun hc => ?_)
            · have hf := kIf_t hf hc
              refine kJ_iconst 43 1 d_D_isSign_42 ki_1 rfl ?_
              refine kJ_goto 47 d_D_isSign_43 rfl ?_
              subst hf
              exact kJ_iret d_D_isSign_47 rfl (kB2_z _) (Nat.zero_le _) (Nat.zero_le _)
            · have hf := kIf_f hf hc
              refine kJ_iload_n 37 0 d_D_isSign_36 rfl rfl rfl ?_
              refine kJ_bipush 39 109 d_D_isSign_37 kb_109 rfl ?_
              refine kJ_icmp_ne 42 46 d_D_isSign_39 rfl rfl (fun hc => ?_) (fun hc => ?_)
              · have hf := kIf_f hf hc
                refine kJ_iconst 47 0 d_D_isSign_46 ki_0 rfl ?_
                subst hf
                exact kJ_iret d_D_isSign_47 rfl (kB2_z _) (Nat.zero_le _) (Nat.zero_le _)
              · have hf := kIf_t hf hc
                refine kJ_iconst 43 1 d_D_isSign_42 ki_1 rfl ?_
                refine kJ_goto 47 d_D_isSign_43 rfl ?_
                subst hf
                exact kJ_iret d_D_isSign_47 rfl (kB2_z _) (Nat.zero_le _) (Nat.zero_le _)
def f_D_readMember (h : kH) (x0 : Nat) (x1 : Int32) : Option (Bool × kH) := kBi (f_D_ahead h x0) fun v1 => if v1 < 65 then (some (false, h)) else (if v1 ≤ 76 then (kG x1 80 (kLet (hset h (x0 + 3) (kx x1) (v1 - 65)) fun h2 => kLet (hset h2 x0 2 ((h2 x0 2) + 1)) fun h3 => some (true, h3))) else (some (false, h)))
theorem j_D_readMember {E : kE} {L : Nat} {xs : Nat → Int32} (hro : kRo E L xs) {h : kH} {x0 : Nat} {x1 : Int32} (k0 : kIs x0 5) {r : Bool} {h' : kH} (hf : f_D_readMember h x0 x1 = some (r, h')) : JM E m_D_readMember [.ref x0, .int x1] (mk h) (some (kB2 r)) (mk h') := by
  unfold f_D_readMember at hf
  refine JM.of pn_D (Nat.le_of_ble_eq_true rfl) ?_
  show kJ E m_D_readMember (some (kB2 r)) (mk h') 0 0 0 [(0, .ref x0), (1, .int x1)] [] (mk h)
  refine kJ_aload_n 1 0 d_D_readMember_0 rfl rfl rfl rfl ?_
  obtain ⟨v1, ev1, hf⟩ := kBi_some hf
  refine kM_callv 4 m_D_ahead [] [] d_D_readMember_1 cl_D_45 ⟨w_764, w_59⟩ k0 ⟨rfl, by decide⟩ ⟨_, _, rfl⟩ rfl rfl (Nat.le_of_ble_eq_true rfl) ⟨Nat.le_of_ble_eq_true rfl, Nat.le_of_ble_eq_true rfl⟩ ⟨rfl, rfl⟩ ⟨Nat.zero_le _, Nat.zero_le _⟩ (j_D_ahead hro k0 ev1) rfl ?_
  refine kJ_istore_n 5 [(2, .int v1), (0, .ref x0), (1, .int x1)] d_D_readMember_4 rfl (Nat.le_of_ble_eq_true rfl) rfl rfl ?_
  refine kJ_iload_n 6 0 d_D_readMember_5 rfl rfl rfl ?_
  refine kJ_bipush 8 65 d_D_readMember_6 kb_65 rfl ?_
  refine kJ_icmp_lt 11 17 d_D_readMember_8 rfl rfl (fun hc => ?_) (fun hc => ?_)
  · have hf := kIf_t hf hc
    refine kJ_iconst 18 0 d_D_readMember_17 ki_0 rfl ?_
    cases hf
    exact kJ_iret d_D_readMember_18 rfl (kB2_z _) (Nat.zero_le _) (Nat.zero_le _)
  · have hf := kIf_f hf hc
    refine kJ_iload_n 12 0 d_D_readMember_11 rfl rfl rfl ?_
    refine kJ_bipush 14 76 d_D_readMember_12 kb_76 rfl ?_
    refine kJ_icmp_le 17 19 d_D_readMember_14 rfl rfl (fun hc => ?_) (fun hc => ?_)
    · have hf := kIf_t hf hc
      refine kJ_aload_n 20 1 d_D_readMember_19 rfl rfl rfl rfl ?_
      refine kM_getR 23 2 (x0 + 3) d_D_readMember_20 l_D_18 k0 rfl rfl rfl rfl ?_
      refine kJ_iload_n 24 2 d_D_readMember_23 rfl rfl rfl ?_
      refine kJ_iload_n 25 0 d_D_readMember_24 rfl rfl rfl ?_
      refine kJ_bipush 27 65 d_D_readMember_25 kb_65 rfl ?_
      refine kJ_isub 28 d_D_readMember_27 rfl ?_
      obtain ⟨hg, hf⟩ := kG_some hf
      refine kM_iast 29 80 d_D_readMember_28 (kk_5_5 k0) rfl hg rfl ?_
      obtain ⟨h2, eh2, hf⟩ := kLet_e hf
      rw [← eh2]
      refine kJ_aload_n 30 1 d_D_readMember_29 rfl rfl rfl rfl ?_
      refine kJ_dup 31 d_D_readMember_30 rfl rfl ?_
      refine kM_getI 34 d_D_readMember_31 l_D_35 k0 rfl rfl rfl ?_
      refine kJ_iconst 35 1 d_D_readMember_34 ki_1 rfl ?_
      refine kJ_iadd 36 d_D_readMember_35 rfl ?_
      refine kM_put 39 d_D_readMember_36 l_D_35 k0 rfl rfl (kFit_int _) rfl ?_
      obtain ⟨h3, eh3, hf⟩ := kLet_e hf
      rw [← eh3]
      refine kJ_iconst 40 1 d_D_readMember_39 ki_1 rfl ?_
      cases hf
      exact kJ_iret d_D_readMember_40 rfl (kB2_z _) (Nat.zero_le _) (Nat.zero_le _)
    · have hf := kIf_f hf hc
      refine kJ_iconst 18 0 d_D_readMember_17 ki_0 rfl ?_
      cases hf
      exact kJ_iret d_D_readMember_18 rfl (kB2_z _) (Nat.zero_le _) (Nat.zero_le _)
def f_D_isDigit (x0 : Int32) : Bool := if x0 < 48 then false else (if 57 < x0 then false else true)
theorem j_D_isDigit {E : kE} {L : Nat} {xs : Nat → Int32} (hro : kRo E L xs) {h0 : kH} {x0 : Int32} {r : Bool} (hf : f_D_isDigit x0 = r) : JM E m_D_isDigit [.int x0] (mk h0) (some (kB2 r)) (mk h0) := by
  unfold f_D_isDigit at hf
  refine JM.of pn_D (Nat.le_of_ble_eq_true rfl) ?_
  show kJ E m_D_isDigit (some (kB2 r)) (mk h0) 0 0 0 [(0, .int x0)] [] (mk h0)
  refine kJ_iload_n 1 0 d_D_isDigit_0 rfl rfl rfl ?_
  refine kJ_bipush 3 48 d_D_isDigit_1 kb_48 rfl ?_
  refine kJ_icmp_lt 6 16 d_D_isDigit_3 rfl rfl (fun hc => ?_) (fun hc => ?_)
  · have hf := kIf_t hf hc
    refine kJ_iconst 17 0 d_D_isDigit_16 ki_0 rfl ?_
    subst hf
    exact kJ_iret d_D_isDigit_17 rfl (kB2_z _) (Nat.zero_le _) (Nat.zero_le _)
  · have hf := kIf_f hf hc
    refine kJ_iload_n 7 0 d_D_isDigit_6 rfl rfl rfl ?_
    refine kJ_bipush 9 57 d_D_isDigit_7 kb_57 rfl ?_
    refine kJ_icmp_gt 12 16 d_D_isDigit_9 rfl rfl (fun hc => ?_) (fun hc => ?_)
    · have hf := kIf_t hf hc
      refine kJ_iconst 17 0 d_D_isDigit_16 ki_0 rfl ?_
      subst hf
      exact kJ_iret d_D_isDigit_17 rfl (kB2_z _) (Nat.zero_le _) (Nat.zero_le _)
    · have hf := kIf_f hf hc
      refine kJ_iconst 13 1 d_D_isDigit_12 ki_1 rfl ?_
      refine kJ_goto 17 d_D_isDigit_13 rfl ?_
      subst hf
      exact kJ_iret d_D_isDigit_17 rfl (kB2_z _) (Nat.zero_le _) (Nat.zero_le _)
def b_D_readNumber_80 (h : kH) (x0 : Nat) (x1 : Int32) (x2 : Int32) : Option (Bool × kH) := kG x1 80 (kLet (hset h (x0 + 4) (kx x1) x2) fun h4 => some (true, h4))
theorem c_D_readNumber_80 {E : kE} {L : Nat} {xs : Nat → Int32} (hro : kRo E L xs) {h : kH} {x0 : Nat} {x1 : Int32} {x2 : Int32} (k0 : kIs x0 5) {r : Bool} {h' : kH} (hf : b_D_readNumber_80 h x0 x1 x2 = some (r, h')) : kJ E m_D_readNumber (some (kB2 r)) (mk h') 0 0 80 [(0, .ref x0), (1, .int x1), (2, .int x2)] [] (mk h) := by
  unfold b_D_readNumber_80 at hf
  refine kJ_aload_n 81 0 d_D_readNumber_80 rfl rfl rfl rfl ?_
  refine kM_getR 84 3 (x0 + 4) d_D_readNumber_81 l_D_22 k0 rfl rfl rfl rfl ?_
  refine kJ_iload_n 85 1 d_D_readNumber_84 rfl rfl rfl ?_
  refine kJ_iload_n 86 2 d_D_readNumber_85 rfl rfl rfl ?_
  obtain ⟨hg, hf⟩ := kG_some hf
  refine kM_iast 87 80 d_D_readNumber_86 (kk_5_6 k0) rfl hg rfl ?_
  obtain ⟨h4, eh4, hf⟩ := kLet_e hf
  rw [← eh4]
  refine kJ_iconst 88 1 d_D_readNumber_87 ki_1 rfl ?_
  cases hf
  exact kJ_iret d_D_readNumber_88 rfl (kB2_z _) (Nat.zero_le _) (Nat.zero_le _)
def b_D_readNumber_32 (x0 : Nat) (x1 : Int32) : Nat → kH → Int32 → Int32 → Option (Bool × kH)
  | 0, _, _, _ => none
  | n + 1, h, x2, x3 => (fun rec32 => if 3 ≤ x3 then (b_D_readNumber_80 h x0 x1 x2) else (if x2 ≤ 0 then (b_D_readNumber_80 h x0 x1 x2) else (kBi (f_D_ahead h x0) fun v5 => if (f_D_isDigit v5) = true then (kBi (f_D_ahead h x0) fun v6 => kLet (hset h x0 2 ((h x0 2) + 1)) fun h7 => rec32 h7 (((10 * x2) + v6) - 48) (x3 + 1)) else (b_D_readNumber_80 h x0 x1 x2)))) (fun h' x2' x3' => b_D_readNumber_32 x0 x1 n h' x2' x3')
theorem c_D_readNumber_32 {E : kE} {L : Nat} {xs : Nat → Int32} (hro : kRo E L xs) {x0 : Nat} {x1 : Int32} (k0 : kIs x0 5) {r : Bool} {h' : kH} : ∀ (n : Nat) (h : kH) (x2 : Int32) (x3 : Int32), b_D_readNumber_32 x0 x1 n h x2 x3 = some (r, h') → kJ E m_D_readNumber (some (kB2 r)) (mk h') 0 0 32 [(0, .ref x0), (1, .int x1), (2, .int x2), (3, .int x3)] [] (mk h) := by
  intro n
  induction n with
  | zero =>
    intro h x2 x3 hf
    have hf : (none : Option (Bool × kH)) = some (r, h') := hf
    cases hf
  | succ n hrec32 =>
    intro h x2 x3 hf
    rw [b_D_readNumber_32] at hf
    dsimp only at hf
    refine kJ_iload_n 33 3 d_D_readNumber_32 rfl rfl rfl ?_
    refine kJ_iconst 34 3 d_D_readNumber_33 ki_3 rfl ?_
    refine kJ_icmp_ge 37 80 d_D_readNumber_34 rfl rfl (fun hc => ?_) (fun hc => ?_)
    · have hf := kIf_t hf hc
      refine kJ_sub [0, 1, 2] rfl ?_
      exact c_D_readNumber_80 hro k0 hf
    · have hf := kIf_f hf hc
      refine kJ_iload_n 38 2 d_D_readNumber_37 rfl rfl rfl ?_
      refine kJ_if_le 41 80 d_D_readNumber_38 rfl rfl (fun hc => ?_) (fun hc => ?_)
      · have hf := kIf_t hf hc
        refine kJ_sub [0, 1, 2] rfl ?_
        exact c_D_readNumber_80 hro k0 hf
      · have hf := kIf_f hf hc
        refine kJ_aload_n 42 0 d_D_readNumber_41 rfl rfl rfl rfl ?_
        obtain ⟨v5, ev5, hf⟩ := kBi_some hf
        refine kM_callv 45 m_D_ahead [] [] d_D_readNumber_42 cl_D_45 ⟨w_764, w_59⟩ k0 ⟨rfl, by decide⟩ ⟨_, _, rfl⟩ rfl rfl (Nat.le_of_ble_eq_true rfl) ⟨Nat.le_of_ble_eq_true rfl, Nat.le_of_ble_eq_true rfl⟩ ⟨rfl, rfl⟩ ⟨Nat.zero_le _, Nat.zero_le _⟩ (j_D_ahead hro k0 ev5) rfl ?_
        refine kM_calls 48 m_D_isDigit [.int v5] [] d_D_readNumber_45 cl_D_63 w_778 rfl rfl (Nat.le_of_ble_eq_true rfl) ⟨Nat.le_of_ble_eq_true rfl, Nat.le_of_ble_eq_true rfl⟩ ⟨rfl, rfl⟩ ⟨Nat.zero_le _, Nat.zero_le _⟩ (j_D_isDigit hro rfl) rfl ?_
        refine kJ_if_eq 51 80 d_D_readNumber_48 rfl rfl (fun hc => ?_) (fun hc => ?_)
        · have hf := kIf_f hf (kB2_0 hc)
          refine kJ_sub [0, 1, 2] rfl ?_
          exact c_D_readNumber_80 hro k0 hf
        · have hf := kIf_t hf (kB2_1 hc)
          refine kJ_bipush 53 10 d_D_readNumber_51 kb_10 rfl ?_
          refine kJ_iload_n 54 2 d_D_readNumber_53 rfl rfl rfl ?_
          refine kJ_imul 55 d_D_readNumber_54 rfl ?_
          refine kJ_aload_n 56 0 d_D_readNumber_55 rfl rfl rfl rfl ?_
          obtain ⟨v6, ev6, hf⟩ := kBi_some hf
          refine kM_callv 59 m_D_ahead [] [.int (10 * x2)] d_D_readNumber_56 cl_D_45 ⟨w_764, w_59⟩ k0 ⟨rfl, by decide⟩ ⟨_, _, rfl⟩ rfl rfl (Nat.le_of_ble_eq_true rfl) ⟨Nat.le_of_ble_eq_true rfl, Nat.le_of_ble_eq_true rfl⟩ ⟨rfl, rfl⟩ ⟨Nat.zero_le _, Nat.zero_le _⟩ (j_D_ahead hro k0 ev6) rfl ?_
          refine kJ_iadd 60 d_D_readNumber_59 rfl ?_
          refine kJ_bipush 62 48 d_D_readNumber_60 kb_48 rfl ?_
          refine kJ_isub 63 d_D_readNumber_62 rfl ?_
          refine kJ_istore_n 64 [(2, .int (((10 * x2) + v6) - 48)), (0, .ref x0), (1, .int x1), (3, .int x3)] d_D_readNumber_63 rfl (Nat.le_of_ble_eq_true rfl) rfl rfl ?_
          refine kJ_aload_n 65 1 d_D_readNumber_64 rfl rfl rfl rfl ?_
          refine kJ_dup 66 d_D_readNumber_65 rfl rfl ?_
          refine kM_getI 69 d_D_readNumber_66 l_D_35 k0 rfl rfl rfl ?_
          refine kJ_iconst 70 1 d_D_readNumber_69 ki_1 rfl ?_
          refine kJ_iadd 71 d_D_readNumber_70 rfl ?_
          refine kM_put 74 d_D_readNumber_71 l_D_35 k0 rfl rfl (kFit_int _) rfl ?_
          obtain ⟨h7, eh7, hf⟩ := kLet_e hf
          rw [← eh7]
          refine kJ_iinc 77 3 [(3, .int (x3 + 1)), (2, .int (((10 * x2) + v6) - 48)), (0, .ref x0), (1, .int x1)] d_D_readNumber_74 rfl ki_1 (Nat.le_of_ble_eq_true rfl) rfl rfl ?_
          refine kJ_goto 32 d_D_readNumber_77 rfl ?_
          refine kJ_sub [2, 3, 1, 0] rfl ?_
          exact hrec32 h7 (((10 * x2) + v6) - 48) (x3 + 1) hf
def f_D_readNumber (h : kH) (x0 : Nat) (x1 : Int32) : Option (Bool × kH) := kBi (f_D_ahead h x0) fun v1 => if (f_D_isDigit v1) = true then (kBi (f_D_ahead h x0) fun v2 => kLet (hset h x0 2 ((h x0 2) + 1)) fun h3 => b_D_readNumber_32 x0 x1 kFuel h3 (v2 - 48) 1) else (some (false, h))
theorem j_D_readNumber {E : kE} {L : Nat} {xs : Nat → Int32} (hro : kRo E L xs) {h : kH} {x0 : Nat} {x1 : Int32} (k0 : kIs x0 5) {r : Bool} {h' : kH} (hf : f_D_readNumber h x0 x1 = some (r, h')) : JM E m_D_readNumber [.ref x0, .int x1] (mk h) (some (kB2 r)) (mk h') := by
  unfold f_D_readNumber at hf
  refine JM.of pn_D (Nat.le_of_ble_eq_true rfl) ?_
  show kJ E m_D_readNumber (some (kB2 r)) (mk h') 0 0 0 [(0, .ref x0), (1, .int x1)] [] (mk h)
  refine kJ_aload_n 1 0 d_D_readNumber_0 rfl rfl rfl rfl ?_
  obtain ⟨v1, ev1, hf⟩ := kBi_some hf
  refine kM_callv 4 m_D_ahead [] [] d_D_readNumber_1 cl_D_45 ⟨w_764, w_59⟩ k0 ⟨rfl, by decide⟩ ⟨_, _, rfl⟩ rfl rfl (Nat.le_of_ble_eq_true rfl) ⟨Nat.le_of_ble_eq_true rfl, Nat.le_of_ble_eq_true rfl⟩ ⟨rfl, rfl⟩ ⟨Nat.zero_le _, Nat.zero_le _⟩ (j_D_ahead hro k0 ev1) rfl ?_
  refine kM_calls 7 m_D_isDigit [.int v1] [] d_D_readNumber_4 cl_D_63 w_778 rfl rfl (Nat.le_of_ble_eq_true rfl) ⟨Nat.le_of_ble_eq_true rfl, Nat.le_of_ble_eq_true rfl⟩ ⟨rfl, rfl⟩ ⟨Nat.zero_le _, Nat.zero_le _⟩ (j_D_isDigit hro rfl) rfl ?_
  refine kJ_if_ne 10 12 d_D_readNumber_7 rfl rfl (fun hc => ?_) (fun hc => ?_)
  · have hf := kIf_t hf (kB2_1 hc)
    refine kJ_aload_n 13 0 d_D_readNumber_12 rfl rfl rfl rfl ?_
    obtain ⟨v2, ev2, hf⟩ := kBi_some hf
    refine kM_callv 16 m_D_ahead [] [] d_D_readNumber_13 cl_D_45 ⟨w_764, w_59⟩ k0 ⟨rfl, by decide⟩ ⟨_, _, rfl⟩ rfl rfl (Nat.le_of_ble_eq_true rfl) ⟨Nat.le_of_ble_eq_true rfl, Nat.le_of_ble_eq_true rfl⟩ ⟨rfl, rfl⟩ ⟨Nat.zero_le _, Nat.zero_le _⟩ (j_D_ahead hro k0 ev2) rfl ?_
    refine kJ_bipush 18 48 d_D_readNumber_16 kb_48 rfl ?_
    refine kJ_isub 19 d_D_readNumber_18 rfl ?_
    refine kJ_istore_n 20 [(2, .int (v2 - 48)), (0, .ref x0), (1, .int x1)] d_D_readNumber_19 rfl (Nat.le_of_ble_eq_true rfl) rfl rfl ?_
    refine kJ_aload_n 21 1 d_D_readNumber_20 rfl rfl rfl rfl ?_
    refine kJ_dup 22 d_D_readNumber_21 rfl rfl ?_
    refine kM_getI 25 d_D_readNumber_22 l_D_35 k0 rfl rfl rfl ?_
    refine kJ_iconst 26 1 d_D_readNumber_25 ki_1 rfl ?_
    refine kJ_iadd 27 d_D_readNumber_26 rfl ?_
    refine kM_put 30 d_D_readNumber_27 l_D_35 k0 rfl rfl (kFit_int _) rfl ?_
    obtain ⟨h3, eh3, hf⟩ := kLet_e hf
    rw [← eh3]
    refine kJ_iconst 31 1 d_D_readNumber_30 ki_1 rfl ?_
    refine kJ_istore_n 32 [(3, .int 1), (2, .int (v2 - 48)), (0, .ref x0), (1, .int x1)] d_D_readNumber_31 rfl (Nat.le_of_ble_eq_true rfl) rfl rfl ?_
    refine kJ_sub [2, 3, 1, 0] rfl ?_
    exact c_D_readNumber_32 hro k0 kFuel h3 (v2 - 48) 1 hf
  · have hf := kIf_f hf (kB2_0 hc)
    refine kJ_iconst 11 0 d_D_readNumber_10 ki_0 rfl ?_
    cases hf
    exact kJ_iret d_D_readNumber_11 rfl (kB2_z _) (Nat.zero_le _) (Nat.zero_le _)
def f_D_readChoice (h : kH) (x0 : Nat) (x1 : Int32) (x2 : Int32) : Option (Bool × kH) := kBi (f_D_ahead h x0) fun v1 => if v1 < x2 then (some (false, h)) else (if v1 ≤ 50 then (kG x1 80 (kLet (hset h (x0 + 4) (kx x1) (v1 - 48)) fun h2 => kLet (hset h2 x0 2 ((h2 x0 2) + 1)) fun h3 => some (true, h3))) else (some (false, h)))
theorem j_D_readChoice {E : kE} {L : Nat} {xs : Nat → Int32} (hro : kRo E L xs) {h : kH} {x0 : Nat} {x1 : Int32} {x2 : Int32} (k0 : kIs x0 5) {r : Bool} {h' : kH} (hf : f_D_readChoice h x0 x1 x2 = some (r, h')) : JM E m_D_readChoice [.ref x0, .int x1, .int x2] (mk h) (some (kB2 r)) (mk h') := by
  unfold f_D_readChoice at hf
  refine JM.of pn_D (Nat.le_of_ble_eq_true rfl) ?_
  show kJ E m_D_readChoice (some (kB2 r)) (mk h') 0 0 0 [(0, .ref x0), (1, .int x1), (2, .int x2)] [] (mk h)
  refine kJ_aload_n 1 0 d_D_readChoice_0 rfl rfl rfl rfl ?_
  obtain ⟨v1, ev1, hf⟩ := kBi_some hf
  refine kM_callv 4 m_D_ahead [] [] d_D_readChoice_1 cl_D_45 ⟨w_764, w_59⟩ k0 ⟨rfl, by decide⟩ ⟨_, _, rfl⟩ rfl rfl (Nat.le_of_ble_eq_true rfl) ⟨Nat.le_of_ble_eq_true rfl, Nat.le_of_ble_eq_true rfl⟩ ⟨rfl, rfl⟩ ⟨Nat.zero_le _, Nat.zero_le _⟩ (j_D_ahead hro k0 ev1) rfl ?_
  refine kJ_istore_n 5 [(3, .int v1), (0, .ref x0), (1, .int x1), (2, .int x2)] d_D_readChoice_4 rfl (Nat.le_of_ble_eq_true rfl) rfl rfl ?_
  refine kJ_iload_n 6 0 d_D_readChoice_5 rfl rfl rfl ?_
  refine kJ_iload_n 7 3 d_D_readChoice_6 rfl rfl rfl ?_
  refine kJ_icmp_lt 10 16 d_D_readChoice_7 rfl rfl (fun hc => ?_) (fun hc => ?_)
  · have hf := kIf_t hf hc
    refine kJ_iconst 17 0 d_D_readChoice_16 ki_0 rfl ?_
    cases hf
    exact kJ_iret d_D_readChoice_17 rfl (kB2_z _) (Nat.zero_le _) (Nat.zero_le _)
  · have hf := kIf_f hf hc
    refine kJ_iload_n 11 0 d_D_readChoice_10 rfl rfl rfl ?_
    refine kJ_bipush 13 50 d_D_readChoice_11 kb_50 rfl ?_
    refine kJ_icmp_le 16 18 d_D_readChoice_13 rfl rfl (fun hc => ?_) (fun hc => ?_)
    · have hf := kIf_t hf hc
      refine kJ_aload_n 19 1 d_D_readChoice_18 rfl rfl rfl rfl ?_
      refine kM_getR 22 3 (x0 + 4) d_D_readChoice_19 l_D_22 k0 rfl rfl rfl rfl ?_
      refine kJ_iload_n 23 2 d_D_readChoice_22 rfl rfl rfl ?_
      refine kJ_iload_n 24 0 d_D_readChoice_23 rfl rfl rfl ?_
      refine kJ_bipush 26 48 d_D_readChoice_24 kb_48 rfl ?_
      refine kJ_isub 27 d_D_readChoice_26 rfl ?_
      obtain ⟨hg, hf⟩ := kG_some hf
      refine kM_iast 28 80 d_D_readChoice_27 (kk_5_6 k0) rfl hg rfl ?_
      obtain ⟨h2, eh2, hf⟩ := kLet_e hf
      rw [← eh2]
      refine kJ_aload_n 29 1 d_D_readChoice_28 rfl rfl rfl rfl ?_
      refine kJ_dup 30 d_D_readChoice_29 rfl rfl ?_
      refine kM_getI 33 d_D_readChoice_30 l_D_35 k0 rfl rfl rfl ?_
      refine kJ_iconst 34 1 d_D_readChoice_33 ki_1 rfl ?_
      refine kJ_iadd 35 d_D_readChoice_34 rfl ?_
      refine kM_put 38 d_D_readChoice_35 l_D_35 k0 rfl rfl (kFit_int _) rfl ?_
      obtain ⟨h3, eh3, hf⟩ := kLet_e hf
      rw [← eh3]
      refine kJ_iconst 39 1 d_D_readChoice_38 ki_1 rfl ?_
      cases hf
      exact kJ_iret d_D_readChoice_39 rfl (kB2_z _) (Nat.zero_le _) (Nat.zero_le _)
    · have hf := kIf_f hf hc
      refine kJ_iconst 17 0 d_D_readChoice_16 ki_0 rfl ?_
      cases hf
      exact kJ_iret d_D_readChoice_17 rfl (kB2_z _) (Nat.zero_le _) (Nat.zero_le _)
def f_D_readOrder (h : kH) (x0 : Nat) (x1 : Int32) : Option (Bool × kH) := kBi (f_D_ahead h x0) fun v1 => if (f_D_isSign v1) = true then (kG x1 80 (kLet (hset h (x0 + 2) (kx x1) (vp_nar .char v1)) fun h2 => kLet (hset h2 x0 2 ((h2 x0 2) + 1)) fun h3 => if v1 = 43 then (kBd (f_D_readMember h3 x0 x1) fun v6 h5 => some (v6, h5)) else (if v1 = 45 then (kBd (f_D_readMember h3 x0 x1) fun v8 h7 => some (v8, h7)) else (if v1 = 109 then (kBd (f_D_readNumber h3 x0 x1) fun v10 h9 => some (v10, h9)) else (if v1 = 111 then (kBd (f_D_readNumber h3 x0 x1) fun v12 h11 => some (v12, h11)) else (if v1 = 118 then (kBd (f_D_readMember h3 x0 x1) fun v14 h13 => if v14 = true then (kBd (f_D_readChoice h13 x0 x1 48) fun v16 h15 => if v16 = true then (some (true, h15)) else (some (false, h15))) else (some (false, h13))) else (if v1 = 120 then (kBd (f_D_readChoice h3 x0 x1 49) fun v18 h17 => some (v18, h17)) else (some (true, h3))))))))) else (some (false, h))
theorem j_D_readOrder {E : kE} {L : Nat} {xs : Nat → Int32} (hro : kRo E L xs) {h : kH} {x0 : Nat} {x1 : Int32} (k0 : kIs x0 5) {r : Bool} {h' : kH} (hf : f_D_readOrder h x0 x1 = some (r, h')) : JM E m_D_readOrder [.ref x0, .int x1] (mk h) (some (kB2 r)) (mk h') := by
  unfold f_D_readOrder at hf
  refine JM.of pn_D (Nat.le_of_ble_eq_true rfl) ?_
  show kJ E m_D_readOrder (some (kB2 r)) (mk h') 0 0 0 [(0, .ref x0), (1, .int x1)] [] (mk h)
  refine kJ_aload_n 1 0 d_D_readOrder_0 rfl rfl rfl rfl ?_
  obtain ⟨v1, ev1, hf⟩ := kBi_some hf
  refine kM_callv 4 m_D_ahead [] [] d_D_readOrder_1 cl_D_45 ⟨w_764, w_59⟩ k0 ⟨rfl, by decide⟩ ⟨_, _, rfl⟩ rfl rfl (Nat.le_of_ble_eq_true rfl) ⟨Nat.le_of_ble_eq_true rfl, Nat.le_of_ble_eq_true rfl⟩ ⟨rfl, rfl⟩ ⟨Nat.zero_le _, Nat.zero_le _⟩ (j_D_ahead hro k0 ev1) rfl ?_
  refine kJ_istore_n 5 [(2, .int v1), (0, .ref x0), (1, .int x1)] d_D_readOrder_4 rfl (Nat.le_of_ble_eq_true rfl) rfl rfl ?_
  refine kJ_iload_n 6 0 d_D_readOrder_5 rfl rfl rfl ?_
  refine kM_calls 9 m_D_isSign [.int v1] [] d_D_readOrder_6 cl_D_49 w_767 rfl rfl (Nat.le_of_ble_eq_true rfl) ⟨Nat.le_of_ble_eq_true rfl, Nat.le_of_ble_eq_true rfl⟩ ⟨rfl, rfl⟩ ⟨Nat.zero_le _, Nat.zero_le _⟩ (j_D_isSign hro rfl) rfl ?_
  refine kJ_if_ne 12 14 d_D_readOrder_9 rfl rfl (fun hc => ?_) (fun hc => ?_)
  · have hf := kIf_t hf (kB2_1 hc)
    refine kJ_aload_n 15 1 d_D_readOrder_14 rfl rfl rfl rfl ?_
    refine kM_getR 18 1 (x0 + 2) d_D_readOrder_15 l_D_15 k0 rfl rfl rfl rfl ?_
    refine kJ_iload_n 19 2 d_D_readOrder_18 rfl rfl rfl ?_
    refine kJ_iload_n 20 0 d_D_readOrder_19 rfl rfl rfl ?_
    obtain ⟨hg, hf⟩ := kG_some hf
    refine kM_cast 21 80 d_D_readOrder_20 (kk_5_4 k0) rfl hg rfl ?_
    obtain ⟨h2, eh2, hf⟩ := kLet_e hf
    rw [← eh2]
    refine kJ_aload_n 22 1 d_D_readOrder_21 rfl rfl rfl rfl ?_
    refine kJ_dup 23 d_D_readOrder_22 rfl rfl ?_
    refine kM_getI 26 d_D_readOrder_23 l_D_35 k0 rfl rfl rfl ?_
    refine kJ_iconst 27 1 d_D_readOrder_26 ki_1 rfl ?_
    refine kJ_iadd 28 d_D_readOrder_27 rfl ?_
    refine kM_put 31 d_D_readOrder_28 l_D_35 k0 rfl rfl (kFit_int _) rfl ?_
    obtain ⟨h3, eh3, hf⟩ := kLet_e hf
    rw [← eh3]
    refine kJ_iload_n 32 0 d_D_readOrder_31 rfl rfl rfl ?_
    by_cases c0 : v1 = 43
    · have hf := kIf_t hf c0
      refine kJ_lookup 92 d_D_readOrder_32 (by decide) (by rw [c0]; try rfl) rfl ?_
      refine kJ_aload_n 93 1 d_D_readOrder_92 rfl rfl rfl rfl ?_
      refine kJ_iload_n 94 2 d_D_readOrder_93 rfl rfl rfl ?_
      obtain ⟨v6, h5, ev6, hf⟩ := kBd_some hf
      refine kM_callv 97 m_D_readMember [.int x1] [] d_D_readOrder_94 cl_D_53 ⟨w_771, w_60⟩ k0 ⟨rfl, by decide⟩ ⟨_, _, rfl⟩ rfl rfl (Nat.le_of_ble_eq_true rfl) ⟨Nat.le_of_ble_eq_true rfl, Nat.le_of_ble_eq_true rfl⟩ ⟨rfl, rfl⟩ ⟨Nat.zero_le _, Nat.zero_le _⟩ (j_D_readMember hro k0 ev6) rfl ?_
      cases hf
      exact kJ_iret d_D_readOrder_97 rfl (kB2_z _) (Nat.zero_le _) (Nat.zero_le _)
    · have hf := kIf_f hf c0
      by_cases c1 : v1 = 45
      · have hf := kIf_t hf c1
        refine kJ_lookup 92 d_D_readOrder_32 (by decide) (by rw [c1]; try rfl) rfl ?_
        refine kJ_aload_n 93 1 d_D_readOrder_92 rfl rfl rfl rfl ?_
        refine kJ_iload_n 94 2 d_D_readOrder_93 rfl rfl rfl ?_
        obtain ⟨v8, h7, ev8, hf⟩ := kBd_some hf
        refine kM_callv 97 m_D_readMember [.int x1] [] d_D_readOrder_94 cl_D_53 ⟨w_771, w_60⟩ k0 ⟨rfl, by decide⟩ ⟨_, _, rfl⟩ rfl rfl (Nat.le_of_ble_eq_true rfl) ⟨Nat.le_of_ble_eq_true rfl, Nat.le_of_ble_eq_true rfl⟩ ⟨rfl, rfl⟩ ⟨Nat.zero_le _, Nat.zero_le _⟩ (j_D_readMember hro k0 ev8) rfl ?_
        cases hf
        exact kJ_iret d_D_readOrder_97 rfl (kB2_z _) (Nat.zero_le _) (Nat.zero_le _)
      · have hf := kIf_f hf c1
        by_cases c2 : v1 = 109
        · have hf := kIf_t hf c2
          refine kJ_lookup 98 d_D_readOrder_32 (by decide) (by rw [c2]; try rfl) rfl ?_
          refine kJ_aload_n 99 1 d_D_readOrder_98 rfl rfl rfl rfl ?_
          refine kJ_iload_n 100 2 d_D_readOrder_99 rfl rfl rfl ?_
          obtain ⟨v10, h9, ev10, hf⟩ := kBd_some hf
          refine kM_callv 103 m_D_readNumber [.int x1] [] d_D_readOrder_100 cl_D_56 ⟨w_775, w_61⟩ k0 ⟨rfl, by decide⟩ ⟨_, _, rfl⟩ rfl rfl (Nat.le_of_ble_eq_true rfl) ⟨Nat.le_of_ble_eq_true rfl, Nat.le_of_ble_eq_true rfl⟩ ⟨rfl, rfl⟩ ⟨Nat.zero_le _, Nat.zero_le _⟩ (j_D_readNumber hro k0 ev10) rfl ?_
          cases hf
          exact kJ_iret d_D_readOrder_103 rfl (kB2_z _) (Nat.zero_le _) (Nat.zero_le _)
        · have hf := kIf_f hf c2
          by_cases c3 : v1 = 111
          · have hf := kIf_t hf c3
            refine kJ_lookup 98 d_D_readOrder_32 (by decide) (by rw [c3]; try rfl) rfl ?_
            refine kJ_aload_n 99 1 d_D_readOrder_98 rfl rfl rfl rfl ?_
            refine kJ_iload_n 100 2 d_D_readOrder_99 rfl rfl rfl ?_
            obtain ⟨v12, h11, ev12, hf⟩ := kBd_some hf
            refine kM_callv 103 m_D_readNumber [.int x1] [] d_D_readOrder_100 cl_D_56 ⟨w_775, w_61⟩ k0 ⟨rfl, by decide⟩ ⟨_, _, rfl⟩ rfl rfl (Nat.le_of_ble_eq_true rfl) ⟨Nat.le_of_ble_eq_true rfl, Nat.le_of_ble_eq_true rfl⟩ ⟨rfl, rfl⟩ ⟨Nat.zero_le _, Nat.zero_le _⟩ (j_D_readNumber hro k0 ev12) rfl ?_
            cases hf
            exact kJ_iret d_D_readOrder_103 rfl (kB2_z _) (Nat.zero_le _) (Nat.zero_le _)
          · have hf := kIf_f hf c3
            by_cases c4 : v1 = 118
            · have hf := kIf_t hf c4
              refine kJ_lookup 104 d_D_readOrder_32 (by decide) (by rw [c4]; try rfl) rfl ?_
              refine kJ_aload_n 105 1 d_D_readOrder_104 rfl rfl rfl rfl ?_
              refine kJ_iload_n 106 2 d_D_readOrder_105 rfl rfl rfl ?_
              obtain ⟨v14, h13, ev14, hf⟩ := kBd_some hf
              refine kM_callv 109 m_D_readMember [.int x1] [] d_D_readOrder_106 cl_D_53 ⟨w_771, w_60⟩ k0 ⟨rfl, by decide⟩ ⟨_, _, rfl⟩ rfl rfl (Nat.le_of_ble_eq_true rfl) ⟨Nat.le_of_ble_eq_true rfl, Nat.le_of_ble_eq_true rfl⟩ ⟨rfl, rfl⟩ ⟨Nat.zero_le _, Nat.zero_le _⟩ (j_D_readMember hro k0 ev14) rfl ?_
              refine kJ_if_eq 112 126 d_D_readOrder_109 rfl rfl (fun hc => ?_) (fun hc => ?_)
              · have hf := kIf_f hf (kB2_0 hc)
                refine kJ_iconst 127 0 d_D_readOrder_126 ki_0 rfl ?_
                cases hf
                exact kJ_iret d_D_readOrder_127 rfl (kB2_z _) (Nat.zero_le _) (Nat.zero_le _)
              · have hf := kIf_t hf (kB2_1 hc)
                refine kJ_aload_n 113 1 d_D_readOrder_112 rfl rfl rfl rfl ?_
                refine kJ_iload_n 114 2 d_D_readOrder_113 rfl rfl rfl ?_
                refine kJ_bipush 116 48 d_D_readOrder_114 kb_48 rfl ?_
                obtain ⟨v16, h15, ev16, hf⟩ := kBd_some hf
                refine kM_callv 119 m_D_readChoice [.int x1, .int 48] [] d_D_readOrder_116 cl_D_59 ⟨w_782, w_62⟩ k0 ⟨rfl, by decide⟩ ⟨_, _, rfl⟩ rfl rfl (Nat.le_of_ble_eq_true rfl) ⟨Nat.le_of_ble_eq_true rfl, Nat.le_of_ble_eq_true rfl⟩ ⟨rfl, rfl⟩ ⟨Nat.zero_le _, Nat.zero_le _⟩ (j_D_readChoice hro k0 ev16) rfl ?_
                refine kJ_if_eq 122 126 d_D_readOrder_119 rfl rfl (fun hc => ?_) (fun hc => ?_)
                · have hf := kIf_f hf (kB2_0 hc)
                  refine kJ_iconst 127 0 d_D_readOrder_126 ki_0 rfl ?_
                  cases hf
                  exact kJ_iret d_D_readOrder_127 rfl (kB2_z _) (Nat.zero_le _) (Nat.zero_le _)
                · have hf := kIf_t hf (kB2_1 hc)
                  refine kJ_iconst 123 1 d_D_readOrder_122 ki_1 rfl ?_
                  refine kJ_goto 127 d_D_readOrder_123 rfl ?_
                  cases hf
                  exact kJ_iret d_D_readOrder_127 rfl (kB2_z _) (Nat.zero_le _) (Nat.zero_le _)
            · have hf := kIf_f hf c4
              by_cases c5 : v1 = 120
              · have hf := kIf_t hf c5
                refine kJ_lookup 128 d_D_readOrder_32 (by decide) (by rw [c5]; try rfl) rfl ?_
                refine kJ_aload_n 129 1 d_D_readOrder_128 rfl rfl rfl rfl ?_
                refine kJ_iload_n 130 2 d_D_readOrder_129 rfl rfl rfl ?_
                refine kJ_bipush 132 49 d_D_readOrder_130 kb_49 rfl ?_
                obtain ⟨v18, h17, ev18, hf⟩ := kBd_some hf
                refine kM_callv 135 m_D_readChoice [.int x1, .int 49] [] d_D_readOrder_132 cl_D_59 ⟨w_782, w_62⟩ k0 ⟨rfl, by decide⟩ ⟨_, _, rfl⟩ rfl rfl (Nat.le_of_ble_eq_true rfl) ⟨Nat.le_of_ble_eq_true rfl, Nat.le_of_ble_eq_true rfl⟩ ⟨rfl, rfl⟩ ⟨Nat.zero_le _, Nat.zero_le _⟩ (j_D_readChoice hro k0 ev18) rfl ?_
                cases hf
                exact kJ_iret d_D_readOrder_135 rfl (kB2_z _) (Nat.zero_le _) (Nat.zero_le _)
              · have hf := kIf_f hf c5
                refine kJ_lookup 136 d_D_readOrder_32 (by decide) ((lv_osw c0 rfl).trans ((lv_osw c1 rfl).trans ((lv_osw c2 rfl).trans ((lv_osw c3 rfl).trans ((lv_osw c4 rfl).trans ((lv_osw c5 rfl).trans rfl)))))) rfl ?_
                refine kJ_iconst 137 1 d_D_readOrder_136 ki_1 rfl ?_
                cases hf
                exact kJ_iret d_D_readOrder_137 rfl (kB2_z _) (Nat.zero_le _) (Nat.zero_le _)
  · have hf := kIf_f hf (kB2_0 hc)
    refine kJ_iconst 13 0 d_D_readOrder_12 ki_0 rfl ?_
    cases hf
    exact kJ_iret d_D_readOrder_13 rfl (kB2_z _) (Nat.zero_le _) (Nat.zero_le _)
def b_D_read_12 (x0 : Nat) : Nat → kH → Int32 → Option (Int32 × kH)
  | 0, _, _ => none
  | n + 1, h, x1 => (fun rec12 => if 80 ≤ x1 then (some ((h x0 2), h)) else (kBd (f_D_readOrder h x0 x1) fun v4 h3 => if v4 = true then (kLet (hset h3 x0 3 ((h3 x0 3) + 1)) fun h5 => if (h5 x0 2) < (h5 x0 1) then (kG (h5 x0 2) 80 (if (h5 (x0 + 1) (kx (h5 x0 2))) = 59 then (kLet (hset h5 x0 2 ((h5 x0 2) + 1)) fun h6 => rec12 h6 (x1 + 1)) else (some ((h5 x0 2), h5)))) else (some ((-6), h5))) else (some ((h3 x0 2), h3)))) (fun h' x1' => b_D_read_12 x0 n h' x1')
theorem c_D_read_12 {E : kE} {L : Nat} {xs : Nat → Int32} (hro : kRo E L xs) {x0 : Nat} (k0 : kIs x0 5) {r : Int32} {h' : kH} : ∀ (n : Nat) (h : kH) (x1 : Int32), b_D_read_12 x0 n h x1 = some (r, h') → kJ E m_D_read (some r) (mk h') 0 0 12 [(0, .ref x0), (1, .int x1)] [] (mk h) := by
  intro n
  induction n with
  | zero =>
    intro h x1 hf
    have hf : (none : Option (Int32 × kH)) = some (r, h') := hf
    cases hf
  | succ n hrec12 =>
    intro h x1 hf
    rw [b_D_read_12] at hf
    dsimp only at hf
    refine kJ_iload_n 13 1 d_D_read_12 rfl rfl rfl ?_
    refine kJ_bipush 15 80 d_D_read_13 kb_80 rfl ?_
    refine kJ_icmp_ge 18 85 d_D_read_15 rfl rfl (fun hc => ?_) (fun hc => ?_)
    · have hf := kIf_t hf hc
      refine kJ_aload_n 86 0 d_D_read_85 rfl rfl rfl rfl ?_
      refine kM_getI 89 d_D_read_86 l_D_35 k0 rfl rfl rfl ?_
      cases hf
      exact kJ_iret d_D_read_89 rfl rfl (Nat.zero_le _) (Nat.zero_le _)
    · have hf := kIf_f hf hc
      refine kJ_aload_n 19 0 d_D_read_18 rfl rfl rfl rfl ?_
      refine kJ_iload_n 20 1 d_D_read_19 rfl rfl rfl ?_
      obtain ⟨v4, h3, ev4, hf⟩ := kBd_some hf
      refine kM_callv 23 m_D_readOrder [.int x1] [] d_D_read_20 cl_D_41 ⟨w_760, w_58⟩ k0 ⟨rfl, by decide⟩ ⟨_, _, rfl⟩ rfl rfl (Nat.le_of_ble_eq_true rfl) ⟨Nat.le_of_ble_eq_true rfl, Nat.le_of_ble_eq_true rfl⟩ ⟨rfl, rfl⟩ ⟨Nat.zero_le _, Nat.zero_le _⟩ (j_D_readOrder hro k0 ev4) rfl ?_
      refine kJ_if_eq 26 85 d_D_read_23 rfl rfl (fun hc => ?_) (fun hc => ?_)
      · have hf := kIf_f hf (kB2_0 hc)
        refine kJ_aload_n 86 0 d_D_read_85 rfl rfl rfl rfl ?_
        refine kM_getI 89 d_D_read_86 l_D_35 k0 rfl rfl rfl ?_
        cases hf
        exact kJ_iret d_D_read_89 rfl rfl (Nat.zero_le _) (Nat.zero_le _)
      · have hf := kIf_t hf (kB2_1 hc)
        refine kJ_aload_n 27 0 d_D_read_26 rfl rfl rfl rfl ?_
        refine kJ_dup 28 d_D_read_27 rfl rfl ?_
        refine kM_getI 31 d_D_read_28 l_D_38 k0 rfl rfl rfl ?_
        refine kJ_iconst 32 1 d_D_read_31 ki_1 rfl ?_
        refine kJ_iadd 33 d_D_read_32 rfl ?_
        refine kM_put 36 d_D_read_33 l_D_38 k0 rfl rfl (kFit_int _) rfl ?_
        obtain ⟨h5, eh5, hf⟩ := kLet_e hf
        rw [← eh5]
        refine kJ_aload_n 37 0 d_D_read_36 rfl rfl rfl rfl ?_
        refine kM_getI 40 d_D_read_37 l_D_35 k0 rfl rfl rfl ?_
        refine kJ_aload_n 41 0 d_D_read_40 rfl rfl rfl rfl ?_
        refine kM_getI 44 d_D_read_41 l_D_31 k0 rfl rfl rfl ?_
        refine kJ_icmp_lt 47 50 d_D_read_44 rfl rfl (fun hc => ?_) (fun hc => ?_)
        · have hf := kIf_t hf hc
          refine kJ_aload_n 51 0 d_D_read_50 rfl rfl rfl rfl ?_
          refine kM_getR 54 0 (x0 + 1) d_D_read_51 l_D_9 k0 rfl rfl rfl rfl ?_
          refine kJ_aload_n 55 0 d_D_read_54 rfl rfl rfl rfl ?_
          refine kM_getI 58 d_D_read_55 l_D_35 k0 rfl rfl rfl ?_
          obtain ⟨hg, hf⟩ := kG_some hf
          refine kM_cald 59 80 d_D_read_58 (kk_5_0 k0) rfl hg rfl ?_
          refine kJ_bipush 61 59 d_D_read_59 kb_59 rfl ?_
          refine kJ_icmp_eq 64 69 d_D_read_61 rfl rfl (fun hc => ?_) (fun hc => ?_)
          · have hf := kIf_t hf hc
            refine kJ_aload_n 70 0 d_D_read_69 rfl rfl rfl rfl ?_
            refine kJ_dup 71 d_D_read_70 rfl rfl ?_
            refine kM_getI 74 d_D_read_71 l_D_35 k0 rfl rfl rfl ?_
            refine kJ_iconst 75 1 d_D_read_74 ki_1 rfl ?_
            refine kJ_iadd 76 d_D_read_75 rfl ?_
            refine kM_put 79 d_D_read_76 l_D_35 k0 rfl rfl (kFit_int _) rfl ?_
            obtain ⟨h6, eh6, hf⟩ := kLet_e hf
            rw [← eh6]
            refine kJ_iinc 82 1 [(1, .int (x1 + 1)), (0, .ref x0)] d_D_read_79 rfl ki_1 (Nat.le_of_ble_eq_true rfl) rfl rfl ?_
            refine kJ_goto 12 d_D_read_82 rfl ?_
            refine kJ_sub [1, 0] rfl ?_
            exact hrec12 h6 (x1 + 1) hf
          · have hf := kIf_f hf hc
            refine kJ_aload_n 65 0 d_D_read_64 rfl rfl rfl rfl ?_
            refine kM_getI 68 d_D_read_65 l_D_35 k0 rfl rfl rfl ?_
            cases hf
            exact kJ_iret d_D_read_68 rfl rfl (Nat.zero_le _) (Nat.zero_le _)
        · have hf := kIf_f hf hc
          refine kJ_bipush 49 (-6) d_D_read_47 kb_m6 rfl ?_
          cases hf
          exact kJ_iret d_D_read_49 rfl rfl (Nat.zero_le _) (Nat.zero_le _)
def f_D_read (h : kH) (x0 : Nat) : Option (Int32 × kH) := kLet (hset h x0 2 0) fun h1 => kLet (hset h1 x0 3 0) fun h2 => b_D_read_12 x0 kFuel h2 0
theorem j_D_read {E : kE} {L : Nat} {xs : Nat → Int32} (hro : kRo E L xs) {h : kH} {x0 : Nat} (k0 : kIs x0 5) {r : Int32} {h' : kH} (hf : f_D_read h x0 = some (r, h')) : JM E m_D_read [.ref x0] (mk h) (some r) (mk h') := by
  unfold f_D_read at hf
  refine JM.of pn_D (Nat.le_of_ble_eq_true rfl) ?_
  show kJ E m_D_read (some r) (mk h') 0 0 0 [(0, .ref x0)] [] (mk h)
  refine kJ_aload_n 1 0 d_D_read_0 rfl rfl rfl rfl ?_
  refine kJ_iconst 2 0 d_D_read_1 ki_0 rfl ?_
  refine kM_put 5 d_D_read_2 l_D_35 k0 rfl rfl (kFit_int _) rfl ?_
  obtain ⟨h1, eh1, hf⟩ := kLet_e hf
  rw [← eh1]
  refine kJ_aload_n 6 0 d_D_read_5 rfl rfl rfl rfl ?_
  refine kJ_iconst 7 0 d_D_read_6 ki_0 rfl ?_
  refine kM_put 10 d_D_read_7 l_D_38 k0 rfl rfl (kFit_int _) rfl ?_
  obtain ⟨h2, eh2, hf⟩ := kLet_e hf
  rw [← eh2]
  refine kJ_iconst 11 0 d_D_read_10 ki_0 rfl ?_
  refine kJ_istore_n 12 [(1, .int 0), (0, .ref x0)] d_D_read_11 rfl (Nat.le_of_ble_eq_true rfl) rfl rfl ?_
  refine kJ_sub [1, 0] rfl ?_
  exact c_D_read_12 hro k0 kFuel h2 0 hf
def f_P_fault (h : kH) : Option (Int32 × kH) := kBd (f_D_read h 637) fun v2 h1 => some (v2, h1)
theorem j_P_fault {E : kE} {L : Nat} {xs : Nat → Int32} (hro : kRo E L xs) {h : kH} {r : Int32} {h' : kH} (hf : f_P_fault h = some (r, h')) : JM E m_P_fault [.ref 0] (mk h) (some r) (mk h') := by
  unfold f_P_fault at hf
  refine JM.of pn_P (Nat.le_of_ble_eq_true rfl) ?_
  show kJ E m_P_fault (some r) (mk h') 0 0 0 [(0, .ref 0)] [] (mk h)
  refine kJ_aload_n 1 0 d_P_fault_0 rfl rfl rfl rfl ?_
  refine kM_getR 4 636 637 d_P_fault_1 l_P_36 kp_0 rfl rfl rfl rfl ?_
  obtain ⟨v2, h1, ev2, hf⟩ := kBd_some hf
  refine kM_callv 7 m_D_read [] [] d_P_fault_4 cl_P_307 ⟨w_756, w_57⟩ kp_637 ⟨rfl, by decide⟩ ⟨_, _, rfl⟩ rfl rfl (Nat.le_of_ble_eq_true rfl) ⟨Nat.le_of_ble_eq_true rfl, Nat.le_of_ble_eq_true rfl⟩ ⟨rfl, rfl⟩ ⟨Nat.zero_le _, Nat.zero_le _⟩ (j_D_read hro kp_637 ev2) rfl ?_
  cases hf
  exact kJ_iret d_P_fault_7 rfl rfl (Nat.zero_le _) (Nat.zero_le _)
def f_P_carry (h : kH) (x1 : Int32) : Option (Int32 × kH) := kG x1 80 (kG x1 80 (kG x1 80 (kLet (h 639 (kx x1)) fun v1 => (if v1 = 43 then (kBd (f_C_bringIn h 1 (h 640 (kx x1))) fun v3 h2 => some (v3, h2)) else (if v1 = 45 then (kBd (f_C_sendAway h 1 (h 640 (kx x1))) fun v5 h4 => some (v5, h4)) else (if v1 = 99 then (kBd (f_C_closeItem h 1 141) fun v7 h6 => some (v7, h6)) else (if v1 = 109 then (kBd (f_C_letPass h 1 (h 641 (kx x1))) fun v9 h8 => some (v9, h8)) else (if v1 = 111 then (kBd (f_C_openItem h 1 (h 641 (kx x1)) 141) fun v11 h10 => some (v11, h10)) else (if v1 = 118 then (kBd (f_C_giveVote h 1 (h 640 (kx x1)) (h 641 (kx x1))) fun v13 h12 => some (v13, h12)) else (if v1 = 120 then (kBd (f_C_breakTie h 1 (h 641 (kx x1))) fun v15 h14 => some (v15, h14)) else (some ((-3), h))))))))))))
theorem j_P_carry {E : kE} {L : Nat} {xs : Nat → Int32} (hro : kRo E L xs) {h : kH} {x1 : Int32} {r : Int32} {h' : kH} (hf : f_P_carry h x1 = some (r, h')) : JM E m_P_carry [.ref 0, .int x1] (mk h) (some r) (mk h') := by
  unfold f_P_carry at hf
  refine JM.of pn_P (Nat.le_of_ble_eq_true rfl) ?_
  show kJ E m_P_carry (some r) (mk h') 0 0 0 [(0, .ref 0), (1, .int x1)] [] (mk h)
  refine kJ_aload_n 1 0 d_P_carry_0 rfl rfl rfl rfl ?_
  refine kM_getR 4 636 637 d_P_carry_1 l_P_36 kp_0 rfl rfl rfl rfl ?_
  refine kM_getR 7 2 640 d_P_carry_4 l_P_319 kp_637 rfl rfl rfl rfl ?_
  refine kJ_iload_n 8 1 d_P_carry_7 rfl rfl rfl ?_
  obtain ⟨hg, hf⟩ := kG_some hf
  refine kM_iald 9 80 d_P_carry_8 (kk_5_5 kp_637) rfl hg rfl ?_
  refine kJ_istore_n 10 [(2, .int (h 640 (kx x1))), (0, .ref 0), (1, .int x1)] d_P_carry_9 rfl (Nat.le_of_ble_eq_true rfl) rfl rfl ?_
  refine kJ_aload_n 11 1 d_P_carry_10 rfl rfl rfl rfl ?_
  refine kM_getR 14 636 637 d_P_carry_11 l_P_36 kp_0 rfl rfl rfl rfl ?_
  refine kM_getR 17 3 641 d_P_carry_14 l_P_322 kp_637 rfl rfl rfl rfl ?_
  refine kJ_iload_n 18 2 d_P_carry_17 rfl rfl rfl ?_
  obtain ⟨hg, hf⟩ := kG_some hf
  refine kM_iald 19 80 d_P_carry_18 (kk_5_6 kp_637) rfl hg rfl ?_
  refine kJ_istore_n 20 [(3, .int (h 641 (kx x1))), (2, .int (h 640 (kx x1))), (0, .ref 0), (1, .int x1)] d_P_carry_19 rfl (Nat.le_of_ble_eq_true rfl) rfl rfl ?_
  refine kJ_aload_n 21 2 d_P_carry_20 rfl rfl rfl rfl ?_
  refine kM_getR 24 636 637 d_P_carry_21 l_P_36 kp_0 rfl rfl rfl rfl ?_
  refine kM_getR 27 1 639 d_P_carry_24 l_P_325 kp_637 rfl rfl rfl rfl ?_
  refine kJ_iload_n 28 3 d_P_carry_27 rfl rfl rfl ?_
  obtain ⟨hg, hf⟩ := kG_some hf
  refine kM_cald 29 80 d_P_carry_28 (kk_5_4 kp_637) rfl hg rfl ?_
  obtain ⟨v1, ev1, hf⟩ := kLet_e hf
  rw [← ev1]
  by_cases c0 : v1 = 43
  · have hf := kIf_t hf c0
    refine kJ_lookup 96 d_P_carry_29 (by decide) (by rw [c0]; try rfl) rfl ?_
    refine kJ_aload_n 97 2 d_P_carry_96 rfl rfl rfl rfl ?_
    refine kM_getR 100 0 1 d_P_carry_97 l_P_10 kp_0 rfl rfl rfl rfl ?_
    refine kJ_iload_n 101 1 d_P_carry_100 rfl rfl rfl ?_
    obtain ⟨v3, h2, ev3, hf⟩ := kBd_some hf
    refine kM_callv 104 m_C_bringIn [.int (h 640 (kx x1))] [] d_P_carry_101 cl_P_76 ⟨w_445, w_11⟩ kp_1 ⟨rfl, by decide⟩ ⟨_, _, rfl⟩ rfl rfl (Nat.le_of_ble_eq_true rfl) ⟨Nat.le_of_ble_eq_true rfl, Nat.le_of_ble_eq_true rfl⟩ ⟨rfl, rfl⟩ ⟨Nat.zero_le _, Nat.zero_le _⟩ (j_C_bringIn hro kp_1 ev3) rfl ?_
    cases hf
    exact kJ_iret d_P_carry_104 rfl rfl (Nat.zero_le _) (Nat.zero_le _)
  · have hf := kIf_f hf c0
    by_cases c1 : v1 = 45
    · have hf := kIf_t hf c1
      refine kJ_lookup 105 d_P_carry_29 (by decide) (by rw [c1]; try rfl) rfl ?_
      refine kJ_aload_n 106 2 d_P_carry_105 rfl rfl rfl rfl ?_
      refine kM_getR 109 0 1 d_P_carry_106 l_P_10 kp_0 rfl rfl rfl rfl ?_
      refine kJ_iload_n 110 1 d_P_carry_109 rfl rfl rfl ?_
      obtain ⟨v5, h4, ev5, hf⟩ := kBd_some hf
      refine kM_callv 113 m_C_sendAway [.int (h 640 (kx x1))] [] d_P_carry_110 cl_P_79 ⟨w_463, w_13⟩ kp_1 ⟨rfl, by decide⟩ ⟨_, _, rfl⟩ rfl rfl (Nat.le_of_ble_eq_true rfl) ⟨Nat.le_of_ble_eq_true rfl, Nat.le_of_ble_eq_true rfl⟩ ⟨rfl, rfl⟩ ⟨Nat.zero_le _, Nat.zero_le _⟩ (j_C_sendAway hro kp_1 ev5) rfl ?_
      cases hf
      exact kJ_iret d_P_carry_113 rfl rfl (Nat.zero_le _) (Nat.zero_le _)
    · have hf := kIf_f hf c1
      by_cases c2 : v1 = 99
      · have hf := kIf_t hf c2
        refine kJ_lookup 137 d_P_carry_29 (by decide) (by rw [c2]; try rfl) rfl ?_
        refine kJ_aload_n 138 2 d_P_carry_137 rfl rfl rfl rfl ?_
        refine kM_getR 141 0 1 d_P_carry_138 l_P_10 kp_0 rfl rfl rfl rfl ?_
        refine kJ_aload_n 142 2 d_P_carry_141 rfl rfl rfl rfl ?_
        refine kM_getR 145 140 141 d_P_carry_142 l_P_22 kp_0 rfl rfl rfl rfl ?_
        obtain ⟨v7, h6, ev7, hf⟩ := kBd_some hf
        refine kM_callv 148 m_C_closeItem [.ref 141] [] d_P_carry_145 cl_P_102 ⟨w_577, w_33⟩ kp_1 ⟨rfl, by decide⟩ ⟨_, _, rfl⟩ rfl rfl (Nat.le_of_ble_eq_true rfl) ⟨Nat.le_of_ble_eq_true rfl, Nat.le_of_ble_eq_true rfl⟩ ⟨rfl, rfl⟩ ⟨Nat.zero_le _, Nat.zero_le _⟩ (j_C_closeItem hro kp_1 kp_141 ev7) rfl ?_
        cases hf
        exact kJ_iret d_P_carry_148 rfl rfl (Nat.zero_le _) (Nat.zero_le _)
      · have hf := kIf_f hf c2
        by_cases c3 : v1 = 109
        · have hf := kIf_t hf c3
          refine kJ_lookup 158 d_P_carry_29 (by decide) (by rw [c3]; try rfl) rfl ?_
          refine kJ_aload_n 159 2 d_P_carry_158 rfl rfl rfl rfl ?_
          refine kM_getR 162 0 1 d_P_carry_159 l_P_10 kp_0 rfl rfl rfl rfl ?_
          refine kJ_iload_n 163 0 d_P_carry_162 rfl rfl rfl ?_
          obtain ⟨v9, h8, ev9, hf⟩ := kBd_some hf
          refine kM_callv 166 m_C_letPass [.int (h 641 (kx x1))] [] d_P_carry_163 cl_P_109 ⟨w_613, w_40⟩ kp_1 ⟨rfl, by decide⟩ ⟨_, _, rfl⟩ rfl rfl (Nat.le_of_ble_eq_true rfl) ⟨Nat.le_of_ble_eq_true rfl, Nat.le_of_ble_eq_true rfl⟩ ⟨rfl, rfl⟩ ⟨Nat.zero_le _, Nat.zero_le _⟩ (j_C_letPass hro kp_1 ev9) rfl ?_
          cases hf
          exact kJ_iret d_P_carry_166 rfl rfl (Nat.zero_le _) (Nat.zero_le _)
        · have hf := kIf_f hf c3
          by_cases c4 : v1 = 111
          · have hf := kIf_t hf c4
            refine kJ_lookup 114 d_P_carry_29 (by decide) (by rw [c4]; try rfl) rfl ?_
            refine kJ_aload_n 115 2 d_P_carry_114 rfl rfl rfl rfl ?_
            refine kM_getR 118 0 1 d_P_carry_115 l_P_10 kp_0 rfl rfl rfl rfl ?_
            refine kJ_iload_n 119 0 d_P_carry_118 rfl rfl rfl ?_
            refine kJ_aload_n 120 2 d_P_carry_119 rfl rfl rfl rfl ?_
            refine kM_getR 123 140 141 d_P_carry_120 l_P_22 kp_0 rfl rfl rfl rfl ?_
            obtain ⟨v11, h10, ev11, hf⟩ := kBd_some hf
            refine kM_callv 126 m_C_openItem [.int (h 641 (kx x1)), .ref 141] [] d_P_carry_123 cl_P_95 ⟨w_522, w_22⟩ kp_1 ⟨rfl, by decide⟩ ⟨_, _, rfl⟩ rfl rfl (Nat.le_of_ble_eq_true rfl) ⟨Nat.le_of_ble_eq_true rfl, Nat.le_of_ble_eq_true rfl⟩ ⟨rfl, rfl⟩ ⟨Nat.zero_le _, Nat.zero_le _⟩ (j_C_openItem hro kp_1 kp_141 ev11) rfl ?_
            cases hf
            exact kJ_iret d_P_carry_126 rfl rfl (Nat.zero_le _) (Nat.zero_le _)
          · have hf := kIf_f hf c4
            by_cases c5 : v1 = 118
            · have hf := kIf_t hf c5
              refine kJ_lookup 127 d_P_carry_29 (by decide) (by rw [c5]; try rfl) rfl ?_
              refine kJ_aload_n 128 2 d_P_carry_127 rfl rfl rfl rfl ?_
              refine kM_getR 131 0 1 d_P_carry_128 l_P_10 kp_0 rfl rfl rfl rfl ?_
              refine kJ_iload_n 132 1 d_P_carry_131 rfl rfl rfl ?_
              refine kJ_iload_n 133 0 d_P_carry_132 rfl rfl rfl ?_
              obtain ⟨v13, h12, ev13, hf⟩ := kBd_some hf
              refine kM_callv 136 m_C_giveVote [.int (h 640 (kx x1)), .int (h 641 (kx x1))] [] d_P_carry_133 cl_P_99 ⟨w_565, w_31⟩ kp_1 ⟨rfl, by decide⟩ ⟨_, _, rfl⟩ rfl rfl (Nat.le_of_ble_eq_true rfl) ⟨Nat.le_of_ble_eq_true rfl, Nat.le_of_ble_eq_true rfl⟩ ⟨rfl, rfl⟩ ⟨Nat.zero_le _, Nat.zero_le _⟩ (j_C_giveVote hro kp_1 ev13) rfl ?_
              cases hf
              exact kJ_iret d_P_carry_136 rfl rfl (Nat.zero_le _) (Nat.zero_le _)
            · have hf := kIf_f hf c5
              by_cases c6 : v1 = 120
              · have hf := kIf_t hf c6
                refine kJ_lookup 149 d_P_carry_29 (by decide) (by rw [c6]; try rfl) rfl ?_
                refine kJ_aload_n 150 2 d_P_carry_149 rfl rfl rfl rfl ?_
                refine kM_getR 153 0 1 d_P_carry_150 l_P_10 kp_0 rfl rfl rfl rfl ?_
                refine kJ_iload_n 154 0 d_P_carry_153 rfl rfl rfl ?_
                obtain ⟨v15, h14, ev15, hf⟩ := kBd_some hf
                refine kM_callv 157 m_C_breakTie [.int (h 641 (kx x1))] [] d_P_carry_154 cl_P_106 ⟨w_601, w_38⟩ kp_1 ⟨rfl, by decide⟩ ⟨_, _, rfl⟩ rfl rfl (Nat.le_of_ble_eq_true rfl) ⟨Nat.le_of_ble_eq_true rfl, Nat.le_of_ble_eq_true rfl⟩ ⟨rfl, rfl⟩ ⟨Nat.zero_le _, Nat.zero_le _⟩ (j_C_breakTie hro kp_1 ev15) rfl ?_
                cases hf
                exact kJ_iret d_P_carry_157 rfl rfl (Nat.zero_le _) (Nat.zero_le _)
              · have hf := kIf_f hf c6
                refine kJ_lookup 167 d_P_carry_29 (by decide) ((lv_osw c0 rfl).trans ((lv_osw c1 rfl).trans ((lv_osw c2 rfl).trans ((lv_osw c3 rfl).trans ((lv_osw c4 rfl).trans ((lv_osw c5 rfl).trans ((lv_osw c6 rfl).trans rfl))))))) rfl ?_
                refine kJ_bipush 169 (-3) d_P_carry_167 kb_m3 rfl ?_
                cases hf
                exact kJ_iret d_P_carry_169 rfl rfl (Nat.zero_le _) (Nat.zero_le _)
def b_P_carryOut_56 (h : kH) (x1 : Int32) : Option (Int32 × kH) := kBd (f_D_empty h 637) fun v5 h4 => kBd (f_Y_settle h4 145 x1) fun v7 h6 => some (v7, h6)
theorem c_P_carryOut_56 {E : kE} {L : Nat} {xs : Nat → Int32} (hro : kRo E L xs) {h : kH} {x1 : Int32} {r : Int32} {h' : kH} (hf : b_P_carryOut_56 h x1 = some (r, h')) : kJ E m_P_carryOut (some r) (mk h') 0 0 56 [(0, .ref 0), (1, .int x1)] [] (mk h) := by
  unfold b_P_carryOut_56 at hf
  refine kJ_aload_n 57 0 d_P_carryOut_56 rfl rfl rfl rfl ?_
  refine kM_getR 60 636 637 d_P_carryOut_57 l_P_36 kp_0 rfl rfl rfl rfl ?_
  obtain ⟨v5, h4, ev5, hf⟩ := kBd_some hf
  refine kM_callv 63 m_D_empty [] [] d_P_carryOut_60 cl_P_304 ⟨w_748, w_56⟩ kp_637 ⟨rfl, by decide⟩ ⟨_, _, rfl⟩ rfl rfl (Nat.le_of_ble_eq_true rfl) ⟨Nat.le_of_ble_eq_true rfl, Nat.le_of_ble_eq_true rfl⟩ ⟨rfl, rfl⟩ ⟨Nat.zero_le _, Nat.zero_le _⟩ (j_D_empty hro kp_637 ev5) rfl ?_
  refine kJ_pop 64 d_P_carryOut_63 rfl rfl ?_
  refine kJ_aload_n 65 0 d_P_carryOut_64 rfl rfl rfl rfl ?_
  refine kM_getR 68 144 145 d_P_carryOut_65 l_P_29 kp_0 rfl rfl rfl rfl ?_
  refine kJ_iload_n 69 1 d_P_carryOut_68 rfl rfl rfl ?_
  obtain ⟨v7, h6, ev7, hf⟩ := kBd_some hf
  refine kM_callv 72 m_Y_settle [.int x1] [] d_P_carryOut_69 cl_P_63 ⟨w_396, w_5⟩ kp_145 ⟨rfl, by decide⟩ ⟨_, _, rfl⟩ rfl rfl (Nat.le_of_ble_eq_true rfl) ⟨Nat.le_of_ble_eq_true rfl, Nat.le_of_ble_eq_true rfl⟩ ⟨rfl, rfl⟩ ⟨Nat.zero_le _, Nat.zero_le _⟩ (j_Y_settle hro kp_145 ev7) rfl ?_
  cases hf
  exact kJ_iret d_P_carryOut_72 rfl rfl (Nat.zero_le _) (Nat.zero_le _)
def b_P_carryOut_28 : Nat → kH → Int32 → Option (Int32 × kH)
  | 0, _, _ => none
  | n + 1, h, x1 => (fun rec28 => if (h 637 3) ≤ x1 then (b_P_carryOut_56 h x1) else (kBd (f_P_carry h x1) fun v9 h8 => if (f_P_isError v9) = true then (b_P_carryOut_56 h8 x1) else (rec28 h8 (x1 + 1)))) (fun h' x1' => b_P_carryOut_28 n h' x1')
theorem c_P_carryOut_28 {E : kE} {L : Nat} {xs : Nat → Int32} (hro : kRo E L xs) {r : Int32} {h' : kH} : ∀ (n : Nat) (h : kH) (x1 : Int32), b_P_carryOut_28 n h x1 = some (r, h') → kJ E m_P_carryOut (some r) (mk h') 0 0 28 [(0, .ref 0), (1, .int x1)] [] (mk h) := by
  intro n
  induction n with
  | zero =>
    intro h x1 hf
    have hf : (none : Option (Int32 × kH)) = some (r, h') := hf
    cases hf
  | succ n hrec28 =>
    intro h x1 hf
    rw [b_P_carryOut_28] at hf
    dsimp only at hf
    refine kJ_iload_n 29 1 d_P_carryOut_28 rfl rfl rfl ?_
    refine kJ_aload_n 30 0 d_P_carryOut_29 rfl rfl rfl rfl ?_
    refine kM_getR 33 636 637 d_P_carryOut_30 l_P_36 kp_0 rfl rfl rfl rfl ?_
    refine kM_getI 36 d_P_carryOut_33 l_P_310 kp_637 rfl rfl rfl ?_
    refine kJ_icmp_ge 39 56 d_P_carryOut_36 rfl rfl (fun hc => ?_) (fun hc => ?_)
    · have hf := kIf_t hf hc
      refine kJ_sub [0, 1] rfl ?_
      exact c_P_carryOut_56 hro hf
    · have hf := kIf_f hf hc
      refine kJ_aload_n 40 0 d_P_carryOut_39 rfl rfl rfl rfl ?_
      refine kJ_iload_n 41 1 d_P_carryOut_40 rfl rfl rfl ?_
      obtain ⟨v9, h8, ev9, hf⟩ := kBd_some hf
      refine kM_callv 44 m_P_carry [.int x1] [] d_P_carryOut_41 cl_P_313 ⟨w_790, w_63⟩ kp_0 ⟨rfl, by decide⟩ ⟨_, _, rfl⟩ rfl rfl (Nat.le_of_ble_eq_true rfl) ⟨Nat.le_of_ble_eq_true rfl, Nat.le_of_ble_eq_true rfl⟩ ⟨rfl, rfl⟩ ⟨Nat.zero_le _, Nat.zero_le _⟩ (j_P_carry hro ev9) rfl ?_
      refine kM_calls 47 m_P_isError [.int v9] [] d_P_carryOut_44 cl_P_316 w_399 rfl rfl (Nat.le_of_ble_eq_true rfl) ⟨Nat.le_of_ble_eq_true rfl, Nat.le_of_ble_eq_true rfl⟩ ⟨rfl, rfl⟩ ⟨Nat.zero_le _, Nat.zero_le _⟩ (j_P_isError hro rfl) rfl ?_
      refine kJ_if_ne 50 56 d_P_carryOut_47 rfl rfl (fun hc => ?_) (fun hc => ?_)
      · have hf := kIf_t hf (kB2_1 hc)
        refine kJ_sub [0, 1] rfl ?_
        exact c_P_carryOut_56 hro hf
      · have hf := kIf_f hf (kB2_0 hc)
        refine kJ_iinc 53 1 [(1, .int (x1 + 1)), (0, .ref 0)] d_P_carryOut_50 rfl ki_1 (Nat.le_of_ble_eq_true rfl) rfl rfl ?_
        refine kJ_goto 28 d_P_carryOut_53 rfl ?_
        refine kJ_sub [1, 0] rfl ?_
        exact hrec28 h8 (x1 + 1) hf
def f_P_carryOut (h : kH) : Option (Int32 × kH) := kBd (f_D_read h 637) fun v2 h1 => if v2 = (-6) then (kBi (f_Y_note h1 145 1) fun h3 => b_P_carryOut_28  kFuel h3 0) else (some ((-3), h1))
theorem j_P_carryOut {E : kE} {L : Nat} {xs : Nat → Int32} (hro : kRo E L xs) {h : kH} {r : Int32} {h' : kH} (hf : f_P_carryOut h = some (r, h')) : JM E m_P_carryOut [.ref 0] (mk h) (some r) (mk h') := by
  unfold f_P_carryOut at hf
  refine JM.of pn_P (Nat.le_of_ble_eq_true rfl) ?_
  show kJ E m_P_carryOut (some r) (mk h') 0 0 0 [(0, .ref 0)] [] (mk h)
  refine kJ_aload_n 1 0 d_P_carryOut_0 rfl rfl rfl rfl ?_
  refine kM_getR 4 636 637 d_P_carryOut_1 l_P_36 kp_0 rfl rfl rfl rfl ?_
  obtain ⟨v2, h1, ev2, hf⟩ := kBd_some hf
  refine kM_callv 7 m_D_read [] [] d_P_carryOut_4 cl_P_307 ⟨w_756, w_57⟩ kp_637 ⟨rfl, by decide⟩ ⟨_, _, rfl⟩ rfl rfl (Nat.le_of_ble_eq_true rfl) ⟨Nat.le_of_ble_eq_true rfl, Nat.le_of_ble_eq_true rfl⟩ ⟨rfl, rfl⟩ ⟨Nat.zero_le _, Nat.zero_le _⟩ (j_D_read hro kp_637 ev2) rfl ?_
  refine kJ_bipush 9 (-6) d_P_carryOut_7 kb_m6 rfl ?_
  refine kJ_icmp_eq 12 15 d_P_carryOut_9 rfl rfl (fun hc => ?_) (fun hc => ?_)
  · have hf := kIf_t hf hc
    refine kJ_aload_n 16 0 d_P_carryOut_15 rfl rfl rfl rfl ?_
    refine kM_getR 19 144 145 d_P_carryOut_16 l_P_29 kp_0 rfl rfl rfl rfl ?_
    refine kJ_aload_n 20 0 d_P_carryOut_19 rfl rfl rfl rfl ?_
    refine kM_getR 23 0 1 d_P_carryOut_20 l_P_10 kp_0 rfl rfl rfl rfl ?_
    obtain ⟨h3, eh3, hf⟩ := kBi_some hf
    refine kM_callv 26 m_Y_note [.ref 1] [] d_P_carryOut_23 cl_P_55 ⟨w_372, w_0⟩ kp_145 ⟨rfl, by decide⟩ ⟨_, _, rfl⟩ rfl rfl (Nat.le_of_ble_eq_true rfl) ⟨Nat.le_of_ble_eq_true rfl, Nat.le_of_ble_eq_true rfl⟩ ⟨rfl, rfl⟩ ⟨Nat.zero_le _, Nat.zero_le _⟩ (j_Y_note hro kp_145 kp_1 eh3) rfl ?_
    refine kJ_iconst 27 0 d_P_carryOut_26 ki_0 rfl ?_
    refine kJ_istore_n 28 [(1, .int 0), (0, .ref 0)] d_P_carryOut_27 rfl (Nat.le_of_ble_eq_true rfl) rfl rfl ?_
    refine kJ_sub [1, 0] rfl ?_
    exact c_P_carryOut_28 hro kFuel h3 0 hf
  · have hf := kIf_f hf hc
    refine kJ_bipush 14 (-3) d_P_carryOut_12 kb_m3 rfl ?_
    cases hf
    exact kJ_iret d_P_carryOut_14 rfl rfl (Nat.zero_le _) (Nat.zero_le _)
def b_Y_takeBack_29 (h : kH) (x0 : Nat) (x1 : Nat) (s0 : Nat) (s1 : Int32) : Option (Int32 × kH) := kLet (hset h s0 1 s1) fun h1 => kG (h1 x0 1) 7 (kBi (f_C_copyFrom h1 x1 (x0 + 2 + 70 * kx (h1 x0 1))) fun h3 => kLet (hset h3 x0 2 ((h3 x0 2) - 1)) fun h4 => some ((h4 x0 2), h4))
theorem c_Y_takeBack_29 {E : kE} {L : Nat} {xs : Nat → Int32} (hro : kRo E L xs) {h : kH} {x0 : Nat} {x1 : Nat} {s0 : Nat} {s1 : Int32} (k0 : kIs x0 2) (k1 : kIs x1 0) (ks0 : kIs s0 2) {r : Int32} {h' : kH} (hf : b_Y_takeBack_29 h x0 x1 s0 s1 = some (r, h')) : kJ E m_Y_takeBack (some r) (mk h') 0 0 29 [(0, .ref x0), (1, .ref x1)] [.int s1, .ref s0] (mk h) := by
  unfold b_Y_takeBack_29 at hf
  refine kM_put 32 d_Y_takeBack_29 l_Y_18 ks0 rfl rfl (kFit_int _) rfl ?_
  obtain ⟨h1, eh1, hf⟩ := kLet_e hf
  rw [← eh1]
  refine kJ_aload_n 33 1 d_Y_takeBack_32 rfl rfl rfl rfl ?_
  refine kJ_aload_n 34 0 d_Y_takeBack_33 rfl rfl rfl rfl ?_
  refine kM_getR 37 0 (x0 + 1) d_Y_takeBack_34 l_Y_11 k0 rfl rfl rfl rfl ?_
  refine kJ_aload_n 38 0 d_Y_takeBack_37 rfl rfl rfl rfl ?_
  refine kM_getI 41 d_Y_takeBack_38 l_Y_18 k0 rfl rfl rfl ?_
  obtain ⟨hg2, hf⟩ := kG_some hf
  refine kM_aald 42 7 1 70 (x0 + 2 + 70 * kx (h1 x0 1)) d_Y_takeBack_41 (kk_2_0 k0) rfl (by decide) (Or.inr rfl) hg2 (by simp only [Nat.add_assoc, kx]; try omega) rfl ?_
  obtain ⟨h3, eh3, hf⟩ := kBi_some hf
  refine kM_callv 45 m_C_copyFrom [.ref (x0 + 2 + 70 * kx (h1 x0 1))] [] d_Y_takeBack_42 cl_Y_22 ⟨w_376, w_1⟩ k1 ⟨rfl, by decide⟩ ⟨_, _, rfl⟩ rfl rfl (Nat.le_of_ble_eq_true rfl) ⟨Nat.le_of_ble_eq_true rfl, Nat.le_of_ble_eq_true rfl⟩ ⟨rfl, rfl⟩ ⟨Nat.zero_le _, Nat.zero_le _⟩ (j_C_copyFrom hro k1 (kk_h k0 (kIn_lt hg2)) eh3) rfl ?_
  refine kJ_aload_n 46 0 d_Y_takeBack_45 rfl rfl rfl rfl ?_
  refine kJ_dup 47 d_Y_takeBack_46 rfl rfl ?_
  refine kM_getI 50 d_Y_takeBack_47 l_Y_30 k0 rfl rfl rfl ?_
  refine kJ_iconst 51 1 d_Y_takeBack_50 ki_1 rfl ?_
  refine kJ_isub 52 d_Y_takeBack_51 rfl ?_
  refine kM_put 55 d_Y_takeBack_52 l_Y_30 k0 rfl rfl (kFit_int _) rfl ?_
  obtain ⟨h4, eh4, hf⟩ := kLet_e hf
  rw [← eh4]
  refine kJ_aload_n 56 0 d_Y_takeBack_55 rfl rfl rfl rfl ?_
  refine kM_getI 59 d_Y_takeBack_56 l_Y_30 k0 rfl rfl rfl ?_
  cases hf
  exact kJ_iret d_Y_takeBack_59 rfl rfl (Nat.zero_le _) (Nat.zero_le _)
def f_Y_takeBack (h : kH) (x0 : Nat) (x1 : Nat) : Option (Int32 × kH) := if (h x0 2) = 0 then (some ((-5), h)) else (if (h x0 1) = 0 then (b_Y_takeBack_29 h x0 x1 x0 6) else (b_Y_takeBack_29 h x0 x1 x0 ((h x0 1) - 1)))
theorem j_Y_takeBack {E : kE} {L : Nat} {xs : Nat → Int32} (hro : kRo E L xs) {h : kH} {x0 : Nat} {x1 : Nat} (k0 : kIs x0 2) (k1 : kIs x1 0) {r : Int32} {h' : kH} (hf : f_Y_takeBack h x0 x1 = some (r, h')) : JM E m_Y_takeBack [.ref x0, .ref x1] (mk h) (some r) (mk h') := by
  unfold f_Y_takeBack at hf
  refine JM.of pn_Y (Nat.le_of_ble_eq_true rfl) ?_
  show kJ E m_Y_takeBack (some r) (mk h') 0 0 0 [(0, .ref x0), (1, .ref x1)] [] (mk h)
  refine kJ_aload_n 1 0 d_Y_takeBack_0 rfl rfl rfl rfl ?_
  refine kM_getI 4 d_Y_takeBack_1 l_Y_30 k0 rfl rfl rfl ?_
  refine kJ_if_ne 7 10 d_Y_takeBack_4 rfl rfl (fun hc => ?_) (fun hc => ?_)
  · have hf := kIf_f hf hc
    refine kJ_aload_n 11 0 d_Y_takeBack_10 rfl rfl rfl rfl ?_
    refine kJ_aload_n 12 0 d_Y_takeBack_11 rfl rfl rfl rfl ?_
    refine kM_getI 15 d_Y_takeBack_12 l_Y_18 k0 rfl rfl rfl ?_
    refine kJ_if_ne 18 23 d_Y_takeBack_15 rfl rfl (fun hc => ?_) (fun hc => ?_)
    · have hf := kIf_f hf hc
      refine kJ_aload_n 24 0 d_Y_takeBack_23 rfl rfl rfl rfl ?_
      refine kM_getI 27 d_Y_takeBack_24 l_Y_18 k0 rfl rfl rfl ?_
      refine kJ_iconst 28 1 d_Y_takeBack_27 ki_1 rfl ?_
      refine kJ_isub 29 d_Y_takeBack_28 rfl ?_
      refine kJ_sub [0, 1] rfl ?_
      exact c_Y_takeBack_29 hro k0 k1 k0 hf
    · have hf := kIf_t hf hc
      refine kJ_bipush 20 6 d_Y_takeBack_18 kb_6 rfl ?_
      refine kJ_goto 29 d_Y_takeBack_20 rfl ?_
      refine kJ_sub [0, 1] rfl ?_
      exact c_Y_takeBack_29 hro k0 k1 k0 hf
  · have hf := kIf_t hf hc
    refine kJ_bipush 9 (-5) d_Y_takeBack_7 kb_m5 rfl ?_
    cases hf
    exact kJ_iret d_Y_takeBack_9 rfl rfl (Nat.zero_le _) (Nat.zero_le _)
def f_P_undo (h : kH) : Option (Int32 × kH) := kBd (f_Y_takeBack h 145 1) fun v2 h1 => some (v2, h1)
theorem j_P_undo {E : kE} {L : Nat} {xs : Nat → Int32} (hro : kRo E L xs) {h : kH} {r : Int32} {h' : kH} (hf : f_P_undo h = some (r, h')) : JM E m_P_undo [.ref 0] (mk h) (some r) (mk h') := by
  unfold f_P_undo at hf
  refine JM.of pn_P (Nat.le_of_ble_eq_true rfl) ?_
  show kJ E m_P_undo (some r) (mk h') 0 0 0 [(0, .ref 0)] [] (mk h)
  refine kJ_aload_n 1 0 d_P_undo_0 rfl rfl rfl rfl ?_
  refine kM_getR 4 144 145 d_P_undo_1 l_P_29 kp_0 rfl rfl rfl rfl ?_
  refine kJ_aload_n 5 0 d_P_undo_4 rfl rfl rfl rfl ?_
  refine kM_getR 8 0 1 d_P_undo_5 l_P_10 kp_0 rfl rfl rfl rfl ?_
  obtain ⟨v2, h1, ev2, hf⟩ := kBd_some hf
  refine kM_callv 11 m_Y_takeBack [.ref 1] [] d_P_undo_8 cl_P_329 ⟨w_799, w_64⟩ kp_145 ⟨rfl, by decide⟩ ⟨_, _, rfl⟩ rfl rfl (Nat.le_of_ble_eq_true rfl) ⟨Nat.le_of_ble_eq_true rfl, Nat.le_of_ble_eq_true rfl⟩ ⟨rfl, rfl⟩ ⟨Nat.zero_le _, Nat.zero_le _⟩ (j_Y_takeBack hro kp_145 kp_1 ev2) rfl ?_
  cases hf
  exact kJ_iret d_P_undo_11 rfl rfl (Nat.zero_le _) (Nat.zero_le _)
def f_P_save (h : kH) (x1 : Int32) : Option (Int32 × kH) := if x1 < 0 then (some ((-2), h)) else (if x1 < 2 then (kG x1 2 (kBi (f_C_copyFrom h (646 + 70 * kx x1) 1) fun h2 => kG x1 2 (kLet (hset h2 643 (kx x1) (vp_nar .boolean 1)) fun h3 => some ((h3 1 0), h3)))) else (some ((-2), h)))
theorem j_P_save {E : kE} {L : Nat} {xs : Nat → Int32} (hro : kRo E L xs) {h : kH} {x1 : Int32} {r : Int32} {h' : kH} (hf : f_P_save h x1 = some (r, h')) : JM E m_P_save [.ref 0, .int x1] (mk h) (some r) (mk h') := by
  unfold f_P_save at hf
  refine JM.of pn_P (Nat.le_of_ble_eq_true rfl) ?_
  show kJ E m_P_save (some r) (mk h') 0 0 0 [(0, .ref 0), (1, .int x1)] [] (mk h)
  refine kJ_iload_n 1 1 d_P_save_0 rfl rfl rfl ?_
  refine kJ_if_lt 4 9 d_P_save_1 rfl rfl (fun hc => ?_) (fun hc => ?_)
  · have hf := kIf_t hf hc
    refine kJ_bipush 11 (-2) d_P_save_9 kb_m2 rfl ?_
    cases hf
    exact kJ_iret d_P_save_11 rfl rfl (Nat.zero_le _) (Nat.zero_le _)
  · have hf := kIf_f hf hc
    refine kJ_iload_n 5 1 d_P_save_4 rfl rfl rfl ?_
    refine kJ_iconst 6 2 d_P_save_5 ki_2 rfl ?_
    refine kJ_icmp_lt 9 12 d_P_save_6 rfl rfl (fun hc => ?_) (fun hc => ?_)
    · have hf := kIf_t hf hc
      refine kJ_aload_n 13 0 d_P_save_12 rfl rfl rfl rfl ?_
      refine kM_getR 16 641 642 d_P_save_13 l_P_40 kp_0 rfl rfl rfl rfl ?_
      refine kJ_iload_n 17 1 d_P_save_16 rfl rfl rfl ?_
      obtain ⟨hg1, hf⟩ := kG_some hf
      refine kM_aald 18 2 4 70 (646 + 70 * kx x1) d_P_save_17 kp_642 rfl (by decide) (Or.inr rfl) hg1 (by simp only [Nat.add_assoc, kx]; try omega) rfl ?_
      refine kJ_aload_n 19 0 d_P_save_18 rfl rfl rfl rfl ?_
      refine kM_getR 22 0 1 d_P_save_19 l_P_10 kp_0 rfl rfl rfl rfl ?_
      obtain ⟨h2, eh2, hf⟩ := kBi_some hf
      refine kM_callv 25 m_C_copyFrom [.ref 1] [] d_P_save_22 cl_P_256 ⟨w_376, w_1⟩ (kk_s _ (kIn_lt hg1)) ⟨rfl, by decide⟩ ⟨_, _, rfl⟩ rfl rfl (Nat.le_of_ble_eq_true rfl) ⟨Nat.le_of_ble_eq_true rfl, Nat.le_of_ble_eq_true rfl⟩ ⟨rfl, rfl⟩ ⟨Nat.zero_le _, Nat.zero_le _⟩ (j_C_copyFrom hro (kk_s _ (kIn_lt hg1)) kp_1 eh2) rfl ?_
      refine kJ_aload_n 26 0 d_P_save_25 rfl rfl rfl rfl ?_
      refine kM_getR 29 642 643 d_P_save_26 l_P_44 kp_0 rfl rfl rfl rfl ?_
      refine kJ_iload_n 30 1 d_P_save_29 rfl rfl rfl ?_
      refine kJ_iconst 31 1 d_P_save_30 ki_1 rfl ?_
      obtain ⟨hg, hf⟩ := kG_some hf
      refine kM_zast 32 2 d_P_save_31 kp_643 rfl hg rfl ?_
      obtain ⟨h3, eh3, hf⟩ := kLet_e hf
      rw [← eh3]
      refine kJ_aload_n 33 0 d_P_save_32 rfl rfl rfl rfl ?_
      refine kM_getR 36 0 1 d_P_save_33 l_P_10 kp_0 rfl rfl rfl rfl ?_
      refine kM_getI 39 d_P_save_36 l_P_202 kp_1 rfl rfl rfl ?_
      cases hf
      exact kJ_iret d_P_save_39 rfl rfl (Nat.zero_le _) (Nat.zero_le _)
    · have hf := kIf_f hf hc
      refine kJ_bipush 11 (-2) d_P_save_9 kb_m2 rfl ?_
      cases hf
      exact kJ_iret d_P_save_11 rfl rfl (Nat.zero_le _) (Nat.zero_le _)
def f_P_restore (h : kH) (x1 : Int32) : Option (Int32 × kH) := if x1 < 0 then (some ((-2), h)) else (if x1 < 2 then (kG x1 2 (if (h 643 (kx x1)) = 0 then (some ((-5), h)) else (kBi (f_Y_note h 145 1) fun h1 => kG x1 2 (kBi (f_C_copyFrom h1 1 (646 + 70 * kx x1)) fun h3 => kBd (f_Y_settle h3 145 (h3 1 0)) fun v5 h4 => some (v5, h4))))) else (some ((-2), h)))
theorem j_P_restore {E : kE} {L : Nat} {xs : Nat → Int32} (hro : kRo E L xs) {h : kH} {x1 : Int32} {r : Int32} {h' : kH} (hf : f_P_restore h x1 = some (r, h')) : JM E m_P_restore [.ref 0, .int x1] (mk h) (some r) (mk h') := by
  unfold f_P_restore at hf
  refine JM.of pn_P (Nat.le_of_ble_eq_true rfl) ?_
  show kJ E m_P_restore (some r) (mk h') 0 0 0 [(0, .ref 0), (1, .int x1)] [] (mk h)
  refine kJ_iload_n 1 1 d_P_restore_0 rfl rfl rfl ?_
  refine kJ_if_lt 4 9 d_P_restore_1 rfl rfl (fun hc => ?_) (fun hc => ?_)
  · have hf := kIf_t hf hc
    refine kJ_bipush 11 (-2) d_P_restore_9 kb_m2 rfl ?_
    cases hf
    exact kJ_iret d_P_restore_11 rfl rfl (Nat.zero_le _) (Nat.zero_le _)
  · have hf := kIf_f hf hc
    refine kJ_iload_n 5 1 d_P_restore_4 rfl rfl rfl ?_
    refine kJ_iconst 6 2 d_P_restore_5 ki_2 rfl ?_
    refine kJ_icmp_lt 9 12 d_P_restore_6 rfl rfl (fun hc => ?_) (fun hc => ?_)
    · have hf := kIf_t hf hc
      refine kJ_aload_n 13 0 d_P_restore_12 rfl rfl rfl rfl ?_
      refine kM_getR 16 642 643 d_P_restore_13 l_P_44 kp_0 rfl rfl rfl rfl ?_
      refine kJ_iload_n 17 1 d_P_restore_16 rfl rfl rfl ?_
      obtain ⟨hg, hf⟩ := kG_some hf
      refine kM_zald 18 2 d_P_restore_17 kp_643 rfl hg rfl ?_
      refine kJ_if_ne 21 24 d_P_restore_18 rfl rfl (fun hc => ?_) (fun hc => ?_)
      · have hf := kIf_f hf hc
        refine kJ_aload_n 25 0 d_P_restore_24 rfl rfl rfl rfl ?_
        refine kM_getR 28 144 145 d_P_restore_25 l_P_29 kp_0 rfl rfl rfl rfl ?_
        refine kJ_aload_n 29 0 d_P_restore_28 rfl rfl rfl rfl ?_
        refine kM_getR 32 0 1 d_P_restore_29 l_P_10 kp_0 rfl rfl rfl rfl ?_
        obtain ⟨h1, eh1, hf⟩ := kBi_some hf
        refine kM_callv 35 m_Y_note [.ref 1] [] d_P_restore_32 cl_P_55 ⟨w_372, w_0⟩ kp_145 ⟨rfl, by decide⟩ ⟨_, _, rfl⟩ rfl rfl (Nat.le_of_ble_eq_true rfl) ⟨Nat.le_of_ble_eq_true rfl, Nat.le_of_ble_eq_true rfl⟩ ⟨rfl, rfl⟩ ⟨Nat.zero_le _, Nat.zero_le _⟩ (j_Y_note hro kp_145 kp_1 eh1) rfl ?_
        refine kJ_aload_n 36 0 d_P_restore_35 rfl rfl rfl rfl ?_
        refine kM_getR 39 0 1 d_P_restore_36 l_P_10 kp_0 rfl rfl rfl rfl ?_
        refine kJ_aload_n 40 0 d_P_restore_39 rfl rfl rfl rfl ?_
        refine kM_getR 43 641 642 d_P_restore_40 l_P_40 kp_0 rfl rfl rfl rfl ?_
        refine kJ_iload_n 44 1 d_P_restore_43 rfl rfl rfl ?_
        obtain ⟨hg2, hf⟩ := kG_some hf
        refine kM_aald 45 2 4 70 (646 + 70 * kx x1) d_P_restore_44 kp_642 rfl (by decide) (Or.inr rfl) hg2 (by simp only [Nat.add_assoc, kx]; try omega) rfl ?_
        obtain ⟨h3, eh3, hf⟩ := kBi_some hf
        refine kM_callv 48 m_C_copyFrom [.ref (646 + 70 * kx x1)] [] d_P_restore_45 cl_P_256 ⟨w_376, w_1⟩ kp_1 ⟨rfl, by decide⟩ ⟨_, _, rfl⟩ rfl rfl (Nat.le_of_ble_eq_true rfl) ⟨Nat.le_of_ble_eq_true rfl, Nat.le_of_ble_eq_true rfl⟩ ⟨rfl, rfl⟩ ⟨Nat.zero_le _, Nat.zero_le _⟩ (j_C_copyFrom hro kp_1 (kk_s _ (kIn_lt hg2)) eh3) rfl ?_
        refine kJ_aload_n 49 0 d_P_restore_48 rfl rfl rfl rfl ?_
        refine kM_getR 52 144 145 d_P_restore_49 l_P_29 kp_0 rfl rfl rfl rfl ?_
        refine kJ_aload_n 53 0 d_P_restore_52 rfl rfl rfl rfl ?_
        refine kM_getR 56 0 1 d_P_restore_53 l_P_10 kp_0 rfl rfl rfl rfl ?_
        refine kM_getI 59 d_P_restore_56 l_P_202 kp_1 rfl rfl rfl ?_
        obtain ⟨v5, h4, ev5, hf⟩ := kBd_some hf
        refine kM_callv 62 m_Y_settle [.int (h3 1 0)] [] d_P_restore_59 cl_P_63 ⟨w_396, w_5⟩ kp_145 ⟨rfl, by decide⟩ ⟨_, _, rfl⟩ rfl rfl (Nat.le_of_ble_eq_true rfl) ⟨Nat.le_of_ble_eq_true rfl, Nat.le_of_ble_eq_true rfl⟩ ⟨rfl, rfl⟩ ⟨Nat.zero_le _, Nat.zero_le _⟩ (j_Y_settle hro kp_145 ev5) rfl ?_
        cases hf
        exact kJ_iret d_P_restore_62 rfl rfl (Nat.zero_le _) (Nat.zero_le _)
      · have hf := kIf_t hf hc
        refine kJ_bipush 23 (-5) d_P_restore_21 kb_m5 rfl ?_
        cases hf
        exact kJ_iret d_P_restore_23 rfl rfl (Nat.zero_le _) (Nat.zero_le _)
    · have hf := kIf_f hf hc
      refine kJ_bipush 11 (-2) d_P_restore_9 kb_m2 rfl ?_
      cases hf
      exact kJ_iret d_P_restore_11 rfl rfl (Nat.zero_le _) (Nat.zero_le _)
def f_M_in (x0 : Int32) (x1 : Int32) (x2 : Int32) : Bool := if x0 < x1 then false else (if x2 < x0 then false else true)
theorem j_M_in {E : kE} {L : Nat} {xs : Nat → Int32} (hro : kRo E L xs) {h0 : kH} {x0 : Int32} {x1 : Int32} {x2 : Int32} {r : Bool} (hf : f_M_in x0 x1 x2 = r) : JM E m_M_in [.int x0, .int x1, .int x2] (mk h0) (some (kB2 r)) (mk h0) := by
  unfold f_M_in at hf
  refine JM.of pn_M (Nat.le_of_ble_eq_true rfl) ?_
  show kJ E m_M_in (some (kB2 r)) (mk h0) 0 0 0 [(0, .int x0), (1, .int x1), (2, .int x2)] [] (mk h0)
  refine kJ_iload_n 1 0 d_M_in_0 rfl rfl rfl ?_
  refine kJ_iload_n 2 1 d_M_in_1 rfl rfl rfl ?_
  refine kJ_icmp_lt 5 14 d_M_in_2 rfl rfl (fun hc => ?_) (fun hc => ?_)
  · have hf := kIf_t hf hc
    refine kJ_iconst 15 0 d_M_in_14 ki_0 rfl ?_
    subst hf
    exact kJ_iret d_M_in_15 rfl (kB2_z _) (Nat.zero_le _) (Nat.zero_le _)
  · have hf := kIf_f hf hc
    refine kJ_iload_n 6 0 d_M_in_5 rfl rfl rfl ?_
    refine kJ_iload_n 7 2 d_M_in_6 rfl rfl rfl ?_
    refine kJ_icmp_gt 10 14 d_M_in_7 rfl rfl (fun hc => ?_) (fun hc => ?_)
    · have hf := kIf_t hf hc
      refine kJ_iconst 15 0 d_M_in_14 ki_0 rfl ?_
      subst hf
      exact kJ_iret d_M_in_15 rfl (kB2_z _) (Nat.zero_le _) (Nat.zero_le _)
    · have hf := kIf_f hf hc
      refine kJ_iconst 11 1 d_M_in_10 ki_1 rfl ?_
      refine kJ_goto 15 d_M_in_11 rfl ?_
      subst hf
      exact kJ_iret d_M_in_15 rfl (kB2_z _) (Nat.zero_le _) (Nat.zero_le _)
def b_M_record_55 : Nat → kH → Int32 → Option (kH)
  | 0, _, _ => none
  | n + 1, h, x1 => (fun rec55 => if 760 ≤ x1 then (kLet (hset h 786 3 ((h 786 3) + 1)) fun h1 => some h1) else (kG x1 760 (kG (((h 786 3) * 760) + x1) 4560 (kLet (hset h 789 (kx (((h 786 3) * 760) + x1)) (h 787 (kx x1))) fun h2 => rec55 h2 (x1 + 1))))) (fun h' x1' => b_M_record_55 n h' x1')
theorem c_M_record_55 {E : kE} {L : Nat} {xs : Nat → Int32} (hro : kRo E L xs) {h' : kH} : ∀ (n : Nat) (h : kH) (x1 : Int32), b_M_record_55 n h x1 = some h' → kJ E m_M_record none (mk h') 0 0 55 [(0, .ref 786), (1, .int x1)] [] (mk h) := by
  intro n
  induction n with
  | zero =>
    intro h x1 hf
    have hf : (none : Option (kH)) = some h' := hf
    cases hf
  | succ n hrec55 =>
    intro h x1 hf
    rw [b_M_record_55] at hf
    dsimp only at hf
    refine kJ_iload_n 56 1 d_M_record_55 rfl rfl rfl ?_
    refine kJ_sipush 59 760 d_M_record_56 ks_760 rfl ?_
    refine kJ_icmp_ge 62 89 d_M_record_59 rfl rfl (fun hc => ?_) (fun hc => ?_)
    · have hf := kIf_t hf hc
      refine kJ_aload_n 90 0 d_M_record_89 rfl rfl rfl rfl ?_
      refine kJ_dup 91 d_M_record_90 rfl rfl ?_
      refine kM_getI 94 d_M_record_91 l_M_45 km_786 rfl rfl rfl ?_
      refine kJ_iconst 95 1 d_M_record_94 ki_1 rfl ?_
      refine kJ_iadd 96 d_M_record_95 rfl ?_
      refine kM_put 99 d_M_record_96 l_M_45 km_786 rfl rfl (kFit_int _) rfl ?_
      obtain ⟨h1, eh1, hf⟩ := kLet_e hf
      rw [← eh1]
      cases hf
      exact kJ_ret d_M_record_99 rfl (Nat.zero_le _) (Nat.zero_le _)
    · have hf := kIf_f hf hc
      refine kJ_aload_n 63 0 d_M_record_62 rfl rfl rfl rfl ?_
      refine kM_getR 66 2 789 d_M_record_63 l_M_16 km_786 rfl rfl rfl rfl ?_
      refine kJ_aload_n 67 0 d_M_record_66 rfl rfl rfl rfl ?_
      refine kM_getI 70 d_M_record_67 l_M_45 km_786 rfl rfl rfl ?_
      refine kJ_sipush 73 760 d_M_record_70 ks_760 rfl ?_
      refine kJ_imul 74 d_M_record_73 rfl ?_
      refine kJ_iload_n 75 1 d_M_record_74 rfl rfl rfl ?_
      refine kJ_iadd 76 d_M_record_75 rfl ?_
      refine kJ_aload_n 77 0 d_M_record_76 rfl rfl rfl rfl ?_
      refine kM_getR 80 0 787 d_M_record_77 l_M_7 km_786 rfl rfl rfl rfl ?_
      refine kJ_iload_n 81 1 d_M_record_80 rfl rfl rfl ?_
      obtain ⟨hg, hf⟩ := kG_some hf
      refine kM_iald 82 760 d_M_record_81 km_787 rfl hg rfl ?_
      obtain ⟨hg, hf⟩ := kG_some hf
      refine kM_iast 83 4560 d_M_record_82 km_789 rfl hg rfl ?_
      obtain ⟨h2, eh2, hf⟩ := kLet_e hf
      rw [← eh2]
      refine kJ_iinc 86 1 [(1, .int (x1 + 1)), (0, .ref 786)] d_M_record_83 rfl ki_1 (Nat.le_of_ble_eq_true rfl) rfl rfl ?_
      refine kJ_goto 55 d_M_record_86 rfl ?_
      refine kJ_sub [1, 0] rfl ?_
      exact hrec55 h2 (x1 + 1) hf
def b_M_record_19 : Nat → kH → Int32 → Option (kH)
  | 0, _, _ => none
  | n + 1, h, x1 => (fun rec19 => if 3800 ≤ x1 then (kLet (hset h 786 3 5) fun h3 => b_M_record_55  kFuel h3 0) else (kG (x1 + 760) 4560 (kG x1 4560 (kLet (hset h 789 (kx x1) (h 789 (kx (x1 + 760)))) fun h4 => rec19 h4 (x1 + 1))))) (fun h' x1' => b_M_record_19 n h' x1')
theorem c_M_record_19 {E : kE} {L : Nat} {xs : Nat → Int32} (hro : kRo E L xs) {h' : kH} : ∀ (n : Nat) (h : kH) (x1 : Int32), b_M_record_19 n h x1 = some h' → kJ E m_M_record none (mk h') 0 0 19 [(0, .ref 786), (1, .int x1)] [] (mk h) := by
  intro n
  induction n with
  | zero =>
    intro h x1 hf
    have hf : (none : Option (kH)) = some h' := hf
    cases hf
  | succ n hrec19 =>
    intro h x1 hf
    rw [b_M_record_19] at hf
    dsimp only at hf
    refine kJ_iload_n 20 1 d_M_record_19 rfl rfl rfl ?_
    refine kJ_sipush 23 3800 d_M_record_20 ks_3800 rfl ?_
    refine kJ_icmp_ge 26 48 d_M_record_23 rfl rfl (fun hc => ?_) (fun hc => ?_)
    · have hf := kIf_t hf hc
      refine kJ_aload_n 49 0 d_M_record_48 rfl rfl rfl rfl ?_
      refine kJ_iconst 50 5 d_M_record_49 ki_5 rfl ?_
      refine kM_put 53 d_M_record_50 l_M_45 km_786 rfl rfl (kFit_int _) rfl ?_
      obtain ⟨h3, eh3, hf⟩ := kLet_e hf
      rw [← eh3]
      refine kJ_iconst 54 0 d_M_record_53 ki_0 rfl ?_
      refine kJ_istore_n 55 [(1, .int 0), (0, .ref 786)] d_M_record_54 rfl (Nat.le_of_ble_eq_true rfl) rfl rfl ?_
      refine kJ_sub [1, 0] rfl ?_
      exact c_M_record_55 hro kFuel h3 0 hf
    · have hf := kIf_f hf hc
      refine kJ_aload_n 27 0 d_M_record_26 rfl rfl rfl rfl ?_
      refine kM_getR 30 2 789 d_M_record_27 l_M_16 km_786 rfl rfl rfl rfl ?_
      refine kJ_iload_n 31 1 d_M_record_30 rfl rfl rfl ?_
      refine kJ_aload_n 32 0 d_M_record_31 rfl rfl rfl rfl ?_
      refine kM_getR 35 2 789 d_M_record_32 l_M_16 km_786 rfl rfl rfl rfl ?_
      refine kJ_iload_n 36 1 d_M_record_35 rfl rfl rfl ?_
      refine kJ_sipush 39 760 d_M_record_36 ks_760 rfl ?_
      refine kJ_iadd 40 d_M_record_39 rfl ?_
      obtain ⟨hg, hf⟩ := kG_some hf
      refine kM_iald 41 4560 d_M_record_40 km_789 rfl hg rfl ?_
      obtain ⟨hg, hf⟩ := kG_some hf
      refine kM_iast 42 4560 d_M_record_41 km_789 rfl hg rfl ?_
      obtain ⟨h4, eh4, hf⟩ := kLet_e hf
      rw [← eh4]
      refine kJ_iinc 45 1 [(1, .int (x1 + 1)), (0, .ref 786)] d_M_record_42 rfl ki_1 (Nat.le_of_ble_eq_true rfl) rfl rfl ?_
      refine kJ_goto 19 d_M_record_45 rfl ?_
      refine kJ_sub [1, 0] rfl ?_
      exact hrec19 h4 (x1 + 1) hf
def f_M_record (h : kH) : Option (kH) := if (h 786 8) = 0 then (if (h 786 3) = 6 then (b_M_record_19  kFuel h 0) else (b_M_record_55  kFuel h 0)) else (some h)
theorem j_M_record {E : kE} {L : Nat} {xs : Nat → Int32} (hro : kRo E L xs) {h : kH} {h' : kH} (hf : f_M_record h = some h') : JM E m_M_record [.ref 786] (mk h) none (mk h') := by
  unfold f_M_record at hf
  refine JM.of pn_M (Nat.le_of_ble_eq_true rfl) ?_
  show kJ E m_M_record none (mk h') 0 0 0 [(0, .ref 786)] [] (mk h)
  refine kJ_aload_n 1 0 d_M_record_0 rfl rfl rfl rfl ?_
  refine kM_getI 4 d_M_record_1 l_M_41 km_786 rfl rfl rfl ?_
  refine kJ_if_eq 7 8 d_M_record_4 rfl rfl (fun hc => ?_) (fun hc => ?_)
  · have hf := kIf_t hf hc
    refine kJ_aload_n 9 0 d_M_record_8 rfl rfl rfl rfl ?_
    refine kM_getI 12 d_M_record_9 l_M_45 km_786 rfl rfl rfl ?_
    refine kJ_bipush 14 6 d_M_record_12 kb_6 rfl ?_
    refine kJ_icmp_ne 17 53 d_M_record_14 rfl rfl (fun hc => ?_) (fun hc => ?_)
    · have hf := kIf_f hf hc
      refine kJ_iconst 54 0 d_M_record_53 ki_0 rfl ?_
      refine kJ_istore_n 55 [(1, .int 0), (0, .ref 786)] d_M_record_54 rfl (Nat.le_of_ble_eq_true rfl) rfl rfl ?_
      refine kJ_sub [1, 0] rfl ?_
      exact c_M_record_55 hro kFuel h 0 hf
    · have hf := kIf_t hf hc
      refine kJ_iconst 18 0 d_M_record_17 ki_0 rfl ?_
      refine kJ_istore_n 19 [(1, .int 0), (0, .ref 786)] d_M_record_18 rfl (Nat.le_of_ble_eq_true rfl) rfl rfl ?_
      refine kJ_sub [1, 0] rfl ?_
      exact c_M_record_19 hro kFuel h 0 hf
  · have hf := kIf_f hf hc
    cases hf
    exact kJ_ret d_M_record_7 rfl (Nat.zero_le _) (Nat.zero_le _)
