/-! CODE of the law as functions, with certificates: printed by wip/p35/emit.py. -/
def b_L_isOpened_92 (K : List Nat) (h : kH) (x1 : Int32) (x4 : Int32) (s0 : Int32) (s1 : Int32) : Option (Bool × List Nat × kH) := if s0 = s1 then (if x4 = 0 then (some (true, K, h)) else (kBd (f_P_ofItem h x1 2) fun v12 h11 => if v12 = 1 then (some (true, K, h11)) else (some (false, K, h11)))) else (some (false, K, h))
theorem c_L_isOpened_92 {E : kE} {L : Nat} {xs : Nat → Int32} (hro : kRo E L xs) {K : List Nat} {h : kH} {x1 : Int32} {x4 : Int32} {s0 : Int32} {s1 : Int32} {r : Bool} {K' : List Nat} {h' : kH} (hf : b_L_isOpened_92 K h x1 x4 s0 s1 = some (r, K', h')) : kJ E m_L_isOpened (some (kB2 r)) (mk K' h') 3 36 92 [(0, .ref 0), (1, .int x1), (4, .int x4)] [.int s1, .int s0] (mk K h) := by
  unfold b_L_isOpened_92 at hf
  refine kJ_icmp_ne 95 114 d_L_isOpened_92 rfl rfl (fun hc => ?_) (fun hc => ?_)
  · have hf := kIf_f hf hc
    refine kJ_iconst 115 0 d_L_isOpened_114 ki_0 rfl ?_
    cases hf
    exact kJ_iret d_L_isOpened_115 rfl (kB2_z _) (Nat.le_of_ble_eq_true rfl) (Nat.le_of_ble_eq_true rfl)
  · have hf := kIf_t hf hc
    refine kJ_iload 97 2 d_L_isOpened_95 rfl rfl ?_
    refine kJ_if_eq 100 110 d_L_isOpened_97 rfl rfl (fun hc => ?_) (fun hc => ?_)
    · have hf := kIf_t hf hc
      refine kJ_iconst 111 1 d_L_isOpened_110 ki_1 rfl ?_
      refine kJ_goto 115 d_L_isOpened_111 rfl ?_
      cases hf
      exact kJ_iret d_L_isOpened_115 rfl (kB2_z _) (Nat.le_of_ble_eq_true rfl) (Nat.le_of_ble_eq_true rfl)
    · have hf := kIf_f hf hc
      refine kJ_aload_n 101 0 d_L_isOpened_100 rfl rfl rfl rfl ?_
      refine kJ_iload_n 102 1 d_L_isOpened_101 rfl rfl rfl ?_
      refine kJ_iconst 103 2 d_L_isOpened_102 ki_2 rfl ?_
      obtain ⟨v12, h11, ev12, hf⟩ := kBd_some hf
      refine kM_callv 106 m_P_ofItem [.int x1, .int 2] [] d_L_isOpened_103 cl_L_32 ⟨w_428, w_429⟩ (kp_0).x ⟨rfl, by decide⟩ ⟨_, _, rfl⟩ rfl rfl (Nat.le_of_ble_eq_true rfl) ⟨Nat.le_of_ble_eq_true rfl, Nat.le_of_ble_eq_true rfl⟩ ⟨rfl, rfl⟩ ⟨Nat.le_of_ble_eq_true rfl, Nat.le_of_ble_eq_true rfl⟩ (j_P_ofItem hro ev12) rfl ?_
      refine kJ_iconst 107 1 d_L_isOpened_106 ki_1 rfl ?_
      refine kJ_icmp_ne 110 114 d_L_isOpened_107 rfl rfl (fun hc => ?_) (fun hc => ?_)
      · have hf := kIf_f hf hc
        refine kJ_iconst 115 0 d_L_isOpened_114 ki_0 rfl ?_
        cases hf
        exact kJ_iret d_L_isOpened_115 rfl (kB2_z _) (Nat.le_of_ble_eq_true rfl) (Nat.le_of_ble_eq_true rfl)
      · have hf := kIf_t hf hc
        refine kJ_iconst 111 1 d_L_isOpened_110 ki_1 rfl ?_
        refine kJ_goto 115 d_L_isOpened_111 rfl ?_
        cases hf
        exact kJ_iret d_L_isOpened_115 rfl (kB2_z _) (Nat.le_of_ble_eq_true rfl) (Nat.le_of_ble_eq_true rfl)
def b_L_isOpened_73 (K : List Nat) (h : kH) (x1 : Int32) (x4 : Int32) (x5 : Int32) (s0 : Int32) (s1 : Int32) : Option (Bool × List Nat × kH) := if s0 = s1 then (kBi (f_P_count h 4) fun v10 => if x4 = 0 then (b_L_isOpened_92 K h x1 x4 v10 x5) else (b_L_isOpened_92 K h x1 x4 v10 x1)) else (some (false, K, h))
theorem c_L_isOpened_73 {E : kE} {L : Nat} {xs : Nat → Int32} (hro : kRo E L xs) {K : List Nat} {h : kH} {x1 : Int32} {x4 : Int32} {x5 : Int32} {s0 : Int32} {s1 : Int32} {r : Bool} {K' : List Nat} {h' : kH} (hf : b_L_isOpened_73 K h x1 x4 x5 s0 s1 = some (r, K', h')) : kJ E m_L_isOpened (some (kB2 r)) (mk K' h') 3 36 73 [(0, .ref 0), (1, .int x1), (4, .int x4), (5, .int x5)] [.int s1, .int s0] (mk K h) := by
  unfold b_L_isOpened_73 at hf
  refine kJ_icmp_ne 76 114 d_L_isOpened_73 rfl rfl (fun hc => ?_) (fun hc => ?_)
  · have hf := kIf_f hf hc
    refine kJ_iconst 115 0 d_L_isOpened_114 ki_0 rfl ?_
    cases hf
    exact kJ_iret d_L_isOpened_115 rfl (kB2_z _) (Nat.le_of_ble_eq_true rfl) (Nat.le_of_ble_eq_true rfl)
  · have hf := kIf_t hf hc
    refine kJ_aload_n 77 0 d_L_isOpened_76 rfl rfl rfl rfl ?_
    refine kJ_iconst 78 4 d_L_isOpened_77 ki_4 rfl ?_
    obtain ⟨v10, ev10, hf⟩ := kBi_some hf
    refine kM_callv 81 m_P_count [.int 4] [] d_L_isOpened_78 cl_L_28 ⟨w_397, w_398⟩ (kp_0).x ⟨rfl, by decide⟩ ⟨_, _, rfl⟩ rfl rfl (Nat.le_of_ble_eq_true rfl) ⟨Nat.le_of_ble_eq_true rfl, Nat.le_of_ble_eq_true rfl⟩ ⟨rfl, rfl⟩ ⟨Nat.le_of_ble_eq_true rfl, Nat.le_of_ble_eq_true rfl⟩ (j_P_count hro ev10) rfl ?_
    refine kJ_iload 83 2 d_L_isOpened_81 rfl rfl ?_
    refine kJ_if_eq 86 90 d_L_isOpened_83 rfl rfl (fun hc => ?_) (fun hc => ?_)
    · have hf := kIf_t hf hc
      refine kJ_iload 92 3 d_L_isOpened_90 rfl rfl ?_
      refine kJ_sub [0, 1, 2] rfl ?_
      exact c_L_isOpened_92 hro hf
    · have hf := kIf_f hf hc
      refine kJ_iload_n 87 1 d_L_isOpened_86 rfl rfl rfl ?_
      refine kJ_goto 92 d_L_isOpened_87 rfl ?_
      refine kJ_sub [0, 1, 2] rfl ?_
      exact c_L_isOpened_92 hro hf
def b_L_isOpened_48 (K : List Nat) (h : kH) (x1 : Int32) (x3 : Int32) (s0 : Bool) : Option (Bool × List Nat × kH) := kBi (f_P_count h 4) fun v7 => kBd (f_P_open h x1) fun v9 h8 => if s0 = true then (b_L_isOpened_73 K h8 x1 (kB2 s0) v7 v9 x3) else (b_L_isOpened_73 K h8 x1 (kB2 s0) v7 v9 (-5))
theorem c_L_isOpened_48 {E : kE} {L : Nat} {xs : Nat → Int32} (hro : kRo E L xs) {K : List Nat} {h : kH} {x1 : Int32} {x3 : Int32} {s0 : Bool} {r : Bool} {K' : List Nat} {h' : kH} (hf : b_L_isOpened_48 K h x1 x3 s0 = some (r, K', h')) : kJ E m_L_isOpened (some (kB2 r)) (mk K' h') 3 36 48 [(0, .ref 0), (1, .int x1), (3, .int x3)] [.int (kB2 s0)] (mk K h) := by
  unfold b_L_isOpened_48 at hf
  refine kJ_istore 50 [(4, .int (kB2 s0)), (0, .ref 0), (1, .int x1), (3, .int x3)] d_L_isOpened_48 (Nat.le_of_ble_eq_true rfl) rfl rfl ?_
  refine kJ_aload_n 51 1 d_L_isOpened_50 rfl rfl rfl rfl ?_
  refine kJ_iconst 52 4 d_L_isOpened_51 ki_4 rfl ?_
  obtain ⟨v7, ev7, hf⟩ := kBi_some hf
  refine kM_callv 55 m_P_count [.int 4] [] d_L_isOpened_52 cl_L_28 ⟨w_397, w_398⟩ (kp_0).x ⟨rfl, by decide⟩ ⟨_, _, rfl⟩ rfl rfl (Nat.le_of_ble_eq_true rfl) ⟨Nat.le_of_ble_eq_true rfl, Nat.le_of_ble_eq_true rfl⟩ ⟨rfl, rfl⟩ ⟨Nat.le_of_ble_eq_true rfl, Nat.le_of_ble_eq_true rfl⟩ (j_P_count hro ev7) rfl ?_
  refine kJ_istore 57 [(5, .int v7), (4, .int (kB2 s0)), (0, .ref 0), (1, .int x1), (3, .int x3)] d_L_isOpened_55 (Nat.le_of_ble_eq_true rfl) rfl rfl ?_
  refine kJ_aload_n 58 2 d_L_isOpened_57 rfl rfl rfl rfl ?_
  refine kJ_iload_n 59 3 d_L_isOpened_58 rfl rfl rfl ?_
  obtain ⟨v9, h8, ev9, hf⟩ := kBd_some hf
  refine kM_callv 62 m_P_open [.int x1] [] d_L_isOpened_59 cl_L_62 ⟨w_596, w_597⟩ (kp_0).x ⟨rfl, by decide⟩ ⟨_, _, rfl⟩ rfl rfl (Nat.le_of_ble_eq_true rfl) ⟨Nat.le_of_ble_eq_true rfl, Nat.le_of_ble_eq_true rfl⟩ ⟨rfl, rfl⟩ ⟨Nat.le_of_ble_eq_true rfl, Nat.le_of_ble_eq_true rfl⟩ (j_P_open hro ev9) rfl ?_
  refine kJ_iload 64 1 d_L_isOpened_62 rfl rfl ?_
  refine kJ_if_eq 67 71 d_L_isOpened_64 rfl rfl (fun hc => ?_) (fun hc => ?_)
  · have hf := kIf_f hf (kB2_0 hc)
    refine kJ_bipush 73 (-5) d_L_isOpened_71 kb_m5 rfl ?_
    refine kJ_sub [2, 3, 1, 0] rfl ?_
    exact c_L_isOpened_73 hro hf
  · have hf := kIf_t hf (kB2_1 hc)
    refine kJ_iload_n 68 4 d_L_isOpened_67 rfl rfl rfl ?_
    refine kJ_goto 73 d_L_isOpened_68 rfl ?_
    refine kJ_sub [2, 3, 1, 0] rfl ?_
    exact c_L_isOpened_73 hro hf
def b_L_isOpened_47 (K : List Nat) (h : kH) (x1 : Int32) (x3 : Int32) : Option (Bool × List Nat × kH) := b_L_isOpened_48 K h x1 x3 false
theorem c_L_isOpened_47 {E : kE} {L : Nat} {xs : Nat → Int32} (hro : kRo E L xs) {K : List Nat} {h : kH} {x1 : Int32} {x3 : Int32} {r : Bool} {K' : List Nat} {h' : kH} (hf : b_L_isOpened_47 K h x1 x3 = some (r, K', h')) : kJ E m_L_isOpened (some (kB2 r)) (mk K' h') 3 36 47 [(0, .ref 0), (1, .int x1), (3, .int x3)] [] (mk K h) := by
  unfold b_L_isOpened_47 at hf
  refine kJ_iconst 48 0 d_L_isOpened_47 ki_0 rfl ?_
  refine kJ_sub [0, 1, 2] rfl ?_
  exact c_L_isOpened_48 hro hf
def f_L_isOpened (K : List Nat) (h : kH) (x1 : Int32) : Option (Bool × List Nat × kH) := kLet (hfill h (786 + K.length) 12 0) fun h1 => kBd (f_L_areVoices (K ++ [9]) h1 x1 (786 + K.length)) fun v3 h2 => kBi (f_L_there h2 (786 + K.length)) fun v4 => kBd (f_P_ofItem h2 x1 2) fun v6 h5 => if v6 = 0 then (kBi (f_P_count h5 4) fun v13 => if 0 ≤ v13 then (b_L_isOpened_47 (K ++ [9] ++ [9] ++ [9]) h5 x1 v4) else (kBi (f_L_isQuorum h5 v4) fun v14 => if v14 = true then (b_L_isOpened_48 (K ++ [9] ++ [9] ++ [9]) h5 x1 v4 true) else (b_L_isOpened_47 (K ++ [9] ++ [9] ++ [9]) h5 x1 v4))) else (b_L_isOpened_47 (K ++ [9] ++ [9] ++ [9]) h5 x1 v4)
theorem j_L_isOpened {E : kE} {L : Nat} {xs : Nat → Int32} (hro : kRo E L xs) {K : List Nat} {h : kH} {x1 : Int32} {r : Bool} {K' : List Nat} {h' : kH} (hf : f_L_isOpened K h x1 = some (r, K', h')) : JM E m_L_isOpened [.ref 0, .int x1] (mk K h) (some (kB2 r)) (mk K' h') := by
  unfold f_L_isOpened at hf
  refine JM.of pn_L (Nat.le_of_ble_eq_true rfl) ?_
  show kJ E m_L_isOpened (some (kB2 r)) (mk K' h') 0 0 0 [(0, .ref 0), (1, .int x1)] [] (mk K h)
  refine kJ_bipush 2 12 d_L_isOpened_0 kb_12 rfl ?_
  refine kX_newa 4 12 9 d_L_isOpened_2 w_101 (by decide) rfl (by decide) rfl (Nat.le_of_ble_eq_true rfl) (Nat.le_of_ble_eq_true rfl) rfl ?_
  obtain ⟨h1, eh1, hf⟩ := kLet_e hf
  rw [← eh1]
  refine kJ_astore_n 5 [(2, .ref (786 + K.length)), (0, .ref 0), (1, .int x1)] d_L_isOpened_4 rfl (Nat.le_of_ble_eq_true rfl) rfl rfl rfl ?_
  refine kJ_aload_n 6 1 d_L_isOpened_5 rfl rfl rfl rfl ?_
  refine kJ_iload_n 7 2 d_L_isOpened_6 rfl rfl rfl ?_
  refine kJ_aload_n 8 0 d_L_isOpened_7 rfl rfl rfl rfl ?_
  obtain ⟨v3, h2, ev3, hf⟩ := kBd_some hf
  refine kX_calls 11 m_L_areVoices [.ref 0, .int x1, .ref (786 + K.length)] [] 3 36 d_L_isOpened_8 cl_L_39 w_425 rfl rfl (Nat.le_of_ble_eq_true rfl) ⟨Nat.le_of_ble_eq_true rfl, Nat.le_of_ble_eq_true rfl⟩ rfl rfl (Nat.le_of_ble_eq_true rfl) (Nat.le_of_ble_eq_true rfl) (j_L_areVoices hro (kX_new K 9) ev3) rfl ?_
  refine kJ_pop 12 d_L_isOpened_11 rfl rfl ?_
  refine kJ_aload_n 13 1 d_L_isOpened_12 rfl rfl rfl rfl ?_
  refine kJ_aload_n 14 0 d_L_isOpened_13 rfl rfl rfl rfl ?_
  obtain ⟨v4, ev4, hf⟩ := kBi_some hf
  refine kM_calls 17 m_L_there [.ref 0, .ref (786 + K.length)] [] d_L_isOpened_14 cl_L_47 w_506 rfl rfl (Nat.le_of_ble_eq_true rfl) ⟨Nat.le_of_ble_eq_true rfl, Nat.le_of_ble_eq_true rfl⟩ ⟨rfl, rfl⟩ ⟨Nat.le_of_ble_eq_true rfl, Nat.le_of_ble_eq_true rfl⟩ (j_L_there hro (kX.app (kX.app (kX_new K 9) [9]) [9]) ev4) rfl ?_
  refine kJ_istore_n 18 [(3, .int v4), (2, .ref (786 + K.length)), (0, .ref 0), (1, .int x1)] d_L_isOpened_17 rfl (Nat.le_of_ble_eq_true rfl) rfl rfl ?_
  refine kJ_aload_n 19 2 d_L_isOpened_18 rfl rfl rfl rfl ?_
  refine kJ_iload_n 20 3 d_L_isOpened_19 rfl rfl rfl ?_
  refine kJ_iconst 21 2 d_L_isOpened_20 ki_2 rfl ?_
  obtain ⟨v6, h5, ev6, hf⟩ := kBd_some hf
  refine kM_callv 24 m_P_ofItem [.int x1, .int 2] [] d_L_isOpened_21 cl_L_32 ⟨w_428, w_429⟩ (kp_0).x ⟨rfl, by decide⟩ ⟨_, _, rfl⟩ rfl rfl (Nat.le_of_ble_eq_true rfl) ⟨Nat.le_of_ble_eq_true rfl, Nat.le_of_ble_eq_true rfl⟩ ⟨rfl, rfl⟩ ⟨Nat.le_of_ble_eq_true rfl, Nat.le_of_ble_eq_true rfl⟩ (j_P_ofItem hro ev6) rfl ?_
  refine kJ_if_ne 27 47 d_L_isOpened_24 rfl rfl (fun hc => ?_) (fun hc => ?_)
  · have hf := kIf_f hf hc
    refine kJ_sub [2, 3, 0] rfl ?_
    exact c_L_isOpened_47 hro hf
  · have hf := kIf_t hf hc
    refine kJ_aload_n 28 2 d_L_isOpened_27 rfl rfl rfl rfl ?_
    refine kJ_iconst 29 4 d_L_isOpened_28 ki_4 rfl ?_
    obtain ⟨v13, ev13, hf⟩ := kBi_some hf
    refine kM_callv 32 m_P_count [.int 4] [] d_L_isOpened_29 cl_L_28 ⟨w_397, w_398⟩ (kp_0).x ⟨rfl, by decide⟩ ⟨_, _, rfl⟩ rfl rfl (Nat.le_of_ble_eq_true rfl) ⟨Nat.le_of_ble_eq_true rfl, Nat.le_of_ble_eq_true rfl⟩ ⟨rfl, rfl⟩ ⟨Nat.le_of_ble_eq_true rfl, Nat.le_of_ble_eq_true rfl⟩ (j_P_count hro ev13) rfl ?_
    refine kJ_if_ge 35 47 d_L_isOpened_32 rfl rfl (fun hc => ?_) (fun hc => ?_)
    · have hf := kIf_t hf hc
      refine kJ_sub [2, 3, 0] rfl ?_
      exact c_L_isOpened_47 hro hf
    · have hf := kIf_f hf hc
      refine kJ_aload_n 36 2 d_L_isOpened_35 rfl rfl rfl rfl ?_
      refine kJ_iload_n 37 0 d_L_isOpened_36 rfl rfl rfl ?_
      obtain ⟨v14, ev14, hf⟩ := kBi_some hf
      refine kM_calls 40 m_L_isQuorum [.ref 0, .int v4] [] d_L_isOpened_37 cl_L_51 w_509 rfl rfl (Nat.le_of_ble_eq_true rfl) ⟨Nat.le_of_ble_eq_true rfl, Nat.le_of_ble_eq_true rfl⟩ ⟨rfl, rfl⟩ ⟨Nat.le_of_ble_eq_true rfl, Nat.le_of_ble_eq_true rfl⟩ (j_L_isQuorum hro ev14) rfl ?_
      refine kJ_if_eq 43 47 d_L_isOpened_40 rfl rfl (fun hc => ?_) (fun hc => ?_)
      · have hf := kIf_f hf (kB2_0 hc)
        refine kJ_sub [2, 3, 0] rfl ?_
        exact c_L_isOpened_47 hro hf
      · have hf := kIf_t hf (kB2_1 hc)
        refine kJ_iconst 44 1 d_L_isOpened_43 ki_1 rfl ?_
        refine kJ_goto 48 d_L_isOpened_44 rfl ?_
        refine kJ_sub [2, 3, 0] rfl ?_
        exact c_L_isOpened_48 hro hf
def b_L_isVoted_131 (h : kH) (s0 : Int32) (s1 : Int32) (s2 : Bool) : Option (Bool × kH) := if s0 = (s1 + (kB2 s2)) then (some (true, h)) else (some (false, h))
theorem c_L_isVoted_131 {E : kE} {L : Nat} {xs : Nat → Int32} (hro : kRo E L xs) {K : List Nat} {h : kH} {s0 : Int32} {s1 : Int32} {s2 : Bool} {r : Bool} {h' : kH} (hf : b_L_isVoted_131 h s0 s1 s2 = some (r, h')) : kJ E m_L_isVoted (some (kB2 r)) (mk K h') 0 0 131 [] [.int (kB2 s2), .int s1, .int s0] (mk K h) := by
  unfold b_L_isVoted_131 at hf
  refine kJ_iadd 132 d_L_isVoted_131 rfl ?_
  refine kJ_icmp_ne 135 139 d_L_isVoted_132 rfl rfl (fun hc => ?_) (fun hc => ?_)
  · have hf := kIf_f hf hc
    refine kJ_iconst 140 0 d_L_isVoted_139 ki_0 rfl ?_
    refine kJ_goto 167 d_L_isVoted_140 rfl ?_
    cases hf
    exact kJ_iret d_L_isVoted_167 rfl (kB2_z _) (Nat.zero_le _) (Nat.zero_le _)
  · have hf := kIf_t hf hc
    refine kJ_iconst 136 1 d_L_isVoted_135 ki_1 rfl ?_
    refine kJ_goto 167 d_L_isVoted_136 rfl ?_
    cases hf
    exact kJ_iret d_L_isVoted_167 rfl (kB2_z _) (Nat.zero_le _) (Nat.zero_le _)
def b_L_isVoted_52 (h : kH) (x1 : Int32) (x2 : Int32) (x3 : Int32) (s0 : Bool) : Option (Bool × kH) := kBd (f_P_at h x1 x3 1) fun v4 h3 => kBi (f_P_ofMember h3 x1 4) fun v5 => kBd (f_P_vote h3 x1 x2) fun v7 h6 => if s0 = true then (if v7 = v4 then (kBd (f_P_at h6 x1 x3 1) fun v11 h10 => if v11 = x2 then (kBd (f_P_at h10 x1 x3 3) fun v13 h12 => if v13 = x2 then (kBi (f_P_ofMember h12 x1 4) fun v14 => if 0 ≤ v4 then (b_L_isVoted_131 h12 v14 v5 false) else (b_L_isVoted_131 h12 v14 v5 true)) else (some (false, h12))) else (some (false, h10))) else (some (false, h6))) else (if v7 = (-5) then (kBd (f_P_at h6 x1 x3 1) fun v9 h8 => if v9 = v4 then (some (true, h8)) else (some (false, h8))) else (some (false, h6)))
theorem c_L_isVoted_52 {E : kE} {L : Nat} {xs : Nat → Int32} (hro : kRo E L xs) {K : List Nat} {h : kH} {x1 : Int32} {x2 : Int32} {x3 : Int32} {s0 : Bool} {r : Bool} {h' : kH} (hf : b_L_isVoted_52 h x1 x2 x3 s0 = some (r, h')) : kJ E m_L_isVoted (some (kB2 r)) (mk K h') 0 0 52 [(0, .ref 0), (1, .int x1), (2, .int x2), (3, .int x3)] [.int (kB2 s0)] (mk K h) := by
  unfold b_L_isVoted_52 at hf
  refine kJ_istore 54 [(4, .int (kB2 s0)), (0, .ref 0), (1, .int x1), (2, .int x2), (3, .int x3)] d_L_isVoted_52 (Nat.le_of_ble_eq_true rfl) rfl rfl ?_
  refine kJ_aload_n 55 1 d_L_isVoted_54 rfl rfl rfl rfl ?_
  refine kJ_iload_n 56 2 d_L_isVoted_55 rfl rfl rfl ?_
  refine kJ_iload_n 57 4 d_L_isVoted_56 rfl rfl rfl ?_
  refine kJ_iconst 58 1 d_L_isVoted_57 ki_1 rfl ?_
  obtain ⟨v4, h3, ev4, hf⟩ := kBd_some hf
  refine kM_callv 61 m_P_at [.int x1, .int x3, .int 1] [] d_L_isVoted_58 cl_L_8 ⟨w_486, w_487⟩ (kp_0).x ⟨rfl, by decide⟩ ⟨_, _, rfl⟩ rfl rfl (Nat.le_of_ble_eq_true rfl) ⟨Nat.le_of_ble_eq_true rfl, Nat.le_of_ble_eq_true rfl⟩ ⟨rfl, rfl⟩ ⟨Nat.zero_le _, Nat.zero_le _⟩ (j_P_at hro ev4) rfl ?_
  refine kJ_istore 63 [(5, .int v4), (4, .int (kB2 s0)), (0, .ref 0), (1, .int x1), (2, .int x2), (3, .int x3)] d_L_isVoted_61 (Nat.le_of_ble_eq_true rfl) rfl rfl ?_
  refine kJ_aload_n 64 2 d_L_isVoted_63 rfl rfl rfl rfl ?_
  refine kJ_iload_n 65 3 d_L_isVoted_64 rfl rfl rfl ?_
  refine kJ_iconst 66 4 d_L_isVoted_65 ki_4 rfl ?_
  obtain ⟨v5, ev5, hf⟩ := kBi_some hf
  refine kM_callv 69 m_P_ofMember [.int x1, .int 4] [] d_L_isVoted_66 cl_L_14 ⟨w_380, w_381⟩ (kp_0).x ⟨rfl, by decide⟩ ⟨_, _, rfl⟩ rfl rfl (Nat.le_of_ble_eq_true rfl) ⟨Nat.le_of_ble_eq_true rfl, Nat.le_of_ble_eq_true rfl⟩ ⟨rfl, rfl⟩ ⟨Nat.zero_le _, Nat.zero_le _⟩ (j_P_ofMember hro ev5) rfl ?_
  refine kJ_istore 71 [(6, .int v5), (5, .int v4), (4, .int (kB2 s0)), (0, .ref 0), (1, .int x1), (2, .int x2), (3, .int x3)] d_L_isVoted_69 (Nat.le_of_ble_eq_true rfl) rfl rfl ?_
  refine kJ_aload_n 72 3 d_L_isVoted_71 rfl rfl rfl rfl ?_
  refine kJ_iload_n 73 4 d_L_isVoted_72 rfl rfl rfl ?_
  refine kJ_iload_n 74 5 d_L_isVoted_73 rfl rfl rfl ?_
  obtain ⟨v7, h6, ev7, hf⟩ := kBd_some hf
  refine kM_callv 77 m_P_vote [.int x1, .int x2] [] d_L_isVoted_74 cl_L_65 ⟨w_611, w_612⟩ (kp_0).x ⟨rfl, by decide⟩ ⟨_, _, rfl⟩ rfl rfl (Nat.le_of_ble_eq_true rfl) ⟨Nat.le_of_ble_eq_true rfl, Nat.le_of_ble_eq_true rfl⟩ ⟨rfl, rfl⟩ ⟨Nat.zero_le _, Nat.zero_le _⟩ (j_P_vote hro ev7) rfl ?_
  refine kJ_istore 79 [(7, .int v7), (6, .int v5), (5, .int v4), (4, .int (kB2 s0)), (0, .ref 0), (1, .int x1), (2, .int x2), (3, .int x3)] d_L_isVoted_77 (Nat.le_of_ble_eq_true rfl) rfl rfl ?_
  refine kJ_iload 81 3 d_L_isVoted_79 rfl rfl ?_
  refine kJ_if_eq 84 143 d_L_isVoted_81 rfl rfl (fun hc => ?_) (fun hc => ?_)
  · have hf := kIf_f hf (kB2_0 hc)
    refine kJ_iload 145 0 d_L_isVoted_143 rfl rfl ?_
    refine kJ_bipush 147 (-5) d_L_isVoted_145 kb_m5 rfl ?_
    refine kJ_icmp_ne 150 166 d_L_isVoted_147 rfl rfl (fun hc => ?_) (fun hc => ?_)
    · have hf := kIf_f hf hc
      refine kJ_iconst 167 0 d_L_isVoted_166 ki_0 rfl ?_
      cases hf
      exact kJ_iret d_L_isVoted_167 rfl (kB2_z _) (Nat.zero_le _) (Nat.zero_le _)
    · have hf := kIf_t hf hc
      refine kJ_aload_n 151 4 d_L_isVoted_150 rfl rfl rfl rfl ?_
      refine kJ_iload_n 152 5 d_L_isVoted_151 rfl rfl rfl ?_
      refine kJ_iload_n 153 7 d_L_isVoted_152 rfl rfl rfl ?_
      refine kJ_iconst 154 1 d_L_isVoted_153 ki_1 rfl ?_
      obtain ⟨v9, h8, ev9, hf⟩ := kBd_some hf
      refine kM_callv 157 m_P_at [.int x1, .int x3, .int 1] [] d_L_isVoted_154 cl_L_8 ⟨w_486, w_487⟩ (kp_0).x ⟨rfl, by decide⟩ ⟨_, _, rfl⟩ rfl rfl (Nat.le_of_ble_eq_true rfl) ⟨Nat.le_of_ble_eq_true rfl, Nat.le_of_ble_eq_true rfl⟩ ⟨rfl, rfl⟩ ⟨Nat.zero_le _, Nat.zero_le _⟩ (j_P_at hro ev9) rfl ?_
      refine kJ_iload 159 2 d_L_isVoted_157 rfl rfl ?_
      refine kJ_icmp_ne 162 166 d_L_isVoted_159 rfl rfl (fun hc => ?_) (fun hc => ?_)
      · have hf := kIf_f hf hc
        refine kJ_iconst 167 0 d_L_isVoted_166 ki_0 rfl ?_
        cases hf
        exact kJ_iret d_L_isVoted_167 rfl (kB2_z _) (Nat.zero_le _) (Nat.zero_le _)
      · have hf := kIf_t hf hc
        refine kJ_iconst 163 1 d_L_isVoted_162 ki_1 rfl ?_
        refine kJ_goto 167 d_L_isVoted_163 rfl ?_
        cases hf
        exact kJ_iret d_L_isVoted_167 rfl (kB2_z _) (Nat.zero_le _) (Nat.zero_le _)
  · have hf := kIf_t hf (kB2_1 hc)
    refine kJ_iload 86 0 d_L_isVoted_84 rfl rfl ?_
    refine kJ_iload 88 2 d_L_isVoted_86 rfl rfl ?_
    refine kJ_icmp_ne 91 139 d_L_isVoted_88 rfl rfl (fun hc => ?_) (fun hc => ?_)
    · have hf := kIf_f hf hc
      refine kJ_iconst 140 0 d_L_isVoted_139 ki_0 rfl ?_
      refine kJ_goto 167 d_L_isVoted_140 rfl ?_
      cases hf
      exact kJ_iret d_L_isVoted_167 rfl (kB2_z _) (Nat.zero_le _) (Nat.zero_le _)
    · have hf := kIf_t hf hc
      refine kJ_aload_n 92 4 d_L_isVoted_91 rfl rfl rfl rfl ?_
      refine kJ_iload_n 93 5 d_L_isVoted_92 rfl rfl rfl ?_
      refine kJ_iload_n 94 7 d_L_isVoted_93 rfl rfl rfl ?_
      refine kJ_iconst 95 1 d_L_isVoted_94 ki_1 rfl ?_
      obtain ⟨v11, h10, ev11, hf⟩ := kBd_some hf
      refine kM_callv 98 m_P_at [.int x1, .int x3, .int 1] [] d_L_isVoted_95 cl_L_8 ⟨w_486, w_487⟩ (kp_0).x ⟨rfl, by decide⟩ ⟨_, _, rfl⟩ rfl rfl (Nat.le_of_ble_eq_true rfl) ⟨Nat.le_of_ble_eq_true rfl, Nat.le_of_ble_eq_true rfl⟩ ⟨rfl, rfl⟩ ⟨Nat.zero_le _, Nat.zero_le _⟩ (j_P_at hro ev11) rfl ?_
      refine kJ_iload_n 99 6 d_L_isVoted_98 rfl rfl rfl ?_
      refine kJ_icmp_ne 102 139 d_L_isVoted_99 rfl rfl (fun hc => ?_) (fun hc => ?_)
      · have hf := kIf_f hf hc
        refine kJ_iconst 140 0 d_L_isVoted_139 ki_0 rfl ?_
        refine kJ_goto 167 d_L_isVoted_140 rfl ?_
        cases hf
        exact kJ_iret d_L_isVoted_167 rfl (kB2_z _) (Nat.zero_le _) (Nat.zero_le _)
      · have hf := kIf_t hf hc
        refine kJ_aload_n 103 4 d_L_isVoted_102 rfl rfl rfl rfl ?_
        refine kJ_iload_n 104 5 d_L_isVoted_103 rfl rfl rfl ?_
        refine kJ_iload_n 105 7 d_L_isVoted_104 rfl rfl rfl ?_
        refine kJ_iconst 106 3 d_L_isVoted_105 ki_3 rfl ?_
        obtain ⟨v13, h12, ev13, hf⟩ := kBd_some hf
        refine kM_callv 109 m_P_at [.int x1, .int x3, .int 3] [] d_L_isVoted_106 cl_L_8 ⟨w_486, w_487⟩ (kp_0).x ⟨rfl, by decide⟩ ⟨_, _, rfl⟩ rfl rfl (Nat.le_of_ble_eq_true rfl) ⟨Nat.le_of_ble_eq_true rfl, Nat.le_of_ble_eq_true rfl⟩ ⟨rfl, rfl⟩ ⟨Nat.zero_le _, Nat.zero_le _⟩ (j_P_at hro ev13) rfl ?_
        refine kJ_iload_n 110 6 d_L_isVoted_109 rfl rfl rfl ?_
        refine kJ_icmp_ne 113 139 d_L_isVoted_110 rfl rfl (fun hc => ?_) (fun hc => ?_)
        · have hf := kIf_f hf hc
          refine kJ_iconst 140 0 d_L_isVoted_139 ki_0 rfl ?_
          refine kJ_goto 167 d_L_isVoted_140 rfl ?_
          cases hf
          exact kJ_iret d_L_isVoted_167 rfl (kB2_z _) (Nat.zero_le _) (Nat.zero_le _)
        · have hf := kIf_t hf hc
          refine kJ_aload_n 114 4 d_L_isVoted_113 rfl rfl rfl rfl ?_
          refine kJ_iload_n 115 5 d_L_isVoted_114 rfl rfl rfl ?_
          refine kJ_iconst 116 4 d_L_isVoted_115 ki_4 rfl ?_
          obtain ⟨v14, ev14, hf⟩ := kBi_some hf
          refine kM_callv 119 m_P_ofMember [.int x1, .int 4] [] d_L_isVoted_116 cl_L_14 ⟨w_380, w_381⟩ (kp_0).x ⟨rfl, by decide⟩ ⟨_, _, rfl⟩ rfl rfl (Nat.le_of_ble_eq_true rfl) ⟨Nat.le_of_ble_eq_true rfl, Nat.le_of_ble_eq_true rfl⟩ ⟨rfl, rfl⟩ ⟨Nat.zero_le _, Nat.zero_le _⟩ (j_P_ofMember hro ev14) rfl ?_
          refine kJ_iload 121 1 d_L_isVoted_119 rfl rfl ?_
          refine kJ_iload 123 2 d_L_isVoted_121 rfl rfl ?_
          refine kJ_if_ge 126 130 d_L_isVoted_123 rfl rfl (fun hc => ?_) (fun hc => ?_)
          · have hf := kIf_t hf hc
            refine kJ_iconst 131 0 d_L_isVoted_130 ki_0 rfl ?_
            refine kJ_sub [] rfl ?_
            exact c_L_isVoted_131 hro hf
          · have hf := kIf_f hf hc
            refine kJ_iconst 127 1 d_L_isVoted_126 ki_1 rfl ?_
            refine kJ_goto 131 d_L_isVoted_127 rfl ?_
            refine kJ_sub [] rfl ?_
            exact c_L_isVoted_131 hro hf
def b_L_isVoted_51 (h : kH) (x1 : Int32) (x2 : Int32) (x3 : Int32) : Option (Bool × kH) := b_L_isVoted_52 h x1 x2 x3 false
theorem c_L_isVoted_51 {E : kE} {L : Nat} {xs : Nat → Int32} (hro : kRo E L xs) {K : List Nat} {h : kH} {x1 : Int32} {x2 : Int32} {x3 : Int32} {r : Bool} {h' : kH} (hf : b_L_isVoted_51 h x1 x2 x3 = some (r, h')) : kJ E m_L_isVoted (some (kB2 r)) (mk K h') 0 0 51 [(0, .ref 0), (1, .int x1), (2, .int x2), (3, .int x3)] [] (mk K h) := by
  unfold b_L_isVoted_51 at hf
  refine kJ_iconst 52 0 d_L_isVoted_51 ki_0 rfl ?_
  refine kJ_sub [0, 1, 2, 3] rfl ?_
  exact c_L_isVoted_52 hro hf
def f_L_isVoted (h : kH) (x1 : Int32) (x2 : Int32) : Option (Bool × kH) := kBi (f_P_count h 4) fun v1 => if 0 ≤ v1 then (kBi (f_P_ofMember h x1 2) fun v2 => if v2 = 1 then (kBd (f_P_at h x1 v1 5) fun v16 h15 => if v16 = 0 then (b_L_isVoted_52 h15 x1 x2 v1 true) else (b_L_isVoted_51 h15 x1 x2 v1)) else (b_L_isVoted_51 h x1 x2 v1)) else (kBd (f_P_vote h x1 x2) fun v18 h17 => if v18 = (-5) then (some (true, h17)) else (some (false, h17)))
theorem j_L_isVoted {E : kE} {L : Nat} {xs : Nat → Int32} (hro : kRo E L xs) {K : List Nat} {h : kH} {x1 : Int32} {x2 : Int32} {r : Bool} {h' : kH} (hf : f_L_isVoted h x1 x2 = some (r, h')) : JM E m_L_isVoted [.ref 0, .int x1, .int x2] (mk K h) (some (kB2 r)) (mk K h') := by
  unfold f_L_isVoted at hf
  refine JM.of pn_L (Nat.le_of_ble_eq_true rfl) ?_
  show kJ E m_L_isVoted (some (kB2 r)) (mk K h') 0 0 0 [(0, .ref 0), (1, .int x1), (2, .int x2)] [] (mk K h)
  refine kJ_aload_n 1 0 d_L_isVoted_0 rfl rfl rfl rfl ?_
  refine kJ_iconst 2 4 d_L_isVoted_1 ki_4 rfl ?_
  obtain ⟨v1, ev1, hf⟩ := kBi_some hf
  refine kM_callv 5 m_P_count [.int 4] [] d_L_isVoted_2 cl_L_28 ⟨w_397, w_398⟩ (kp_0).x ⟨rfl, by decide⟩ ⟨_, _, rfl⟩ rfl rfl (Nat.le_of_ble_eq_true rfl) ⟨Nat.le_of_ble_eq_true rfl, Nat.le_of_ble_eq_true rfl⟩ ⟨rfl, rfl⟩ ⟨Nat.zero_le _, Nat.zero_le _⟩ (j_P_count hro ev1) rfl ?_
  refine kJ_istore_n 6 [(3, .int v1), (0, .ref 0), (1, .int x1), (2, .int x2)] d_L_isVoted_5 rfl (Nat.le_of_ble_eq_true rfl) rfl rfl ?_
  refine kJ_iload_n 7 0 d_L_isVoted_6 rfl rfl rfl ?_
  refine kJ_if_ge 10 27 d_L_isVoted_7 rfl rfl (fun hc => ?_) (fun hc => ?_)
  · have hf := kIf_t hf hc
    refine kJ_aload_n 28 1 d_L_isVoted_27 rfl rfl rfl rfl ?_
    refine kJ_iload_n 29 2 d_L_isVoted_28 rfl rfl rfl ?_
    refine kJ_iconst 30 2 d_L_isVoted_29 ki_2 rfl ?_
    obtain ⟨v2, ev2, hf⟩ := kBi_some hf
    refine kM_callv 33 m_P_ofMember [.int x1, .int 2] [] d_L_isVoted_30 cl_L_14 ⟨w_380, w_381⟩ (kp_0).x ⟨rfl, by decide⟩ ⟨_, _, rfl⟩ rfl rfl (Nat.le_of_ble_eq_true rfl) ⟨Nat.le_of_ble_eq_true rfl, Nat.le_of_ble_eq_true rfl⟩ ⟨rfl, rfl⟩ ⟨Nat.zero_le _, Nat.zero_le _⟩ (j_P_ofMember hro ev2) rfl ?_
    refine kJ_iconst 34 1 d_L_isVoted_33 ki_1 rfl ?_
    refine kJ_icmp_ne 37 51 d_L_isVoted_34 rfl rfl (fun hc => ?_) (fun hc => ?_)
    · have hf := kIf_f hf hc
      refine kJ_sub [1, 2, 3, 0] rfl ?_
      exact c_L_isVoted_51 hro hf
    · have hf := kIf_t hf hc
      refine kJ_aload_n 38 1 d_L_isVoted_37 rfl rfl rfl rfl ?_
      refine kJ_iload_n 39 2 d_L_isVoted_38 rfl rfl rfl ?_
      refine kJ_iload_n 40 0 d_L_isVoted_39 rfl rfl rfl ?_
      refine kJ_iconst 41 5 d_L_isVoted_40 ki_5 rfl ?_
      obtain ⟨v16, h15, ev16, hf⟩ := kBd_some hf
      refine kM_callv 44 m_P_at [.int x1, .int v1, .int 5] [] d_L_isVoted_41 cl_L_8 ⟨w_486, w_487⟩ (kp_0).x ⟨rfl, by decide⟩ ⟨_, _, rfl⟩ rfl rfl (Nat.le_of_ble_eq_true rfl) ⟨Nat.le_of_ble_eq_true rfl, Nat.le_of_ble_eq_true rfl⟩ ⟨rfl, rfl⟩ ⟨Nat.zero_le _, Nat.zero_le _⟩ (j_P_at hro ev16) rfl ?_
      refine kJ_if_ne 47 51 d_L_isVoted_44 rfl rfl (fun hc => ?_) (fun hc => ?_)
      · have hf := kIf_f hf hc
        refine kJ_sub [1, 2, 3, 0] rfl ?_
        exact c_L_isVoted_51 hro hf
      · have hf := kIf_t hf hc
        refine kJ_iconst 48 1 d_L_isVoted_47 ki_1 rfl ?_
        refine kJ_goto 52 d_L_isVoted_48 rfl ?_
        refine kJ_sub [1, 2, 3, 0] rfl ?_
        exact c_L_isVoted_52 hro hf
  · have hf := kIf_f hf hc
    refine kJ_aload_n 11 1 d_L_isVoted_10 rfl rfl rfl rfl ?_
    refine kJ_iload_n 12 2 d_L_isVoted_11 rfl rfl rfl ?_
    refine kJ_iload_n 13 3 d_L_isVoted_12 rfl rfl rfl ?_
    obtain ⟨v18, h17, ev18, hf⟩ := kBd_some hf
    refine kM_callv 16 m_P_vote [.int x1, .int x2] [] d_L_isVoted_13 cl_L_65 ⟨w_611, w_612⟩ (kp_0).x ⟨rfl, by decide⟩ ⟨_, _, rfl⟩ rfl rfl (Nat.le_of_ble_eq_true rfl) ⟨Nat.le_of_ble_eq_true rfl, Nat.le_of_ble_eq_true rfl⟩ ⟨rfl, rfl⟩ ⟨Nat.zero_le _, Nat.zero_le _⟩ (j_P_vote hro ev18) rfl ?_
    refine kJ_bipush 18 (-5) d_L_isVoted_16 kb_m5 rfl ?_
    refine kJ_icmp_ne 21 25 d_L_isVoted_18 rfl rfl (fun hc => ?_) (fun hc => ?_)
    · have hf := kIf_f hf hc
      refine kJ_iconst 26 0 d_L_isVoted_25 ki_0 rfl ?_
      cases hf
      exact kJ_iret d_L_isVoted_26 rfl (kB2_z _) (Nat.zero_le _) (Nat.zero_le _)
    · have hf := kIf_t hf hc
      refine kJ_iconst 22 1 d_L_isVoted_21 ki_1 rfl ?_
      refine kJ_goto 26 d_L_isVoted_22 rfl ?_
      cases hf
      exact kJ_iret d_L_isVoted_26 rfl (kB2_z _) (Nat.zero_le _) (Nat.zero_le _)
def b_L_isClosed_195 (K : List Nat) (x1 : Int32) (x4 : Bool) : Nat → kH → Int32 → Option (Bool × List Nat × kH)
  | 0, _, _ => none
  | n + 1, h, x7 => (fun rec195 => kBi (f_P_count h 1) fun v20 => if v20 ≤ x7 then (some (true, K, h)) else (if x4 = true then (some (true, K, h)) else (kBd (f_P_at h x7 x1 1) fun v22 h21 => if v22 = (-6) then (rec195 h21 (x7 + 1)) else (some (false, K, h21))))) (fun h' x7' => b_L_isClosed_195 K x1 x4 n h' x7')
theorem c_L_isClosed_195 {E : kE} {L : Nat} {xs : Nat → Int32} (hro : kRo E L xs) {K : List Nat} {x1 : Int32} {x4 : Bool} {r : Bool} {K' : List Nat} {h' : kH} : ∀ (n : Nat) (h : kH) (x7 : Int32), b_L_isClosed_195 K x1 x4 n h x7 = some (r, K', h') → kJ E m_L_isClosed (some (kB2 r)) (mk K' h') 4 42 195 [(0, .ref 0), (1, .int x1), (4, .int (kB2 x4)), (7, .int x7)] [] (mk K h) := by
  intro n
  induction n with
  | zero =>
    intro h x7 hf
    have hf : (none : Option (Bool × List Nat × kH)) = some (r, K', h') := hf
    cases hf
  | succ n hrec195 =>
    intro h x7 hf
    rw [b_L_isClosed_195] at hf
    dsimp only at hf
    refine kJ_iload 197 3 d_L_isClosed_195 rfl rfl ?_
    refine kJ_aload_n 198 0 d_L_isClosed_197 rfl rfl rfl rfl ?_
    refine kJ_iconst 199 1 d_L_isClosed_198 ki_1 rfl ?_
    obtain ⟨v20, ev20, hf⟩ := kBi_some hf
    refine kM_callv 202 m_P_count [.int 1] [.int x7] d_L_isClosed_199 cl_L_28 ⟨w_397, w_398⟩ (kp_0).x ⟨rfl, by decide⟩ ⟨_, _, rfl⟩ rfl rfl (Nat.le_of_ble_eq_true rfl) ⟨Nat.le_of_ble_eq_true rfl, Nat.le_of_ble_eq_true rfl⟩ ⟨rfl, rfl⟩ ⟨Nat.le_of_ble_eq_true rfl, Nat.le_of_ble_eq_true rfl⟩ (j_P_count hro ev20) rfl ?_
    refine kJ_icmp_ge 205 231 d_L_isClosed_202 rfl rfl (fun hc => ?_) (fun hc => ?_)
    · have hf := kIf_t hf hc
      refine kJ_iconst 232 1 d_L_isClosed_231 ki_1 rfl ?_
      cases hf
      exact kJ_iret d_L_isClosed_232 rfl (kB2_z _) (Nat.le_of_ble_eq_true rfl) (Nat.le_of_ble_eq_true rfl)
    · have hf := kIf_f hf hc
      refine kJ_iload 207 2 d_L_isClosed_205 rfl rfl ?_
      refine kJ_if_ne 210 231 d_L_isClosed_207 rfl rfl (fun hc => ?_) (fun hc => ?_)
      · have hf := kIf_t hf (kB2_1 hc)
        refine kJ_iconst 232 1 d_L_isClosed_231 ki_1 rfl ?_
        cases hf
        exact kJ_iret d_L_isClosed_232 rfl (kB2_z _) (Nat.le_of_ble_eq_true rfl) (Nat.le_of_ble_eq_true rfl)
      · have hf := kIf_f hf (kB2_0 hc)
        refine kJ_aload_n 211 0 d_L_isClosed_210 rfl rfl rfl rfl ?_
        refine kJ_iload 213 3 d_L_isClosed_211 rfl rfl ?_
        refine kJ_iload_n 214 1 d_L_isClosed_213 rfl rfl rfl ?_
        refine kJ_iconst 215 1 d_L_isClosed_214 ki_1 rfl ?_
        obtain ⟨v22, h21, ev22, hf⟩ := kBd_some hf
        refine kM_callv 218 m_P_at [.int x7, .int x1, .int 1] [] d_L_isClosed_215 cl_L_8 ⟨w_486, w_487⟩ (kp_0).x ⟨rfl, by decide⟩ ⟨_, _, rfl⟩ rfl rfl (Nat.le_of_ble_eq_true rfl) ⟨Nat.le_of_ble_eq_true rfl, Nat.le_of_ble_eq_true rfl⟩ ⟨rfl, rfl⟩ ⟨Nat.le_of_ble_eq_true rfl, Nat.le_of_ble_eq_true rfl⟩ (j_P_at hro ev22) rfl ?_
        refine kJ_bipush 220 (-6) d_L_isClosed_218 kb_m6 rfl ?_
        refine kJ_icmp_eq 223 225 d_L_isClosed_220 rfl rfl (fun hc => ?_) (fun hc => ?_)
        · have hf := kIf_t hf hc
          refine kJ_iinc 228 3 [(7, .int (x7 + 1)), (0, .ref 0), (1, .int x1), (4, .int (kB2 x4))] d_L_isClosed_225 rfl ki_1 (Nat.le_of_ble_eq_true rfl) rfl rfl ?_
          refine kJ_goto 195 d_L_isClosed_228 rfl ?_
          refine kJ_sub [1, 2, 3, 0] rfl ?_
          exact hrec195 h21 (x7 + 1) hf
        · have hf := kIf_f hf hc
          refine kJ_iconst 224 0 d_L_isClosed_223 ki_0 rfl ?_
          cases hf
          exact kJ_iret d_L_isClosed_224 rfl (kB2_z _) (Nat.le_of_ble_eq_true rfl) (Nat.le_of_ble_eq_true rfl)
def b_L_isClosed_156 (K : List Nat) (x1 : Int32) (x3 : Nat) (x4 : Bool) : Nat → kH → Int32 → Option (Bool × List Nat × kH)
  | 0, _, _ => none
  | n + 1, h, x7 => (fun rec156 => if 6 ≤ x7 then (b_L_isClosed_195 K x1 x4 kFuel h 0) else (if x4 = true then (kBd (f_P_ofItem h x1 (3 + x7)) fun v24 h23 => kG x7 6 (if v24 = (h23 x3 (kx x7)) then (rec156 h23 (x7 + 1)) else (some (false, K, h23)))) else (b_L_isClosed_195 K x1 x4 kFuel h 0))) (fun h' x7' => b_L_isClosed_156 K x1 x3 x4 n h' x7')
theorem c_L_isClosed_156 {E : kE} {L : Nat} {xs : Nat → Int32} (hro : kRo E L xs) {K : List Nat} {x1 : Int32} {x3 : Nat} {x4 : Bool} (k3 : kX K x3 8) {r : Bool} {K' : List Nat} {h' : kH} : ∀ (n : Nat) (h : kH) (x7 : Int32), b_L_isClosed_156 K x1 x3 x4 n h x7 = some (r, K', h') → kJ E m_L_isClosed (some (kB2 r)) (mk K' h') 4 42 156 [(0, .ref 0), (1, .int x1), (3, .ref x3), (4, .int (kB2 x4)), (7, .int x7)] [] (mk K h) := by
  intro n
  induction n with
  | zero =>
    intro h x7 hf
    have hf : (none : Option (Bool × List Nat × kH)) = some (r, K', h') := hf
    cases hf
  | succ n hrec156 =>
    intro h x7 hf
    rw [b_L_isClosed_156] at hf
    dsimp only at hf
    refine kJ_iload 158 4 d_L_isClosed_156 rfl rfl ?_
    refine kJ_bipush 160 6 d_L_isClosed_158 kb_6 rfl ?_
    refine kJ_icmp_ge 163 192 d_L_isClosed_160 rfl rfl (fun hc => ?_) (fun hc => ?_)
    · have hf := kIf_t hf hc
      refine kJ_iconst 193 0 d_L_isClosed_192 ki_0 rfl ?_
      refine kJ_istore 195 [(7, .int 0), (0, .ref 0), (1, .int x1), (3, .ref x3), (4, .int (kB2 x4))] d_L_isClosed_193 (Nat.le_of_ble_eq_true rfl) rfl rfl ?_
      refine kJ_sub [1, 2, 4, 0] rfl ?_
      exact c_L_isClosed_195 hro kFuel h 0 hf
    · have hf := kIf_f hf hc
      refine kJ_iload 165 3 d_L_isClosed_163 rfl rfl ?_
      refine kJ_if_eq 168 192 d_L_isClosed_165 rfl rfl (fun hc => ?_) (fun hc => ?_)
      · have hf := kIf_f hf (kB2_0 hc)
        refine kJ_iconst 193 0 d_L_isClosed_192 ki_0 rfl ?_
        refine kJ_istore 195 [(7, .int 0), (0, .ref 0), (1, .int x1), (3, .ref x3), (4, .int (kB2 x4))] d_L_isClosed_193 (Nat.le_of_ble_eq_true rfl) rfl rfl ?_
        refine kJ_sub [1, 2, 4, 0] rfl ?_
        exact c_L_isClosed_195 hro kFuel h 0 hf
      · have hf := kIf_t hf (kB2_1 hc)
        refine kJ_aload_n 169 0 d_L_isClosed_168 rfl rfl rfl rfl ?_
        refine kJ_iload_n 170 1 d_L_isClosed_169 rfl rfl rfl ?_
        refine kJ_iconst 171 3 d_L_isClosed_170 ki_3 rfl ?_
        refine kJ_iload 173 4 d_L_isClosed_171 rfl rfl ?_
        refine kJ_iadd 174 d_L_isClosed_173 rfl ?_
        obtain ⟨v24, h23, ev24, hf⟩ := kBd_some hf
        refine kM_callv 177 m_P_ofItem [.int x1, .int (3 + x7)] [] d_L_isClosed_174 cl_L_32 ⟨w_428, w_429⟩ (kp_0).x ⟨rfl, by decide⟩ ⟨_, _, rfl⟩ rfl rfl (Nat.le_of_ble_eq_true rfl) ⟨Nat.le_of_ble_eq_true rfl, Nat.le_of_ble_eq_true rfl⟩ ⟨rfl, rfl⟩ ⟨Nat.le_of_ble_eq_true rfl, Nat.le_of_ble_eq_true rfl⟩ (j_P_ofItem hro ev24) rfl ?_
        refine kJ_aload_n 178 2 d_L_isClosed_177 rfl rfl rfl rfl ?_
        refine kJ_iload 180 4 d_L_isClosed_178 rfl rfl ?_
        obtain ⟨hg, hf⟩ := kG_some hf
        refine kM_iald 181 6 d_L_isClosed_180 k3 rfl hg rfl ?_
        refine kJ_icmp_eq 184 186 d_L_isClosed_181 rfl rfl (fun hc => ?_) (fun hc => ?_)
        · have hf := kIf_t hf hc
          refine kJ_iinc 189 4 [(7, .int (x7 + 1)), (0, .ref 0), (1, .int x1), (3, .ref x3), (4, .int (kB2 x4))] d_L_isClosed_186 rfl ki_1 (Nat.le_of_ble_eq_true rfl) rfl rfl ?_
          refine kJ_goto 156 d_L_isClosed_189 rfl ?_
          refine kJ_sub [1, 2, 3, 4, 0] rfl ?_
          exact hrec156 h23 (x7 + 1) hf
        · have hf := kIf_f hf hc
          refine kJ_iconst 185 0 d_L_isClosed_184 ki_0 rfl ?_
          cases hf
          exact kJ_iret d_L_isClosed_185 rfl (kB2_z _) (Nat.le_of_ble_eq_true rfl) (Nat.le_of_ble_eq_true rfl)
def b_L_isClosed_135 (K : List Nat) (h : kH) (x1 : Int32) (x3 : Nat) (x4 : Bool) (s0 : Int32) (s1 : Int32) (s2 : Bool) : Option (Bool × List Nat × kH) := if s0 = (s1 + (kB2 s2)) then (kBd (f_P_ofItem h x1 9) fun v19 h18 => if v19 = (-6) then (b_L_isClosed_156 K x1 x3 x4 kFuel h18 0) else (some (false, K, h18))) else (some (false, K, h))
theorem c_L_isClosed_135 {E : kE} {L : Nat} {xs : Nat → Int32} (hro : kRo E L xs) {K : List Nat} {h : kH} {x1 : Int32} {x3 : Nat} {x4 : Bool} {s0 : Int32} {s1 : Int32} {s2 : Bool} (k3 : kX K x3 8) {r : Bool} {K' : List Nat} {h' : kH} (hf : b_L_isClosed_135 K h x1 x3 x4 s0 s1 s2 = some (r, K', h')) : kJ E m_L_isClosed (some (kB2 r)) (mk K' h') 4 42 135 [(0, .ref 0), (1, .int x1), (3, .ref x3), (4, .int (kB2 x4))] [.int (kB2 s2), .int s1, .int s0] (mk K h) := by
  unfold b_L_isClosed_135 at hf
  refine kJ_iadd 136 d_L_isClosed_135 rfl ?_
  refine kJ_icmp_ne 139 151 d_L_isClosed_136 rfl rfl (fun hc => ?_) (fun hc => ?_)
  · have hf := kIf_f hf hc
    refine kJ_iconst 152 0 d_L_isClosed_151 ki_0 rfl ?_
    cases hf
    exact kJ_iret d_L_isClosed_152 rfl (kB2_z _) (Nat.le_of_ble_eq_true rfl) (Nat.le_of_ble_eq_true rfl)
  · have hf := kIf_t hf hc
    refine kJ_aload_n 140 0 d_L_isClosed_139 rfl rfl rfl rfl ?_
    refine kJ_iload_n 141 1 d_L_isClosed_140 rfl rfl rfl ?_
    refine kJ_bipush 143 9 d_L_isClosed_141 kb_9 rfl ?_
    obtain ⟨v19, h18, ev19, hf⟩ := kBd_some hf
    refine kM_callv 146 m_P_ofItem [.int x1, .int 9] [] d_L_isClosed_143 cl_L_32 ⟨w_428, w_429⟩ (kp_0).x ⟨rfl, by decide⟩ ⟨_, _, rfl⟩ rfl rfl (Nat.le_of_ble_eq_true rfl) ⟨Nat.le_of_ble_eq_true rfl, Nat.le_of_ble_eq_true rfl⟩ ⟨rfl, rfl⟩ ⟨Nat.le_of_ble_eq_true rfl, Nat.le_of_ble_eq_true rfl⟩ (j_P_ofItem hro ev19) rfl ?_
    refine kJ_bipush 148 (-6) d_L_isClosed_146 kb_m6 rfl ?_
    refine kJ_icmp_eq 151 153 d_L_isClosed_148 rfl rfl (fun hc => ?_) (fun hc => ?_)
    · have hf := kIf_t hf hc
      refine kJ_iconst 154 0 d_L_isClosed_153 ki_0 rfl ?_
      refine kJ_istore 156 [(7, .int 0), (0, .ref 0), (1, .int x1), (3, .ref x3), (4, .int (kB2 x4))] d_L_isClosed_154 (Nat.le_of_ble_eq_true rfl) rfl rfl ?_
      refine kJ_sub [1, 2, 3, 4, 0] rfl ?_
      exact c_L_isClosed_156 hro k3 kFuel h18 0 hf
    · have hf := kIf_f hf hc
      refine kJ_iconst 152 0 d_L_isClosed_151 ki_0 rfl ?_
      cases hf
      exact kJ_iret d_L_isClosed_152 rfl (kB2_z _) (Nat.le_of_ble_eq_true rfl) (Nat.le_of_ble_eq_true rfl)
def b_L_isClosed_75 (K : List Nat) (h : kH) (x1 : Int32) (x3 : Nat) (x4 : Bool) (s0 : Int32) : Option (Bool × List Nat × kH) := kBd (f_P_ofItem h x1 10) fun v10 h9 => kBd (f_P_close h9) fun v12 h11 => if v12 = s0 then (kBi (f_P_count h11 4) fun v13 => if v13 = (-6) then (kBd (f_P_ofItem h11 x1 2) fun v15 h14 => if v15 = s0 then (kBd (f_P_ofItem h14 x1 10) fun v17 h16 => if x4 = true then (b_L_isClosed_135 K h16 x1 x3 x4 v17 v10 false) else (b_L_isClosed_135 K h16 x1 x3 x4 v17 v10 true)) else (some (false, K, h14))) else (some (false, K, h11))) else (some (false, K, h11))
theorem c_L_isClosed_75 {E : kE} {L : Nat} {xs : Nat → Int32} (hro : kRo E L xs) {K : List Nat} {h : kH} {x1 : Int32} {x3 : Nat} {x4 : Bool} {s0 : Int32} (k3 : kX K x3 8) {r : Bool} {K' : List Nat} {h' : kH} (hf : b_L_isClosed_75 K h x1 x3 x4 s0 = some (r, K', h')) : kJ E m_L_isClosed (some (kB2 r)) (mk K' h') 4 42 75 [(0, .ref 0), (1, .int x1), (3, .ref x3), (4, .int (kB2 x4))] [.int s0] (mk K h) := by
  unfold b_L_isClosed_75 at hf
  refine kJ_istore 77 [(5, .int s0), (0, .ref 0), (1, .int x1), (3, .ref x3), (4, .int (kB2 x4))] d_L_isClosed_75 (Nat.le_of_ble_eq_true rfl) rfl rfl ?_
  refine kJ_aload_n 78 1 d_L_isClosed_77 rfl rfl rfl rfl ?_
  refine kJ_iload_n 79 2 d_L_isClosed_78 rfl rfl rfl ?_
  refine kJ_bipush 81 10 d_L_isClosed_79 kb_10 rfl ?_
  obtain ⟨v10, h9, ev10, hf⟩ := kBd_some hf
  refine kM_callv 84 m_P_ofItem [.int x1, .int 10] [] d_L_isClosed_81 cl_L_32 ⟨w_428, w_429⟩ (kp_0).x ⟨rfl, by decide⟩ ⟨_, _, rfl⟩ rfl rfl (Nat.le_of_ble_eq_true rfl) ⟨Nat.le_of_ble_eq_true rfl, Nat.le_of_ble_eq_true rfl⟩ ⟨rfl, rfl⟩ ⟨Nat.le_of_ble_eq_true rfl, Nat.le_of_ble_eq_true rfl⟩ (j_P_ofItem hro ev10) rfl ?_
  refine kJ_istore 86 [(6, .int v10), (5, .int s0), (0, .ref 0), (1, .int x1), (3, .ref x3), (4, .int (kB2 x4))] d_L_isClosed_84 (Nat.le_of_ble_eq_true rfl) rfl rfl ?_
  refine kJ_aload_n 87 2 d_L_isClosed_86 rfl rfl rfl rfl ?_
  obtain ⟨v12, h11, ev12, hf⟩ := kBd_some hf
  refine kM_callv 90 m_P_close [] [] d_L_isClosed_87 cl_L_68 ⟨w_626, w_627⟩ (kp_0).x ⟨rfl, by decide⟩ ⟨_, _, rfl⟩ rfl rfl (Nat.le_of_ble_eq_true rfl) ⟨Nat.le_of_ble_eq_true rfl, Nat.le_of_ble_eq_true rfl⟩ ⟨rfl, rfl⟩ ⟨Nat.le_of_ble_eq_true rfl, Nat.le_of_ble_eq_true rfl⟩ (j_P_close hro ev12) rfl ?_
  refine kJ_iload 92 1 d_L_isClosed_90 rfl rfl ?_
  refine kJ_icmp_ne 95 151 d_L_isClosed_92 rfl rfl (fun hc => ?_) (fun hc => ?_)
  · have hf := kIf_f hf hc
    refine kJ_iconst 152 0 d_L_isClosed_151 ki_0 rfl ?_
    cases hf
    exact kJ_iret d_L_isClosed_152 rfl (kB2_z _) (Nat.le_of_ble_eq_true rfl) (Nat.le_of_ble_eq_true rfl)
  · have hf := kIf_t hf hc
    refine kJ_aload_n 96 2 d_L_isClosed_95 rfl rfl rfl rfl ?_
    refine kJ_iconst 97 4 d_L_isClosed_96 ki_4 rfl ?_
    obtain ⟨v13, ev13, hf⟩ := kBi_some hf
    refine kM_callv 100 m_P_count [.int 4] [] d_L_isClosed_97 cl_L_28 ⟨w_397, w_398⟩ (kp_0).x ⟨rfl, by decide⟩ ⟨_, _, rfl⟩ rfl rfl (Nat.le_of_ble_eq_true rfl) ⟨Nat.le_of_ble_eq_true rfl, Nat.le_of_ble_eq_true rfl⟩ ⟨rfl, rfl⟩ ⟨Nat.le_of_ble_eq_true rfl, Nat.le_of_ble_eq_true rfl⟩ (j_P_count hro ev13) rfl ?_
    refine kJ_bipush 102 (-6) d_L_isClosed_100 kb_m6 rfl ?_
    refine kJ_icmp_ne 105 151 d_L_isClosed_102 rfl rfl (fun hc => ?_) (fun hc => ?_)
    · have hf := kIf_f hf hc
      refine kJ_iconst 152 0 d_L_isClosed_151 ki_0 rfl ?_
      cases hf
      exact kJ_iret d_L_isClosed_152 rfl (kB2_z _) (Nat.le_of_ble_eq_true rfl) (Nat.le_of_ble_eq_true rfl)
    · have hf := kIf_t hf hc
      refine kJ_aload_n 106 2 d_L_isClosed_105 rfl rfl rfl rfl ?_
      refine kJ_iload_n 107 3 d_L_isClosed_106 rfl rfl rfl ?_
      refine kJ_iconst 108 2 d_L_isClosed_107 ki_2 rfl ?_
      obtain ⟨v15, h14, ev15, hf⟩ := kBd_some hf
      refine kM_callv 111 m_P_ofItem [.int x1, .int 2] [] d_L_isClosed_108 cl_L_32 ⟨w_428, w_429⟩ (kp_0).x ⟨rfl, by decide⟩ ⟨_, _, rfl⟩ rfl rfl (Nat.le_of_ble_eq_true rfl) ⟨Nat.le_of_ble_eq_true rfl, Nat.le_of_ble_eq_true rfl⟩ ⟨rfl, rfl⟩ ⟨Nat.le_of_ble_eq_true rfl, Nat.le_of_ble_eq_true rfl⟩ (j_P_ofItem hro ev15) rfl ?_
      refine kJ_iload 113 1 d_L_isClosed_111 rfl rfl ?_
      refine kJ_icmp_ne 116 151 d_L_isClosed_113 rfl rfl (fun hc => ?_) (fun hc => ?_)
      · have hf := kIf_f hf hc
        refine kJ_iconst 152 0 d_L_isClosed_151 ki_0 rfl ?_
        cases hf
        exact kJ_iret d_L_isClosed_152 rfl (kB2_z _) (Nat.le_of_ble_eq_true rfl) (Nat.le_of_ble_eq_true rfl)
      · have hf := kIf_t hf hc
        refine kJ_aload_n 117 2 d_L_isClosed_116 rfl rfl rfl rfl ?_
        refine kJ_iload_n 118 3 d_L_isClosed_117 rfl rfl rfl ?_
        refine kJ_bipush 120 10 d_L_isClosed_118 kb_10 rfl ?_
        obtain ⟨v17, h16, ev17, hf⟩ := kBd_some hf
        refine kM_callv 123 m_P_ofItem [.int x1, .int 10] [] d_L_isClosed_120 cl_L_32 ⟨w_428, w_429⟩ (kp_0).x ⟨rfl, by decide⟩ ⟨_, _, rfl⟩ rfl rfl (Nat.le_of_ble_eq_true rfl) ⟨Nat.le_of_ble_eq_true rfl, Nat.le_of_ble_eq_true rfl⟩ ⟨rfl, rfl⟩ ⟨Nat.le_of_ble_eq_true rfl, Nat.le_of_ble_eq_true rfl⟩ (j_P_ofItem hro ev17) rfl ?_
        refine kJ_iload 125 0 d_L_isClosed_123 rfl rfl ?_
        refine kJ_iload 127 5 d_L_isClosed_125 rfl rfl ?_
        refine kJ_if_eq 130 134 d_L_isClosed_127 rfl rfl (fun hc => ?_) (fun hc => ?_)
        · have hf := kIf_f hf (kB2_0 hc)
          refine kJ_iconst 135 1 d_L_isClosed_134 ki_1 rfl ?_
          refine kJ_sub [2, 3, 4, 5] rfl ?_
          exact c_L_isClosed_135 hro k3 hf
        · have hf := kIf_t hf (kB2_1 hc)
          refine kJ_iconst 131 0 d_L_isClosed_130 ki_0 rfl ?_
          refine kJ_goto 135 d_L_isClosed_131 rfl ?_
          refine kJ_sub [2, 3, 4, 5] rfl ?_
          exact c_L_isClosed_135 hro k3 hf
def f_L_isClosed (K : List Nat) (h : kH) : Option (Bool × List Nat × kH) := kBi (f_P_count h 4) fun v1 => if 0 ≤ v1 then (kLet (hfill h (786 + K.length) 12 0) fun h2 => kLet (hfill h2 (786 + (K ++ [9]).length) 6 0) fun h3 => kBd (f_L_areVoices (K ++ [9] ++ [8]) h3 v1 (786 + K.length)) fun v5 h4 => kBi (f_L_sums h4 v1 (786 + K.length) (786 + (K ++ [9]).length)) fun h6 => kBi (f_L_there h6 (786 + K.length)) fun v7 => kBi (f_L_isQuorum h6 v7) fun v8 => if v8 = true then (kBd (f_L_outcome h6 v1 (786 + (K ++ [9]).length)) fun v26 h25 => b_L_isClosed_75 (K ++ [9] ++ [8] ++ [9] ++ [9]) h25 v1 (786 + (K ++ [9]).length) v8 v26) else (b_L_isClosed_75 (K ++ [9] ++ [8] ++ [9] ++ [9]) h6 v1 (786 + (K ++ [9]).length) v8 0)) else (kBd (f_P_close h) fun v28 h27 => if v28 = (-5) then (some (true, K, h27)) else (some (false, K, h27)))
theorem j_L_isClosed {E : kE} {L : Nat} {xs : Nat → Int32} (hro : kRo E L xs) {K : List Nat} {h : kH} {r : Bool} {K' : List Nat} {h' : kH} (hf : f_L_isClosed K h = some (r, K', h')) : JM E m_L_isClosed [.ref 0] (mk K h) (some (kB2 r)) (mk K' h') := by
  unfold f_L_isClosed at hf
  refine JM.of pn_L (Nat.le_of_ble_eq_true rfl) ?_
  show kJ E m_L_isClosed (some (kB2 r)) (mk K' h') 0 0 0 [(0, .ref 0)] [] (mk K h)
  refine kJ_aload_n 1 0 d_L_isClosed_0 rfl rfl rfl rfl ?_
  refine kJ_iconst 2 4 d_L_isClosed_1 ki_4 rfl ?_
  obtain ⟨v1, ev1, hf⟩ := kBi_some hf
  refine kM_callv 5 m_P_count [.int 4] [] d_L_isClosed_2 cl_L_28 ⟨w_397, w_398⟩ (kp_0).x ⟨rfl, by decide⟩ ⟨_, _, rfl⟩ rfl rfl (Nat.le_of_ble_eq_true rfl) ⟨Nat.le_of_ble_eq_true rfl, Nat.le_of_ble_eq_true rfl⟩ ⟨rfl, rfl⟩ ⟨Nat.zero_le _, Nat.zero_le _⟩ (j_P_count hro ev1) rfl ?_
  refine kJ_istore_n 6 [(1, .int v1), (0, .ref 0)] d_L_isClosed_5 rfl (Nat.le_of_ble_eq_true rfl) rfl rfl ?_
  refine kJ_iload_n 7 0 d_L_isClosed_6 rfl rfl rfl ?_
  refine kJ_if_ge 10 25 d_L_isClosed_7 rfl rfl (fun hc => ?_) (fun hc => ?_)
  · have hf := kIf_t hf hc
    refine kJ_bipush 27 12 d_L_isClosed_25 kb_12 rfl ?_
    refine kX_newa 29 12 9 d_L_isClosed_27 w_101 (by decide) rfl (by decide) rfl (Nat.le_of_ble_eq_true rfl) (Nat.le_of_ble_eq_true rfl) rfl ?_
    obtain ⟨h2, eh2, hf⟩ := kLet_e hf
    rw [← eh2]
    refine kJ_astore_n 30 [(2, .ref (786 + K.length)), (1, .int v1), (0, .ref 0)] d_L_isClosed_29 rfl (Nat.le_of_ble_eq_true rfl) rfl rfl rfl ?_
    refine kJ_bipush 32 6 d_L_isClosed_30 kb_6 rfl ?_
    refine kX_newa 34 6 8 d_L_isClosed_32 w_101 (by decide) rfl (by decide) rfl (Nat.le_of_ble_eq_true rfl) (Nat.le_of_ble_eq_true rfl) rfl ?_
    obtain ⟨h3, eh3, hf⟩ := kLet_e hf
    rw [← eh3]
    refine kJ_astore_n 35 [(3, .ref (786 + (K ++ [9]).length)), (2, .ref (786 + K.length)), (1, .int v1), (0, .ref 0)] d_L_isClosed_34 rfl (Nat.le_of_ble_eq_true rfl) rfl rfl rfl ?_
    refine kJ_aload_n 36 3 d_L_isClosed_35 rfl rfl rfl rfl ?_
    refine kJ_iload_n 37 2 d_L_isClosed_36 rfl rfl rfl ?_
    refine kJ_aload_n 38 1 d_L_isClosed_37 rfl rfl rfl rfl ?_
    obtain ⟨v5, h4, ev5, hf⟩ := kBd_some hf
    refine kX_calls 41 m_L_areVoices [.ref 0, .int v1, .ref (786 + K.length)] [] 4 42 d_L_isClosed_38 cl_L_39 w_425 rfl rfl (Nat.le_of_ble_eq_true rfl) ⟨Nat.le_of_ble_eq_true rfl, Nat.le_of_ble_eq_true rfl⟩ rfl rfl (Nat.le_of_ble_eq_true rfl) (Nat.le_of_ble_eq_true rfl) (j_L_areVoices hro (kX.app (kX_new K 9) [8]) ev5) rfl ?_
    refine kJ_pop 42 d_L_isClosed_41 rfl rfl ?_
    refine kJ_aload_n 43 3 d_L_isClosed_42 rfl rfl rfl rfl ?_
    refine kJ_iload_n 44 2 d_L_isClosed_43 rfl rfl rfl ?_
    refine kJ_aload_n 45 1 d_L_isClosed_44 rfl rfl rfl rfl ?_
    refine kJ_aload_n 46 0 d_L_isClosed_45 rfl rfl rfl rfl ?_
    obtain ⟨h6, eh6, hf⟩ := kBi_some hf
    refine kM_calls 49 m_L_sums [.ref 0, .int v1, .ref (786 + K.length), .ref (786 + (K ++ [9]).length)] [] d_L_isClosed_46 cl_L_43 w_502 rfl rfl (Nat.le_of_ble_eq_true rfl) ⟨Nat.le_of_ble_eq_true rfl, Nat.le_of_ble_eq_true rfl⟩ ⟨rfl, rfl⟩ ⟨Nat.le_of_ble_eq_true rfl, Nat.le_of_ble_eq_true rfl⟩ (j_L_sums hro (kX.app (kX.app (kX.app (kX_new K 9) [8]) [9]) [9]) (kX.app (kX.app (kX_new (K ++ [9]) 8) [9]) [9]) eh6) rfl ?_
    refine kJ_aload_n 50 3 d_L_isClosed_49 rfl rfl rfl rfl ?_
    refine kJ_aload_n 51 3 d_L_isClosed_50 rfl rfl rfl rfl ?_
    refine kJ_aload_n 52 1 d_L_isClosed_51 rfl rfl rfl rfl ?_
    obtain ⟨v7, ev7, hf⟩ := kBi_some hf
    refine kM_calls 55 m_L_there [.ref 0, .ref (786 + K.length)] [.ref 0] d_L_isClosed_52 cl_L_47 w_506 rfl rfl (Nat.le_of_ble_eq_true rfl) ⟨Nat.le_of_ble_eq_true rfl, Nat.le_of_ble_eq_true rfl⟩ ⟨rfl, rfl⟩ ⟨Nat.le_of_ble_eq_true rfl, Nat.le_of_ble_eq_true rfl⟩ (j_L_there hro (kX.app (kX.app (kX.app (kX_new K 9) [8]) [9]) [9]) ev7) rfl ?_
    obtain ⟨v8, ev8, hf⟩ := kBi_some hf
    refine kM_calls 58 m_L_isQuorum [.ref 0, .int v7] [] d_L_isClosed_55 cl_L_51 w_509 rfl rfl (Nat.le_of_ble_eq_true rfl) ⟨Nat.le_of_ble_eq_true rfl, Nat.le_of_ble_eq_true rfl⟩ ⟨rfl, rfl⟩ ⟨Nat.le_of_ble_eq_true rfl, Nat.le_of_ble_eq_true rfl⟩ (j_L_isQuorum hro ev8) rfl ?_
    refine kJ_istore 60 [(4, .int (kB2 v8)), (3, .ref (786 + (K ++ [9]).length)), (2, .ref (786 + K.length)), (1, .int v1), (0, .ref 0)] d_L_isClosed_58 (Nat.le_of_ble_eq_true rfl) rfl rfl ?_
    refine kJ_iload 62 0 d_L_isClosed_60 rfl rfl ?_
    refine kJ_if_eq 65 74 d_L_isClosed_62 rfl rfl (fun hc => ?_) (fun hc => ?_)
    · have hf := kIf_f hf (kB2_0 hc)
      refine kJ_iconst 75 0 d_L_isClosed_74 ki_0 rfl ?_
      refine kJ_sub [4, 3, 1, 0] rfl ?_
      exact c_L_isClosed_75 hro (kX.app (kX.app (kX_new (K ++ [9]) 8) [9]) [9]) hf
    · have hf := kIf_t hf (kB2_1 hc)
      refine kJ_aload_n 66 4 d_L_isClosed_65 rfl rfl rfl rfl ?_
      refine kJ_iload_n 67 3 d_L_isClosed_66 rfl rfl rfl ?_
      refine kJ_aload_n 68 1 d_L_isClosed_67 rfl rfl rfl rfl ?_
      obtain ⟨v26, h25, ev26, hf⟩ := kBd_some hf
      refine kM_calls 71 m_L_outcome [.ref 0, .int v1, .ref (786 + (K ++ [9]).length)] [] d_L_isClosed_68 cl_L_58 w_520 rfl rfl (Nat.le_of_ble_eq_true rfl) ⟨Nat.le_of_ble_eq_true rfl, Nat.le_of_ble_eq_true rfl⟩ ⟨rfl, rfl⟩ ⟨Nat.le_of_ble_eq_true rfl, Nat.le_of_ble_eq_true rfl⟩ (j_L_outcome hro (kX.app (kX.app (kX_new (K ++ [9]) 8) [9]) [9]) ev26) rfl ?_
      refine kJ_goto 75 d_L_isClosed_71 rfl ?_
      refine kJ_sub [4, 3, 1, 0] rfl ?_
      exact c_L_isClosed_75 hro (kX.app (kX.app (kX_new (K ++ [9]) 8) [9]) [9]) hf
  · have hf := kIf_f hf hc
    refine kJ_aload_n 11 1 d_L_isClosed_10 rfl rfl rfl rfl ?_
    obtain ⟨v28, h27, ev28, hf⟩ := kBd_some hf
    refine kM_callv 14 m_P_close [] [] d_L_isClosed_11 cl_L_68 ⟨w_626, w_627⟩ (kp_0).x ⟨rfl, by decide⟩ ⟨_, _, rfl⟩ rfl rfl (Nat.le_of_ble_eq_true rfl) ⟨Nat.le_of_ble_eq_true rfl, Nat.le_of_ble_eq_true rfl⟩ ⟨rfl, rfl⟩ ⟨Nat.zero_le _, Nat.zero_le _⟩ (j_P_close hro ev28) rfl ?_
    refine kJ_bipush 16 (-5) d_L_isClosed_14 kb_m5 rfl ?_
    refine kJ_icmp_ne 19 23 d_L_isClosed_16 rfl rfl (fun hc => ?_) (fun hc => ?_)
    · have hf := kIf_f hf hc
      refine kJ_iconst 24 0 d_L_isClosed_23 ki_0 rfl ?_
      cases hf
      exact kJ_iret d_L_isClosed_24 rfl (kB2_z _) (Nat.zero_le _) (Nat.zero_le _)
    · have hf := kIf_t hf hc
      refine kJ_iconst 20 1 d_L_isClosed_19 ki_1 rfl ?_
      refine kJ_goto 24 d_L_isClosed_20 rfl ?_
      cases hf
      exact kJ_iret d_L_isClosed_24 rfl (kB2_z _) (Nat.zero_le _) (Nat.zero_le _)
def b_L_isCast_82 (h : kH) (x1 : Int32) (x2 : Int32) (x3 : Int32) (x4 : Int32) (s0 : Int32) : Option (Bool × kH) := kBd (f_P_cast h x1) fun v5 h4 => if x4 = 0 then (if v5 = (-5) then (if x2 < 0 then (some (true, h4)) else (kBd (f_P_ofItem h4 x2 2) fun v12 h11 => if v12 = 2 then (some (true, h11)) else (some (false, h11)))) else (some (false, h4))) else (if v5 = (2 + x1) then (kBd (f_P_ofItem h4 x2 2) fun v7 h6 => if v7 = (2 + x1) then (kBd (f_P_ofItem h6 x2 9) fun v9 h8 => if v9 = x3 then (kBi (f_P_ofMember h8 x3 5) fun v10 => if v10 = (s0 + 1) then (some (true, h8)) else (some (false, h8))) else (some (false, h8))) else (some (false, h6))) else (some (false, h4)))
theorem c_L_isCast_82 {E : kE} {L : Nat} {xs : Nat → Int32} (hro : kRo E L xs) {K : List Nat} {h : kH} {x1 : Int32} {x2 : Int32} {x3 : Int32} {x4 : Int32} {s0 : Int32} {r : Bool} {h' : kH} (hf : b_L_isCast_82 h x1 x2 x3 x4 s0 = some (r, h')) : kJ E m_L_isCast (some (kB2 r)) (mk K h') 0 0 82 [(0, .ref 0), (1, .int x1), (2, .int x2), (3, .int x3), (4, .int x4)] [.int s0] (mk K h) := by
  unfold b_L_isCast_82 at hf
  refine kJ_istore 84 [(5, .int s0), (0, .ref 0), (1, .int x1), (2, .int x2), (3, .int x3), (4, .int x4)] d_L_isCast_82 (Nat.le_of_ble_eq_true rfl) rfl rfl ?_
  refine kJ_aload_n 85 1 d_L_isCast_84 rfl rfl rfl rfl ?_
  refine kJ_iload_n 86 2 d_L_isCast_85 rfl rfl rfl ?_
  obtain ⟨v5, h4, ev5, hf⟩ := kBd_some hf
  refine kM_callv 89 m_P_cast [.int x1] [] d_L_isCast_86 cl_L_72 ⟨w_643, w_644⟩ (kp_0).x ⟨rfl, by decide⟩ ⟨_, _, rfl⟩ rfl rfl (Nat.le_of_ble_eq_true rfl) ⟨Nat.le_of_ble_eq_true rfl, Nat.le_of_ble_eq_true rfl⟩ ⟨rfl, rfl⟩ ⟨Nat.zero_le _, Nat.zero_le _⟩ (j_P_cast hro ev5) rfl ?_
  refine kJ_istore 91 [(6, .int v5), (5, .int s0), (0, .ref 0), (1, .int x1), (2, .int x2), (3, .int x3), (4, .int x4)] d_L_isCast_89 (Nat.le_of_ble_eq_true rfl) rfl rfl ?_
  refine kJ_iload 93 6 d_L_isCast_91 rfl rfl ?_
  refine kJ_if_ne 96 123 d_L_isCast_93 rfl rfl (fun hc => ?_) (fun hc => ?_)
  · have hf := kIf_f hf hc
    refine kJ_iload 125 0 d_L_isCast_123 rfl rfl ?_
    refine kJ_iconst 126 2 d_L_isCast_125 ki_2 rfl ?_
    refine kJ_iload_n 127 3 d_L_isCast_126 rfl rfl rfl ?_
    refine kJ_iadd 128 d_L_isCast_127 rfl ?_
    refine kJ_icmp_ne 131 171 d_L_isCast_128 rfl rfl (fun hc => ?_) (fun hc => ?_)
    · have hf := kIf_f hf hc
      refine kJ_iconst 172 0 d_L_isCast_171 ki_0 rfl ?_
      cases hf
      exact kJ_iret d_L_isCast_172 rfl (kB2_z _) (Nat.zero_le _) (Nat.zero_le _)
    · have hf := kIf_t hf hc
      refine kJ_aload_n 132 2 d_L_isCast_131 rfl rfl rfl rfl ?_
      refine kJ_iload_n 133 4 d_L_isCast_132 rfl rfl rfl ?_
      refine kJ_iconst 134 2 d_L_isCast_133 ki_2 rfl ?_
      obtain ⟨v7, h6, ev7, hf⟩ := kBd_some hf
      refine kM_callv 137 m_P_ofItem [.int x2, .int 2] [] d_L_isCast_134 cl_L_32 ⟨w_428, w_429⟩ (kp_0).x ⟨rfl, by decide⟩ ⟨_, _, rfl⟩ rfl rfl (Nat.le_of_ble_eq_true rfl) ⟨Nat.le_of_ble_eq_true rfl, Nat.le_of_ble_eq_true rfl⟩ ⟨rfl, rfl⟩ ⟨Nat.zero_le _, Nat.zero_le _⟩ (j_P_ofItem hro ev7) rfl ?_
      refine kJ_iconst 138 2 d_L_isCast_137 ki_2 rfl ?_
      refine kJ_iload_n 139 3 d_L_isCast_138 rfl rfl rfl ?_
      refine kJ_iadd 140 d_L_isCast_139 rfl ?_
      refine kJ_icmp_ne 143 171 d_L_isCast_140 rfl rfl (fun hc => ?_) (fun hc => ?_)
      · have hf := kIf_f hf hc
        refine kJ_iconst 172 0 d_L_isCast_171 ki_0 rfl ?_
        cases hf
        exact kJ_iret d_L_isCast_172 rfl (kB2_z _) (Nat.zero_le _) (Nat.zero_le _)
      · have hf := kIf_t hf hc
        refine kJ_aload_n 144 2 d_L_isCast_143 rfl rfl rfl rfl ?_
        refine kJ_iload_n 145 4 d_L_isCast_144 rfl rfl rfl ?_
        refine kJ_bipush 147 9 d_L_isCast_145 kb_9 rfl ?_
        obtain ⟨v9, h8, ev9, hf⟩ := kBd_some hf
        refine kM_callv 150 m_P_ofItem [.int x2, .int 9] [] d_L_isCast_147 cl_L_32 ⟨w_428, w_429⟩ (kp_0).x ⟨rfl, by decide⟩ ⟨_, _, rfl⟩ rfl rfl (Nat.le_of_ble_eq_true rfl) ⟨Nat.le_of_ble_eq_true rfl, Nat.le_of_ble_eq_true rfl⟩ ⟨rfl, rfl⟩ ⟨Nat.zero_le _, Nat.zero_le _⟩ (j_P_ofItem hro ev9) rfl ?_
        refine kJ_iload_n 151 5 d_L_isCast_150 rfl rfl rfl ?_
        refine kJ_icmp_ne 154 171 d_L_isCast_151 rfl rfl (fun hc => ?_) (fun hc => ?_)
        · have hf := kIf_f hf hc
          refine kJ_iconst 172 0 d_L_isCast_171 ki_0 rfl ?_
          cases hf
          exact kJ_iret d_L_isCast_172 rfl (kB2_z _) (Nat.zero_le _) (Nat.zero_le _)
        · have hf := kIf_t hf hc
          refine kJ_aload_n 155 2 d_L_isCast_154 rfl rfl rfl rfl ?_
          refine kJ_iload_n 156 5 d_L_isCast_155 rfl rfl rfl ?_
          refine kJ_iconst 157 5 d_L_isCast_156 ki_5 rfl ?_
          obtain ⟨v10, ev10, hf⟩ := kBi_some hf
          refine kM_callv 160 m_P_ofMember [.int x3, .int 5] [] d_L_isCast_157 cl_L_14 ⟨w_380, w_381⟩ (kp_0).x ⟨rfl, by decide⟩ ⟨_, _, rfl⟩ rfl rfl (Nat.le_of_ble_eq_true rfl) ⟨Nat.le_of_ble_eq_true rfl, Nat.le_of_ble_eq_true rfl⟩ ⟨rfl, rfl⟩ ⟨Nat.zero_le _, Nat.zero_le _⟩ (j_P_ofMember hro ev10) rfl ?_
          refine kJ_iload 162 1 d_L_isCast_160 rfl rfl ?_
          refine kJ_iconst 163 1 d_L_isCast_162 ki_1 rfl ?_
          refine kJ_iadd 164 d_L_isCast_163 rfl ?_
          refine kJ_icmp_ne 167 171 d_L_isCast_164 rfl rfl (fun hc => ?_) (fun hc => ?_)
          · have hf := kIf_f hf hc
            refine kJ_iconst 172 0 d_L_isCast_171 ki_0 rfl ?_
            cases hf
            exact kJ_iret d_L_isCast_172 rfl (kB2_z _) (Nat.zero_le _) (Nat.zero_le _)
          · have hf := kIf_t hf hc
            refine kJ_iconst 168 1 d_L_isCast_167 ki_1 rfl ?_
            refine kJ_goto 172 d_L_isCast_168 rfl ?_
            cases hf
            exact kJ_iret d_L_isCast_172 rfl (kB2_z _) (Nat.zero_le _) (Nat.zero_le _)
  · have hf := kIf_t hf hc
    refine kJ_iload 98 0 d_L_isCast_96 rfl rfl ?_
    refine kJ_bipush 100 (-5) d_L_isCast_98 kb_m5 rfl ?_
    refine kJ_icmp_ne 103 121 d_L_isCast_100 rfl rfl (fun hc => ?_) (fun hc => ?_)
    · have hf := kIf_f hf hc
      refine kJ_iconst 122 0 d_L_isCast_121 ki_0 rfl ?_
      cases hf
      exact kJ_iret d_L_isCast_122 rfl (kB2_z _) (Nat.zero_le _) (Nat.zero_le _)
    · have hf := kIf_t hf hc
      refine kJ_iload_n 104 4 d_L_isCast_103 rfl rfl rfl ?_
      refine kJ_if_lt 107 117 d_L_isCast_104 rfl rfl (fun hc => ?_) (fun hc => ?_)
      · have hf := kIf_t hf hc
        refine kJ_iconst 118 1 d_L_isCast_117 ki_1 rfl ?_
        refine kJ_goto 122 d_L_isCast_118 rfl ?_
        cases hf
        exact kJ_iret d_L_isCast_122 rfl (kB2_z _) (Nat.zero_le _) (Nat.zero_le _)
      · have hf := kIf_f hf hc
        refine kJ_aload_n 108 2 d_L_isCast_107 rfl rfl rfl rfl ?_
        refine kJ_iload_n 109 4 d_L_isCast_108 rfl rfl rfl ?_
        refine kJ_iconst 110 2 d_L_isCast_109 ki_2 rfl ?_
        obtain ⟨v12, h11, ev12, hf⟩ := kBd_some hf
        refine kM_callv 113 m_P_ofItem [.int x2, .int 2] [] d_L_isCast_110 cl_L_32 ⟨w_428, w_429⟩ (kp_0).x ⟨rfl, by decide⟩ ⟨_, _, rfl⟩ rfl rfl (Nat.le_of_ble_eq_true rfl) ⟨Nat.le_of_ble_eq_true rfl, Nat.le_of_ble_eq_true rfl⟩ ⟨rfl, rfl⟩ ⟨Nat.zero_le _, Nat.zero_le _⟩ (j_P_ofItem hro ev12) rfl ?_
        refine kJ_iconst 114 2 d_L_isCast_113 ki_2 rfl ?_
        refine kJ_icmp_ne 117 121 d_L_isCast_114 rfl rfl (fun hc => ?_) (fun hc => ?_)
        · have hf := kIf_f hf hc
          refine kJ_iconst 122 0 d_L_isCast_121 ki_0 rfl ?_
          cases hf
          exact kJ_iret d_L_isCast_122 rfl (kB2_z _) (Nat.zero_le _) (Nat.zero_le _)
        · have hf := kIf_t hf hc
          refine kJ_iconst 118 1 d_L_isCast_117 ki_1 rfl ?_
          refine kJ_goto 122 d_L_isCast_118 rfl ?_
          cases hf
          exact kJ_iret d_L_isCast_122 rfl (kB2_z _) (Nat.zero_le _) (Nat.zero_le _)
def b_L_isCast_66 (h : kH) (x1 : Int32) (x2 : Int32) (x3 : Int32) (s0 : Bool) : Option (Bool × kH) := if 0 ≤ x3 then (kBi (f_P_ofMember h x3 5) fun v3 => b_L_isCast_82 h x1 x2 x3 (kB2 s0) v3) else (b_L_isCast_82 h x1 x2 x3 (kB2 s0) 0)
theorem c_L_isCast_66 {E : kE} {L : Nat} {xs : Nat → Int32} (hro : kRo E L xs) {K : List Nat} {h : kH} {x1 : Int32} {x2 : Int32} {x3 : Int32} {s0 : Bool} {r : Bool} {h' : kH} (hf : b_L_isCast_66 h x1 x2 x3 s0 = some (r, h')) : kJ E m_L_isCast (some (kB2 r)) (mk K h') 0 0 66 [(0, .ref 0), (1, .int x1), (2, .int x2), (3, .int x3)] [.int (kB2 s0)] (mk K h) := by
  unfold b_L_isCast_66 at hf
  refine kJ_istore 68 [(4, .int (kB2 s0)), (0, .ref 0), (1, .int x1), (2, .int x2), (3, .int x3)] d_L_isCast_66 (Nat.le_of_ble_eq_true rfl) rfl rfl ?_
  refine kJ_iload_n 69 4 d_L_isCast_68 rfl rfl rfl ?_
  refine kJ_if_ge 72 76 d_L_isCast_69 rfl rfl (fun hc => ?_) (fun hc => ?_)
  · have hf := kIf_t hf hc
    refine kJ_aload_n 77 1 d_L_isCast_76 rfl rfl rfl rfl ?_
    refine kJ_iload_n 78 4 d_L_isCast_77 rfl rfl rfl ?_
    refine kJ_iconst 79 5 d_L_isCast_78 ki_5 rfl ?_
    obtain ⟨v3, ev3, hf⟩ := kBi_some hf
    refine kM_callv 82 m_P_ofMember [.int x3, .int 5] [] d_L_isCast_79 cl_L_14 ⟨w_380, w_381⟩ (kp_0).x ⟨rfl, by decide⟩ ⟨_, _, rfl⟩ rfl rfl (Nat.le_of_ble_eq_true rfl) ⟨Nat.le_of_ble_eq_true rfl, Nat.le_of_ble_eq_true rfl⟩ ⟨rfl, rfl⟩ ⟨Nat.zero_le _, Nat.zero_le _⟩ (j_P_ofMember hro ev3) rfl ?_
    refine kJ_sub [1, 2, 3, 4, 0] rfl ?_
    exact c_L_isCast_82 hro hf
  · have hf := kIf_f hf hc
    refine kJ_iconst 73 0 d_L_isCast_72 ki_0 rfl ?_
    refine kJ_goto 82 d_L_isCast_73 rfl ?_
    refine kJ_sub [1, 2, 3, 4, 0] rfl ?_
    exact c_L_isCast_82 hro hf
def b_L_isCast_65 (h : kH) (x1 : Int32) (x2 : Int32) (x3 : Int32) : Option (Bool × kH) := b_L_isCast_66 h x1 x2 x3 false
theorem c_L_isCast_65 {E : kE} {L : Nat} {xs : Nat → Int32} (hro : kRo E L xs) {K : List Nat} {h : kH} {x1 : Int32} {x2 : Int32} {x3 : Int32} {r : Bool} {h' : kH} (hf : b_L_isCast_65 h x1 x2 x3 = some (r, h')) : kJ E m_L_isCast (some (kB2 r)) (mk K h') 0 0 65 [(0, .ref 0), (1, .int x1), (2, .int x2), (3, .int x3)] [] (mk K h) := by
  unfold b_L_isCast_65 at hf
  refine kJ_iconst 66 0 d_L_isCast_65 ki_0 rfl ?_
  refine kJ_sub [0, 1, 2, 3] rfl ?_
  exact c_L_isCast_66 hro hf
def b_L_isCast_10 (x1 : Int32) : Nat → kH → Int32 → Int32 → Option (Bool × kH)
  | 0, _, _, _ => none
  | n + 1, h, x2, x3 => (fun rec10 => if x3 < 0 then (kBi (f_P_count h 6) fun v2 => if x2 < 0 then (b_L_isCast_65 h x1 x2 v2) else (if v2 < 0 then (b_L_isCast_65 h x1 x2 v2) else (kBd (f_P_at h v2 x2 5) fun v14 h13 => if v14 = 0 then (b_L_isCast_66 h13 x1 x2 v2 true) else (b_L_isCast_65 h13 x1 x2 v2)))) else (kBd (f_P_ofItem h x3 2) fun v16 h15 => if v16 = 2 then (rec10 h15 x3 (x3 + (-1))) else (rec10 h15 x2 (x3 + (-1))))) (fun h' x2' x3' => b_L_isCast_10 x1 n h' x2' x3')
theorem c_L_isCast_10 {E : kE} {L : Nat} {xs : Nat → Int32} (hro : kRo E L xs) {K : List Nat} {x1 : Int32} {r : Bool} {h' : kH} : ∀ (n : Nat) (h : kH) (x2 : Int32) (x3 : Int32), b_L_isCast_10 x1 n h x2 x3 = some (r, h') → kJ E m_L_isCast (some (kB2 r)) (mk K h') 0 0 10 [(0, .ref 0), (1, .int x1), (2, .int x2), (3, .int x3)] [] (mk K h) := by
  intro n
  induction n with
  | zero =>
    intro h x2 x3 hf
    have hf : (none : Option (Bool × kH)) = some (r, h') := hf
    cases hf
  | succ n hrec10 =>
    intro h x2 x3 hf
    rw [b_L_isCast_10] at hf
    dsimp only at hf
    refine kJ_iload_n 11 3 d_L_isCast_10 rfl rfl rfl ?_
    refine kJ_if_lt 14 36 d_L_isCast_11 rfl rfl (fun hc => ?_) (fun hc => ?_)
    · have hf := kIf_t hf hc
      refine kJ_aload_n 37 0 d_L_isCast_36 rfl rfl rfl rfl ?_
      refine kJ_bipush 39 6 d_L_isCast_37 kb_6 rfl ?_
      obtain ⟨v2, ev2, hf⟩ := kBi_some hf
      refine kM_callv 42 m_P_count [.int 6] [] d_L_isCast_39 cl_L_28 ⟨w_397, w_398⟩ (kp_0).x ⟨rfl, by decide⟩ ⟨_, _, rfl⟩ rfl rfl (Nat.le_of_ble_eq_true rfl) ⟨Nat.le_of_ble_eq_true rfl, Nat.le_of_ble_eq_true rfl⟩ ⟨rfl, rfl⟩ ⟨Nat.zero_le _, Nat.zero_le _⟩ (j_P_count hro ev2) rfl ?_
      refine kJ_istore_n 43 [(3, .int v2), (0, .ref 0), (1, .int x1), (2, .int x2)] d_L_isCast_42 rfl (Nat.le_of_ble_eq_true rfl) rfl rfl ?_
      refine kJ_iload_n 44 3 d_L_isCast_43 rfl rfl rfl ?_
      refine kJ_if_lt 47 65 d_L_isCast_44 rfl rfl (fun hc => ?_) (fun hc => ?_)
      · have hf := kIf_t hf hc
        refine kJ_sub [1, 2, 3, 0] rfl ?_
        exact c_L_isCast_65 hro hf
      · have hf := kIf_f hf hc
        refine kJ_iload_n 48 0 d_L_isCast_47 rfl rfl rfl ?_
        refine kJ_if_lt 51 65 d_L_isCast_48 rfl rfl (fun hc => ?_) (fun hc => ?_)
        · have hf := kIf_t hf hc
          refine kJ_sub [1, 2, 3, 0] rfl ?_
          exact c_L_isCast_65 hro hf
        · have hf := kIf_f hf hc
          refine kJ_aload_n 52 1 d_L_isCast_51 rfl rfl rfl rfl ?_
          refine kJ_iload_n 53 0 d_L_isCast_52 rfl rfl rfl ?_
          refine kJ_iload_n 54 3 d_L_isCast_53 rfl rfl rfl ?_
          refine kJ_iconst 55 5 d_L_isCast_54 ki_5 rfl ?_
          obtain ⟨v14, h13, ev14, hf⟩ := kBd_some hf
          refine kM_callv 58 m_P_at [.int v2, .int x2, .int 5] [] d_L_isCast_55 cl_L_8 ⟨w_486, w_487⟩ (kp_0).x ⟨rfl, by decide⟩ ⟨_, _, rfl⟩ rfl rfl (Nat.le_of_ble_eq_true rfl) ⟨Nat.le_of_ble_eq_true rfl, Nat.le_of_ble_eq_true rfl⟩ ⟨rfl, rfl⟩ ⟨Nat.zero_le _, Nat.zero_le _⟩ (j_P_at hro ev14) rfl ?_
          refine kJ_if_ne 61 65 d_L_isCast_58 rfl rfl (fun hc => ?_) (fun hc => ?_)
          · have hf := kIf_f hf hc
            refine kJ_sub [1, 2, 3, 0] rfl ?_
            exact c_L_isCast_65 hro hf
          · have hf := kIf_t hf hc
            refine kJ_iconst 62 1 d_L_isCast_61 ki_1 rfl ?_
            refine kJ_goto 66 d_L_isCast_62 rfl ?_
            refine kJ_sub [1, 2, 3, 0] rfl ?_
            exact c_L_isCast_66 hro hf
    · have hf := kIf_f hf hc
      refine kJ_aload_n 15 0 d_L_isCast_14 rfl rfl rfl rfl ?_
      refine kJ_iload_n 16 3 d_L_isCast_15 rfl rfl rfl ?_
      refine kJ_iconst 17 2 d_L_isCast_16 ki_2 rfl ?_
      obtain ⟨v16, h15, ev16, hf⟩ := kBd_some hf
      refine kM_callv 20 m_P_ofItem [.int x3, .int 2] [] d_L_isCast_17 cl_L_32 ⟨w_428, w_429⟩ (kp_0).x ⟨rfl, by decide⟩ ⟨_, _, rfl⟩ rfl rfl (Nat.le_of_ble_eq_true rfl) ⟨Nat.le_of_ble_eq_true rfl, Nat.le_of_ble_eq_true rfl⟩ ⟨rfl, rfl⟩ ⟨Nat.zero_le _, Nat.zero_le _⟩ (j_P_ofItem hro ev16) rfl ?_
      refine kJ_iconst 21 2 d_L_isCast_20 ki_2 rfl ?_
      refine kJ_icmp_ne 24 28 d_L_isCast_21 rfl rfl (fun hc => ?_) (fun hc => ?_)
      · have hf := kIf_f hf hc
        refine kJ_iload_n 29 2 d_L_isCast_28 rfl rfl rfl ?_
        refine kJ_istore_n 30 [(2, .int x2), (0, .ref 0), (1, .int x1), (3, .int x3)] d_L_isCast_29 rfl (Nat.le_of_ble_eq_true rfl) rfl rfl ?_
        refine kJ_iinc 33 3 [(3, .int (x3 + (-1))), (2, .int x2), (0, .ref 0), (1, .int x1)] d_L_isCast_30 rfl ki_m1 (Nat.le_of_ble_eq_true rfl) rfl rfl ?_
        refine kJ_goto 10 d_L_isCast_33 rfl ?_
        refine kJ_sub [2, 3, 1, 0] rfl ?_
        exact hrec10 h15 x2 (x3 + (-1)) hf
      · have hf := kIf_t hf hc
        refine kJ_iload_n 25 3 d_L_isCast_24 rfl rfl rfl ?_
        refine kJ_goto 29 d_L_isCast_25 rfl ?_
        refine kJ_istore_n 30 [(2, .int x3), (0, .ref 0), (1, .int x1), (3, .int x3)] d_L_isCast_29 rfl (Nat.le_of_ble_eq_true rfl) rfl rfl ?_
        refine kJ_iinc 33 3 [(3, .int (x3 + (-1))), (2, .int x3), (0, .ref 0), (1, .int x1)] d_L_isCast_30 rfl ki_m1 (Nat.le_of_ble_eq_true rfl) rfl rfl ?_
        refine kJ_goto 10 d_L_isCast_33 rfl ?_
        refine kJ_sub [2, 3, 1, 0] rfl ?_
        exact hrec10 h15 x3 (x3 + (-1)) hf
def f_L_isCast (h : kH) (x1 : Int32) : Option (Bool × kH) := kBi (f_P_count h 2) fun v1 => b_L_isCast_10 x1 kFuel h (-1) (v1 - 1)
theorem j_L_isCast {E : kE} {L : Nat} {xs : Nat → Int32} (hro : kRo E L xs) {K : List Nat} {h : kH} {x1 : Int32} {r : Bool} {h' : kH} (hf : f_L_isCast h x1 = some (r, h')) : JM E m_L_isCast [.ref 0, .int x1] (mk K h) (some (kB2 r)) (mk K h') := by
  unfold f_L_isCast at hf
  refine JM.of pn_L (Nat.le_of_ble_eq_true rfl) ?_
  show kJ E m_L_isCast (some (kB2 r)) (mk K h') 0 0 0 [(0, .ref 0), (1, .int x1)] [] (mk K h)
  refine kJ_iconst 1 (-1) d_L_isCast_0 ki_m1 rfl ?_
  refine kJ_istore_n 2 [(2, .int (-1)), (0, .ref 0), (1, .int x1)] d_L_isCast_1 rfl (Nat.le_of_ble_eq_true rfl) rfl rfl ?_
  refine kJ_aload_n 3 1 d_L_isCast_2 rfl rfl rfl rfl ?_
  refine kJ_iconst 4 2 d_L_isCast_3 ki_2 rfl ?_
  obtain ⟨v1, ev1, hf⟩ := kBi_some hf
  refine kM_callv 7 m_P_count [.int 2] [] d_L_isCast_4 cl_L_28 ⟨w_397, w_398⟩ (kp_0).x ⟨rfl, by decide⟩ ⟨_, _, rfl⟩ rfl rfl (Nat.le_of_ble_eq_true rfl) ⟨Nat.le_of_ble_eq_true rfl, Nat.le_of_ble_eq_true rfl⟩ ⟨rfl, rfl⟩ ⟨Nat.zero_le _, Nat.zero_le _⟩ (j_P_count hro ev1) rfl ?_
  refine kJ_iconst 8 1 d_L_isCast_7 ki_1 rfl ?_
  refine kJ_isub 9 d_L_isCast_8 rfl ?_
  refine kJ_istore_n 10 [(3, .int (v1 - 1)), (2, .int (-1)), (0, .ref 0), (1, .int x1)] d_L_isCast_9 rfl (Nat.le_of_ble_eq_true rfl) rfl rfl ?_
  refine kJ_sub [2, 3, 1, 0] rfl ?_
  exact c_L_isCast_10 hro kFuel h (-1) (v1 - 1) hf
