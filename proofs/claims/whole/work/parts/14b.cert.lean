/-! CODE of the methods as functions, with certificates: printed by wip/whole/emit.py. -/
def b_C_nameHolder_100 (h : kH) (x1 : Int32) (x3 : Int32) (s0 : Nat) : Option (Int32 × kH) := kG x1 12 (kG x1 12 (kLet (hset h s0 (kx x1) x3) fun h2 => some ((h s0 (kx x1)), h2)))
theorem c_C_nameHolder_100 {E : kE} {L : Nat} {xs : Nat → Int32} (hro : kRo E L xs) {h : kH} {x1 : Int32} {x3 : Int32} {s0 : Nat} (ks0 : kIs s0 9) {r : Int32} {h' : kH} (hf : b_C_nameHolder_100 h x1 x3 s0 = some (r, h')) : kJ E m_C_nameHolder (some r) (mk h') 0 0 100 [(1, .int x1), (3, .int x3)] [.ref s0] (mk h) := by
  unfold b_C_nameHolder_100 at hf
  refine kJ_astore 102 [(7, .ref s0), (1, .int x1), (3, .int x3)] d_C_nameHolder_100 (Nat.le_of_ble_eq_true rfl) rfl rfl rfl ?_
  refine kJ_aload 104 0 d_C_nameHolder_102 rfl rfl rfl ?_
  refine kJ_iload_n 105 1 d_C_nameHolder_104 rfl rfl rfl ?_
  obtain ⟨hg, hf⟩ := kG_some hf
  refine kM_iald 106 12 d_C_nameHolder_105 ks0 rfl hg rfl ?_
  refine kJ_istore 108 [(8, .int (h s0 (kx x1))), (7, .ref s0), (1, .int x1), (3, .int x3)] d_C_nameHolder_106 (Nat.le_of_ble_eq_true rfl) rfl rfl ?_
  refine kJ_aload 110 1 d_C_nameHolder_108 rfl rfl rfl ?_
  refine kJ_iload_n 111 2 d_C_nameHolder_110 rfl rfl rfl ?_
  refine kJ_iload_n 112 3 d_C_nameHolder_111 rfl rfl rfl ?_
  obtain ⟨hg, hf⟩ := kG_some hf
  refine kM_iast 113 12 d_C_nameHolder_112 ks0 rfl hg rfl ?_
  obtain ⟨h2, eh2, hf⟩ := kLet_e hf
  rw [← eh2]
  refine kJ_iload 115 0 d_C_nameHolder_113 rfl rfl ?_
  cases hf
  exact kJ_iret d_C_nameHolder_115 rfl rfl (Nat.zero_le _) (Nat.zero_le _)
def b_C_nameHolder_57 (h : kH) (x0 : Nat) (x1 : Int32) (x2 : Int32) (x3 : Int32) (x4 : Int32) (x5 : Int32) (s0 : Bool) : Option (Int32 × kH) := if (f_C_hasMember h x0 x1) = true then (if x5 = 0 then (some ((-1), h)) else (if s0 = true then (if x4 = 0 then (kG x2 12 (b_C_nameHolder_100 h x1 x3 ((x0 + 10 + 5 * kx x2) + 4))) else (b_C_nameHolder_100 h x1 x3 (x0 + 4))) else (some ((-1), h)))) else (some ((-1), h))
theorem c_C_nameHolder_57 {E : kE} {L : Nat} {xs : Nat → Int32} (hro : kRo E L xs) {h : kH} {x0 : Nat} {x1 : Int32} {x2 : Int32} {x3 : Int32} {x4 : Int32} {x5 : Int32} {s0 : Bool} (k0 : kIs x0 0) {r : Int32} {h' : kH} (hf : b_C_nameHolder_57 h x0 x1 x2 x3 x4 x5 s0 = some (r, h')) : kJ E m_C_nameHolder (some r) (mk h') 0 0 57 [(0, .ref x0), (1, .int x1), (2, .int x2), (3, .int x3), (4, .int x4), (5, .int x5)] [.int (kB2 s0)] (mk h) := by
  unfold b_C_nameHolder_57 at hf
  refine kJ_istore 59 [(6, .int (kB2 s0)), (0, .ref x0), (1, .int x1), (2, .int x2), (3, .int x3), (4, .int x4), (5, .int x5)] d_C_nameHolder_57 (Nat.le_of_ble_eq_true rfl) rfl rfl ?_
  refine kJ_aload_n 60 1 d_C_nameHolder_59 rfl rfl rfl rfl ?_
  refine kJ_iload_n 61 2 d_C_nameHolder_60 rfl rfl rfl ?_
  refine kM_callv 64 m_C_hasMember [.int x1] [] d_C_nameHolder_61 cl_C_105 ⟨w_437, w_10⟩ k0 ⟨rfl, by decide⟩ ⟨_, _, rfl⟩ rfl rfl (Nat.le_of_ble_eq_true rfl) ⟨Nat.le_of_ble_eq_true rfl, Nat.le_of_ble_eq_true rfl⟩ ⟨rfl, rfl⟩ ⟨Nat.zero_le _, Nat.zero_le _⟩ (j_C_hasMember hro k0 rfl) rfl ?_
  refine kJ_if_eq 67 77 d_C_nameHolder_64 rfl rfl (fun hc => ?_) (fun hc => ?_)
  · have hf := kIf_f hf (kB2_0 hc)
    refine kJ_iconst 78 (-1) d_C_nameHolder_77 ki_m1 rfl ?_
    cases hf
    exact kJ_iret d_C_nameHolder_78 rfl rfl (Nat.zero_le _) (Nat.zero_le _)
  · have hf := kIf_t hf (kB2_1 hc)
    refine kJ_iload 69 6 d_C_nameHolder_67 rfl rfl ?_
    refine kJ_if_eq 72 77 d_C_nameHolder_69 rfl rfl (fun hc => ?_) (fun hc => ?_)
    · have hf := kIf_t hf hc
      refine kJ_iconst 78 (-1) d_C_nameHolder_77 ki_m1 rfl ?_
      cases hf
      exact kJ_iret d_C_nameHolder_78 rfl rfl (Nat.zero_le _) (Nat.zero_le _)
    · have hf := kIf_f hf hc
      refine kJ_iload 74 0 d_C_nameHolder_72 rfl rfl ?_
      refine kJ_if_ne 77 79 d_C_nameHolder_74 rfl rfl (fun hc => ?_) (fun hc => ?_)
      · have hf := kIf_t hf (kB2_1 hc)
        refine kJ_iload 81 5 d_C_nameHolder_79 rfl rfl ?_
        refine kJ_if_eq 84 91 d_C_nameHolder_81 rfl rfl (fun hc => ?_) (fun hc => ?_)
        · have hf := kIf_t hf hc
          refine kJ_aload_n 92 1 d_C_nameHolder_91 rfl rfl rfl rfl ?_
          refine kM_getR 95 4 (x0 + 5) d_C_nameHolder_92 l_C_30 k0 rfl rfl rfl rfl ?_
          refine kJ_iload_n 96 3 d_C_nameHolder_95 rfl rfl rfl ?_
          obtain ⟨hg1, hf⟩ := kG_some hf
          refine kM_aald 97 12 5 5 (x0 + 10 + 5 * kx x2) d_C_nameHolder_96 (kk_0_9 k0) rfl (by decide) (Or.inl rfl) hg1 (by simp only [Nat.add_assoc, kx]; try omega) rfl ?_
          refine kM_getR 100 3 ((x0 + 10 + 5 * kx x2) + 4) d_C_nameHolder_97 l_C_84 (kC_item k0 (kIn_lt hg1)) rfl rfl rfl rfl ?_
          refine kJ_sub [2, 4] rfl ?_
          exact c_C_nameHolder_100 hro (kk_3_9 (kC_item k0 (kIn_lt hg1))) hf
        · have hf := kIf_f hf hc
          refine kJ_aload_n 85 1 d_C_nameHolder_84 rfl rfl rfl rfl ?_
          refine kM_getR 88 3 (x0 + 4) d_C_nameHolder_85 l_C_25 k0 rfl rfl rfl rfl ?_
          refine kJ_goto 100 d_C_nameHolder_88 rfl ?_
          refine kJ_sub [2, 4] rfl ?_
          exact c_C_nameHolder_100 hro (kk_0_8 k0) hf
      · have hf := kIf_f hf (kB2_0 hc)
        refine kJ_iconst 78 (-1) d_C_nameHolder_77 ki_m1 rfl ?_
        cases hf
        exact kJ_iret d_C_nameHolder_78 rfl rfl (Nat.zero_le _) (Nat.zero_le _)
def b_C_nameHolder_52 (h : kH) (x0 : Nat) (x1 : Int32) (x2 : Int32) (x3 : Int32) (x4 : Int32) (x5 : Int32) : Option (Int32 × kH) := b_C_nameHolder_57 h x0 x1 x2 x3 x4 x5 true
theorem c_C_nameHolder_52 {E : kE} {L : Nat} {xs : Nat → Int32} (hro : kRo E L xs) {h : kH} {x0 : Nat} {x1 : Int32} {x2 : Int32} {x3 : Int32} {x4 : Int32} {x5 : Int32} (k0 : kIs x0 0) {r : Int32} {h' : kH} (hf : b_C_nameHolder_52 h x0 x1 x2 x3 x4 x5 = some (r, h')) : kJ E m_C_nameHolder (some r) (mk h') 0 0 52 [(0, .ref x0), (1, .int x1), (2, .int x2), (3, .int x3), (4, .int x4), (5, .int x5)] [] (mk h) := by
  unfold b_C_nameHolder_52 at hf
  refine kJ_iconst 53 1 d_C_nameHolder_52 ki_1 rfl ?_
  refine kJ_goto 57 d_C_nameHolder_53 rfl ?_
  refine kJ_sub [0, 1, 2, 3, 4, 5] rfl ?_
  exact c_C_nameHolder_57 hro k0 hf
def b_C_nameHolder_56 (h : kH) (x0 : Nat) (x1 : Int32) (x2 : Int32) (x3 : Int32) (x4 : Int32) (x5 : Int32) : Option (Int32 × kH) := b_C_nameHolder_57 h x0 x1 x2 x3 x4 x5 false
theorem c_C_nameHolder_56 {E : kE} {L : Nat} {xs : Nat → Int32} (hro : kRo E L xs) {h : kH} {x0 : Nat} {x1 : Int32} {x2 : Int32} {x3 : Int32} {x4 : Int32} {x5 : Int32} (k0 : kIs x0 0) {r : Int32} {h' : kH} (hf : b_C_nameHolder_56 h x0 x1 x2 x3 x4 x5 = some (r, h')) : kJ E m_C_nameHolder (some r) (mk h') 0 0 56 [(0, .ref x0), (1, .int x1), (2, .int x2), (3, .int x3), (4, .int x4), (5, .int x5)] [] (mk h) := by
  unfold b_C_nameHolder_56 at hf
  refine kJ_iconst 57 0 d_C_nameHolder_56 ki_0 rfl ?_
  refine kJ_sub [0, 1, 2, 3, 4, 5] rfl ?_
  exact c_C_nameHolder_57 hro k0 hf
def b_C_nameHolder_31 (h : kH) (x0 : Nat) (x1 : Int32) (x2 : Int32) (x3 : Int32) (x4 : Int32) (s0 : Bool) : Option (Int32 × kH) := if x3 = (-6) then (b_C_nameHolder_52 h x0 x1 x2 x3 x4 (kB2 s0)) else (if (f_C_hasMember h x0 x3) = true then (if x3 = x1 then (b_C_nameHolder_56 h x0 x1 x2 x3 x4 (kB2 s0)) else (b_C_nameHolder_52 h x0 x1 x2 x3 x4 (kB2 s0))) else (b_C_nameHolder_56 h x0 x1 x2 x3 x4 (kB2 s0)))
theorem c_C_nameHolder_31 {E : kE} {L : Nat} {xs : Nat → Int32} (hro : kRo E L xs) {h : kH} {x0 : Nat} {x1 : Int32} {x2 : Int32} {x3 : Int32} {x4 : Int32} {s0 : Bool} (k0 : kIs x0 0) {r : Int32} {h' : kH} (hf : b_C_nameHolder_31 h x0 x1 x2 x3 x4 s0 = some (r, h')) : kJ E m_C_nameHolder (some r) (mk h') 0 0 31 [(0, .ref x0), (1, .int x1), (2, .int x2), (3, .int x3), (4, .int x4)] [.int (kB2 s0)] (mk h) := by
  unfold b_C_nameHolder_31 at hf
  refine kJ_istore 33 [(5, .int (kB2 s0)), (0, .ref x0), (1, .int x1), (2, .int x2), (3, .int x3), (4, .int x4)] d_C_nameHolder_31 (Nat.le_of_ble_eq_true rfl) rfl rfl ?_
  refine kJ_iload_n 34 4 d_C_nameHolder_33 rfl rfl rfl ?_
  refine kJ_bipush 36 (-6) d_C_nameHolder_34 kb_m6 rfl ?_
  refine kJ_icmp_eq 39 52 d_C_nameHolder_36 rfl rfl (fun hc => ?_) (fun hc => ?_)
  · have hf := kIf_t hf hc
    refine kJ_sub [1, 2, 3, 4, 5, 0] rfl ?_
    exact c_C_nameHolder_52 hro k0 hf
  · have hf := kIf_f hf hc
    refine kJ_aload_n 40 1 d_C_nameHolder_39 rfl rfl rfl rfl ?_
    refine kJ_iload_n 41 4 d_C_nameHolder_40 rfl rfl rfl ?_
    refine kM_callv 44 m_C_hasMember [.int x3] [] d_C_nameHolder_41 cl_C_105 ⟨w_437, w_10⟩ k0 ⟨rfl, by decide⟩ ⟨_, _, rfl⟩ rfl rfl (Nat.le_of_ble_eq_true rfl) ⟨Nat.le_of_ble_eq_true rfl, Nat.le_of_ble_eq_true rfl⟩ ⟨rfl, rfl⟩ ⟨Nat.zero_le _, Nat.zero_le _⟩ (j_C_hasMember hro k0 rfl) rfl ?_
    refine kJ_if_eq 47 56 d_C_nameHolder_44 rfl rfl (fun hc => ?_) (fun hc => ?_)
    · have hf := kIf_f hf (kB2_0 hc)
      refine kJ_sub [1, 2, 3, 4, 5, 0] rfl ?_
      exact c_C_nameHolder_56 hro k0 hf
    · have hf := kIf_t hf (kB2_1 hc)
      refine kJ_iload_n 48 4 d_C_nameHolder_47 rfl rfl rfl ?_
      refine kJ_iload_n 49 2 d_C_nameHolder_48 rfl rfl rfl ?_
      refine kJ_icmp_eq 52 56 d_C_nameHolder_49 rfl rfl (fun hc => ?_) (fun hc => ?_)
      · have hf := kIf_t hf hc
        refine kJ_sub [1, 2, 3, 4, 5, 0] rfl ?_
        exact c_C_nameHolder_56 hro k0 hf
      · have hf := kIf_f hf hc
        refine kJ_sub [1, 2, 3, 4, 5, 0] rfl ?_
        exact c_C_nameHolder_52 hro k0 hf
def b_C_nameHolder_26 (h : kH) (x0 : Nat) (x1 : Int32) (x2 : Int32) (x3 : Int32) (x4 : Int32) : Option (Int32 × kH) := b_C_nameHolder_31 h x0 x1 x2 x3 x4 true
theorem c_C_nameHolder_26 {E : kE} {L : Nat} {xs : Nat → Int32} (hro : kRo E L xs) {h : kH} {x0 : Nat} {x1 : Int32} {x2 : Int32} {x3 : Int32} {x4 : Int32} (k0 : kIs x0 0) {r : Int32} {h' : kH} (hf : b_C_nameHolder_26 h x0 x1 x2 x3 x4 = some (r, h')) : kJ E m_C_nameHolder (some r) (mk h') 0 0 26 [(0, .ref x0), (1, .int x1), (2, .int x2), (3, .int x3), (4, .int x4)] [] (mk h) := by
  unfold b_C_nameHolder_26 at hf
  refine kJ_iconst 27 1 d_C_nameHolder_26 ki_1 rfl ?_
  refine kJ_goto 31 d_C_nameHolder_27 rfl ?_
  refine kJ_sub [0, 1, 2, 3, 4] rfl ?_
  exact c_C_nameHolder_31 hro k0 hf
def b_C_nameHolder_11 (h : kH) (x0 : Nat) (x1 : Int32) (x2 : Int32) (x3 : Int32) (s0 : Bool) : Option (Int32 × kH) := if s0 = true then (b_C_nameHolder_26 h x0 x1 x2 x3 (kB2 s0)) else (if (f_C_hasItem h x0 x2) = true then (b_C_nameHolder_26 h x0 x1 x2 x3 (kB2 s0)) else (b_C_nameHolder_31 h x0 x1 x2 x3 (kB2 s0) false))
theorem c_C_nameHolder_11 {E : kE} {L : Nat} {xs : Nat → Int32} (hro : kRo E L xs) {h : kH} {x0 : Nat} {x1 : Int32} {x2 : Int32} {x3 : Int32} {s0 : Bool} (k0 : kIs x0 0) {r : Int32} {h' : kH} (hf : b_C_nameHolder_11 h x0 x1 x2 x3 s0 = some (r, h')) : kJ E m_C_nameHolder (some r) (mk h') 0 0 11 [(0, .ref x0), (1, .int x1), (2, .int x2), (3, .int x3)] [.int (kB2 s0)] (mk h) := by
  unfold b_C_nameHolder_11 at hf
  refine kJ_istore 13 [(4, .int (kB2 s0)), (0, .ref x0), (1, .int x1), (2, .int x2), (3, .int x3)] d_C_nameHolder_11 (Nat.le_of_ble_eq_true rfl) rfl rfl ?_
  refine kJ_iload 15 0 d_C_nameHolder_13 rfl rfl ?_
  refine kJ_if_ne 18 26 d_C_nameHolder_15 rfl rfl (fun hc => ?_) (fun hc => ?_)
  · have hf := kIf_t hf (kB2_1 hc)
    refine kJ_sub [1, 2, 3, 4, 0] rfl ?_
    exact c_C_nameHolder_26 hro k0 hf
  · have hf := kIf_f hf (kB2_0 hc)
    refine kJ_aload_n 19 1 d_C_nameHolder_18 rfl rfl rfl rfl ?_
    refine kJ_iload_n 20 3 d_C_nameHolder_19 rfl rfl rfl ?_
    refine kM_callv 23 m_C_hasItem [.int x2] [] d_C_nameHolder_20 cl_C_121 ⟨w_487, w_17⟩ k0 ⟨rfl, by decide⟩ ⟨_, _, rfl⟩ rfl rfl (Nat.le_of_ble_eq_true rfl) ⟨Nat.le_of_ble_eq_true rfl, Nat.le_of_ble_eq_true rfl⟩ ⟨rfl, rfl⟩ ⟨Nat.zero_le _, Nat.zero_le _⟩ (j_C_hasItem hro k0 rfl) rfl ?_
    refine kJ_if_eq 26 30 d_C_nameHolder_23 rfl rfl (fun hc => ?_) (fun hc => ?_)
    · have hf := kIf_f hf (kB2_0 hc)
      refine kJ_iconst 31 0 d_C_nameHolder_30 ki_0 rfl ?_
      refine kJ_sub [1, 2, 3, 4, 0] rfl ?_
      exact c_C_nameHolder_31 hro k0 hf
    · have hf := kIf_t hf (kB2_1 hc)
      refine kJ_sub [1, 2, 3, 4, 0] rfl ?_
      exact c_C_nameHolder_26 hro k0 hf
def f_C_nameHolder (h : kH) (x0 : Nat) (x1 : Int32) (x2 : Int32) (x3 : Int32) : Option (Int32 × kH) := if x2 = (-6) then (b_C_nameHolder_11 h x0 x1 x2 x3 true) else (b_C_nameHolder_11 h x0 x1 x2 x3 false)
theorem j_C_nameHolder {E : kE} {L : Nat} {xs : Nat → Int32} (hro : kRo E L xs) {h : kH} {x0 : Nat} {x1 : Int32} {x2 : Int32} {x3 : Int32} (k0 : kIs x0 0) {r : Int32} {h' : kH} (hf : f_C_nameHolder h x0 x1 x2 x3 = some (r, h')) : JM E m_C_nameHolder [.ref x0, .int x1, .int x2, .int x3] (mk h) (some r) (mk h') := by
  unfold f_C_nameHolder at hf
  refine JM.of pn_C (Nat.le_of_ble_eq_true rfl) ?_
  show kJ E m_C_nameHolder (some r) (mk h') 0 0 0 [(0, .ref x0), (1, .int x1), (2, .int x2), (3, .int x3)] [] (mk h)
  refine kJ_iload_n 1 2 d_C_nameHolder_0 rfl rfl rfl ?_
  refine kJ_bipush 3 (-6) d_C_nameHolder_1 kb_m6 rfl ?_
  refine kJ_icmp_ne 6 10 d_C_nameHolder_3 rfl rfl (fun hc => ?_) (fun hc => ?_)
  · have hf := kIf_f hf hc
    refine kJ_iconst 11 0 d_C_nameHolder_10 ki_0 rfl ?_
    refine kJ_sub [0, 1, 2, 3] rfl ?_
    exact c_C_nameHolder_11 hro k0 hf
  · have hf := kIf_t hf hc
    refine kJ_iconst 7 1 d_C_nameHolder_6 ki_1 rfl ?_
    refine kJ_goto 11 d_C_nameHolder_7 rfl ?_
    refine kJ_sub [0, 1, 2, 3] rfl ?_
    exact c_C_nameHolder_11 hro k0 hf
def f_P_proxy (h : kH) (x1 : Int32) (x2 : Int32) (x3 : Int32) : Option (Int32 × kH) := kBi (f_Y_note h 145 1) fun h1 => kBd (f_C_nameHolder h1 1 x1 x2 x3) fun v3 h2 => kBd (f_Y_settle h2 145 v3) fun v5 h4 => some (v5, h4)
theorem j_P_proxy {E : kE} {L : Nat} {xs : Nat → Int32} (hro : kRo E L xs) {h : kH} {x1 : Int32} {x2 : Int32} {x3 : Int32} {r : Int32} {h' : kH} (hf : f_P_proxy h x1 x2 x3 = some (r, h')) : JM E m_P_proxy [.ref 0, .int x1, .int x2, .int x3] (mk h) (some r) (mk h') := by
  unfold f_P_proxy at hf
  refine JM.of pn_P (Nat.le_of_ble_eq_true rfl) ?_
  show kJ E m_P_proxy (some r) (mk h') 0 0 0 [(0, .ref 0), (1, .int x1), (2, .int x2), (3, .int x3)] [] (mk h)
  refine kJ_aload_n 1 0 d_P_proxy_0 rfl rfl rfl rfl ?_
  refine kM_getR 4 144 145 d_P_proxy_1 l_P_29 kp_0 rfl rfl rfl rfl ?_
  refine kJ_aload_n 5 0 d_P_proxy_4 rfl rfl rfl rfl ?_
  refine kM_getR 8 0 1 d_P_proxy_5 l_P_10 kp_0 rfl rfl rfl rfl ?_
  obtain ⟨h1, eh1, hf⟩ := kBi_some hf
  refine kM_callv 11 m_Y_note [.ref 1] [] d_P_proxy_8 cl_P_55 ⟨w_372, w_0⟩ kp_145 ⟨rfl, by decide⟩ ⟨_, _, rfl⟩ rfl rfl (Nat.le_of_ble_eq_true rfl) ⟨Nat.le_of_ble_eq_true rfl, Nat.le_of_ble_eq_true rfl⟩ ⟨rfl, rfl⟩ ⟨Nat.zero_le _, Nat.zero_le _⟩ (j_Y_note hro kp_145 kp_1 eh1) rfl ?_
  refine kJ_aload_n 12 0 d_P_proxy_11 rfl rfl rfl rfl ?_
  refine kM_getR 15 144 145 d_P_proxy_12 l_P_29 kp_0 rfl rfl rfl rfl ?_
  refine kJ_aload_n 16 0 d_P_proxy_15 rfl rfl rfl rfl ?_
  refine kM_getR 19 0 1 d_P_proxy_16 l_P_10 kp_0 rfl rfl rfl rfl ?_
  refine kJ_iload_n 20 1 d_P_proxy_19 rfl rfl rfl ?_
  refine kJ_iload_n 21 2 d_P_proxy_20 rfl rfl rfl ?_
  refine kJ_iload_n 22 3 d_P_proxy_21 rfl rfl rfl ?_
  obtain ⟨v3, h2, ev3, hf⟩ := kBd_some hf
  refine kM_callv 25 m_C_nameHolder [.int x1, .int x2, .int x3] [.ref 145] d_P_proxy_22 cl_P_86 ⟨w_483, w_16⟩ kp_1 ⟨rfl, by decide⟩ ⟨_, _, rfl⟩ rfl rfl (Nat.le_of_ble_eq_true rfl) ⟨Nat.le_of_ble_eq_true rfl, Nat.le_of_ble_eq_true rfl⟩ ⟨rfl, rfl⟩ ⟨Nat.zero_le _, Nat.zero_le _⟩ (j_C_nameHolder hro kp_1 ev3) rfl ?_
  obtain ⟨v5, h4, ev5, hf⟩ := kBd_some hf
  refine kM_callv 28 m_Y_settle [.int v3] [] d_P_proxy_25 cl_P_63 ⟨w_396, w_5⟩ kp_145 ⟨rfl, by decide⟩ ⟨_, _, rfl⟩ rfl rfl (Nat.le_of_ble_eq_true rfl) ⟨Nat.le_of_ble_eq_true rfl, Nat.le_of_ble_eq_true rfl⟩ ⟨rfl, rfl⟩ ⟨Nat.zero_le _, Nat.zero_le _⟩ (j_Y_settle hro kp_145 ev5) rfl ?_
  cases hf
  exact kJ_iret d_P_proxy_28 rfl rfl (Nat.zero_le _) (Nat.zero_le _)
def f_P_isChoice (x0 : Int32) : Bool := if x0 < 0 then false else (if 2 < x0 then false else true)
theorem j_P_isChoice {E : kE} {L : Nat} {xs : Nat → Int32} (hro : kRo E L xs) {h0 : kH} {x0 : Int32} {r : Bool} (hf : f_P_isChoice x0 = r) : JM E m_P_isChoice [.int x0] (mk h0) (some (kB2 r)) (mk h0) := by
  unfold f_P_isChoice at hf
  refine JM.of pn_P (Nat.le_of_ble_eq_true rfl) ?_
  show kJ E m_P_isChoice (some (kB2 r)) (mk h0) 0 0 0 [(0, .int x0)] [] (mk h0)
  refine kJ_iload_n 1 0 d_P_isChoice_0 rfl rfl rfl ?_
  refine kJ_if_lt 4 13 d_P_isChoice_1 rfl rfl (fun hc => ?_) (fun hc => ?_)
  · have hf := kIf_t hf hc
    refine kJ_iconst 14 0 d_P_isChoice_13 ki_0 rfl ?_
    subst hf
    exact kJ_iret d_P_isChoice_14 rfl (kB2_z _) (Nat.zero_le _) (Nat.zero_le _)
  · have hf := kIf_f hf hc
    refine kJ_iload_n 5 0 d_P_isChoice_4 rfl rfl rfl ?_
    refine kJ_iconst 6 2 d_P_isChoice_5 ki_2 rfl ?_
    refine kJ_icmp_gt 9 13 d_P_isChoice_6 rfl rfl (fun hc => ?_) (fun hc => ?_)
    · have hf := kIf_t hf hc
      refine kJ_iconst 14 0 d_P_isChoice_13 ki_0 rfl ?_
      subst hf
      exact kJ_iret d_P_isChoice_14 rfl (kB2_z _) (Nat.zero_le _) (Nat.zero_le _)
    · have hf := kIf_f hf hc
      refine kJ_iconst 10 1 d_P_isChoice_9 ki_1 rfl ?_
      refine kJ_goto 14 d_P_isChoice_10 rfl ?_
      subst hf
      exact kJ_iret d_P_isChoice_14 rfl (kB2_z _) (Nat.zero_le _) (Nat.zero_le _)
def f_I_isPending (h : kH) (x0 : Nat) : Bool := if (h x0 2) = 0 then true else (if (h x0 2) = 1 then true else false)
theorem j_I_isPending {E : kE} {L : Nat} {xs : Nat → Int32} (hro : kRo E L xs) {h : kH} {x0 : Nat} (k0 : kIs x0 3) {r : Bool} (hf : f_I_isPending h x0 = r) : JM E m_I_isPending [.ref x0] (mk h) (some (kB2 r)) (mk h) := by
  unfold f_I_isPending at hf
  refine JM.of pn_I (Nat.le_of_ble_eq_true rfl) ?_
  show kJ E m_I_isPending (some (kB2 r)) (mk h) 0 0 0 [(0, .ref x0)] [] (mk h)
  refine kJ_aload_n 1 0 d_I_isPending_0 rfl rfl rfl rfl ?_
  refine kM_getI 4 d_I_isPending_1 l_I_31 k0 rfl rfl rfl ?_
  refine kJ_if_eq 7 15 d_I_isPending_4 rfl rfl (fun hc => ?_) (fun hc => ?_)
  · have hf := kIf_t hf hc
    refine kJ_iconst 16 1 d_I_isPending_15 ki_1 rfl ?_
    refine kJ_goto 20 d_I_isPending_16 rfl ?_
    subst hf
    exact kJ_iret d_I_isPending_20 rfl (kB2_z _) (Nat.zero_le _) (Nat.zero_le _)
  · have hf := kIf_f hf hc
    refine kJ_aload_n 8 0 d_I_isPending_7 rfl rfl rfl rfl ?_
    refine kM_getI 11 d_I_isPending_8 l_I_31 k0 rfl rfl rfl ?_
    refine kJ_iconst 12 1 d_I_isPending_11 ki_1 rfl ?_
    refine kJ_icmp_ne 15 19 d_I_isPending_12 rfl rfl (fun hc => ?_) (fun hc => ?_)
    · have hf := kIf_f hf hc
      refine kJ_iconst 20 0 d_I_isPending_19 ki_0 rfl ?_
      subst hf
      exact kJ_iret d_I_isPending_20 rfl (kB2_z _) (Nat.zero_le _) (Nat.zero_le _)
    · have hf := kIf_t hf hc
      refine kJ_iconst 16 1 d_I_isPending_15 ki_1 rfl ?_
      refine kJ_goto 20 d_I_isPending_16 rfl ?_
      subst hf
      exact kJ_iret d_I_isPending_20 rfl (kB2_z _) (Nat.zero_le _) (Nat.zero_le _)
def b_C_tellChoice_34 (h : kH) (x0 : Nat) (x1 : Int32) (x2 : Int32) (x3 : Int32) : Option (Int32 × kH) := kG x2 12 (if (f_I_isPending h (x0 + 10 + 5 * kx x2)) = true then (kG x2 12 (kG x1 12 (kLet (h ((x0 + 10 + 5 * kx x2) + 3) (kx x1)) fun v3 => kG x2 12 (kG x1 12 (kLet (hset h ((x0 + 10 + 5 * kx x2) + 3) (kx x1) x3) fun h5 => some (v3, h5)))))) else (some ((-5), h)))
theorem c_C_tellChoice_34 {E : kE} {L : Nat} {xs : Nat → Int32} (hro : kRo E L xs) {h : kH} {x0 : Nat} {x1 : Int32} {x2 : Int32} {x3 : Int32} (k0 : kIs x0 0) {r : Int32} {h' : kH} (hf : b_C_tellChoice_34 h x0 x1 x2 x3 = some (r, h')) : kJ E m_C_tellChoice (some r) (mk h') 0 0 34 [(0, .ref x0), (1, .int x1), (2, .int x2), (3, .int x3)] [] (mk h) := by
  unfold b_C_tellChoice_34 at hf
  refine kJ_aload_n 35 0 d_C_tellChoice_34 rfl rfl rfl rfl ?_
  refine kM_getR 38 4 (x0 + 5) d_C_tellChoice_35 l_C_30 k0 rfl rfl rfl rfl ?_
  refine kJ_iload_n 39 2 d_C_tellChoice_38 rfl rfl rfl ?_
  obtain ⟨hg1, hf⟩ := kG_some hf
  refine kM_aald 40 12 5 5 (x0 + 10 + 5 * kx x2) d_C_tellChoice_39 (kk_0_9 k0) rfl (by decide) (Or.inl rfl) hg1 (by simp only [Nat.add_assoc, kx]; try omega) rfl ?_
  refine kM_callv 43 m_I_isPending [] [] d_C_tellChoice_40 cl_C_127 ⟨w_502, w_19⟩ (kC_item k0 (kIn_lt hg1)) ⟨rfl, by decide⟩ ⟨_, _, rfl⟩ rfl rfl (Nat.le_of_ble_eq_true rfl) ⟨Nat.le_of_ble_eq_true rfl, Nat.le_of_ble_eq_true rfl⟩ ⟨rfl, rfl⟩ ⟨Nat.zero_le _, Nat.zero_le _⟩ (j_I_isPending hro (kC_item k0 (kIn_lt hg1)) rfl) rfl ?_
  refine kJ_if_ne 46 49 d_C_tellChoice_43 rfl rfl (fun hc => ?_) (fun hc => ?_)
  · have hf := kIf_t hf (kB2_1 hc)
    refine kJ_aload_n 50 0 d_C_tellChoice_49 rfl rfl rfl rfl ?_
    refine kM_getR 53 4 (x0 + 5) d_C_tellChoice_50 l_C_30 k0 rfl rfl rfl rfl ?_
    refine kJ_iload_n 54 2 d_C_tellChoice_53 rfl rfl rfl ?_
    obtain ⟨hg2, hf⟩ := kG_some hf
    refine kM_aald 55 12 5 5 (x0 + 10 + 5 * kx x2) d_C_tellChoice_54 (kk_0_9 k0) rfl (by decide) (Or.inl rfl) hg2 (by simp only [Nat.add_assoc, kx]; try omega) rfl ?_
    refine kM_getR 58 2 ((x0 + 10 + 5 * kx x2) + 3) d_C_tellChoice_55 l_C_131 (kC_item k0 (kIn_lt hg2)) rfl rfl rfl rfl ?_
    refine kJ_iload_n 59 1 d_C_tellChoice_58 rfl rfl rfl ?_
    obtain ⟨hg, hf⟩ := kG_some hf
    refine kM_iald 60 12 d_C_tellChoice_59 (kk_3_8 (kC_item k0 (kIn_lt hg2))) rfl hg rfl ?_
    obtain ⟨v3, ev3, hf⟩ := kLet_e hf
    rw [← ev3]
    refine kJ_istore 62 [(4, .int v3), (0, .ref x0), (1, .int x1), (2, .int x2), (3, .int x3)] d_C_tellChoice_60 (Nat.le_of_ble_eq_true rfl) rfl rfl ?_
    refine kJ_aload_n 63 1 d_C_tellChoice_62 rfl rfl rfl rfl ?_
    refine kM_getR 66 4 (x0 + 5) d_C_tellChoice_63 l_C_30 k0 rfl rfl rfl rfl ?_
    refine kJ_iload_n 67 3 d_C_tellChoice_66 rfl rfl rfl ?_
    obtain ⟨hg4, hf⟩ := kG_some hf
    refine kM_aald 68 12 5 5 (x0 + 10 + 5 * kx x2) d_C_tellChoice_67 (kk_0_9 k0) rfl (by decide) (Or.inl rfl) hg4 (by simp only [Nat.add_assoc, kx]; try omega) rfl ?_
    refine kM_getR 71 2 ((x0 + 10 + 5 * kx x2) + 3) d_C_tellChoice_68 l_C_131 (kC_item k0 (kIn_lt hg4)) rfl rfl rfl rfl ?_
    refine kJ_iload_n 72 2 d_C_tellChoice_71 rfl rfl rfl ?_
    refine kJ_iload_n 73 4 d_C_tellChoice_72 rfl rfl rfl ?_
    obtain ⟨hg, hf⟩ := kG_some hf
    refine kM_iast 74 12 d_C_tellChoice_73 (kk_3_8 (kC_item k0 (kIn_lt hg4))) rfl hg rfl ?_
    obtain ⟨h5, eh5, hf⟩ := kLet_e hf
    rw [← eh5]
    refine kJ_iload 76 0 d_C_tellChoice_74 rfl rfl ?_
    cases hf
    exact kJ_iret d_C_tellChoice_76 rfl rfl (Nat.zero_le _) (Nat.zero_le _)
  · have hf := kIf_f hf (kB2_0 hc)
    refine kJ_bipush 48 (-5) d_C_tellChoice_46 kb_m5 rfl ?_
    cases hf
    exact kJ_iret d_C_tellChoice_48 rfl rfl (Nat.zero_le _) (Nat.zero_le _)
def f_C_tellChoice (h : kH) (x0 : Nat) (x1 : Int32) (x2 : Int32) (x3 : Int32) : Option (Int32 × kH) := if (f_C_hasMember h x0 x1) = true then (if (f_C_hasItem h x0 x2) = true then (if x3 = (-6) then (b_C_tellChoice_34 h x0 x1 x2 x3) else (if (f_P_isChoice x3) = true then (b_C_tellChoice_34 h x0 x1 x2 x3) else (some ((-2), h)))) else (some ((-1), h))) else (some ((-1), h))
theorem j_C_tellChoice {E : kE} {L : Nat} {xs : Nat → Int32} (hro : kRo E L xs) {h : kH} {x0 : Nat} {x1 : Int32} {x2 : Int32} {x3 : Int32} (k0 : kIs x0 0) {r : Int32} {h' : kH} (hf : f_C_tellChoice h x0 x1 x2 x3 = some (r, h')) : JM E m_C_tellChoice [.ref x0, .int x1, .int x2, .int x3] (mk h) (some r) (mk h') := by
  unfold f_C_tellChoice at hf
  refine JM.of pn_C (Nat.le_of_ble_eq_true rfl) ?_
  show kJ E m_C_tellChoice (some r) (mk h') 0 0 0 [(0, .ref x0), (1, .int x1), (2, .int x2), (3, .int x3)] [] (mk h)
  refine kJ_aload_n 1 0 d_C_tellChoice_0 rfl rfl rfl rfl ?_
  refine kJ_iload_n 2 1 d_C_tellChoice_1 rfl rfl rfl ?_
  refine kM_callv 5 m_C_hasMember [.int x1] [] d_C_tellChoice_2 cl_C_105 ⟨w_437, w_10⟩ k0 ⟨rfl, by decide⟩ ⟨_, _, rfl⟩ rfl rfl (Nat.le_of_ble_eq_true rfl) ⟨Nat.le_of_ble_eq_true rfl, Nat.le_of_ble_eq_true rfl⟩ ⟨rfl, rfl⟩ ⟨Nat.zero_le _, Nat.zero_le _⟩ (j_C_hasMember hro k0 rfl) rfl ?_
  refine kJ_if_eq 8 16 d_C_tellChoice_5 rfl rfl (fun hc => ?_) (fun hc => ?_)
  · have hf := kIf_f hf (kB2_0 hc)
    refine kJ_iconst 17 (-1) d_C_tellChoice_16 ki_m1 rfl ?_
    cases hf
    exact kJ_iret d_C_tellChoice_17 rfl rfl (Nat.zero_le _) (Nat.zero_le _)
  · have hf := kIf_t hf (kB2_1 hc)
    refine kJ_aload_n 9 0 d_C_tellChoice_8 rfl rfl rfl rfl ?_
    refine kJ_iload_n 10 2 d_C_tellChoice_9 rfl rfl rfl ?_
    refine kM_callv 13 m_C_hasItem [.int x2] [] d_C_tellChoice_10 cl_C_121 ⟨w_487, w_17⟩ k0 ⟨rfl, by decide⟩ ⟨_, _, rfl⟩ rfl rfl (Nat.le_of_ble_eq_true rfl) ⟨Nat.le_of_ble_eq_true rfl, Nat.le_of_ble_eq_true rfl⟩ ⟨rfl, rfl⟩ ⟨Nat.zero_le _, Nat.zero_le _⟩ (j_C_hasItem hro k0 rfl) rfl ?_
    refine kJ_if_ne 16 18 d_C_tellChoice_13 rfl rfl (fun hc => ?_) (fun hc => ?_)
    · have hf := kIf_t hf (kB2_1 hc)
      refine kJ_iload_n 19 3 d_C_tellChoice_18 rfl rfl rfl ?_
      refine kJ_bipush 21 (-6) d_C_tellChoice_19 kb_m6 rfl ?_
      refine kJ_icmp_eq 24 34 d_C_tellChoice_21 rfl rfl (fun hc => ?_) (fun hc => ?_)
      · have hf := kIf_t hf hc
        refine kJ_sub [0, 1, 2, 3] rfl ?_
        exact c_C_tellChoice_34 hro k0 hf
      · have hf := kIf_f hf hc
        refine kJ_iload_n 25 3 d_C_tellChoice_24 rfl rfl rfl ?_
        refine kM_calls 28 m_P_isChoice [.int x3] [] d_C_tellChoice_25 cl_C_124 w_498 rfl rfl (Nat.le_of_ble_eq_true rfl) ⟨Nat.le_of_ble_eq_true rfl, Nat.le_of_ble_eq_true rfl⟩ ⟨rfl, rfl⟩ ⟨Nat.zero_le _, Nat.zero_le _⟩ (j_P_isChoice hro rfl) rfl ?_
        refine kJ_if_ne 31 34 d_C_tellChoice_28 rfl rfl (fun hc => ?_) (fun hc => ?_)
        · have hf := kIf_t hf (kB2_1 hc)
          refine kJ_sub [0, 1, 2, 3] rfl ?_
          exact c_C_tellChoice_34 hro k0 hf
        · have hf := kIf_f hf (kB2_0 hc)
          refine kJ_bipush 33 (-2) d_C_tellChoice_31 kb_m2 rfl ?_
          cases hf
          exact kJ_iret d_C_tellChoice_33 rfl rfl (Nat.zero_le _) (Nat.zero_le _)
    · have hf := kIf_f hf (kB2_0 hc)
      refine kJ_iconst 17 (-1) d_C_tellChoice_16 ki_m1 rfl ?_
      cases hf
      exact kJ_iret d_C_tellChoice_17 rfl rfl (Nat.zero_le _) (Nat.zero_le _)
def f_P_tell (h : kH) (x1 : Int32) (x2 : Int32) (x3 : Int32) : Option (Int32 × kH) := kBi (f_Y_note h 145 1) fun h1 => kBd (f_C_tellChoice h1 1 x1 x2 x3) fun v3 h2 => kBd (f_Y_settle h2 145 v3) fun v5 h4 => some (v5, h4)
theorem j_P_tell {E : kE} {L : Nat} {xs : Nat → Int32} (hro : kRo E L xs) {h : kH} {x1 : Int32} {x2 : Int32} {x3 : Int32} {r : Int32} {h' : kH} (hf : f_P_tell h x1 x2 x3 = some (r, h')) : JM E m_P_tell [.ref 0, .int x1, .int x2, .int x3] (mk h) (some r) (mk h') := by
  unfold f_P_tell at hf
  refine JM.of pn_P (Nat.le_of_ble_eq_true rfl) ?_
  show kJ E m_P_tell (some r) (mk h') 0 0 0 [(0, .ref 0), (1, .int x1), (2, .int x2), (3, .int x3)] [] (mk h)
  refine kJ_aload_n 1 0 d_P_tell_0 rfl rfl rfl rfl ?_
  refine kM_getR 4 144 145 d_P_tell_1 l_P_29 kp_0 rfl rfl rfl rfl ?_
  refine kJ_aload_n 5 0 d_P_tell_4 rfl rfl rfl rfl ?_
  refine kM_getR 8 0 1 d_P_tell_5 l_P_10 kp_0 rfl rfl rfl rfl ?_
  obtain ⟨h1, eh1, hf⟩ := kBi_some hf
  refine kM_callv 11 m_Y_note [.ref 1] [] d_P_tell_8 cl_P_55 ⟨w_372, w_0⟩ kp_145 ⟨rfl, by decide⟩ ⟨_, _, rfl⟩ rfl rfl (Nat.le_of_ble_eq_true rfl) ⟨Nat.le_of_ble_eq_true rfl, Nat.le_of_ble_eq_true rfl⟩ ⟨rfl, rfl⟩ ⟨Nat.zero_le _, Nat.zero_le _⟩ (j_Y_note hro kp_145 kp_1 eh1) rfl ?_
  refine kJ_aload_n 12 0 d_P_tell_11 rfl rfl rfl rfl ?_
  refine kM_getR 15 144 145 d_P_tell_12 l_P_29 kp_0 rfl rfl rfl rfl ?_
  refine kJ_aload_n 16 0 d_P_tell_15 rfl rfl rfl rfl ?_
  refine kM_getR 19 0 1 d_P_tell_16 l_P_10 kp_0 rfl rfl rfl rfl ?_
  refine kJ_iload_n 20 1 d_P_tell_19 rfl rfl rfl ?_
  refine kJ_iload_n 21 2 d_P_tell_20 rfl rfl rfl ?_
  refine kJ_iload_n 22 3 d_P_tell_21 rfl rfl rfl ?_
  obtain ⟨v3, h2, ev3, hf⟩ := kBd_some hf
  refine kM_callv 25 m_C_tellChoice [.int x1, .int x2, .int x3] [.ref 145] d_P_tell_22 cl_P_89 ⟨w_495, w_18⟩ kp_1 ⟨rfl, by decide⟩ ⟨_, _, rfl⟩ rfl rfl (Nat.le_of_ble_eq_true rfl) ⟨Nat.le_of_ble_eq_true rfl, Nat.le_of_ble_eq_true rfl⟩ ⟨rfl, rfl⟩ ⟨Nat.zero_le _, Nat.zero_le _⟩ (j_C_tellChoice hro kp_1 ev3) rfl ?_
  obtain ⟨v5, h4, ev5, hf⟩ := kBd_some hf
  refine kM_callv 28 m_Y_settle [.int v3] [] d_P_tell_25 cl_P_63 ⟨w_396, w_5⟩ kp_145 ⟨rfl, by decide⟩ ⟨_, _, rfl⟩ rfl rfl (Nat.le_of_ble_eq_true rfl) ⟨Nat.le_of_ble_eq_true rfl, Nat.le_of_ble_eq_true rfl⟩ ⟨rfl, rfl⟩ ⟨Nat.zero_le _, Nat.zero_le _⟩ (j_Y_settle hro kp_145 ev5) rfl ?_
  cases hf
  exact kJ_iret d_P_tell_28 rfl rfl (Nat.zero_le _) (Nat.zero_le _)
def f_C_isRecused (h : kH) (x0 : Nat) (x1 : Int32) (x2 : Nat) : Option Bool := kG x1 12 (if (((h x2 1) >>> ((h (x0 + 3) (kx x1)) &&& 31)) &&& 1) = 1 then (some true) else (if (((h x2 3) >>> (x1 &&& 31)) &&& 1) = 1 then (some true) else (some false)))
theorem j_C_isRecused {E : kE} {L : Nat} {xs : Nat → Int32} (hro : kRo E L xs) {h : kH} {x0 : Nat} {x1 : Int32} {x2 : Nat} (k0 : kIs x0 0) (k2 : kIs x2 3) {r : Bool} (hf : f_C_isRecused h x0 x1 x2 = some r) : JM E m_C_isRecused [.ref x0, .int x1, .ref x2] (mk h) (some (kB2 r)) (mk h) := by
  unfold f_C_isRecused at hf
  refine JM.of pn_C (Nat.le_of_ble_eq_true rfl) ?_
  show kJ E m_C_isRecused (some (kB2 r)) (mk h) 0 0 0 [(0, .ref x0), (1, .int x1), (2, .ref x2)] [] (mk h)
  refine kJ_aload_n 1 2 d_C_isRecused_0 rfl rfl rfl rfl ?_
  refine kM_getI 4 d_C_isRecused_1 l_C_70 k2 rfl rfl rfl ?_
  refine kJ_aload_n 5 0 d_C_isRecused_4 rfl rfl rfl rfl ?_
  refine kM_getR 8 2 (x0 + 3) d_C_isRecused_5 l_C_22 k0 rfl rfl rfl rfl ?_
  refine kJ_iload_n 9 1 d_C_isRecused_8 rfl rfl rfl ?_
  obtain ⟨hg, hf⟩ := kG_some hf
  refine kM_iald 10 12 d_C_isRecused_9 (kk_0_7 k0) rfl hg rfl ?_
  refine kJ_ishr 11 d_C_isRecused_10 rfl ?_
  refine kJ_iconst 12 1 d_C_isRecused_11 ki_1 rfl ?_
  refine kJ_iand 13 d_C_isRecused_12 rfl ?_
  refine kJ_iconst 14 1 d_C_isRecused_13 ki_1 rfl ?_
  refine kJ_icmp_eq 17 29 d_C_isRecused_14 rfl rfl (fun hc => ?_) (fun hc => ?_)
  · have hf := kIf_t hf hc
    refine kJ_iconst 30 1 d_C_isRecused_29 ki_1 rfl ?_
    refine kJ_goto 34 d_C_isRecused_30 rfl ?_
    cases hf
    exact kJ_iret d_C_isRecused_34 rfl (kB2_z _) (Nat.zero_le _) (Nat.zero_le _)
  · have hf := kIf_f hf hc
    refine kJ_aload_n 18 2 d_C_isRecused_17 rfl rfl rfl rfl ?_
    refine kM_getI 21 d_C_isRecused_18 l_C_73 k2 rfl rfl rfl ?_
    refine kJ_iload_n 22 1 d_C_isRecused_21 rfl rfl rfl ?_
    refine kJ_ishr 23 d_C_isRecused_22 rfl ?_
    refine kJ_iconst 24 1 d_C_isRecused_23 ki_1 rfl ?_
    refine kJ_iand 25 d_C_isRecused_24 rfl ?_
    refine kJ_iconst 26 1 d_C_isRecused_25 ki_1 rfl ?_
    refine kJ_icmp_ne 29 33 d_C_isRecused_26 rfl rfl (fun hc => ?_) (fun hc => ?_)
    · have hf := kIf_f hf hc
      refine kJ_iconst 34 0 d_C_isRecused_33 ki_0 rfl ?_
      cases hf
      exact kJ_iret d_C_isRecused_34 rfl (kB2_z _) (Nat.zero_le _) (Nat.zero_le _)
    · have hf := kIf_t hf hc
      refine kJ_iconst 30 1 d_C_isRecused_29 ki_1 rfl ?_
      refine kJ_goto 34 d_C_isRecused_30 rfl ?_
      cases hf
      exact kJ_iret d_C_isRecused_34 rfl (kB2_z _) (Nat.zero_le _) (Nat.zero_le _)
def b_C_recuseByHand_30 (h : kH) (x0 : Nat) (x1 : Int32) (x2 : Int32) (x3 : Int32) : Option (Int32 × kH) := kG x2 12 (if (f_I_isPending h (x0 + 10 + 5 * kx x2)) = true then (kLet (hset h (x0 + 10 + 5 * kx x2) 3 (((h (x0 + 10 + 5 * kx x2) 3) &&& ((1 <<< (x1 &&& 31)) ^^^ (-1))) ||| (x3 <<< (x1 &&& 31)))) fun h2 => kBi (f_C_isRecused h2 x0 x1 (x0 + 10 + 5 * kx x2)) fun v3 => if v3 = true then (some (1, h2)) else (some (0, h2))) else (some ((-5), h)))
theorem c_C_recuseByHand_30 {E : kE} {L : Nat} {xs : Nat → Int32} (hro : kRo E L xs) {h : kH} {x0 : Nat} {x1 : Int32} {x2 : Int32} {x3 : Int32} (k0 : kIs x0 0) {r : Int32} {h' : kH} (hf : b_C_recuseByHand_30 h x0 x1 x2 x3 = some (r, h')) : kJ E m_C_recuseByHand (some r) (mk h') 0 0 30 [(0, .ref x0), (1, .int x1), (2, .int x2), (3, .int x3)] [] (mk h) := by
  unfold b_C_recuseByHand_30 at hf
  refine kJ_aload_n 31 0 d_C_recuseByHand_30 rfl rfl rfl rfl ?_
  refine kM_getR 34 4 (x0 + 5) d_C_recuseByHand_31 l_C_30 k0 rfl rfl rfl rfl ?_
  refine kJ_iload_n 35 2 d_C_recuseByHand_34 rfl rfl rfl ?_
  obtain ⟨hg1, hf⟩ := kG_some hf
  refine kM_aald 36 12 5 5 (x0 + 10 + 5 * kx x2) d_C_recuseByHand_35 (kk_0_9 k0) rfl (by decide) (Or.inl rfl) hg1 (by simp only [Nat.add_assoc, kx]; try omega) rfl ?_
  refine kJ_astore 38 [(4, .ref (x0 + 10 + 5 * kx x2)), (0, .ref x0), (1, .int x1), (2, .int x2), (3, .int x3)] d_C_recuseByHand_36 (Nat.le_of_ble_eq_true rfl) rfl rfl rfl ?_
  refine kJ_aload 40 0 d_C_recuseByHand_38 rfl rfl rfl ?_
  refine kM_callv 43 m_I_isPending [] [] d_C_recuseByHand_40 cl_C_127 ⟨w_502, w_19⟩ (kC_item k0 (kIn_lt hg1)) ⟨rfl, by decide⟩ ⟨_, _, rfl⟩ rfl rfl (Nat.le_of_ble_eq_true rfl) ⟨Nat.le_of_ble_eq_true rfl, Nat.le_of_ble_eq_true rfl⟩ ⟨rfl, rfl⟩ ⟨Nat.zero_le _, Nat.zero_le _⟩ (j_I_isPending hro (kC_item k0 (kIn_lt hg1)) rfl) rfl ?_
  refine kJ_if_ne 46 49 d_C_recuseByHand_43 rfl rfl (fun hc => ?_) (fun hc => ?_)
  · have hf := kIf_t hf (kB2_1 hc)
    refine kJ_aload 51 0 d_C_recuseByHand_49 rfl rfl rfl ?_
    refine kJ_aload 53 0 d_C_recuseByHand_51 rfl rfl rfl ?_
    refine kM_getI 56 d_C_recuseByHand_53 l_C_73 (kC_item k0 (kIn_lt hg1)) rfl rfl rfl ?_
    refine kJ_iconst 57 1 d_C_recuseByHand_56 ki_1 rfl ?_
    refine kJ_iload_n 58 2 d_C_recuseByHand_57 rfl rfl rfl ?_
    refine kJ_ishl 59 d_C_recuseByHand_58 rfl ?_
    refine kJ_iconst 60 (-1) d_C_recuseByHand_59 ki_m1 rfl ?_
    refine kJ_ixor 61 d_C_recuseByHand_60 rfl ?_
    refine kJ_iand 62 d_C_recuseByHand_61 rfl ?_
    refine kJ_iload_n 63 4 d_C_recuseByHand_62 rfl rfl rfl ?_
    refine kJ_iload_n 64 2 d_C_recuseByHand_63 rfl rfl rfl ?_
    refine kJ_ishl 65 d_C_recuseByHand_64 rfl ?_
    refine kJ_ior 66 d_C_recuseByHand_65 rfl ?_
    refine kM_put 69 d_C_recuseByHand_66 l_C_73 (kC_item k0 (kIn_lt hg1)) rfl rfl (kFit_int _) rfl ?_
    obtain ⟨h2, eh2, hf⟩ := kLet_e hf
    rw [← eh2]
    refine kJ_aload_n 70 1 d_C_recuseByHand_69 rfl rfl rfl rfl ?_
    refine kJ_iload_n 71 2 d_C_recuseByHand_70 rfl rfl rfl ?_
    refine kJ_aload 73 0 d_C_recuseByHand_71 rfl rfl rfl ?_
    obtain ⟨v3, ev3, hf⟩ := kBi_some hf
    refine kM_callv 76 m_C_isRecused [.int x1, .ref (x0 + 10 + 5 * kx x2)] [] d_C_recuseByHand_73 cl_C_80 ⟨w_514, w_21⟩ k0 ⟨rfl, by decide⟩ ⟨_, _, rfl⟩ rfl rfl (Nat.le_of_ble_eq_true rfl) ⟨Nat.le_of_ble_eq_true rfl, Nat.le_of_ble_eq_true rfl⟩ ⟨rfl, rfl⟩ ⟨Nat.zero_le _, Nat.zero_le _⟩ (j_C_isRecused hro k0 (kC_item k0 (kIn_lt hg1)) ev3) rfl ?_
    refine kJ_if_eq 79 83 d_C_recuseByHand_76 rfl rfl (fun hc => ?_) (fun hc => ?_)
    · have hf := kIf_f hf (kB2_0 hc)
      refine kJ_iconst 84 0 d_C_recuseByHand_83 ki_0 rfl ?_
      cases hf
      exact kJ_iret d_C_recuseByHand_84 rfl rfl (Nat.zero_le _) (Nat.zero_le _)
    · have hf := kIf_t hf (kB2_1 hc)
      refine kJ_iconst 80 1 d_C_recuseByHand_79 ki_1 rfl ?_
      refine kJ_goto 84 d_C_recuseByHand_80 rfl ?_
      cases hf
      exact kJ_iret d_C_recuseByHand_84 rfl rfl (Nat.zero_le _) (Nat.zero_le _)
  · have hf := kIf_f hf (kB2_0 hc)
    refine kJ_bipush 48 (-5) d_C_recuseByHand_46 kb_m5 rfl ?_
    cases hf
    exact kJ_iret d_C_recuseByHand_48 rfl rfl (Nat.zero_le _) (Nat.zero_le _)
def f_C_recuseByHand (h : kH) (x0 : Nat) (x1 : Int32) (x2 : Int32) (x3 : Int32) : Option (Int32 × kH) := if (f_C_hasMember h x0 x1) = true then (if (f_C_hasItem h x0 x2) = true then (if x3 = 0 then (b_C_recuseByHand_30 h x0 x1 x2 x3) else (if x3 = 1 then (b_C_recuseByHand_30 h x0 x1 x2 x3) else (some ((-2), h)))) else (some ((-1), h))) else (some ((-1), h))
theorem j_C_recuseByHand {E : kE} {L : Nat} {xs : Nat → Int32} (hro : kRo E L xs) {h : kH} {x0 : Nat} {x1 : Int32} {x2 : Int32} {x3 : Int32} (k0 : kIs x0 0) {r : Int32} {h' : kH} (hf : f_C_recuseByHand h x0 x1 x2 x3 = some (r, h')) : JM E m_C_recuseByHand [.ref x0, .int x1, .int x2, .int x3] (mk h) (some r) (mk h') := by
  unfold f_C_recuseByHand at hf
  refine JM.of pn_C (Nat.le_of_ble_eq_true rfl) ?_
  show kJ E m_C_recuseByHand (some r) (mk h') 0 0 0 [(0, .ref x0), (1, .int x1), (2, .int x2), (3, .int x3)] [] (mk h)
  refine kJ_aload_n 1 0 d_C_recuseByHand_0 rfl rfl rfl rfl ?_
  refine kJ_iload_n 2 1 d_C_recuseByHand_1 rfl rfl rfl ?_
  refine kM_callv 5 m_C_hasMember [.int x1] [] d_C_recuseByHand_2 cl_C_105 ⟨w_437, w_10⟩ k0 ⟨rfl, by decide⟩ ⟨_, _, rfl⟩ rfl rfl (Nat.le_of_ble_eq_true rfl) ⟨Nat.le_of_ble_eq_true rfl, Nat.le_of_ble_eq_true rfl⟩ ⟨rfl, rfl⟩ ⟨Nat.zero_le _, Nat.zero_le _⟩ (j_C_hasMember hro k0 rfl) rfl ?_
  refine kJ_if_eq 8 16 d_C_recuseByHand_5 rfl rfl (fun hc => ?_) (fun hc => ?_)
  · have hf := kIf_f hf (kB2_0 hc)
    refine kJ_iconst 17 (-1) d_C_recuseByHand_16 ki_m1 rfl ?_
    cases hf
    exact kJ_iret d_C_recuseByHand_17 rfl rfl (Nat.zero_le _) (Nat.zero_le _)
  · have hf := kIf_t hf (kB2_1 hc)
    refine kJ_aload_n 9 0 d_C_recuseByHand_8 rfl rfl rfl rfl ?_
    refine kJ_iload_n 10 2 d_C_recuseByHand_9 rfl rfl rfl ?_
    refine kM_callv 13 m_C_hasItem [.int x2] [] d_C_recuseByHand_10 cl_C_121 ⟨w_487, w_17⟩ k0 ⟨rfl, by decide⟩ ⟨_, _, rfl⟩ rfl rfl (Nat.le_of_ble_eq_true rfl) ⟨Nat.le_of_ble_eq_true rfl, Nat.le_of_ble_eq_true rfl⟩ ⟨rfl, rfl⟩ ⟨Nat.zero_le _, Nat.zero_le _⟩ (j_C_hasItem hro k0 rfl) rfl ?_
    refine kJ_if_ne 16 18 d_C_recuseByHand_13 rfl rfl (fun hc => ?_) (fun hc => ?_)
    · have hf := kIf_t hf (kB2_1 hc)
      refine kJ_iload_n 19 3 d_C_recuseByHand_18 rfl rfl rfl ?_
      refine kJ_if_eq 22 30 d_C_recuseByHand_19 rfl rfl (fun hc => ?_) (fun hc => ?_)
      · have hf := kIf_t hf hc
        refine kJ_sub [0, 1, 2, 3] rfl ?_
        exact c_C_recuseByHand_30 hro k0 hf
      · have hf := kIf_f hf hc
        refine kJ_iload_n 23 3 d_C_recuseByHand_22 rfl rfl rfl ?_
        refine kJ_iconst 24 1 d_C_recuseByHand_23 ki_1 rfl ?_
        refine kJ_icmp_eq 27 30 d_C_recuseByHand_24 rfl rfl (fun hc => ?_) (fun hc => ?_)
        · have hf := kIf_t hf hc
          refine kJ_sub [0, 1, 2, 3] rfl ?_
          exact c_C_recuseByHand_30 hro k0 hf
        · have hf := kIf_f hf hc
          refine kJ_bipush 29 (-2) d_C_recuseByHand_27 kb_m2 rfl ?_
          cases hf
          exact kJ_iret d_C_recuseByHand_29 rfl rfl (Nat.zero_le _) (Nat.zero_le _)
    · have hf := kIf_f hf (kB2_0 hc)
      refine kJ_iconst 17 (-1) d_C_recuseByHand_16 ki_m1 rfl ?_
      cases hf
      exact kJ_iret d_C_recuseByHand_17 rfl rfl (Nat.zero_le _) (Nat.zero_le _)
def f_P_recuse (h : kH) (x1 : Int32) (x2 : Int32) (x3 : Int32) : Option (Int32 × kH) := kBi (f_Y_note h 145 1) fun h1 => kBd (f_C_recuseByHand h1 1 x1 x2 x3) fun v3 h2 => kBd (f_Y_settle h2 145 v3) fun v5 h4 => some (v5, h4)
theorem j_P_recuse {E : kE} {L : Nat} {xs : Nat → Int32} (hro : kRo E L xs) {h : kH} {x1 : Int32} {x2 : Int32} {x3 : Int32} {r : Int32} {h' : kH} (hf : f_P_recuse h x1 x2 x3 = some (r, h')) : JM E m_P_recuse [.ref 0, .int x1, .int x2, .int x3] (mk h) (some r) (mk h') := by
  unfold f_P_recuse at hf
  refine JM.of pn_P (Nat.le_of_ble_eq_true rfl) ?_
  show kJ E m_P_recuse (some r) (mk h') 0 0 0 [(0, .ref 0), (1, .int x1), (2, .int x2), (3, .int x3)] [] (mk h)
  refine kJ_aload_n 1 0 d_P_recuse_0 rfl rfl rfl rfl ?_
  refine kM_getR 4 144 145 d_P_recuse_1 l_P_29 kp_0 rfl rfl rfl rfl ?_
  refine kJ_aload_n 5 0 d_P_recuse_4 rfl rfl rfl rfl ?_
  refine kM_getR 8 0 1 d_P_recuse_5 l_P_10 kp_0 rfl rfl rfl rfl ?_
  obtain ⟨h1, eh1, hf⟩ := kBi_some hf
  refine kM_callv 11 m_Y_note [.ref 1] [] d_P_recuse_8 cl_P_55 ⟨w_372, w_0⟩ kp_145 ⟨rfl, by decide⟩ ⟨_, _, rfl⟩ rfl rfl (Nat.le_of_ble_eq_true rfl) ⟨Nat.le_of_ble_eq_true rfl, Nat.le_of_ble_eq_true rfl⟩ ⟨rfl, rfl⟩ ⟨Nat.zero_le _, Nat.zero_le _⟩ (j_Y_note hro kp_145 kp_1 eh1) rfl ?_
  refine kJ_aload_n 12 0 d_P_recuse_11 rfl rfl rfl rfl ?_
  refine kM_getR 15 144 145 d_P_recuse_12 l_P_29 kp_0 rfl rfl rfl rfl ?_
  refine kJ_aload_n 16 0 d_P_recuse_15 rfl rfl rfl rfl ?_
  refine kM_getR 19 0 1 d_P_recuse_16 l_P_10 kp_0 rfl rfl rfl rfl ?_
  refine kJ_iload_n 20 1 d_P_recuse_19 rfl rfl rfl ?_
  refine kJ_iload_n 21 2 d_P_recuse_20 rfl rfl rfl ?_
  refine kJ_iload_n 22 3 d_P_recuse_21 rfl rfl rfl ?_
  obtain ⟨v3, h2, ev3, hf⟩ := kBd_some hf
  refine kM_callv 25 m_C_recuseByHand [.int x1, .int x2, .int x3] [.ref 145] d_P_recuse_22 cl_P_92 ⟨w_510, w_20⟩ kp_1 ⟨rfl, by decide⟩ ⟨_, _, rfl⟩ rfl rfl (Nat.le_of_ble_eq_true rfl) ⟨Nat.le_of_ble_eq_true rfl, Nat.le_of_ble_eq_true rfl⟩ ⟨rfl, rfl⟩ ⟨Nat.zero_le _, Nat.zero_le _⟩ (j_C_recuseByHand hro kp_1 ev3) rfl ?_
  obtain ⟨v5, h4, ev5, hf⟩ := kBd_some hf
  refine kM_callv 28 m_Y_settle [.int v3] [] d_P_recuse_25 cl_P_63 ⟨w_396, w_5⟩ kp_145 ⟨rfl, by decide⟩ ⟨_, _, rfl⟩ rfl rfl (Nat.le_of_ble_eq_true rfl) ⟨Nat.le_of_ble_eq_true rfl, Nat.le_of_ble_eq_true rfl⟩ ⟨rfl, rfl⟩ ⟨Nat.zero_le _, Nat.zero_le _⟩ (j_Y_settle hro kp_145 ev5) rfl ?_
  cases hf
  exact kJ_iret d_P_recuse_28 rfl rfl (Nat.zero_le _) (Nat.zero_le _)
def f_C_holderFor (h : kH) (x0 : Nat) (x1 : Int32) (x2 : Nat) : Option Int32 := kG x1 12 (if (h (x2 + 4) (kx x1)) = (-6) then (kG x1 12 (some (h (x0 + 4) (kx x1)))) else (kG x1 12 (some (h (x2 + 4) (kx x1)))))
theorem j_C_holderFor {E : kE} {L : Nat} {xs : Nat → Int32} (hro : kRo E L xs) {h : kH} {x0 : Nat} {x1 : Int32} {x2 : Nat} (k0 : kIs x0 0) (k2 : kIs x2 3) {r : Int32} (hf : f_C_holderFor h x0 x1 x2 = some r) : JM E m_C_holderFor [.ref x0, .int x1, .ref x2] (mk h) (some r) (mk h) := by
  unfold f_C_holderFor at hf
  refine JM.of pn_C (Nat.le_of_ble_eq_true rfl) ?_
  show kJ E m_C_holderFor (some r) (mk h) 0 0 0 [(0, .ref x0), (1, .int x1), (2, .ref x2)] [] (mk h)
  refine kJ_aload_n 1 2 d_C_holderFor_0 rfl rfl rfl rfl ?_
  refine kM_getR 4 3 (x2 + 4) d_C_holderFor_1 l_C_84 k2 rfl rfl rfl rfl ?_
  refine kJ_iload_n 5 1 d_C_holderFor_4 rfl rfl rfl ?_
  obtain ⟨hg, hf⟩ := kG_some hf
  refine kM_iald 6 12 d_C_holderFor_5 (kk_3_9 k2) rfl hg rfl ?_
  refine kJ_bipush 8 (-6) d_C_holderFor_6 kb_m6 rfl ?_
  refine kJ_icmp_eq 11 20 d_C_holderFor_8 rfl rfl (fun hc => ?_) (fun hc => ?_)
  · have hf := kIf_t hf hc
    refine kJ_aload_n 21 0 d_C_holderFor_20 rfl rfl rfl rfl ?_
    refine kM_getR 24 3 (x0 + 4) d_C_holderFor_21 l_C_25 k0 rfl rfl rfl rfl ?_
    refine kJ_iload_n 25 1 d_C_holderFor_24 rfl rfl rfl ?_
    obtain ⟨hg, hf⟩ := kG_some hf
    refine kM_iald 26 12 d_C_holderFor_25 (kk_0_8 k0) rfl hg rfl ?_
    cases hf
    exact kJ_iret d_C_holderFor_26 rfl rfl (Nat.zero_le _) (Nat.zero_le _)
  · have hf := kIf_f hf hc
    refine kJ_aload_n 12 2 d_C_holderFor_11 rfl rfl rfl rfl ?_
    refine kM_getR 15 3 (x2 + 4) d_C_holderFor_12 l_C_84 k2 rfl rfl rfl rfl ?_
    refine kJ_iload_n 16 1 d_C_holderFor_15 rfl rfl rfl ?_
    obtain ⟨hg, hf⟩ := kG_some hf
    refine kM_iald 17 12 d_C_holderFor_16 (kk_3_9 k2) rfl hg rfl ?_
    refine kJ_goto 26 d_C_holderFor_17 rfl ?_
    cases hf
    exact kJ_iret d_C_holderFor_26 rfl rfl (Nat.zero_le _) (Nat.zero_le _)
def b_H_endOfWay_23 (h : kH) (x1 : Nat) (x2 : Nat) (x4 : Int32) : Nat → Int32 → Int32 → Option Int32
  | 0, _, _ => none
  | n + 1, x5, x6 => (fun rec23 => if x4 ≤ x6 then (some (-6)) else (kBi (f_C_holderFor h x1 x5 x2) fun v1 => if v1 = (-6) then (some (-6)) else (if (f_C_isPresent h x1 v1) = true then (kBi (f_C_isRecused h x1 v1 x2) fun v2 => if v2 = true then (some (-6)) else (some v1)) else (rec23 v1 (x6 + 1))))) (fun x5' x6' => b_H_endOfWay_23 h x1 x2 x4 n x5' x6')
theorem c_H_endOfWay_23 {E : kE} {L : Nat} {xs : Nat → Int32} (hro : kRo E L xs) {h : kH} {x1 : Nat} {x2 : Nat} {x4 : Int32} (k1 : kIs x1 0) (k2 : kIs x2 3) {r : Int32} : ∀ (n : Nat) (x5 : Int32) (x6 : Int32), b_H_endOfWay_23 h x1 x2 x4 n x5 x6 = some r → kJ E m_H_endOfWay (some r) (mk h) 0 0 23 [(1, .ref x1), (2, .ref x2), (4, .int x4), (5, .int x5), (6, .int x6)] [] (mk h) := by
  intro n
  induction n with
  | zero =>
    intro x5 x6 hf
    have hf : (none : Option Int32) = some r := hf
    cases hf
  | succ n hrec23 =>
    intro x5 x6 hf
    rw [b_H_endOfWay_23] at hf
    dsimp only at hf
    refine kJ_iload 25 4 d_H_endOfWay_23 rfl rfl ?_
    refine kJ_iload 27 2 d_H_endOfWay_25 rfl rfl ?_
    refine kJ_icmp_ge 30 82 d_H_endOfWay_27 rfl rfl (fun hc => ?_) (fun hc => ?_)
    · have hf := kIf_t hf hc
      refine kJ_bipush 84 (-6) d_H_endOfWay_82 kb_m6 rfl ?_
      cases hf
      exact kJ_iret d_H_endOfWay_84 rfl rfl (Nat.zero_le _) (Nat.zero_le _)
    · have hf := kIf_f hf hc
      refine kJ_aload_n 31 0 d_H_endOfWay_30 rfl rfl rfl rfl ?_
      refine kJ_iload 33 3 d_H_endOfWay_31 rfl rfl ?_
      refine kJ_aload_n 34 1 d_H_endOfWay_33 rfl rfl rfl rfl ?_
      obtain ⟨v1, ev1, hf⟩ := kBi_some hf
      refine kM_callv 37 m_C_holderFor [.int x5, .ref x2] [] d_H_endOfWay_34 cl_H_51 ⟨w_541, w_26⟩ k1 ⟨rfl, by decide⟩ ⟨_, _, rfl⟩ rfl rfl (Nat.le_of_ble_eq_true rfl) ⟨Nat.le_of_ble_eq_true rfl, Nat.le_of_ble_eq_true rfl⟩ ⟨rfl, rfl⟩ ⟨Nat.zero_le _, Nat.zero_le _⟩ (j_C_holderFor hro k1 k2 ev1) rfl ?_
      refine kJ_istore 39 [(5, .int v1), (1, .ref x1), (2, .ref x2), (4, .int x4), (6, .int x6)] d_H_endOfWay_37 (Nat.le_of_ble_eq_true rfl) rfl rfl ?_
      refine kJ_iload 41 0 d_H_endOfWay_39 rfl rfl ?_
      refine kJ_bipush 43 (-6) d_H_endOfWay_41 kb_m6 rfl ?_
      refine kJ_icmp_ne 46 49 d_H_endOfWay_43 rfl rfl (fun hc => ?_) (fun hc => ?_)
      · have hf := kIf_f hf hc
        refine kJ_aload_n 50 1 d_H_endOfWay_49 rfl rfl rfl rfl ?_
        refine kJ_iload 52 0 d_H_endOfWay_50 rfl rfl ?_
        refine kM_callv 55 m_C_isPresent [.int v1] [] d_H_endOfWay_52 cl_H_37 ⟨w_449, w_12⟩ k1 ⟨rfl, by decide⟩ ⟨_, _, rfl⟩ rfl rfl (Nat.le_of_ble_eq_true rfl) ⟨Nat.le_of_ble_eq_true rfl, Nat.le_of_ble_eq_true rfl⟩ ⟨rfl, rfl⟩ ⟨Nat.zero_le _, Nat.zero_le _⟩ (j_C_isPresent hro k1 rfl) rfl ?_
        refine kJ_if_eq 58 76 d_H_endOfWay_55 rfl rfl (fun hc => ?_) (fun hc => ?_)
        · have hf := kIf_f hf (kB2_0 hc)
          refine kJ_iinc 79 4 [(6, .int (x6 + 1)), (5, .int v1), (1, .ref x1), (2, .ref x2), (4, .int x4)] d_H_endOfWay_76 rfl ki_1 (Nat.le_of_ble_eq_true rfl) rfl rfl ?_
          refine kJ_goto 23 d_H_endOfWay_79 rfl ?_
          refine kJ_sub [2, 3, 4, 1, 0] rfl ?_
          exact hrec23 v1 (x6 + 1) hf
        · have hf := kIf_t hf (kB2_1 hc)
          refine kJ_aload_n 59 1 d_H_endOfWay_58 rfl rfl rfl rfl ?_
          refine kJ_iload 61 0 d_H_endOfWay_59 rfl rfl ?_
          refine kJ_aload_n 62 2 d_H_endOfWay_61 rfl rfl rfl rfl ?_
          obtain ⟨v2, ev2, hf⟩ := kBi_some hf
          refine kM_callv 65 m_C_isRecused [.int v1, .ref x2] [] d_H_endOfWay_62 cl_H_33 ⟨w_514, w_21⟩ k1 ⟨rfl, by decide⟩ ⟨_, _, rfl⟩ rfl rfl (Nat.le_of_ble_eq_true rfl) ⟨Nat.le_of_ble_eq_true rfl, Nat.le_of_ble_eq_true rfl⟩ ⟨rfl, rfl⟩ ⟨Nat.zero_le _, Nat.zero_le _⟩ (j_C_isRecused hro k1 k2 ev2) rfl ?_
          refine kJ_if_eq 68 73 d_H_endOfWay_65 rfl rfl (fun hc => ?_) (fun hc => ?_)
          · have hf := kIf_f hf (kB2_0 hc)
            refine kJ_iload 75 0 d_H_endOfWay_73 rfl rfl ?_
            cases hf
            exact kJ_iret d_H_endOfWay_75 rfl rfl (Nat.zero_le _) (Nat.zero_le _)
          · have hf := kIf_t hf (kB2_1 hc)
            refine kJ_bipush 70 (-6) d_H_endOfWay_68 kb_m6 rfl ?_
            refine kJ_goto 75 d_H_endOfWay_70 rfl ?_
            cases hf
            exact kJ_iret d_H_endOfWay_75 rfl rfl (Nat.zero_le _) (Nat.zero_le _)
      · have hf := kIf_t hf hc
        refine kJ_bipush 48 (-6) d_H_endOfWay_46 kb_m6 rfl ?_
        cases hf
        exact kJ_iret d_H_endOfWay_48 rfl rfl (Nat.zero_le _) (Nat.zero_le _)
def f_H_endOfWay (h : kH) (x0 : Nat) (x1 : Nat) (x2 : Nat) (x3 : Int32) : Option Int32 := kG 4 6 (if (h (x1 + 1) (kx 4)) = 0 then (b_H_endOfWay_23 h x1 x2 1 kFuel x3 0) else (b_H_endOfWay_23 h x1 x2 12 kFuel x3 0))
theorem j_H_endOfWay {E : kE} {L : Nat} {xs : Nat → Int32} (hro : kRo E L xs) {h : kH} {x0 : Nat} {x1 : Nat} {x2 : Nat} {x3 : Int32} (k0 : kIs x0 1) (k1 : kIs x1 0) (k2 : kIs x2 3) {r : Int32} (hf : f_H_endOfWay h x0 x1 x2 x3 = some r) : JM E m_H_endOfWay [.ref x0, .ref x1, .ref x2, .int x3] (mk h) (some r) (mk h) := by
  unfold f_H_endOfWay at hf
  refine JM.of pn_H (Nat.le_of_ble_eq_true rfl) ?_
  show kJ E m_H_endOfWay (some r) (mk h) 0 0 0 [(0, .ref x0), (1, .ref x1), (2, .ref x2), (3, .int x3)] [] (mk h)
  refine kJ_aload_n 1 1 d_H_endOfWay_0 rfl rfl rfl rfl ?_
  refine kM_getR 4 0 (x1 + 1) d_H_endOfWay_1 l_H_48 k1 rfl rfl rfl rfl ?_
  refine kJ_iconst 5 4 d_H_endOfWay_4 ki_4 rfl ?_
  obtain ⟨hg, hf⟩ := kG_some hf
  refine kM_iald 6 6 d_H_endOfWay_5 (kk_0_5 k1) rfl hg rfl ?_
  refine kJ_if_ne 9 13 d_H_endOfWay_6 rfl rfl (fun hc => ?_) (fun hc => ?_)
  · have hf := kIf_f hf hc
    refine kJ_bipush 15 12 d_H_endOfWay_13 kb_12 rfl ?_
    refine kJ_istore 17 [(4, .int 12), (0, .ref x0), (1, .ref x1), (2, .ref x2), (3, .int x3)] d_H_endOfWay_15 (Nat.le_of_ble_eq_true rfl) rfl rfl ?_
    refine kJ_iload_n 18 4 d_H_endOfWay_17 rfl rfl rfl ?_
    refine kJ_istore 20 [(5, .int x3), (4, .int 12), (0, .ref x0), (1, .ref x1), (2, .ref x2), (3, .int x3)] d_H_endOfWay_18 (Nat.le_of_ble_eq_true rfl) rfl rfl ?_
    refine kJ_iconst 21 0 d_H_endOfWay_20 ki_0 rfl ?_
    refine kJ_istore 23 [(6, .int 0), (5, .int x3), (4, .int 12), (0, .ref x0), (1, .ref x1), (2, .ref x2), (3, .int x3)] d_H_endOfWay_21 (Nat.le_of_ble_eq_true rfl) rfl rfl ?_
    refine kJ_sub [4, 5, 2, 1, 0] rfl ?_
    exact c_H_endOfWay_23 hro k1 k2 kFuel x3 0 hf
  · have hf := kIf_t hf hc
    refine kJ_iconst 10 1 d_H_endOfWay_9 ki_1 rfl ?_
    refine kJ_goto 15 d_H_endOfWay_10 rfl ?_
    refine kJ_istore 17 [(4, .int 1), (0, .ref x0), (1, .ref x1), (2, .ref x2), (3, .int x3)] d_H_endOfWay_15 (Nat.le_of_ble_eq_true rfl) rfl rfl ?_
    refine kJ_iload_n 18 4 d_H_endOfWay_17 rfl rfl rfl ?_
    refine kJ_istore 20 [(5, .int x3), (4, .int 1), (0, .ref x0), (1, .ref x1), (2, .ref x2), (3, .int x3)] d_H_endOfWay_18 (Nat.le_of_ble_eq_true rfl) rfl rfl ?_
    refine kJ_iconst 21 0 d_H_endOfWay_20 ki_0 rfl ?_
    refine kJ_istore 23 [(6, .int 0), (5, .int x3), (4, .int 1), (0, .ref x0), (1, .ref x1), (2, .ref x2), (3, .int x3)] d_H_endOfWay_21 (Nat.le_of_ble_eq_true rfl) rfl rfl ?_
    refine kJ_sub [4, 5, 2, 1, 0] rfl ?_
    exact c_H_endOfWay_23 hro k1 k2 kFuel x3 0 hf
def f_H_takenUp (h : kH) (x0 : Nat) (x1 : Nat) (x2 : Nat) (x3 : Int32) : Option (Int32 × kH) := kBi (f_H_endOfWay h x0 x1 x2 x3) fun v1 => if v1 = (-6) then (some ((-6), h)) else (kG v1 12 (kG 3 6 (if (h (x0 + 2) (kx v1)) < (h (x1 + 1) (kx 3)) then (kG v1 12 (kG v1 12 (kLet (hset h (x0 + 2) (kx v1) ((h (x0 + 2) (kx v1)) + 1)) fun h2 => some (v1, h2)))) else (some ((-6), h)))))
theorem j_H_takenUp {E : kE} {L : Nat} {xs : Nat → Int32} (hro : kRo E L xs) {h : kH} {x0 : Nat} {x1 : Nat} {x2 : Nat} {x3 : Int32} (k0 : kIs x0 1) (k1 : kIs x1 0) (k2 : kIs x2 3) {r : Int32} {h' : kH} (hf : f_H_takenUp h x0 x1 x2 x3 = some (r, h')) : JM E m_H_takenUp [.ref x0, .ref x1, .ref x2, .int x3] (mk h) (some r) (mk h') := by
  unfold f_H_takenUp at hf
  refine JM.of pn_H (Nat.le_of_ble_eq_true rfl) ?_
  show kJ E m_H_takenUp (some r) (mk h') 0 0 0 [(0, .ref x0), (1, .ref x1), (2, .ref x2), (3, .int x3)] [] (mk h)
  refine kJ_aload_n 1 0 d_H_takenUp_0 rfl rfl rfl rfl ?_
  refine kJ_aload_n 2 1 d_H_takenUp_1 rfl rfl rfl rfl ?_
  refine kJ_aload_n 3 2 d_H_takenUp_2 rfl rfl rfl rfl ?_
  refine kJ_iload_n 4 3 d_H_takenUp_3 rfl rfl rfl ?_
  obtain ⟨v1, ev1, hf⟩ := kBi_some hf
  refine kM_callv 7 m_H_endOfWay [.ref x1, .ref x2, .int x3] [] d_H_takenUp_4 cl_H_45 ⟨w_537, w_25⟩ k0 ⟨rfl, by decide⟩ ⟨_, _, rfl⟩ rfl rfl (Nat.le_of_ble_eq_true rfl) ⟨Nat.le_of_ble_eq_true rfl, Nat.le_of_ble_eq_true rfl⟩ ⟨rfl, rfl⟩ ⟨Nat.zero_le _, Nat.zero_le _⟩ (j_H_endOfWay hro k0 k1 k2 ev1) rfl ?_
  refine kJ_istore 9 [(4, .int v1), (0, .ref x0), (1, .ref x1), (2, .ref x2), (3, .int x3)] d_H_takenUp_7 (Nat.le_of_ble_eq_true rfl) rfl rfl ?_
  refine kJ_iload 11 0 d_H_takenUp_9 rfl rfl ?_
  refine kJ_bipush 13 (-6) d_H_takenUp_11 kb_m6 rfl ?_
  refine kJ_icmp_eq 16 32 d_H_takenUp_13 rfl rfl (fun hc => ?_) (fun hc => ?_)
  · have hf := kIf_t hf hc
    refine kJ_bipush 34 (-6) d_H_takenUp_32 kb_m6 rfl ?_
    cases hf
    exact kJ_iret d_H_takenUp_34 rfl rfl (Nat.zero_le _) (Nat.zero_le _)
  · have hf := kIf_f hf hc
    refine kJ_aload_n 17 1 d_H_takenUp_16 rfl rfl rfl rfl ?_
    refine kM_getR 20 1 (x0 + 2) d_H_takenUp_17 l_H_15 k0 rfl rfl rfl rfl ?_
    refine kJ_iload 22 0 d_H_takenUp_20 rfl rfl ?_
    obtain ⟨hg, hf⟩ := kG_some hf
    refine kM_iald 23 12 d_H_takenUp_22 (kk_1_1 k0) rfl hg rfl ?_
    refine kJ_aload_n 24 2 d_H_takenUp_23 rfl rfl rfl rfl ?_
    refine kM_getR 27 0 (x1 + 1) d_H_takenUp_24 l_H_48 k1 rfl rfl rfl rfl ?_
    refine kJ_iconst 28 3 d_H_takenUp_27 ki_3 rfl ?_
    obtain ⟨hg, hf⟩ := kG_some hf
    refine kM_iald 29 6 d_H_takenUp_28 (kk_0_5 k1) rfl hg rfl ?_
    refine kJ_icmp_lt 32 35 d_H_takenUp_29 rfl rfl (fun hc => ?_) (fun hc => ?_)
    · have hf := kIf_t hf hc
      refine kJ_aload_n 36 1 d_H_takenUp_35 rfl rfl rfl rfl ?_
      refine kM_getR 39 1 (x0 + 2) d_H_takenUp_36 l_H_15 k0 rfl rfl rfl rfl ?_
      refine kJ_iload 41 0 d_H_takenUp_39 rfl rfl ?_
      refine kJ_dup2 42 d_H_takenUp_41 rfl rfl rfl ?_
      obtain ⟨hg, hf⟩ := kG_some hf
      refine kM_iald 43 12 d_H_takenUp_42 (kk_1_1 k0) rfl hg rfl ?_
      refine kJ_iconst 44 1 d_H_takenUp_43 ki_1 rfl ?_
      refine kJ_iadd 45 d_H_takenUp_44 rfl ?_
      obtain ⟨hg, hf⟩ := kG_some hf
      refine kM_iast 46 12 d_H_takenUp_45 (kk_1_1 k0) rfl hg rfl ?_
      obtain ⟨h2, eh2, hf⟩ := kLet_e hf
      rw [← eh2]
      refine kJ_iload 48 0 d_H_takenUp_46 rfl rfl ?_
      cases hf
      exact kJ_iret d_H_takenUp_48 rfl rfl (Nat.zero_le _) (Nat.zero_le _)
    · have hf := kIf_f hf hc
      refine kJ_bipush 34 (-6) d_H_takenUp_32 kb_m6 rfl ?_
      cases hf
      exact kJ_iret d_H_takenUp_34 rfl rfl (Nat.zero_le _) (Nat.zero_le _)
def b_H_listen_19 (x0 : Nat) (x1 : Nat) (x2 : Nat) : Nat → kH → Int32 → Option (kH)
  | 0, _, _ => none
  | n + 1, h, x3 => (fun rec19 => if (h x1 1) ≤ x3 then (some h) else (kBi (f_C_isRecused h x1 x3 x2) fun v3 => if v3 = true then (rec19 h (x3 + 1)) else (if (f_C_isPresent h x1 x3) = true then (kG x3 12 (kLet (hset h (x0 + 1) (kx x3) x3) fun h7 => rec19 h7 (x3 + 1))) else (kBd (f_H_takenUp h x0 x1 x2 x3) fun v5 h4 => kG x3 12 (kLet (hset h4 (x0 + 1) (kx x3) v5) fun h6 => rec19 h6 (x3 + 1)))))) (fun h' x3' => b_H_listen_19 x0 x1 x2 n h' x3')
theorem c_H_listen_19 {E : kE} {L : Nat} {xs : Nat → Int32} (hro : kRo E L xs) {x0 : Nat} {x1 : Nat} {x2 : Nat} (k0 : kIs x0 1) (k1 : kIs x1 0) (k2 : kIs x2 3) {h' : kH} : ∀ (n : Nat) (h : kH) (x3 : Int32), b_H_listen_19 x0 x1 x2 n h x3 = some h' → kJ E m_H_listen none (mk h') 0 0 19 [(0, .ref x0), (1, .ref x1), (2, .ref x2), (3, .int x3)] [] (mk h) := by
  intro n
  induction n with
  | zero =>
    intro h x3 hf
    have hf : (none : Option (kH)) = some h' := hf
    cases hf
  | succ n hrec19 =>
    intro h x3 hf
    rw [b_H_listen_19] at hf
    dsimp only at hf
    refine kJ_iload_n 20 3 d_H_listen_19 rfl rfl rfl ?_
    refine kJ_aload_n 21 1 d_H_listen_20 rfl rfl rfl rfl ?_
    refine kM_getI 24 d_H_listen_21 l_H_27 k1 rfl rfl rfl ?_
    refine kJ_icmp_ge 27 67 d_H_listen_24 rfl rfl (fun hc => ?_) (fun hc => ?_)
    · have hf := kIf_t hf hc
      cases hf
      exact kJ_ret d_H_listen_67 rfl (Nat.zero_le _) (Nat.zero_le _)
    · have hf := kIf_f hf hc
      refine kJ_aload_n 28 1 d_H_listen_27 rfl rfl rfl rfl ?_
      refine kJ_iload_n 29 3 d_H_listen_28 rfl rfl rfl ?_
      refine kJ_aload_n 30 2 d_H_listen_29 rfl rfl rfl rfl ?_
      obtain ⟨v3, ev3, hf⟩ := kBi_some hf
      refine kM_callv 33 m_C_isRecused [.int x3, .ref x2] [] d_H_listen_30 cl_H_33 ⟨w_514, w_21⟩ k1 ⟨rfl, by decide⟩ ⟨_, _, rfl⟩ rfl rfl (Nat.le_of_ble_eq_true rfl) ⟨Nat.le_of_ble_eq_true rfl, Nat.le_of_ble_eq_true rfl⟩ ⟨rfl, rfl⟩ ⟨Nat.zero_le _, Nat.zero_le _⟩ (j_C_isRecused hro k1 k2 ev3) rfl ?_
      refine kJ_if_ne 36 61 d_H_listen_33 rfl rfl (fun hc => ?_) (fun hc => ?_)
      · have hf := kIf_t hf (kB2_1 hc)
        refine kJ_iinc 64 3 [(3, .int (x3 + 1)), (0, .ref x0), (1, .ref x1), (2, .ref x2)] d_H_listen_61 rfl ki_1 (Nat.le_of_ble_eq_true rfl) rfl rfl ?_
        refine kJ_goto 19 d_H_listen_64 rfl ?_
        refine kJ_sub [1, 2, 3, 0] rfl ?_
        exact hrec19 h (x3 + 1) hf
      · have hf := kIf_f hf (kB2_0 hc)
        refine kJ_aload_n 37 0 d_H_listen_36 rfl rfl rfl rfl ?_
        refine kM_getR 40 0 (x0 + 1) d_H_listen_37 l_H_9 k0 rfl rfl rfl rfl ?_
        refine kJ_iload_n 41 3 d_H_listen_40 rfl rfl rfl ?_
        refine kJ_aload_n 42 1 d_H_listen_41 rfl rfl rfl rfl ?_
        refine kJ_iload_n 43 3 d_H_listen_42 rfl rfl rfl ?_
        refine kM_callv 46 m_C_isPresent [.int x3] [.int x3, .ref (x0 + 1)] d_H_listen_43 cl_H_37 ⟨w_449, w_12⟩ k1 ⟨rfl, by decide⟩ ⟨_, _, rfl⟩ rfl rfl (Nat.le_of_ble_eq_true rfl) ⟨Nat.le_of_ble_eq_true rfl, Nat.le_of_ble_eq_true rfl⟩ ⟨rfl, rfl⟩ ⟨Nat.zero_le _, Nat.zero_le _⟩ (j_C_isPresent hro k1 rfl) rfl ?_
        refine kJ_if_eq 49 53 d_H_listen_46 rfl rfl (fun hc => ?_) (fun hc => ?_)
        · have hf := kIf_f hf (kB2_0 hc)
          refine kJ_aload_n 54 0 d_H_listen_53 rfl rfl rfl rfl ?_
          refine kJ_aload_n 55 1 d_H_listen_54 rfl rfl rfl rfl ?_
          refine kJ_aload_n 56 2 d_H_listen_55 rfl rfl rfl rfl ?_
          refine kJ_iload_n 57 3 d_H_listen_56 rfl rfl rfl ?_
          obtain ⟨v5, h4, ev5, hf⟩ := kBd_some hf
          refine kM_callv 60 m_H_takenUp [.ref x1, .ref x2, .int x3] [.int x3, .ref (x0 + 1)] d_H_listen_57 cl_H_41 ⟨w_533, w_24⟩ k0 ⟨rfl, by decide⟩ ⟨_, _, rfl⟩ rfl rfl (Nat.le_of_ble_eq_true rfl) ⟨Nat.le_of_ble_eq_true rfl, Nat.le_of_ble_eq_true rfl⟩ ⟨rfl, rfl⟩ ⟨Nat.zero_le _, Nat.zero_le _⟩ (j_H_takenUp hro k0 k1 k2 ev5) rfl ?_
          obtain ⟨hg, hf⟩ := kG_some hf
          refine kM_iast 61 12 d_H_listen_60 (kk_1_0 k0) rfl hg rfl ?_
          obtain ⟨h6, eh6, hf⟩ := kLet_e hf
          rw [← eh6]
          refine kJ_iinc 64 3 [(3, .int (x3 + 1)), (0, .ref x0), (1, .ref x1), (2, .ref x2)] d_H_listen_61 rfl ki_1 (Nat.le_of_ble_eq_true rfl) rfl rfl ?_
          refine kJ_goto 19 d_H_listen_64 rfl ?_
          refine kJ_sub [1, 2, 3, 0] rfl ?_
          exact hrec19 h6 (x3 + 1) hf
        · have hf := kIf_t hf (kB2_1 hc)
          refine kJ_iload_n 50 3 d_H_listen_49 rfl rfl rfl ?_
          refine kJ_goto 60 d_H_listen_50 rfl ?_
          obtain ⟨hg, hf⟩ := kG_some hf
          refine kM_iast 61 12 d_H_listen_60 (kk_1_0 k0) rfl hg rfl ?_
          obtain ⟨h7, eh7, hf⟩ := kLet_e hf
          rw [← eh7]
          refine kJ_iinc 64 3 [(3, .int (x3 + 1)), (0, .ref x0), (1, .ref x1), (2, .ref x2)] d_H_listen_61 rfl ki_1 (Nat.le_of_ble_eq_true rfl) rfl rfl ?_
          refine kJ_goto 19 d_H_listen_64 rfl ?_
          refine kJ_sub [1, 2, 3, 0] rfl ?_
          exact hrec19 h7 (x3 + 1) hf
def f_H_listen (h : kH) (x0 : Nat) (x1 : Nat) (x2 : Nat) : Option (kH) := kLet (hfill h (x0 + 1) 12 (-6)) fun h1 => kLet (hfill h1 (x0 + 2) 12 0) fun h2 => b_H_listen_19 x0 x1 x2 kFuel h2 0
theorem j_H_listen {E : kE} {L : Nat} {xs : Nat → Int32} (hro : kRo E L xs) {h : kH} {x0 : Nat} {x1 : Nat} {x2 : Nat} (k0 : kIs x0 1) (k1 : kIs x1 0) (k2 : kIs x2 3) {h' : kH} (hf : f_H_listen h x0 x1 x2 = some h') : JM E m_H_listen [.ref x0, .ref x1, .ref x2] (mk h) none (mk h') := by
  unfold f_H_listen at hf
  refine JM.of pn_H (Nat.le_of_ble_eq_true rfl) ?_
  show kJ E m_H_listen none (mk h') 0 0 0 [(0, .ref x0), (1, .ref x1), (2, .ref x2)] [] (mk h)
  refine kJ_aload_n 1 0 d_H_listen_0 rfl rfl rfl rfl ?_
  refine kM_getR 4 0 (x0 + 1) d_H_listen_1 l_H_9 k0 rfl rfl rfl rfl ?_
  refine kJ_bipush 6 (-6) d_H_listen_4 kb_m6 rfl ?_
  refine kM_calls 9 m_JA_fill [.ref (x0 + 1), .int (-6)] [] d_H_listen_6 cl_H_21 w_425 rfl rfl (Nat.le_of_ble_eq_true rfl) ⟨Nat.le_of_ble_eq_true rfl, Nat.le_of_ble_eq_true rfl⟩ ⟨rfl, rfl⟩ ⟨Nat.zero_le _, Nat.zero_le _⟩ (j_JA_fill hro (kk_1_0 k0) (n := 12) rfl (by decide)) rfl ?_
  obtain ⟨h1, eh1, hf⟩ := kLet_e hf
  rw [← eh1]
  refine kJ_aload_n 10 0 d_H_listen_9 rfl rfl rfl rfl ?_
  refine kM_getR 13 1 (x0 + 2) d_H_listen_10 l_H_15 k0 rfl rfl rfl rfl ?_
  refine kJ_iconst 14 0 d_H_listen_13 ki_0 rfl ?_
  refine kM_calls 17 m_JA_fill [.ref (x0 + 2), .int 0] [] d_H_listen_14 cl_H_21 w_425 rfl rfl (Nat.le_of_ble_eq_true rfl) ⟨Nat.le_of_ble_eq_true rfl, Nat.le_of_ble_eq_true rfl⟩ ⟨rfl, rfl⟩ ⟨Nat.zero_le _, Nat.zero_le _⟩ (j_JA_fill hro (kk_1_1 k0) (n := 12) rfl (by decide)) rfl ?_
  obtain ⟨h2, eh2, hf⟩ := kLet_e hf
  rw [← eh2]
  refine kJ_iconst 18 0 d_H_listen_17 ki_0 rfl ?_
  refine kJ_istore_n 19 [(3, .int 0), (0, .ref x0), (1, .ref x1), (2, .ref x2)] d_H_listen_18 rfl (Nat.le_of_ble_eq_true rfl) rfl rfl ?_
  refine kJ_sub [1, 2, 3, 0] rfl ?_
  exact c_H_listen_19 hro k0 k1 k2 kFuel h2 0 hf
def b_H_weightThere_31 (rec4 : Int32 → Int32 → Option Int32) (h : kH) (x0 : Nat) (x1 : Nat) (x2 : Int32) (x3 : Int32) : Option Int32 := kG x3 12 (kLet (x2 + (h (x1 + 2) (kx x3))) fun v1 => rec4 v1 (x3 + 1))
theorem c_H_weightThere_31 {E : kE} {L : Nat} {xs : Nat → Int32} (hro : kRo E L xs) {rec4 : Int32 → Int32 → Option Int32} {h : kH} {x0 : Nat} {x1 : Nat} {x2 : Int32} {x3 : Int32} (k0 : kIs x0 1) (k1 : kIs x1 0) {r : Int32} (hrec4 : ∀ (x2 : Int32) (x3 : Int32), rec4 x2 x3 = some r → kJ E m_H_weightThere (some r) (mk h) 0 0 4 [(0, .ref x0), (1, .ref x1), (2, .int x2), (3, .int x3)] [] (mk h)) (hf : b_H_weightThere_31 rec4 h x0 x1 x2 x3 = some r) : kJ E m_H_weightThere (some r) (mk h) 0 0 31 [(0, .ref x0), (1, .ref x1), (2, .int x2), (3, .int x3)] [] (mk h) := by
  unfold b_H_weightThere_31 at hf
  refine kJ_iload_n 32 2 d_H_weightThere_31 rfl rfl rfl ?_
  refine kJ_aload_n 33 1 d_H_weightThere_32 rfl rfl rfl rfl ?_
  refine kM_getR 36 1 (x1 + 2) d_H_weightThere_33 l_H_55 k1 rfl rfl rfl rfl ?_
  refine kJ_iload_n 37 3 d_H_weightThere_36 rfl rfl rfl ?_
  obtain ⟨hg, hf⟩ := kG_some hf
  refine kM_iald 38 12 d_H_weightThere_37 (kk_0_6 k1) rfl hg rfl ?_
  refine kJ_iadd 39 d_H_weightThere_38 rfl ?_
  obtain ⟨v1, ev1, hf⟩ := kLet_e hf
  rw [← ev1]
  refine kJ_istore_n 40 [(2, .int v1), (0, .ref x0), (1, .ref x1), (3, .int x3)] d_H_weightThere_39 rfl (Nat.le_of_ble_eq_true rfl) rfl rfl ?_
  refine kJ_iinc 43 3 [(3, .int (x3 + 1)), (2, .int v1), (0, .ref x0), (1, .ref x1)] d_H_weightThere_40 rfl ki_1 (Nat.le_of_ble_eq_true rfl) rfl rfl ?_
  refine kJ_goto 4 d_H_weightThere_43 rfl ?_
  refine kJ_sub [2, 3, 1, 0] rfl ?_
  exact hrec4 v1 (x3 + 1) hf
def b_H_weightThere_4 (h : kH) (x0 : Nat) (x1 : Nat) : Nat → Int32 → Int32 → Option Int32
  | 0, _, _ => none
  | n + 1, x2, x3 => (fun rec4 => if (h x1 1) ≤ x3 then (some x2) else (if (f_C_isPresent h x1 x3) = true then (b_H_weightThere_31 rec4 h x0 x1 x2 x3) else (kG x3 12 (if (h (x0 + 1) (kx x3)) = (-6) then (rec4 x2 (x3 + 1)) else (b_H_weightThere_31 rec4 h x0 x1 x2 x3))))) (fun x2' x3' => b_H_weightThere_4 h x0 x1 n x2' x3')
theorem c_H_weightThere_4 {E : kE} {L : Nat} {xs : Nat → Int32} (hro : kRo E L xs) {h : kH} {x0 : Nat} {x1 : Nat} (k0 : kIs x0 1) (k1 : kIs x1 0) {r : Int32} : ∀ (n : Nat) (x2 : Int32) (x3 : Int32), b_H_weightThere_4 h x0 x1 n x2 x3 = some r → kJ E m_H_weightThere (some r) (mk h) 0 0 4 [(0, .ref x0), (1, .ref x1), (2, .int x2), (3, .int x3)] [] (mk h) := by
  intro n
  induction n with
  | zero =>
    intro x2 x3 hf
    have hf : (none : Option Int32) = some r := hf
    cases hf
  | succ n hrec4 =>
    intro x2 x3 hf
    rw [b_H_weightThere_4] at hf
    dsimp only at hf
    refine kJ_iload_n 5 3 d_H_weightThere_4 rfl rfl rfl ?_
    refine kJ_aload_n 6 1 d_H_weightThere_5 rfl rfl rfl rfl ?_
    refine kM_getI 9 d_H_weightThere_6 l_H_27 k1 rfl rfl rfl ?_
    refine kJ_icmp_ge 12 46 d_H_weightThere_9 rfl rfl (fun hc => ?_) (fun hc => ?_)
    · have hf := kIf_t hf hc
      refine kJ_iload_n 47 2 d_H_weightThere_46 rfl rfl rfl ?_
      cases hf
      exact kJ_iret d_H_weightThere_47 rfl rfl (Nat.zero_le _) (Nat.zero_le _)
    · have hf := kIf_f hf hc
      refine kJ_aload_n 13 1 d_H_weightThere_12 rfl rfl rfl rfl ?_
      refine kJ_iload_n 14 3 d_H_weightThere_13 rfl rfl rfl ?_
      refine kM_callv 17 m_C_isPresent [.int x3] [] d_H_weightThere_14 cl_H_37 ⟨w_449, w_12⟩ k1 ⟨rfl, by decide⟩ ⟨_, _, rfl⟩ rfl rfl (Nat.le_of_ble_eq_true rfl) ⟨Nat.le_of_ble_eq_true rfl, Nat.le_of_ble_eq_true rfl⟩ ⟨rfl, rfl⟩ ⟨Nat.zero_le _, Nat.zero_le _⟩ (j_C_isPresent hro k1 rfl) rfl ?_
      refine kJ_if_ne 20 31 d_H_weightThere_17 rfl rfl (fun hc => ?_) (fun hc => ?_)
      · have hf := kIf_t hf (kB2_1 hc)
        refine kJ_sub [0, 1, 2, 3] rfl ?_
        exact c_H_weightThere_31 hro k0 k1 hrec4 hf
      · have hf := kIf_f hf (kB2_0 hc)
        refine kJ_aload_n 21 0 d_H_weightThere_20 rfl rfl rfl rfl ?_
        refine kM_getR 24 0 (x0 + 1) d_H_weightThere_21 l_H_9 k0 rfl rfl rfl rfl ?_
        refine kJ_iload_n 25 3 d_H_weightThere_24 rfl rfl rfl ?_
        obtain ⟨hg, hf⟩ := kG_some hf
        refine kM_iald 26 12 d_H_weightThere_25 (kk_1_0 k0) rfl hg rfl ?_
        refine kJ_bipush 28 (-6) d_H_weightThere_26 kb_m6 rfl ?_
        refine kJ_icmp_eq 31 40 d_H_weightThere_28 rfl rfl (fun hc => ?_) (fun hc => ?_)
        · have hf := kIf_t hf hc
          refine kJ_iinc 43 3 [(3, .int (x3 + 1)), (0, .ref x0), (1, .ref x1), (2, .int x2)] d_H_weightThere_40 rfl ki_1 (Nat.le_of_ble_eq_true rfl) rfl rfl ?_
          refine kJ_goto 4 d_H_weightThere_43 rfl ?_
          refine kJ_sub [1, 2, 3, 0] rfl ?_
          exact hrec4 x2 (x3 + 1) hf
        · have hf := kIf_f hf hc
          refine kJ_sub [0, 1, 2, 3] rfl ?_
          exact c_H_weightThere_31 hro k0 k1 hrec4 hf
def f_H_weightThere (h : kH) (x0 : Nat) (x1 : Nat) : Option Int32 := b_H_weightThere_4 h x0 x1 kFuel 0 0
theorem j_H_weightThere {E : kE} {L : Nat} {xs : Nat → Int32} (hro : kRo E L xs) {h : kH} {x0 : Nat} {x1 : Nat} (k0 : kIs x0 1) (k1 : kIs x1 0) {r : Int32} (hf : f_H_weightThere h x0 x1 = some r) : JM E m_H_weightThere [.ref x0, .ref x1] (mk h) (some r) (mk h) := by
  unfold f_H_weightThere at hf
  refine JM.of pn_H (Nat.le_of_ble_eq_true rfl) ?_
  show kJ E m_H_weightThere (some r) (mk h) 0 0 0 [(0, .ref x0), (1, .ref x1)] [] (mk h)
  refine kJ_iconst 1 0 d_H_weightThere_0 ki_0 rfl ?_
  refine kJ_istore_n 2 [(2, .int 0), (0, .ref x0), (1, .ref x1)] d_H_weightThere_1 rfl (Nat.le_of_ble_eq_true rfl) rfl rfl ?_
  refine kJ_iconst 3 0 d_H_weightThere_2 ki_0 rfl ?_
  refine kJ_istore_n 4 [(3, .int 0), (2, .int 0), (0, .ref x0), (1, .ref x1)] d_H_weightThere_3 rfl (Nat.le_of_ble_eq_true rfl) rfl rfl ?_
  refine kJ_sub [2, 3, 1, 0] rfl ?_
  exact c_H_weightThere_4 hro k0 k1 kFuel 0 0 hf
def b_C_firstIn_2 (h : kH) (x0 : Nat) (x1 : Int32) : Nat → Int32 → Option Int32
  | 0, _ => none
  | n + 1, x2 => (fun rec2 => if (h x0 2) ≤ x2 then (some (-6)) else (kG x2 12 (if (h (x0 + 10 + 5 * kx x2) 2) = x1 then (some x2) else (rec2 (x2 + 1))))) (fun x2' => b_C_firstIn_2 h x0 x1 n x2')
theorem c_C_firstIn_2 {E : kE} {L : Nat} {xs : Nat → Int32} (hro : kRo E L xs) {h : kH} {x0 : Nat} {x1 : Int32} (k0 : kIs x0 0) {r : Int32} : ∀ (n : Nat) (x2 : Int32), b_C_firstIn_2 h x0 x1 n x2 = some r → kJ E m_C_firstIn (some r) (mk h) 0 0 2 [(0, .ref x0), (1, .int x1), (2, .int x2)] [] (mk h) := by
  intro n
  induction n with
  | zero =>
    intro x2 hf
    have hf : (none : Option Int32) = some r := hf
    cases hf
  | succ n hrec2 =>
    intro x2 hf
    rw [b_C_firstIn_2] at hf
    dsimp only at hf
    refine kJ_iload_n 3 2 d_C_firstIn_2 rfl rfl rfl ?_
    refine kJ_aload_n 4 0 d_C_firstIn_3 rfl rfl rfl rfl ?_
    refine kM_getI 7 d_C_firstIn_4 l_C_57 k0 rfl rfl rfl ?_
    refine kJ_icmp_ge 10 31 d_C_firstIn_7 rfl rfl (fun hc => ?_) (fun hc => ?_)
    · have hf := kIf_t hf hc
      refine kJ_bipush 33 (-6) d_C_firstIn_31 kb_m6 rfl ?_
      cases hf
      exact kJ_iret d_C_firstIn_33 rfl rfl (Nat.zero_le _) (Nat.zero_le _)
    · have hf := kIf_f hf hc
      refine kJ_aload_n 11 0 d_C_firstIn_10 rfl rfl rfl rfl ?_
      refine kM_getR 14 4 (x0 + 5) d_C_firstIn_11 l_C_30 k0 rfl rfl rfl rfl ?_
      refine kJ_iload_n 15 2 d_C_firstIn_14 rfl rfl rfl ?_
      obtain ⟨hg1, hf⟩ := kG_some hf
      refine kM_aald 16 12 5 5 (x0 + 10 + 5 * kx x2) d_C_firstIn_15 (kk_0_9 k0) rfl (by decide) (Or.inl rfl) hg1 (by simp only [Nat.add_assoc, kx]; try omega) rfl ?_
      refine kM_getI 19 d_C_firstIn_16 l_C_89 (kC_item k0 (kIn_lt hg1)) rfl rfl rfl ?_
      refine kJ_iload_n 20 1 d_C_firstIn_19 rfl rfl rfl ?_
      refine kJ_icmp_ne 23 25 d_C_firstIn_20 rfl rfl (fun hc => ?_) (fun hc => ?_)
      · have hf := kIf_f hf hc
        refine kJ_iinc 28 2 [(2, .int (x2 + 1)), (0, .ref x0), (1, .int x1)] d_C_firstIn_25 rfl ki_1 (Nat.le_of_ble_eq_true rfl) rfl rfl ?_
        refine kJ_goto 2 d_C_firstIn_28 rfl ?_
        refine kJ_sub [1, 2, 0] rfl ?_
        exact hrec2 (x2 + 1) hf
      · have hf := kIf_t hf hc
        refine kJ_iload_n 24 2 d_C_firstIn_23 rfl rfl rfl ?_
        cases hf
        exact kJ_iret d_C_firstIn_24 rfl rfl (Nat.zero_le _) (Nat.zero_le _)
def f_C_firstIn (h : kH) (x0 : Nat) (x1 : Int32) : Option Int32 := b_C_firstIn_2 h x0 x1 kFuel 0
theorem j_C_firstIn {E : kE} {L : Nat} {xs : Nat → Int32} (hro : kRo E L xs) {h : kH} {x0 : Nat} {x1 : Int32} (k0 : kIs x0 0) {r : Int32} (hf : f_C_firstIn h x0 x1 = some r) : JM E m_C_firstIn [.ref x0, .int x1] (mk h) (some r) (mk h) := by
  unfold f_C_firstIn at hf
  refine JM.of pn_C (Nat.le_of_ble_eq_true rfl) ?_
  show kJ E m_C_firstIn (some r) (mk h) 0 0 0 [(0, .ref x0), (1, .int x1)] [] (mk h)
  refine kJ_iconst 1 0 d_C_firstIn_0 ki_0 rfl ?_
  refine kJ_istore_n 2 [(2, .int 0), (0, .ref x0), (1, .int x1)] d_C_firstIn_1 rfl (Nat.le_of_ble_eq_true rfl) rfl rfl ?_
  refine kJ_sub [1, 2, 0] rfl ?_
  exact c_C_firstIn_2 hro k0 kFuel 0 hf
def b_C_weightOfAll_4 (h : kH) (x0 : Nat) : Nat → Int32 → Int32 → Option Int32
  | 0, _, _ => none
  | n + 1, x1, x2 => (fun rec4 => if (h x0 1) ≤ x2 then (some x1) else (kG x2 12 (kLet (x1 + (h (x0 + 2) (kx x2))) fun v1 => rec4 v1 (x2 + 1)))) (fun x1' x2' => b_C_weightOfAll_4 h x0 n x1' x2')
theorem c_C_weightOfAll_4 {E : kE} {L : Nat} {xs : Nat → Int32} (hro : kRo E L xs) {h : kH} {x0 : Nat} (k0 : kIs x0 0) {r : Int32} : ∀ (n : Nat) (x1 : Int32) (x2 : Int32), b_C_weightOfAll_4 h x0 n x1 x2 = some r → kJ E m_C_weightOfAll (some r) (mk h) 0 0 4 [(0, .ref x0), (1, .int x1), (2, .int x2)] [] (mk h) := by
  intro n
  induction n with
  | zero =>
    intro x1 x2 hf
    have hf : (none : Option Int32) = some r := hf
    cases hf
  | succ n hrec4 =>
    intro x1 x2 hf
    rw [b_C_weightOfAll_4] at hf
    dsimp only at hf
    refine kJ_iload_n 5 2 d_C_weightOfAll_4 rfl rfl rfl ?_
    refine kJ_aload_n 6 0 d_C_weightOfAll_5 rfl rfl rfl rfl ?_
    refine kM_getI 9 d_C_weightOfAll_6 l_C_54 k0 rfl rfl rfl ?_
    refine kJ_icmp_ge 12 27 d_C_weightOfAll_9 rfl rfl (fun hc => ?_) (fun hc => ?_)
    · have hf := kIf_t hf hc
      refine kJ_iload_n 28 1 d_C_weightOfAll_27 rfl rfl rfl ?_
      cases hf
      exact kJ_iret d_C_weightOfAll_28 rfl rfl (Nat.zero_le _) (Nat.zero_le _)
    · have hf := kIf_f hf hc
      refine kJ_iload_n 13 1 d_C_weightOfAll_12 rfl rfl rfl ?_
      refine kJ_aload_n 14 0 d_C_weightOfAll_13 rfl rfl rfl rfl ?_
      refine kM_getR 17 1 (x0 + 2) d_C_weightOfAll_14 l_C_19 k0 rfl rfl rfl rfl ?_
      refine kJ_iload_n 18 2 d_C_weightOfAll_17 rfl rfl rfl ?_
      obtain ⟨hg, hf⟩ := kG_some hf
      refine kM_iald 19 12 d_C_weightOfAll_18 (kk_0_6 k0) rfl hg rfl ?_
      refine kJ_iadd 20 d_C_weightOfAll_19 rfl ?_
      obtain ⟨v1, ev1, hf⟩ := kLet_e hf
      rw [← ev1]
      refine kJ_istore_n 21 [(1, .int v1), (0, .ref x0), (2, .int x2)] d_C_weightOfAll_20 rfl (Nat.le_of_ble_eq_true rfl) rfl rfl ?_
      refine kJ_iinc 24 2 [(2, .int (x2 + 1)), (1, .int v1), (0, .ref x0)] d_C_weightOfAll_21 rfl ki_1 (Nat.le_of_ble_eq_true rfl) rfl rfl ?_
      refine kJ_goto 4 d_C_weightOfAll_24 rfl ?_
      refine kJ_sub [2, 1, 0] rfl ?_
      exact hrec4 v1 (x2 + 1) hf
def f_C_weightOfAll (h : kH) (x0 : Nat) : Option Int32 := b_C_weightOfAll_4 h x0 kFuel 0 0
theorem j_C_weightOfAll {E : kE} {L : Nat} {xs : Nat → Int32} (hro : kRo E L xs) {h : kH} {x0 : Nat} (k0 : kIs x0 0) {r : Int32} (hf : f_C_weightOfAll h x0 = some r) : JM E m_C_weightOfAll [.ref x0] (mk h) (some r) (mk h) := by
  unfold f_C_weightOfAll at hf
  refine JM.of pn_C (Nat.le_of_ble_eq_true rfl) ?_
  show kJ E m_C_weightOfAll (some r) (mk h) 0 0 0 [(0, .ref x0)] [] (mk h)
  refine kJ_iconst 1 0 d_C_weightOfAll_0 ki_0 rfl ?_
  refine kJ_istore_n 2 [(1, .int 0), (0, .ref x0)] d_C_weightOfAll_1 rfl (Nat.le_of_ble_eq_true rfl) rfl rfl ?_
  refine kJ_iconst 3 0 d_C_weightOfAll_2 ki_0 rfl ?_
  refine kJ_istore_n 4 [(2, .int 0), (1, .int 0), (0, .ref x0)] d_C_weightOfAll_3 rfl (Nat.le_of_ble_eq_true rfl) rfl rfl ?_
  refine kJ_sub [2, 1, 0] rfl ?_
  exact c_C_weightOfAll_4 hro k0 kFuel 0 0 hf
def b_C_isQuorum_28 (h : kH) (x0 : Nat) (x1 : Int32) (s0 : Int32) : Option Bool := kBi (f_C_weightOfAll h x0) fun v1 => if (100 * x1) < (v1 * s0) then (some false) else (some true)
theorem c_C_isQuorum_28 {E : kE} {L : Nat} {xs : Nat → Int32} (hro : kRo E L xs) {h : kH} {x0 : Nat} {x1 : Int32} {s0 : Int32} (k0 : kIs x0 0) {r : Bool} (hf : b_C_isQuorum_28 h x0 x1 s0 = some r) : kJ E m_C_isQuorum (some (kB2 r)) (mk h) 0 0 28 [(0, .ref x0), (1, .int x1)] [.int s0] (mk h) := by
  unfold b_C_isQuorum_28 at hf
  refine kJ_istore_n 29 [(2, .int s0), (0, .ref x0), (1, .int x1)] d_C_isQuorum_28 rfl (Nat.le_of_ble_eq_true rfl) rfl rfl ?_
  refine kJ_bipush 31 100 d_C_isQuorum_29 kb_100 rfl ?_
  refine kJ_iload_n 32 2 d_C_isQuorum_31 rfl rfl rfl ?_
  refine kJ_imul 33 d_C_isQuorum_32 rfl ?_
  refine kJ_aload_n 34 1 d_C_isQuorum_33 rfl rfl rfl rfl ?_
  obtain ⟨v1, ev1, hf⟩ := kBi_some hf
  refine kM_callv 37 m_C_weightOfAll [] [.int (100 * x1)] d_C_isQuorum_34 cl_C_85 ⟨w_557, w_30⟩ k0 ⟨rfl, by decide⟩ ⟨_, _, rfl⟩ rfl rfl (Nat.le_of_ble_eq_true rfl) ⟨Nat.le_of_ble_eq_true rfl, Nat.le_of_ble_eq_true rfl⟩ ⟨rfl, rfl⟩ ⟨Nat.zero_le _, Nat.zero_le _⟩ (j_C_weightOfAll hro k0 ev1) rfl ?_
  refine kJ_iload_n 38 0 d_C_isQuorum_37 rfl rfl rfl ?_
  refine kJ_imul 39 d_C_isQuorum_38 rfl ?_
  refine kJ_icmp_lt 42 46 d_C_isQuorum_39 rfl rfl (fun hc => ?_) (fun hc => ?_)
  · have hf := kIf_t hf hc
    refine kJ_iconst 47 0 d_C_isQuorum_46 ki_0 rfl ?_
    cases hf
    exact kJ_iret d_C_isQuorum_47 rfl (kB2_z _) (Nat.zero_le _) (Nat.zero_le _)
  · have hf := kIf_f hf hc
    refine kJ_iconst 43 1 d_C_isQuorum_42 ki_1 rfl ?_
    refine kJ_goto 47 d_C_isQuorum_43 rfl ?_
    cases hf
    exact kJ_iret d_C_isQuorum_47 rfl (kB2_z _) (Nat.zero_le _) (Nat.zero_le _)
def f_C_isQuorum (h : kH) (x0 : Nat) (x1 : Int32) : Option Bool := kG 2 6 (if (h x0 0) < (h (x0 + 1) (kx 2)) then (kG 0 6 (b_C_isQuorum_28 h x0 x1 (h (x0 + 1) (kx 0)))) else (kG 1 6 (b_C_isQuorum_28 h x0 x1 (h (x0 + 1) (kx 1)))))
theorem j_C_isQuorum {E : kE} {L : Nat} {xs : Nat → Int32} (hro : kRo E L xs) {h : kH} {x0 : Nat} {x1 : Int32} (k0 : kIs x0 0) {r : Bool} (hf : f_C_isQuorum h x0 x1 = some r) : JM E m_C_isQuorum [.ref x0, .int x1] (mk h) (some (kB2 r)) (mk h) := by
  unfold f_C_isQuorum at hf
  refine JM.of pn_C (Nat.le_of_ble_eq_true rfl) ?_
  show kJ E m_C_isQuorum (some (kB2 r)) (mk h) 0 0 0 [(0, .ref x0), (1, .int x1)] [] (mk h)
  refine kJ_aload_n 1 0 d_C_isQuorum_0 rfl rfl rfl rfl ?_
  refine kM_getI 4 d_C_isQuorum_1 l_C_51 k0 rfl rfl rfl ?_
  refine kJ_aload_n 5 0 d_C_isQuorum_4 rfl rfl rfl rfl ?_
  refine kM_getR 8 0 (x0 + 1) d_C_isQuorum_5 l_C_15 k0 rfl rfl rfl rfl ?_
  refine kJ_iconst 9 2 d_C_isQuorum_8 ki_2 rfl ?_
  obtain ⟨hg, hf⟩ := kG_some hf
  refine kM_iald 10 6 d_C_isQuorum_9 (kk_0_5 k0) rfl hg rfl ?_
  refine kJ_icmp_lt 13 22 d_C_isQuorum_10 rfl rfl (fun hc => ?_) (fun hc => ?_)
  · have hf := kIf_t hf hc
    refine kJ_aload_n 23 0 d_C_isQuorum_22 rfl rfl rfl rfl ?_
    refine kM_getR 26 0 (x0 + 1) d_C_isQuorum_23 l_C_15 k0 rfl rfl rfl rfl ?_
    refine kJ_iconst 27 0 d_C_isQuorum_26 ki_0 rfl ?_
    obtain ⟨hg, hf⟩ := kG_some hf
    refine kM_iald 28 6 d_C_isQuorum_27 (kk_0_5 k0) rfl hg rfl ?_
    refine kJ_sub [0, 1] rfl ?_
    exact c_C_isQuorum_28 hro k0 hf
  · have hf := kIf_f hf hc
    refine kJ_aload_n 14 0 d_C_isQuorum_13 rfl rfl rfl rfl ?_
    refine kM_getR 17 0 (x0 + 1) d_C_isQuorum_14 l_C_15 k0 rfl rfl rfl rfl ?_
    refine kJ_iconst 18 1 d_C_isQuorum_17 ki_1 rfl ?_
    obtain ⟨hg, hf⟩ := kG_some hf
    refine kM_iald 19 6 d_C_isQuorum_18 (kk_0_5 k0) rfl hg rfl ?_
    refine kJ_goto 28 d_C_isQuorum_19 rfl ?_
    refine kJ_sub [0, 1] rfl ?_
    exact c_C_isQuorum_28 hro k0 hf
def f_C_openItem (h : kH) (x0 : Nat) (x1 : Int32) (x2 : Nat) : Option (Int32 × kH) := if (f_C_hasItem h x0 x1) = true then (kG x1 12 (kBi (f_H_listen h x2 x0 (x0 + 10 + 5 * kx x1)) fun h2 => kBi (f_H_weightThere h2 x2 x0) fun v3 => if (h2 (x0 + 10 + 5 * kx x1) 2) = 0 then (kBi (f_C_firstIn h2 x0 1) fun v4 => if v4 = (-6) then (kBi (f_C_isQuorum h2 x0 v3) fun v5 => if v5 = true then (kLet (hset h2 (x0 + 10 + 5 * kx x1) 2 1) fun h6 => some (v3, h6)) else (some ((-5), h2))) else (some ((-5), h2))) else (some ((-5), h2)))) else (some ((-1), h))
theorem j_C_openItem {E : kE} {L : Nat} {xs : Nat → Int32} (hro : kRo E L xs) {h : kH} {x0 : Nat} {x1 : Int32} {x2 : Nat} (k0 : kIs x0 0) (k2 : kIs x2 1) {r : Int32} {h' : kH} (hf : f_C_openItem h x0 x1 x2 = some (r, h')) : JM E m_C_openItem [.ref x0, .int x1, .ref x2] (mk h) (some r) (mk h') := by
  unfold f_C_openItem at hf
  refine JM.of pn_C (Nat.le_of_ble_eq_true rfl) ?_
  show kJ E m_C_openItem (some r) (mk h') 0 0 0 [(0, .ref x0), (1, .int x1), (2, .ref x2)] [] (mk h)
  refine kJ_aload_n 1 0 d_C_openItem_0 rfl rfl rfl rfl ?_
  refine kJ_iload_n 2 1 d_C_openItem_1 rfl rfl rfl ?_
  refine kM_callv 5 m_C_hasItem [.int x1] [] d_C_openItem_2 cl_C_121 ⟨w_487, w_17⟩ k0 ⟨rfl, by decide⟩ ⟨_, _, rfl⟩ rfl rfl (Nat.le_of_ble_eq_true rfl) ⟨Nat.le_of_ble_eq_true rfl, Nat.le_of_ble_eq_true rfl⟩ ⟨rfl, rfl⟩ ⟨Nat.zero_le _, Nat.zero_le _⟩ (j_C_hasItem hro k0 rfl) rfl ?_
  refine kJ_if_ne 8 10 d_C_openItem_5 rfl rfl (fun hc => ?_) (fun hc => ?_)
  · have hf := kIf_t hf (kB2_1 hc)
    refine kJ_aload_n 11 0 d_C_openItem_10 rfl rfl rfl rfl ?_
    refine kM_getR 14 4 (x0 + 5) d_C_openItem_11 l_C_30 k0 rfl rfl rfl rfl ?_
    refine kJ_iload_n 15 1 d_C_openItem_14 rfl rfl rfl ?_
    obtain ⟨hg1, hf⟩ := kG_some hf
    refine kM_aald 16 12 5 5 (x0 + 10 + 5 * kx x1) d_C_openItem_15 (kk_0_9 k0) rfl (by decide) (Or.inl rfl) hg1 (by simp only [Nat.add_assoc, kx]; try omega) rfl ?_
    refine kJ_astore_n 17 [(3, .ref (x0 + 10 + 5 * kx x1)), (0, .ref x0), (1, .int x1), (2, .ref x2)] d_C_openItem_16 rfl (Nat.le_of_ble_eq_true rfl) rfl rfl rfl ?_
    refine kJ_aload_n 18 3 d_C_openItem_17 rfl rfl rfl rfl ?_
    refine kJ_aload_n 19 1 d_C_openItem_18 rfl rfl rfl rfl ?_
    refine kJ_aload_n 20 0 d_C_openItem_19 rfl rfl rfl rfl ?_
    obtain ⟨h2, eh2, hf⟩ := kBi_some hf
    refine kM_callv 23 m_H_listen [.ref x0, .ref (x0 + 10 + 5 * kx x1)] [] d_C_openItem_20 cl_C_134 ⟨w_526, w_23⟩ k2 ⟨rfl, by decide⟩ ⟨_, _, rfl⟩ rfl rfl (Nat.le_of_ble_eq_true rfl) ⟨Nat.le_of_ble_eq_true rfl, Nat.le_of_ble_eq_true rfl⟩ ⟨rfl, rfl⟩ ⟨Nat.zero_le _, Nat.zero_le _⟩ (j_H_listen hro k2 k0 (kC_item k0 (kIn_lt hg1)) eh2) rfl ?_
    refine kJ_aload_n 24 3 d_C_openItem_23 rfl rfl rfl rfl ?_
    refine kJ_aload_n 25 1 d_C_openItem_24 rfl rfl rfl rfl ?_
    obtain ⟨v3, ev3, hf⟩ := kBi_some hf
    refine kM_callv 28 m_H_weightThere [.ref x0] [] d_C_openItem_25 cl_C_140 ⟨w_545, w_27⟩ k2 ⟨rfl, by decide⟩ ⟨_, _, rfl⟩ rfl rfl (Nat.le_of_ble_eq_true rfl) ⟨Nat.le_of_ble_eq_true rfl, Nat.le_of_ble_eq_true rfl⟩ ⟨rfl, rfl⟩ ⟨Nat.zero_le _, Nat.zero_le _⟩ (j_H_weightThere hro k2 k0 ev3) rfl ?_
    refine kJ_istore 30 [(4, .int v3), (3, .ref (x0 + 10 + 5 * kx x1)), (0, .ref x0), (1, .int x1), (2, .ref x2)] d_C_openItem_28 (Nat.le_of_ble_eq_true rfl) rfl rfl ?_
    refine kJ_aload_n 31 1 d_C_openItem_30 rfl rfl rfl rfl ?_
    refine kM_getI 34 d_C_openItem_31 l_C_89 (kC_item k0 (kIn_lt hg1)) rfl rfl rfl ?_
    refine kJ_if_ne 37 56 d_C_openItem_34 rfl rfl (fun hc => ?_) (fun hc => ?_)
    · have hf := kIf_f hf hc
      refine kJ_bipush 58 (-5) d_C_openItem_56 kb_m5 rfl ?_
      cases hf
      exact kJ_iret d_C_openItem_58 rfl rfl (Nat.zero_le _) (Nat.zero_le _)
    · have hf := kIf_t hf hc
      refine kJ_aload_n 38 2 d_C_openItem_37 rfl rfl rfl rfl ?_
      refine kJ_iconst 39 1 d_C_openItem_38 ki_1 rfl ?_
      obtain ⟨v4, ev4, hf⟩ := kBi_some hf
      refine kM_callv 42 m_C_firstIn [.int 1] [] d_C_openItem_39 cl_C_144 ⟨w_549, w_28⟩ k0 ⟨rfl, by decide⟩ ⟨_, _, rfl⟩ rfl rfl (Nat.le_of_ble_eq_true rfl) ⟨Nat.le_of_ble_eq_true rfl, Nat.le_of_ble_eq_true rfl⟩ ⟨rfl, rfl⟩ ⟨Nat.zero_le _, Nat.zero_le _⟩ (j_C_firstIn hro k0 ev4) rfl ?_
      refine kJ_bipush 44 (-6) d_C_openItem_42 kb_m6 rfl ?_
      refine kJ_icmp_ne 47 56 d_C_openItem_44 rfl rfl (fun hc => ?_) (fun hc => ?_)
      · have hf := kIf_f hf hc
        refine kJ_bipush 58 (-5) d_C_openItem_56 kb_m5 rfl ?_
        cases hf
        exact kJ_iret d_C_openItem_58 rfl rfl (Nat.zero_le _) (Nat.zero_le _)
      · have hf := kIf_t hf hc
        refine kJ_aload_n 48 2 d_C_openItem_47 rfl rfl rfl rfl ?_
        refine kJ_iload 50 0 d_C_openItem_48 rfl rfl ?_
        obtain ⟨v5, ev5, hf⟩ := kBi_some hf
        refine kM_callv 53 m_C_isQuorum [.int v3] [] d_C_openItem_50 cl_C_147 ⟨w_553, w_29⟩ k0 ⟨rfl, by decide⟩ ⟨_, _, rfl⟩ rfl rfl (Nat.le_of_ble_eq_true rfl) ⟨Nat.le_of_ble_eq_true rfl, Nat.le_of_ble_eq_true rfl⟩ ⟨rfl, rfl⟩ ⟨Nat.zero_le _, Nat.zero_le _⟩ (j_C_isQuorum hro k0 ev5) rfl ?_
        refine kJ_if_ne 56 59 d_C_openItem_53 rfl rfl (fun hc => ?_) (fun hc => ?_)
        · have hf := kIf_t hf (kB2_1 hc)
          refine kJ_aload_n 60 1 d_C_openItem_59 rfl rfl rfl rfl ?_
          refine kJ_iconst 61 1 d_C_openItem_60 ki_1 rfl ?_
          refine kM_put 64 d_C_openItem_61 l_C_89 (kC_item k0 (kIn_lt hg1)) rfl rfl (kFit_int _) rfl ?_
          obtain ⟨h6, eh6, hf⟩ := kLet_e hf
          rw [← eh6]
          refine kJ_iload 66 0 d_C_openItem_64 rfl rfl ?_
          cases hf
          exact kJ_iret d_C_openItem_66 rfl rfl (Nat.zero_le _) (Nat.zero_le _)
        · have hf := kIf_f hf (kB2_0 hc)
          refine kJ_bipush 58 (-5) d_C_openItem_56 kb_m5 rfl ?_
          cases hf
          exact kJ_iret d_C_openItem_58 rfl rfl (Nat.zero_le _) (Nat.zero_le _)
  · have hf := kIf_f hf (kB2_0 hc)
    refine kJ_iconst 9 (-1) d_C_openItem_8 ki_m1 rfl ?_
    cases hf
    exact kJ_iret d_C_openItem_9 rfl rfl (Nat.zero_le _) (Nat.zero_le _)
def f_P_open (h : kH) (x1 : Int32) : Option (Int32 × kH) := kBi (f_Y_note h 145 1) fun h1 => kBd (f_C_openItem h1 1 x1 141) fun v3 h2 => kBd (f_Y_settle h2 145 v3) fun v5 h4 => some (v5, h4)
theorem j_P_open {E : kE} {L : Nat} {xs : Nat → Int32} (hro : kRo E L xs) {h : kH} {x1 : Int32} {r : Int32} {h' : kH} (hf : f_P_open h x1 = some (r, h')) : JM E m_P_open [.ref 0, .int x1] (mk h) (some r) (mk h') := by
  unfold f_P_open at hf
  refine JM.of pn_P (Nat.le_of_ble_eq_true rfl) ?_
  show kJ E m_P_open (some r) (mk h') 0 0 0 [(0, .ref 0), (1, .int x1)] [] (mk h)
  refine kJ_aload_n 1 0 d_P_open_0 rfl rfl rfl rfl ?_
  refine kM_getR 4 144 145 d_P_open_1 l_P_29 kp_0 rfl rfl rfl rfl ?_
  refine kJ_aload_n 5 0 d_P_open_4 rfl rfl rfl rfl ?_
  refine kM_getR 8 0 1 d_P_open_5 l_P_10 kp_0 rfl rfl rfl rfl ?_
  obtain ⟨h1, eh1, hf⟩ := kBi_some hf
  refine kM_callv 11 m_Y_note [.ref 1] [] d_P_open_8 cl_P_55 ⟨w_372, w_0⟩ kp_145 ⟨rfl, by decide⟩ ⟨_, _, rfl⟩ rfl rfl (Nat.le_of_ble_eq_true rfl) ⟨Nat.le_of_ble_eq_true rfl, Nat.le_of_ble_eq_true rfl⟩ ⟨rfl, rfl⟩ ⟨Nat.zero_le _, Nat.zero_le _⟩ (j_Y_note hro kp_145 kp_1 eh1) rfl ?_
  refine kJ_aload_n 12 0 d_P_open_11 rfl rfl rfl rfl ?_
  refine kM_getR 15 144 145 d_P_open_12 l_P_29 kp_0 rfl rfl rfl rfl ?_
  refine kJ_aload_n 16 0 d_P_open_15 rfl rfl rfl rfl ?_
  refine kM_getR 19 0 1 d_P_open_16 l_P_10 kp_0 rfl rfl rfl rfl ?_
  refine kJ_iload_n 20 1 d_P_open_19 rfl rfl rfl ?_
  refine kJ_aload_n 21 0 d_P_open_20 rfl rfl rfl rfl ?_
  refine kM_getR 24 140 141 d_P_open_21 l_P_22 kp_0 rfl rfl rfl rfl ?_
  obtain ⟨v3, h2, ev3, hf⟩ := kBd_some hf
  refine kM_callv 27 m_C_openItem [.int x1, .ref 141] [.ref 145] d_P_open_24 cl_P_95 ⟨w_522, w_22⟩ kp_1 ⟨rfl, by decide⟩ ⟨_, _, rfl⟩ rfl rfl (Nat.le_of_ble_eq_true rfl) ⟨Nat.le_of_ble_eq_true rfl, Nat.le_of_ble_eq_true rfl⟩ ⟨rfl, rfl⟩ ⟨Nat.zero_le _, Nat.zero_le _⟩ (j_C_openItem hro kp_1 kp_141 ev3) rfl ?_
  obtain ⟨v5, h4, ev5, hf⟩ := kBd_some hf
  refine kM_callv 30 m_Y_settle [.int v3] [] d_P_open_27 cl_P_63 ⟨w_396, w_5⟩ kp_145 ⟨rfl, by decide⟩ ⟨_, _, rfl⟩ rfl rfl (Nat.le_of_ble_eq_true rfl) ⟨Nat.le_of_ble_eq_true rfl, Nat.le_of_ble_eq_true rfl⟩ ⟨rfl, rfl⟩ ⟨Nat.zero_le _, Nat.zero_le _⟩ (j_Y_settle hro kp_145 ev5) rfl ?_
  cases hf
  exact kJ_iret d_P_open_30 rfl rfl (Nat.zero_le _) (Nat.zero_le _)
def f_C_canVote (h : kH) (x0 : Nat) (x1 : Int32) (x2 : Nat) : Option Bool := if (f_C_isPresent h x0 x1) = true then (kBi (f_C_isRecused h x0 x1 x2) fun v1 => if v1 = true then (some false) else (some true)) else (some false)
theorem j_C_canVote {E : kE} {L : Nat} {xs : Nat → Int32} (hro : kRo E L xs) {h : kH} {x0 : Nat} {x1 : Int32} {x2 : Nat} (k0 : kIs x0 0) (k2 : kIs x2 3) {r : Bool} (hf : f_C_canVote h x0 x1 x2 = some r) : JM E m_C_canVote [.ref x0, .int x1, .ref x2] (mk h) (some (kB2 r)) (mk h) := by
  unfold f_C_canVote at hf
  refine JM.of pn_C (Nat.le_of_ble_eq_true rfl) ?_
  show kJ E m_C_canVote (some (kB2 r)) (mk h) 0 0 0 [(0, .ref x0), (1, .int x1), (2, .ref x2)] [] (mk h)
  refine kJ_aload_n 1 0 d_C_canVote_0 rfl rfl rfl rfl ?_
  refine kJ_iload_n 2 1 d_C_canVote_1 rfl rfl rfl ?_
  refine kM_callv 5 m_C_isPresent [.int x1] [] d_C_canVote_2 cl_C_76 ⟨w_449, w_12⟩ k0 ⟨rfl, by decide⟩ ⟨_, _, rfl⟩ rfl rfl (Nat.le_of_ble_eq_true rfl) ⟨Nat.le_of_ble_eq_true rfl, Nat.le_of_ble_eq_true rfl⟩ ⟨rfl, rfl⟩ ⟨Nat.zero_le _, Nat.zero_le _⟩ (j_C_isPresent hro k0 rfl) rfl ?_
  refine kJ_if_eq 8 21 d_C_canVote_5 rfl rfl (fun hc => ?_) (fun hc => ?_)
  · have hf := kIf_f hf (kB2_0 hc)
    refine kJ_iconst 22 0 d_C_canVote_21 ki_0 rfl ?_
    cases hf
    exact kJ_iret d_C_canVote_22 rfl (kB2_z _) (Nat.zero_le _) (Nat.zero_le _)
  · have hf := kIf_t hf (kB2_1 hc)
    refine kJ_aload_n 9 0 d_C_canVote_8 rfl rfl rfl rfl ?_
    refine kJ_iload_n 10 1 d_C_canVote_9 rfl rfl rfl ?_
    refine kJ_aload_n 11 2 d_C_canVote_10 rfl rfl rfl rfl ?_
    obtain ⟨v1, ev1, hf⟩ := kBi_some hf
    refine kM_callv 14 m_C_isRecused [.int x1, .ref x2] [] d_C_canVote_11 cl_C_80 ⟨w_514, w_21⟩ k0 ⟨rfl, by decide⟩ ⟨_, _, rfl⟩ rfl rfl (Nat.le_of_ble_eq_true rfl) ⟨Nat.le_of_ble_eq_true rfl, Nat.le_of_ble_eq_true rfl⟩ ⟨rfl, rfl⟩ ⟨Nat.zero_le _, Nat.zero_le _⟩ (j_C_isRecused hro k0 k2 ev1) rfl ?_
    refine kJ_if_ne 17 21 d_C_canVote_14 rfl rfl (fun hc => ?_) (fun hc => ?_)
    · have hf := kIf_t hf (kB2_1 hc)
      refine kJ_iconst 22 0 d_C_canVote_21 ki_0 rfl ?_
      cases hf
      exact kJ_iret d_C_canVote_22 rfl (kB2_z _) (Nat.zero_le _) (Nat.zero_le _)
    · have hf := kIf_f hf (kB2_0 hc)
      refine kJ_iconst 18 1 d_C_canVote_17 ki_1 rfl ?_
      refine kJ_goto 22 d_C_canVote_18 rfl ?_
      cases hf
      exact kJ_iret d_C_canVote_22 rfl (kB2_z _) (Nat.zero_le _) (Nat.zero_le _)
